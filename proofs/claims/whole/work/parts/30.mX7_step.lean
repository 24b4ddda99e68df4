def f_X7_step (x1 : Int32) (x2 : Int32) (Mr : Nat → Int32) (Mf : Nat → Int32) (MT : Nat → Int64) : Option (Int64 × (Nat → Int32) × (Nat → Int64)) := (f_X7_in x1.toInt64 (1 : Int64) (6 : Int64)).bind fun q1 => if (bI q1) = 0 then ((f_X7_bad Mf).bind fun q2 => some (q2.1.toInt64, q2.2, MT)) else ((f_X7_isPart x2).bind fun q3 => if (bI q3) = 0 then ((f_X7_bad Mf).bind fun q36 => some (q36.1.toInt64, q36.2, MT)) else (if (2 : Int32) = 0 then none else if (2 : Int32) = 0 then none else if (x1 - x1 / (2 : Int32) * (2 : Int32)) = (1 : Int32) then ((f_X7_isThere (0 : Int32) (((x1 + (1 : Int32)) / (2 : Int32)) + (0 : Int32)) Mr).bind fun q20 => if (bI q20) = 0 then ((f_X7_no Mf).bind fun q21 => some (q21.1.toInt64, q21.2, MT)) else ((f_X7_isThere (0 : Int32) ((x1 + (1 : Int32)) / (2 : Int32)) Mr).bind fun q22 => if (bI q22) = 0 then ((f_X7_no Mf).bind fun q23 => some (q23.1.toInt64, q23.2, MT)) else ((f_X7_isThere (1 : Int32) ((x1 + (1 : Int32)) / (2 : Int32)) Mr).bind fun q24 => if (bI q24) = 0 then ((f_X7_no Mf).bind fun q25 => some (q25.1.toInt64, q25.2, MT)) else ((f_X7_isThere (1 : Int32) (((x1 + (1 : Int32)) / (2 : Int32)) - (1 : Int32)) Mr).bind fun q26 => if (bI q26) = 0 then ((f_X7_no Mf).bind fun q27 => some (q27.1.toInt64, q27.2, MT)) else ((f_X7_isThere (0 : Int32) (((x1 + (1 : Int32)) / (2 : Int32)) - (1 : Int32)) Mr).bind fun q28 => if (bI q28) = 0 then ((f_X7_no Mf).bind fun q29 => some (q29.1.toInt64, q29.2, MT)) else ((f_X7_detOf (1 : Int32) ((x1 + (1 : Int32)) / (2 : Int32)) Mr MT).bind fun q30 => (f_X7_detOf (0 : Int32) (((x1 + (1 : Int32)) / (2 : Int32)) - (1 : Int32)) Mr q30.2).bind fun q31 => (f_X7_detOf (0 : Int32) ((x1 + (1 : Int32)) / (2 : Int32)) Mr q31.2).bind fun q32 => (f_X7_detOf (1 : Int32) (((x1 + (1 : Int32)) / (2 : Int32)) - (1 : Int32)) Mr q32.2).bind fun q33 => if (q32.1 * q33.1) = (0 : Int64) then ((f_X7_no Mf).bind fun q35 => some (q35.1.toInt64, q35.2, q33.2)) else ((f_X7_part (q30.1 * q31.1) (q32.1 * q33.1) x2).bind fun q34 => some (q34, Mf, q33.2)))))))) else ((f_X7_isThere (0 : Int32) (((x1 + (1 : Int32)) / (2 : Int32)) + (1 : Int32)) Mr).bind fun q4 => if (bI q4) = 0 then ((f_X7_no Mf).bind fun q5 => some (q5.1.toInt64, q5.2, MT)) else ((f_X7_isThere (0 : Int32) ((x1 + (1 : Int32)) / (2 : Int32)) Mr).bind fun q6 => if (bI q6) = 0 then ((f_X7_no Mf).bind fun q7 => some (q7.1.toInt64, q7.2, MT)) else ((f_X7_isThere (1 : Int32) ((x1 + (1 : Int32)) / (2 : Int32)) Mr).bind fun q8 => if (bI q8) = 0 then ((f_X7_no Mf).bind fun q9 => some (q9.1.toInt64, q9.2, MT)) else ((f_X7_isThere (1 : Int32) (((x1 + (1 : Int32)) / (2 : Int32)) - (1 : Int32)) Mr).bind fun q10 => if (bI q10) = 0 then ((f_X7_no Mf).bind fun q11 => some (q11.1.toInt64, q11.2, MT)) else ((f_X7_isThere (0 : Int32) (((x1 + (1 : Int32)) / (2 : Int32)) - (1 : Int32)) Mr).bind fun q12 => if (bI q12) = 0 then ((f_X7_no Mf).bind fun q13 => some (q13.1.toInt64, q13.2, MT)) else ((f_X7_detOf (0 : Int32) (((x1 + (1 : Int32)) / (2 : Int32)) + (1 : Int32)) Mr MT).bind fun q14 => (f_X7_detOf (1 : Int32) (((x1 + (1 : Int32)) / (2 : Int32)) - (1 : Int32)) Mr q14.2).bind fun q15 => (f_X7_detOf (0 : Int32) ((x1 + (1 : Int32)) / (2 : Int32)) Mr q15.2).bind fun q16 => (f_X7_detOf (1 : Int32) ((x1 + (1 : Int32)) / (2 : Int32)) Mr q16.2).bind fun q17 => if (q16.1 * q17.1) = (0 : Int64) then ((f_X7_no Mf).bind fun q19 => some (q19.1.toInt64, q19.2, q17.2)) else ((f_X7_part (q14.1 * q15.1) (q16.1 * q17.1) x2).bind fun q18 => some (q18, Mf, q17.2))))))))))
set_option maxHeartbeats 4000000 in
set_option maxRecDepth 100000 in
theorem c_X7_step (cy : Nat → ClassId) (Ms : Int32) (Mb : Int32) (Mq : Int32) (MB : Int64) (My : Int32) (ML : Int32) (Mg : Int32) (MF : Int32) (MW : Bool) (MI : Bool) (MA : Int32) (Mr : Nat → Int32) (Ma : Nat → Int32) (Mp : Nat → Int32) (Mf : Nat → Int32) (Mt : Nat → Int32) (Ml : Nat → Int32) (Mo : Nat → Int32) (Mn : Nat → Int32) (Mm : Nat → Int64) (MT : Nat → Int64) (MP : Nat → Int64) (Mv : Nat → Int32) (Mx : Nat → Int64) (Mz : Nat → Int64) (x1 : Int32) (x2 : Int32) (res : (Int64 × (Nat → Int32) × (Nat → Int64))) (h : f_X7_step x1 x2 Mr Mf MT = some res) : MG cy yX7_step cX7_step 10 (some .long) 2 55 [.ref 0, .int x1, .int x2] (wMo cy Ms Mb Mq MB My ML Mg MF MW MI MA Mr Ma Mp Mf Mt Ml Mo Mn Mm MT MP Mv Mx Mz) (some (.long res.1)) (wMo cy Ms Mb Mq MB My ML Mg MF MW MI MA Mr Ma Mp res.2.1 Mt Ml Mo Mn Mm res.2.2 MP Mv Mx Mz) := by
  refine MG_of (o := 7) (lv := [(0, .ref 0), (1, .int x1), (2, .int x2)]) ⟨by decide +kernel, rfl⟩ (Nat.le_of_ble_eq_true rfl) rfl (fun k C hR => ?_)
  rw [f_X7_step] at h
  refine G_r C [(.iload_n 1, 1, 0, 0, .null), (.i2l, 1, 0, 0, .null), (.lconst 1, 1, 0, 0, .long (1 : Int64))] 3 [(0, .ref 0), (1, .int x1), (2, .int x2)] [.long (1 : Int64), .long x1.toInt64] (wMo cy Ms Mb Mq MB My ML Mg MF MW MI MA Mr Ma Mp Mf Mt Ml Mo Mn Mm MT MP Mv Mx Mz) (by decide +kernel) rfl rfl ?_
  refine G_ldc2 C co_7_139 (by decide +kernel) ?_
  obtain ⟨q1, hq1, h⟩ := obd h
  refine G_cS C lk_7_64 ⟨Nat.le_of_ble_eq_true rfl, Nat.le_of_ble_eq_true rfl⟩ (by decide +kernel) [.int (bI q1)] (c_X7_in cy x1.toInt64 (1 : Int64) (6 : Int64) q1 hq1) rfl rfl (Nat.le_of_ble_eq_true rfl) rfl ?_
  refine G_if_eq C (off := 10) (tgt := 19) (by decide +kernel) rfl (fun c => ?_) (fun c => ?_)
  · rw [if_pos c] at h
    refine G_r C [(.aload_n 0, 1, 0, 0, .null)] 20 [(0, .ref 0), (1, .int x1), (2, .int x2)] [.ref 0] (wMo cy Ms Mb Mq MB My ML Mg MF MW MI MA Mr Ma Mp Mf Mt Ml Mo Mn Mm MT MP Mv Mx Mz) (by decide +kernel) rfl rfl ?_
    obtain ⟨q2, hq2, h⟩ := obd h
    refine G_c0 C lk_7_72 ⟨Nat.le_of_ble_eq_true rfl, Nat.le_of_ble_eq_true rfl⟩ (by decide +kernel) [.int q2.1] (c_X7_bad cy Ms Mb Mq MB My ML Mg MF MW MI MA Mr Ma Mp Mf Mt Ml Mo Mn Mm MT MP Mv Mx Mz q2 hq2) rfl rfl (Nat.le_of_ble_eq_true rfl) ⟨rfl, rfl⟩ rfl ?_
    refine G_r C [(.i2l, 1, 0, 0, .null)] 24 [(0, .ref 0), (1, .int x1), (2, .int x2)] [.long q2.1.toInt64] (wMo cy Ms Mb Mq MB My ML Mg MF MW MI MA Mr Ma Mp q2.2 Mt Ml Mo Mn Mm MT MP Mv Mx Mz) (by decide +kernel) rfl rfl ?_
    have h := Option.some.inj h
    subst h
    exact G_lret C hR (by decide +kernel)
  · rw [if_neg c] at h
    refine G_r C [(.iload_n 2, 1, 0, 0, .null)] 13 [(0, .ref 0), (1, .int x1), (2, .int x2)] [.int x2] (wMo cy Ms Mb Mq MB My ML Mg MF MW MI MA Mr Ma Mp Mf Mt Ml Mo Mn Mm MT MP Mv Mx Mz) (by decide +kernel) rfl rfl ?_
    obtain ⟨q3, hq3, h⟩ := obd h
    refine G_cS C lk_7_159 ⟨Nat.le_of_ble_eq_true rfl, Nat.le_of_ble_eq_true rfl⟩ (by decide +kernel) [.int (bI q3)] (c_X7_isPart cy x2 q3 hq3) rfl rfl (Nat.le_of_ble_eq_true rfl) rfl ?_
    refine G_if_ne C (off := 9) (tgt := 25) (by decide +kernel) rfl (fun c => ?_) (fun c => ?_)
    · rw [if_neg c] at h
      refine G_r C [(.iload_n 1, 1, 0, 0, .null), (.iconst 1, 1, 0, 0, .int (1 : Int32)), (.iadd, 1, 0, 0, .null), (.iconst 2, 1, 0, 0, .int (2 : Int32))] 29 [(0, .ref 0), (1, .int x1), (2, .int x2)] [.int (2 : Int32), .int (x1 + (1 : Int32))] (wMo cy Ms Mb Mq MB My ML Mg MF MW MI MA Mr Ma Mp Mf Mt Ml Mo Mn Mm MT MP Mv Mx Mz) (by decide +kernel) rfl rfl ?_
      obtain ⟨cg, h⟩ := oob h
      refine G_idiv C (by decide +kernel) cg ?_
      refine G_r C [(.istore_n 3, 1, 0, 0, .null), (.iload_n 1, 1, 0, 0, .null), (.iconst 2, 1, 0, 0, .int (2 : Int32))] 33 [(3, .int ((x1 + (1 : Int32)) / (2 : Int32))), (0, .ref 0), (1, .int x1), (2, .int x2)] [.int (2 : Int32), .int x1] (wMo cy Ms Mb Mq MB My ML Mg MF MW MI MA Mr Ma Mp Mf Mt Ml Mo Mn Mm MT MP Mv Mx Mz) (by decide +kernel) rfl rfl ?_
      obtain ⟨cg, h⟩ := oob h
      refine G_irem C (by decide +kernel) cg ?_
      refine G_r C [(.iconst 1, 1, 0, 0, .int (1 : Int32))] 35 [(3, .int ((x1 + (1 : Int32)) / (2 : Int32))), (0, .ref 0), (1, .int x1), (2, .int x2)] [.int (1 : Int32), .int (x1 - x1 / (2 : Int32) * (2 : Int32))] (wMo cy Ms Mb Mq MB My ML Mg MF MW MI MA Mr Ma Mp Mf Mt Ml Mo Mn Mm MT MP Mv Mx Mz) (by decide +kernel) rfl rfl ?_
      refine G_icmp_ne C (off := 7) (tgt := 42) (by decide +kernel) rfl (fun c => ?_) (fun c => ?_)
      · rw [if_neg c] at h
        refine G_r C [(.iconst 1, 1, 0, 0, .int (1 : Int32)), (.istore 4, 2, 0, 0, .null), (.aload_n 0, 1, 0, 0, .null), (.iconst 0, 1, 0, 0, .int (0 : Int32)), (.iload_n 3, 1, 0, 0, .null), (.iload 4, 2, 0, 0, .null), (.iadd, 1, 0, 0, .null)] 51 [(4, .int (1 : Int32)), (3, .int ((x1 + (1 : Int32)) / (2 : Int32))), (0, .ref 0), (1, .int x1), (2, .int x2)] [.int (((x1 + (1 : Int32)) / (2 : Int32)) + (1 : Int32)), .int (0 : Int32), .ref 0] (wMo cy Ms Mb Mq MB My ML Mg MF MW MI MA Mr Ma Mp Mf Mt Ml Mo Mn Mm MT MP Mv Mx Mz) (by decide +kernel) rfl rfl ?_
        obtain ⟨q4, hq4, h⟩ := obd h
        refine G_c0 C lk_7_143 ⟨Nat.le_of_ble_eq_true rfl, Nat.le_of_ble_eq_true rfl⟩ (by decide +kernel) [.int (bI q4)] (c_X7_isThere cy Ms Mb Mq MB My ML Mg MF MW MI MA Mr Ma Mp Mf Mt Ml Mo Mn Mm MT MP Mv Mx Mz (0 : Int32) (((x1 + (1 : Int32)) / (2 : Int32)) + (1 : Int32)) q4 hq4) rfl rfl (Nat.le_of_ble_eq_true rfl) ⟨rfl, rfl⟩ rfl ?_
        refine G_if_eq C (off := 47) (tgt := 101) (by decide +kernel) rfl (fun c => ?_) (fun c => ?_)
        · rw [if_pos c] at h
          refine G_r C [(.iconst 0, 1, 0, 0, .int (0 : Int32)), (.istore 5, 2, 0, 0, .null), (.iload 5, 2, 0, 0, .null)] 106 [(5, .int (0 : Int32)), (4, .int (1 : Int32)), (3, .int ((x1 + (1 : Int32)) / (2 : Int32))), (0, .ref 0), (1, .int x1), (2, .int x2)] [.int (0 : Int32)] (wMo cy Ms Mb Mq MB My ML Mg MF MW MI MA Mr Ma Mp Mf Mt Ml Mo Mn Mm MT MP Mv Mx Mz) (by decide +kernel) rfl rfl ?_
          refine G_if_ne C (off := 9) (tgt := 115) (by decide +kernel) rfl (fun c => absurd (by decide) c) (fun _ => ?_)
          refine G_r C [(.aload_n 0, 1, 0, 0, .null)] 110 [(5, .int (0 : Int32)), (4, .int (1 : Int32)), (3, .int ((x1 + (1 : Int32)) / (2 : Int32))), (0, .ref 0), (1, .int x1), (2, .int x2)] [.ref 0] (wMo cy Ms Mb Mq MB My ML Mg MF MW MI MA Mr Ma Mp Mf Mt Ml Mo Mn Mm MT MP Mv Mx Mz) (by decide +kernel) rfl rfl ?_
          obtain ⟨q5, hq5, h⟩ := obd h
          refine G_c0 C lk_7_87 ⟨Nat.le_of_ble_eq_true rfl, Nat.le_of_ble_eq_true rfl⟩ (by decide +kernel) [.int q5.1] (c_X7_no cy Ms Mb Mq MB My ML Mg MF MW MI MA Mr Ma Mp Mf Mt Ml Mo Mn Mm MT MP Mv Mx Mz q5 hq5) rfl rfl (Nat.le_of_ble_eq_true rfl) ⟨rfl, rfl⟩ rfl ?_
          refine G_r C [(.i2l, 1, 0, 0, .null)] 114 [(5, .int (0 : Int32)), (4, .int (1 : Int32)), (3, .int ((x1 + (1 : Int32)) / (2 : Int32))), (0, .ref 0), (1, .int x1), (2, .int x2)] [.long q5.1.toInt64] (wMo cy Ms Mb Mq MB My ML Mg MF MW MI MA Mr Ma Mp q5.2 Mt Ml Mo Mn Mm MT MP Mv Mx Mz) (by decide +kernel) rfl rfl ?_
          have h := Option.some.inj h
          subst h
          exact G_lret C hR (by decide +kernel)
        · rw [if_neg c] at h
          refine G_r C [(.aload_n 0, 1, 0, 0, .null), (.iconst 0, 1, 0, 0, .int (0 : Int32)), (.iload_n 3, 1, 0, 0, .null)] 60 [(4, .int (1 : Int32)), (3, .int ((x1 + (1 : Int32)) / (2 : Int32))), (0, .ref 0), (1, .int x1), (2, .int x2)] [.int ((x1 + (1 : Int32)) / (2 : Int32)), .int (0 : Int32), .ref 0] (wMo cy Ms Mb Mq MB My ML Mg MF MW MI MA Mr Ma Mp Mf Mt Ml Mo Mn Mm MT MP Mv Mx Mz) (by decide +kernel) rfl rfl ?_
          obtain ⟨q6, hq6, h⟩ := obd h
          refine G_c0 C lk_7_143 ⟨Nat.le_of_ble_eq_true rfl, Nat.le_of_ble_eq_true rfl⟩ (by decide +kernel) [.int (bI q6)] (c_X7_isThere cy Ms Mb Mq MB My ML Mg MF MW MI MA Mr Ma Mp Mf Mt Ml Mo Mn Mm MT MP Mv Mx Mz (0 : Int32) ((x1 + (1 : Int32)) / (2 : Int32)) q6 hq6) rfl rfl (Nat.le_of_ble_eq_true rfl) ⟨rfl, rfl⟩ rfl ?_
          refine G_if_eq C (off := 38) (tgt := 101) (by decide +kernel) rfl (fun c => ?_) (fun c => ?_)
          · rw [if_pos c] at h
            refine G_r C [(.iconst 0, 1, 0, 0, .int (0 : Int32)), (.istore 5, 2, 0, 0, .null), (.iload 5, 2, 0, 0, .null)] 106 [(5, .int (0 : Int32)), (4, .int (1 : Int32)), (3, .int ((x1 + (1 : Int32)) / (2 : Int32))), (0, .ref 0), (1, .int x1), (2, .int x2)] [.int (0 : Int32)] (wMo cy Ms Mb Mq MB My ML Mg MF MW MI MA Mr Ma Mp Mf Mt Ml Mo Mn Mm MT MP Mv Mx Mz) (by decide +kernel) rfl rfl ?_
            refine G_if_ne C (off := 9) (tgt := 115) (by decide +kernel) rfl (fun c => absurd (by decide) c) (fun _ => ?_)
            refine G_r C [(.aload_n 0, 1, 0, 0, .null)] 110 [(5, .int (0 : Int32)), (4, .int (1 : Int32)), (3, .int ((x1 + (1 : Int32)) / (2 : Int32))), (0, .ref 0), (1, .int x1), (2, .int x2)] [.ref 0] (wMo cy Ms Mb Mq MB My ML Mg MF MW MI MA Mr Ma Mp Mf Mt Ml Mo Mn Mm MT MP Mv Mx Mz) (by decide +kernel) rfl rfl ?_
            obtain ⟨q7, hq7, h⟩ := obd h
            refine G_c0 C lk_7_87 ⟨Nat.le_of_ble_eq_true rfl, Nat.le_of_ble_eq_true rfl⟩ (by decide +kernel) [.int q7.1] (c_X7_no cy Ms Mb Mq MB My ML Mg MF MW MI MA Mr Ma Mp Mf Mt Ml Mo Mn Mm MT MP Mv Mx Mz q7 hq7) rfl rfl (Nat.le_of_ble_eq_true rfl) ⟨rfl, rfl⟩ rfl ?_
            refine G_r C [(.i2l, 1, 0, 0, .null)] 114 [(5, .int (0 : Int32)), (4, .int (1 : Int32)), (3, .int ((x1 + (1 : Int32)) / (2 : Int32))), (0, .ref 0), (1, .int x1), (2, .int x2)] [.long q7.1.toInt64] (wMo cy Ms Mb Mq MB My ML Mg MF MW MI MA Mr Ma Mp q7.2 Mt Ml Mo Mn Mm MT MP Mv Mx Mz) (by decide +kernel) rfl rfl ?_
            have h := Option.some.inj h
            subst h
            exact G_lret C hR (by decide +kernel)
          · rw [if_neg c] at h
            refine G_r C [(.aload_n 0, 1, 0, 0, .null), (.iconst 1, 1, 0, 0, .int (1 : Int32)), (.iload_n 3, 1, 0, 0, .null)] 69 [(4, .int (1 : Int32)), (3, .int ((x1 + (1 : Int32)) / (2 : Int32))), (0, .ref 0), (1, .int x1), (2, .int x2)] [.int ((x1 + (1 : Int32)) / (2 : Int32)), .int (1 : Int32), .ref 0] (wMo cy Ms Mb Mq MB My ML Mg MF MW MI MA Mr Ma Mp Mf Mt Ml Mo Mn Mm MT MP Mv Mx Mz) (by decide +kernel) rfl rfl ?_
            obtain ⟨q8, hq8, h⟩ := obd h
            refine G_c0 C lk_7_143 ⟨Nat.le_of_ble_eq_true rfl, Nat.le_of_ble_eq_true rfl⟩ (by decide +kernel) [.int (bI q8)] (c_X7_isThere cy Ms Mb Mq MB My ML Mg MF MW MI MA Mr Ma Mp Mf Mt Ml Mo Mn Mm MT MP Mv Mx Mz (1 : Int32) ((x1 + (1 : Int32)) / (2 : Int32)) q8 hq8) rfl rfl (Nat.le_of_ble_eq_true rfl) ⟨rfl, rfl⟩ rfl ?_
            refine G_if_eq C (off := 29) (tgt := 101) (by decide +kernel) rfl (fun c => ?_) (fun c => ?_)
            · rw [if_pos c] at h
              refine G_r C [(.iconst 0, 1, 0, 0, .int (0 : Int32)), (.istore 5, 2, 0, 0, .null), (.iload 5, 2, 0, 0, .null)] 106 [(5, .int (0 : Int32)), (4, .int (1 : Int32)), (3, .int ((x1 + (1 : Int32)) / (2 : Int32))), (0, .ref 0), (1, .int x1), (2, .int x2)] [.int (0 : Int32)] (wMo cy Ms Mb Mq MB My ML Mg MF MW MI MA Mr Ma Mp Mf Mt Ml Mo Mn Mm MT MP Mv Mx Mz) (by decide +kernel) rfl rfl ?_
              refine G_if_ne C (off := 9) (tgt := 115) (by decide +kernel) rfl (fun c => absurd (by decide) c) (fun _ => ?_)
              refine G_r C [(.aload_n 0, 1, 0, 0, .null)] 110 [(5, .int (0 : Int32)), (4, .int (1 : Int32)), (3, .int ((x1 + (1 : Int32)) / (2 : Int32))), (0, .ref 0), (1, .int x1), (2, .int x2)] [.ref 0] (wMo cy Ms Mb Mq MB My ML Mg MF MW MI MA Mr Ma Mp Mf Mt Ml Mo Mn Mm MT MP Mv Mx Mz) (by decide +kernel) rfl rfl ?_
              obtain ⟨q9, hq9, h⟩ := obd h
              refine G_c0 C lk_7_87 ⟨Nat.le_of_ble_eq_true rfl, Nat.le_of_ble_eq_true rfl⟩ (by decide +kernel) [.int q9.1] (c_X7_no cy Ms Mb Mq MB My ML Mg MF MW MI MA Mr Ma Mp Mf Mt Ml Mo Mn Mm MT MP Mv Mx Mz q9 hq9) rfl rfl (Nat.le_of_ble_eq_true rfl) ⟨rfl, rfl⟩ rfl ?_
              refine G_r C [(.i2l, 1, 0, 0, .null)] 114 [(5, .int (0 : Int32)), (4, .int (1 : Int32)), (3, .int ((x1 + (1 : Int32)) / (2 : Int32))), (0, .ref 0), (1, .int x1), (2, .int x2)] [.long q9.1.toInt64] (wMo cy Ms Mb Mq MB My ML Mg MF MW MI MA Mr Ma Mp q9.2 Mt Ml Mo Mn Mm MT MP Mv Mx Mz) (by decide +kernel) rfl rfl ?_
              have h := Option.some.inj h
              subst h
              exact G_lret C hR (by decide +kernel)
            · rw [if_neg c] at h
              refine G_r C [(.aload_n 0, 1, 0, 0, .null), (.iconst 1, 1, 0, 0, .int (1 : Int32)), (.iload_n 3, 1, 0, 0, .null), (.iconst 1, 1, 0, 0, .int (1 : Int32)), (.isub, 1, 0, 0, .null)] 80 [(4, .int (1 : Int32)), (3, .int ((x1 + (1 : Int32)) / (2 : Int32))), (0, .ref 0), (1, .int x1), (2, .int x2)] [.int (((x1 + (1 : Int32)) / (2 : Int32)) - (1 : Int32)), .int (1 : Int32), .ref 0] (wMo cy Ms Mb Mq MB My ML Mg MF MW MI MA Mr Ma Mp Mf Mt Ml Mo Mn Mm MT MP Mv Mx Mz) (by decide +kernel) rfl rfl ?_
              obtain ⟨q10, hq10, h⟩ := obd h
              refine G_c0 C lk_7_143 ⟨Nat.le_of_ble_eq_true rfl, Nat.le_of_ble_eq_true rfl⟩ (by decide +kernel) [.int (bI q10)] (c_X7_isThere cy Ms Mb Mq MB My ML Mg MF MW MI MA Mr Ma Mp Mf Mt Ml Mo Mn Mm MT MP Mv Mx Mz (1 : Int32) (((x1 + (1 : Int32)) / (2 : Int32)) - (1 : Int32)) q10 hq10) rfl rfl (Nat.le_of_ble_eq_true rfl) ⟨rfl, rfl⟩ rfl ?_
              refine G_if_eq C (off := 18) (tgt := 101) (by decide +kernel) rfl (fun c => ?_) (fun c => ?_)
              · rw [if_pos c] at h
                refine G_r C [(.iconst 0, 1, 0, 0, .int (0 : Int32)), (.istore 5, 2, 0, 0, .null), (.iload 5, 2, 0, 0, .null)] 106 [(5, .int (0 : Int32)), (4, .int (1 : Int32)), (3, .int ((x1 + (1 : Int32)) / (2 : Int32))), (0, .ref 0), (1, .int x1), (2, .int x2)] [.int (0 : Int32)] (wMo cy Ms Mb Mq MB My ML Mg MF MW MI MA Mr Ma Mp Mf Mt Ml Mo Mn Mm MT MP Mv Mx Mz) (by decide +kernel) rfl rfl ?_
                refine G_if_ne C (off := 9) (tgt := 115) (by decide +kernel) rfl (fun c => absurd (by decide) c) (fun _ => ?_)
                refine G_r C [(.aload_n 0, 1, 0, 0, .null)] 110 [(5, .int (0 : Int32)), (4, .int (1 : Int32)), (3, .int ((x1 + (1 : Int32)) / (2 : Int32))), (0, .ref 0), (1, .int x1), (2, .int x2)] [.ref 0] (wMo cy Ms Mb Mq MB My ML Mg MF MW MI MA Mr Ma Mp Mf Mt Ml Mo Mn Mm MT MP Mv Mx Mz) (by decide +kernel) rfl rfl ?_
                obtain ⟨q11, hq11, h⟩ := obd h
                refine G_c0 C lk_7_87 ⟨Nat.le_of_ble_eq_true rfl, Nat.le_of_ble_eq_true rfl⟩ (by decide +kernel) [.int q11.1] (c_X7_no cy Ms Mb Mq MB My ML Mg MF MW MI MA Mr Ma Mp Mf Mt Ml Mo Mn Mm MT MP Mv Mx Mz q11 hq11) rfl rfl (Nat.le_of_ble_eq_true rfl) ⟨rfl, rfl⟩ rfl ?_
                refine G_r C [(.i2l, 1, 0, 0, .null)] 114 [(5, .int (0 : Int32)), (4, .int (1 : Int32)), (3, .int ((x1 + (1 : Int32)) / (2 : Int32))), (0, .ref 0), (1, .int x1), (2, .int x2)] [.long q11.1.toInt64] (wMo cy Ms Mb Mq MB My ML Mg MF MW MI MA Mr Ma Mp q11.2 Mt Ml Mo Mn Mm MT MP Mv Mx Mz) (by decide +kernel) rfl rfl ?_
                have h := Option.some.inj h
                subst h
                exact G_lret C hR (by decide +kernel)
              · rw [if_neg c] at h
                refine G_r C [(.aload_n 0, 1, 0, 0, .null), (.iconst 0, 1, 0, 0, .int (0 : Int32)), (.iload_n 3, 1, 0, 0, .null), (.iconst 1, 1, 0, 0, .int (1 : Int32)), (.isub, 1, 0, 0, .null)] 91 [(4, .int (1 : Int32)), (3, .int ((x1 + (1 : Int32)) / (2 : Int32))), (0, .ref 0), (1, .int x1), (2, .int x2)] [.int (((x1 + (1 : Int32)) / (2 : Int32)) - (1 : Int32)), .int (0 : Int32), .ref 0] (wMo cy Ms Mb Mq MB My ML Mg MF MW MI MA Mr Ma Mp Mf Mt Ml Mo Mn Mm MT MP Mv Mx Mz) (by decide +kernel) rfl rfl ?_
                obtain ⟨q12, hq12, h⟩ := obd h
                refine G_c0 C lk_7_143 ⟨Nat.le_of_ble_eq_true rfl, Nat.le_of_ble_eq_true rfl⟩ (by decide +kernel) [.int (bI q12)] (c_X7_isThere cy Ms Mb Mq MB My ML Mg MF MW MI MA Mr Ma Mp Mf Mt Ml Mo Mn Mm MT MP Mv Mx Mz (0 : Int32) (((x1 + (1 : Int32)) / (2 : Int32)) - (1 : Int32)) q12 hq12) rfl rfl (Nat.le_of_ble_eq_true rfl) ⟨rfl, rfl⟩ rfl ?_
                refine G_if_eq C (off := 7) (tgt := 101) (by decide +kernel) rfl (fun c => ?_) (fun c => ?_)
                · rw [if_pos c] at h
                  refine G_r C [(.iconst 0, 1, 0, 0, .int (0 : Int32)), (.istore 5, 2, 0, 0, .null), (.iload 5, 2, 0, 0, .null)] 106 [(5, .int (0 : Int32)), (4, .int (1 : Int32)), (3, .int ((x1 + (1 : Int32)) / (2 : Int32))), (0, .ref 0), (1, .int x1), (2, .int x2)] [.int (0 : Int32)] (wMo cy Ms Mb Mq MB My ML Mg MF MW MI MA Mr Ma Mp Mf Mt Ml Mo Mn Mm MT MP Mv Mx Mz) (by decide +kernel) rfl rfl ?_
                  refine G_if_ne C (off := 9) (tgt := 115) (by decide +kernel) rfl (fun c => absurd (by decide) c) (fun _ => ?_)
                  refine G_r C [(.aload_n 0, 1, 0, 0, .null)] 110 [(5, .int (0 : Int32)), (4, .int (1 : Int32)), (3, .int ((x1 + (1 : Int32)) / (2 : Int32))), (0, .ref 0), (1, .int x1), (2, .int x2)] [.ref 0] (wMo cy Ms Mb Mq MB My ML Mg MF MW MI MA Mr Ma Mp Mf Mt Ml Mo Mn Mm MT MP Mv Mx Mz) (by decide +kernel) rfl rfl ?_
                  obtain ⟨q13, hq13, h⟩ := obd h
                  refine G_c0 C lk_7_87 ⟨Nat.le_of_ble_eq_true rfl, Nat.le_of_ble_eq_true rfl⟩ (by decide +kernel) [.int q13.1] (c_X7_no cy Ms Mb Mq MB My ML Mg MF MW MI MA Mr Ma Mp Mf Mt Ml Mo Mn Mm MT MP Mv Mx Mz q13 hq13) rfl rfl (Nat.le_of_ble_eq_true rfl) ⟨rfl, rfl⟩ rfl ?_
                  refine G_r C [(.i2l, 1, 0, 0, .null)] 114 [(5, .int (0 : Int32)), (4, .int (1 : Int32)), (3, .int ((x1 + (1 : Int32)) / (2 : Int32))), (0, .ref 0), (1, .int x1), (2, .int x2)] [.long q13.1.toInt64] (wMo cy Ms Mb Mq MB My ML Mg MF MW MI MA Mr Ma Mp q13.2 Mt Ml Mo Mn Mm MT MP Mv Mx Mz) (by decide +kernel) rfl rfl ?_
                  have h := Option.some.inj h
                  subst h
                  exact G_lret C hR (by decide +kernel)
                · rw [if_neg c] at h
                  refine G_r C [(.iconst 1, 1, 0, 0, .int (1 : Int32))] 98 [(4, .int (1 : Int32)), (3, .int ((x1 + (1 : Int32)) / (2 : Int32))), (0, .ref 0), (1, .int x1), (2, .int x2)] [.int (1 : Int32)] (wMo cy Ms Mb Mq MB My ML Mg MF MW MI MA Mr Ma Mp Mf Mt Ml Mo Mn Mm MT MP Mv Mx Mz) (by decide +kernel) rfl rfl ?_
                  refine G_goto C (off := 4) (tgt := 102) (by decide +kernel) rfl ?_
                  refine G_r C [(.istore 5, 2, 0, 0, .null), (.iload 5, 2, 0, 0, .null)] 106 [(5, .int (1 : Int32)), (4, .int (1 : Int32)), (3, .int ((x1 + (1 : Int32)) / (2 : Int32))), (0, .ref 0), (1, .int x1), (2, .int x2)] [.int (1 : Int32)] (wMo cy Ms Mb Mq MB My ML Mg MF MW MI MA Mr Ma Mp Mf Mt Ml Mo Mn Mm MT MP Mv Mx Mz) (by decide +kernel) rfl rfl ?_
                  refine G_if_ne C (off := 9) (tgt := 115) (by decide +kernel) rfl (fun _ => ?_) (fun c => absurd c (by decide))
                  refine G_r C [(.iload 4, 2, 0, 0, .null)] 117 [(5, .int (1 : Int32)), (4, .int (1 : Int32)), (3, .int ((x1 + (1 : Int32)) / (2 : Int32))), (0, .ref 0), (1, .int x1), (2, .int x2)] [.int (1 : Int32)] (wMo cy Ms Mb Mq MB My ML Mg MF MW MI MA Mr Ma Mp Mf Mt Ml Mo Mn Mm MT MP Mv Mx Mz) (by decide +kernel) rfl rfl ?_
                  refine G_if_ne C (off := 21) (tgt := 138) (by decide +kernel) rfl (fun _ => ?_) (fun c => absurd c (by decide))
                  refine G_r C [(.aload_n 0, 1, 0, 0, .null), (.iconst 0, 1, 0, 0, .int (0 : Int32)), (.iload_n 3, 1, 0, 0, .null), (.iconst 1, 1, 0, 0, .int (1 : Int32)), (.iadd, 1, 0, 0, .null)] 143 [(5, .int (1 : Int32)), (4, .int (1 : Int32)), (3, .int ((x1 + (1 : Int32)) / (2 : Int32))), (0, .ref 0), (1, .int x1), (2, .int x2)] [.int (((x1 + (1 : Int32)) / (2 : Int32)) + (1 : Int32)), .int (0 : Int32), .ref 0] (wMo cy Ms Mb Mq MB My ML Mg MF MW MI MA Mr Ma Mp Mf Mt Ml Mo Mn Mm MT MP Mv Mx Mz) (by decide +kernel) rfl rfl ?_
                  obtain ⟨q14, hq14, h⟩ := obd h
                  refine G_c0 C lk_7_146 ⟨Nat.le_of_ble_eq_true rfl, Nat.le_of_ble_eq_true rfl⟩ (by decide +kernel) [.long q14.1] (c_X7_detOf cy Ms Mb Mq MB My ML Mg MF MW MI MA Mr Ma Mp Mf Mt Ml Mo Mn Mm MT MP Mv Mx Mz (0 : Int32) (((x1 + (1 : Int32)) / (2 : Int32)) + (1 : Int32)) q14 hq14) rfl rfl (Nat.le_of_ble_eq_true rfl) ⟨rfl, rfl⟩ rfl ?_
                  refine G_r C [(.aload_n 0, 1, 0, 0, .null), (.iconst 1, 1, 0, 0, .int (1 : Int32)), (.iload_n 3, 1, 0, 0, .null), (.iconst 1, 1, 0, 0, .int (1 : Int32)), (.isub, 1, 0, 0, .null)] 151 [(5, .int (1 : Int32)), (4, .int (1 : Int32)), (3, .int ((x1 + (1 : Int32)) / (2 : Int32))), (0, .ref 0), (1, .int x1), (2, .int x2)] [.int (((x1 + (1 : Int32)) / (2 : Int32)) - (1 : Int32)), .int (1 : Int32), .ref 0, .long q14.1] (wMo cy Ms Mb Mq MB My ML Mg MF MW MI MA Mr Ma Mp Mf Mt Ml Mo Mn Mm q14.2 MP Mv Mx Mz) (by decide +kernel) rfl rfl ?_
                  obtain ⟨q15, hq15, h⟩ := obd h
                  refine G_c0 C lk_7_146 ⟨Nat.le_of_ble_eq_true rfl, Nat.le_of_ble_eq_true rfl⟩ (by decide +kernel) [.long q15.1, .long q14.1] (c_X7_detOf cy Ms Mb Mq MB My ML Mg MF MW MI MA Mr Ma Mp Mf Mt Ml Mo Mn Mm q14.2 MP Mv Mx Mz (1 : Int32) (((x1 + (1 : Int32)) / (2 : Int32)) - (1 : Int32)) q15 hq15) rfl rfl (Nat.le_of_ble_eq_true rfl) ⟨rfl, rfl⟩ rfl ?_
                  refine G_r C [(.lmul, 1, 0, 0, .null), (.lstore 6, 2, 0, 0, .null), (.aload_n 0, 1, 0, 0, .null), (.iconst 0, 1, 0, 0, .int (0 : Int32)), (.iload_n 3, 1, 0, 0, .null)] 160 [(6, .long (q14.1 * q15.1)), (5, .int (1 : Int32)), (4, .int (1 : Int32)), (3, .int ((x1 + (1 : Int32)) / (2 : Int32))), (0, .ref 0), (1, .int x1), (2, .int x2)] [.int ((x1 + (1 : Int32)) / (2 : Int32)), .int (0 : Int32), .ref 0] (wMo cy Ms Mb Mq MB My ML Mg MF MW MI MA Mr Ma Mp Mf Mt Ml Mo Mn Mm q15.2 MP Mv Mx Mz) (by decide +kernel) rfl rfl ?_
                  obtain ⟨q16, hq16, h⟩ := obd h
                  refine G_c0 C lk_7_146 ⟨Nat.le_of_ble_eq_true rfl, Nat.le_of_ble_eq_true rfl⟩ (by decide +kernel) [.long q16.1] (c_X7_detOf cy Ms Mb Mq MB My ML Mg MF MW MI MA Mr Ma Mp Mf Mt Ml Mo Mn Mm q15.2 MP Mv Mx Mz (0 : Int32) ((x1 + (1 : Int32)) / (2 : Int32)) q16 hq16) rfl rfl (Nat.le_of_ble_eq_true rfl) ⟨rfl, rfl⟩ rfl ?_
                  refine G_r C [(.iload 4, 2, 0, 0, .null)] 165 [(6, .long (q14.1 * q15.1)), (5, .int (1 : Int32)), (4, .int (1 : Int32)), (3, .int ((x1 + (1 : Int32)) / (2 : Int32))), (0, .ref 0), (1, .int x1), (2, .int x2)] [.int (1 : Int32), .long q16.1] (wMo cy Ms Mb Mq MB My ML Mg MF MW MI MA Mr Ma Mp Mf Mt Ml Mo Mn Mm q16.2 MP Mv Mx Mz) (by decide +kernel) rfl rfl ?_
                  refine G_if_ne C (off := 14) (tgt := 179) (by decide +kernel) rfl (fun _ => ?_) (fun c => absurd c (by decide))
                  refine G_r C [(.aload_n 0, 1, 0, 0, .null), (.iconst 1, 1, 0, 0, .int (1 : Int32)), (.iload_n 3, 1, 0, 0, .null)] 182 [(6, .long (q14.1 * q15.1)), (5, .int (1 : Int32)), (4, .int (1 : Int32)), (3, .int ((x1 + (1 : Int32)) / (2 : Int32))), (0, .ref 0), (1, .int x1), (2, .int x2)] [.int ((x1 + (1 : Int32)) / (2 : Int32)), .int (1 : Int32), .ref 0, .long q16.1] (wMo cy Ms Mb Mq MB My ML Mg MF MW MI MA Mr Ma Mp Mf Mt Ml Mo Mn Mm q16.2 MP Mv Mx Mz) (by decide +kernel) rfl rfl ?_
                  obtain ⟨q17, hq17, h⟩ := obd h
                  refine G_c0 C lk_7_146 ⟨Nat.le_of_ble_eq_true rfl, Nat.le_of_ble_eq_true rfl⟩ (by decide +kernel) [.long q17.1, .long q16.1] (c_X7_detOf cy Ms Mb Mq MB My ML Mg MF MW MI MA Mr Ma Mp Mf Mt Ml Mo Mn Mm q16.2 MP Mv Mx Mz (1 : Int32) ((x1 + (1 : Int32)) / (2 : Int32)) q17 hq17) rfl rfl (Nat.le_of_ble_eq_true rfl) ⟨rfl, rfl⟩ rfl ?_
                  refine G_r C [(.lmul, 1, 0, 0, .null), (.lstore 8, 2, 0, 0, .null), (.lload 8, 2, 0, 0, .null), (.lconst 0, 1, 0, 0, .long (0 : Int64))] 191 [(8, .long (q16.1 * q17.1)), (6, .long (q14.1 * q15.1)), (5, .int (1 : Int32)), (4, .int (1 : Int32)), (3, .int ((x1 + (1 : Int32)) / (2 : Int32))), (0, .ref 0), (1, .int x1), (2, .int x2)] [.long (0 : Int64), .long (q16.1 * q17.1)] (wMo cy Ms Mb Mq MB My ML Mg MF MW MI MA Mr Ma Mp Mf Mt Ml Mo Mn Mm q17.2 MP Mv Mx Mz) (by decide +kernel) rfl rfl ?_
                  refine G_lcmp_ne C (off := 11) (tgt := 203) (by decide +kernel) (by decide +kernel) rfl (fun c => ?_) (fun c => ?_)
                  · rw [if_neg c] at h
                    refine G_r C [(.lload 6, 2, 0, 0, .null), (.lload 8, 2, 0, 0, .null), (.iload_n 2, 1, 0, 0, .null)] 208 [(8, .long (q16.1 * q17.1)), (6, .long (q14.1 * q15.1)), (5, .int (1 : Int32)), (4, .int (1 : Int32)), (3, .int ((x1 + (1 : Int32)) / (2 : Int32))), (0, .ref 0), (1, .int x1), (2, .int x2)] [.int x2, .long (q16.1 * q17.1), .long (q14.1 * q15.1)] (wMo cy Ms Mb Mq MB My ML Mg MF MW MI MA Mr Ma Mp Mf Mt Ml Mo Mn Mm q17.2 MP Mv Mx Mz) (by decide +kernel) rfl rfl ?_
                    obtain ⟨q18, hq18, h⟩ := obd h
                    refine G_cS C lk_7_168 ⟨Nat.le_of_ble_eq_true rfl, Nat.le_of_ble_eq_true rfl⟩ (by decide +kernel) [.long q18] (c_X7_part cy (q14.1 * q15.1) (q16.1 * q17.1) x2 q18 hq18) rfl rfl (Nat.le_of_ble_eq_true rfl) rfl ?_
                    have h := Option.some.inj h
                    subst h
                    exact G_lret C hR (by decide +kernel)
                  · rw [if_pos c] at h
                    refine G_r C [(.aload_n 0, 1, 0, 0, .null)] 196 [(8, .long (q16.1 * q17.1)), (6, .long (q14.1 * q15.1)), (5, .int (1 : Int32)), (4, .int (1 : Int32)), (3, .int ((x1 + (1 : Int32)) / (2 : Int32))), (0, .ref 0), (1, .int x1), (2, .int x2)] [.ref 0] (wMo cy Ms Mb Mq MB My ML Mg MF MW MI MA Mr Ma Mp Mf Mt Ml Mo Mn Mm q17.2 MP Mv Mx Mz) (by decide +kernel) rfl rfl ?_
                    obtain ⟨q19, hq19, h⟩ := obd h
                    refine G_c0 C lk_7_87 ⟨Nat.le_of_ble_eq_true rfl, Nat.le_of_ble_eq_true rfl⟩ (by decide +kernel) [.int q19.1] (c_X7_no cy Ms Mb Mq MB My ML Mg MF MW MI MA Mr Ma Mp Mf Mt Ml Mo Mn Mm q17.2 MP Mv Mx Mz q19 hq19) rfl rfl (Nat.le_of_ble_eq_true rfl) ⟨rfl, rfl⟩ rfl ?_
                    refine G_r C [(.i2l, 1, 0, 0, .null)] 200 [(8, .long (q16.1 * q17.1)), (6, .long (q14.1 * q15.1)), (5, .int (1 : Int32)), (4, .int (1 : Int32)), (3, .int ((x1 + (1 : Int32)) / (2 : Int32))), (0, .ref 0), (1, .int x1), (2, .int x2)] [.long q19.1.toInt64] (wMo cy Ms Mb Mq MB My ML Mg MF MW MI MA Mr Ma Mp q19.2 Mt Ml Mo Mn Mm q17.2 MP Mv Mx Mz) (by decide +kernel) rfl rfl ?_
                    refine G_goto C (off := 11) (tgt := 211) (by decide +kernel) rfl ?_
                    have h := Option.some.inj h
                    subst h
                    exact G_lret C hR (by decide +kernel)
      · rw [if_pos c] at h
        refine G_r C [(.iconst 0, 1, 0, 0, .int (0 : Int32))] 39 [(3, .int ((x1 + (1 : Int32)) / (2 : Int32))), (0, .ref 0), (1, .int x1), (2, .int x2)] [.int (0 : Int32)] (wMo cy Ms Mb Mq MB My ML Mg MF MW MI MA Mr Ma Mp Mf Mt Ml Mo Mn Mm MT MP Mv Mx Mz) (by decide +kernel) rfl rfl ?_
        refine G_goto C (off := 4) (tgt := 43) (by decide +kernel) rfl ?_
        refine G_r C [(.istore 4, 2, 0, 0, .null), (.aload_n 0, 1, 0, 0, .null), (.iconst 0, 1, 0, 0, .int (0 : Int32)), (.iload_n 3, 1, 0, 0, .null), (.iload 4, 2, 0, 0, .null), (.iadd, 1, 0, 0, .null)] 51 [(4, .int (0 : Int32)), (3, .int ((x1 + (1 : Int32)) / (2 : Int32))), (0, .ref 0), (1, .int x1), (2, .int x2)] [.int (((x1 + (1 : Int32)) / (2 : Int32)) + (0 : Int32)), .int (0 : Int32), .ref 0] (wMo cy Ms Mb Mq MB My ML Mg MF MW MI MA Mr Ma Mp Mf Mt Ml Mo Mn Mm MT MP Mv Mx Mz) (by decide +kernel) rfl rfl ?_
        obtain ⟨q20, hq20, h⟩ := obd h
        refine G_c0 C lk_7_143 ⟨Nat.le_of_ble_eq_true rfl, Nat.le_of_ble_eq_true rfl⟩ (by decide +kernel) [.int (bI q20)] (c_X7_isThere cy Ms Mb Mq MB My ML Mg MF MW MI MA Mr Ma Mp Mf Mt Ml Mo Mn Mm MT MP Mv Mx Mz (0 : Int32) (((x1 + (1 : Int32)) / (2 : Int32)) + (0 : Int32)) q20 hq20) rfl rfl (Nat.le_of_ble_eq_true rfl) ⟨rfl, rfl⟩ rfl ?_
        refine G_if_eq C (off := 47) (tgt := 101) (by decide +kernel) rfl (fun c => ?_) (fun c => ?_)
        · rw [if_pos c] at h
          refine G_r C [(.iconst 0, 1, 0, 0, .int (0 : Int32)), (.istore 5, 2, 0, 0, .null), (.iload 5, 2, 0, 0, .null)] 106 [(5, .int (0 : Int32)), (4, .int (0 : Int32)), (3, .int ((x1 + (1 : Int32)) / (2 : Int32))), (0, .ref 0), (1, .int x1), (2, .int x2)] [.int (0 : Int32)] (wMo cy Ms Mb Mq MB My ML Mg MF MW MI MA Mr Ma Mp Mf Mt Ml Mo Mn Mm MT MP Mv Mx Mz) (by decide +kernel) rfl rfl ?_
          refine G_if_ne C (off := 9) (tgt := 115) (by decide +kernel) rfl (fun c => absurd (by decide) c) (fun _ => ?_)
          refine G_r C [(.aload_n 0, 1, 0, 0, .null)] 110 [(5, .int (0 : Int32)), (4, .int (0 : Int32)), (3, .int ((x1 + (1 : Int32)) / (2 : Int32))), (0, .ref 0), (1, .int x1), (2, .int x2)] [.ref 0] (wMo cy Ms Mb Mq MB My ML Mg MF MW MI MA Mr Ma Mp Mf Mt Ml Mo Mn Mm MT MP Mv Mx Mz) (by decide +kernel) rfl rfl ?_
          obtain ⟨q21, hq21, h⟩ := obd h
          refine G_c0 C lk_7_87 ⟨Nat.le_of_ble_eq_true rfl, Nat.le_of_ble_eq_true rfl⟩ (by decide +kernel) [.int q21.1] (c_X7_no cy Ms Mb Mq MB My ML Mg MF MW MI MA Mr Ma Mp Mf Mt Ml Mo Mn Mm MT MP Mv Mx Mz q21 hq21) rfl rfl (Nat.le_of_ble_eq_true rfl) ⟨rfl, rfl⟩ rfl ?_
          refine G_r C [(.i2l, 1, 0, 0, .null)] 114 [(5, .int (0 : Int32)), (4, .int (0 : Int32)), (3, .int ((x1 + (1 : Int32)) / (2 : Int32))), (0, .ref 0), (1, .int x1), (2, .int x2)] [.long q21.1.toInt64] (wMo cy Ms Mb Mq MB My ML Mg MF MW MI MA Mr Ma Mp q21.2 Mt Ml Mo Mn Mm MT MP Mv Mx Mz) (by decide +kernel) rfl rfl ?_
          have h := Option.some.inj h
          subst h
          exact G_lret C hR (by decide +kernel)
        · rw [if_neg c] at h
          refine G_r C [(.aload_n 0, 1, 0, 0, .null), (.iconst 0, 1, 0, 0, .int (0 : Int32)), (.iload_n 3, 1, 0, 0, .null)] 60 [(4, .int (0 : Int32)), (3, .int ((x1 + (1 : Int32)) / (2 : Int32))), (0, .ref 0), (1, .int x1), (2, .int x2)] [.int ((x1 + (1 : Int32)) / (2 : Int32)), .int (0 : Int32), .ref 0] (wMo cy Ms Mb Mq MB My ML Mg MF MW MI MA Mr Ma Mp Mf Mt Ml Mo Mn Mm MT MP Mv Mx Mz) (by decide +kernel) rfl rfl ?_
          obtain ⟨q22, hq22, h⟩ := obd h
          refine G_c0 C lk_7_143 ⟨Nat.le_of_ble_eq_true rfl, Nat.le_of_ble_eq_true rfl⟩ (by decide +kernel) [.int (bI q22)] (c_X7_isThere cy Ms Mb Mq MB My ML Mg MF MW MI MA Mr Ma Mp Mf Mt Ml Mo Mn Mm MT MP Mv Mx Mz (0 : Int32) ((x1 + (1 : Int32)) / (2 : Int32)) q22 hq22) rfl rfl (Nat.le_of_ble_eq_true rfl) ⟨rfl, rfl⟩ rfl ?_
          refine G_if_eq C (off := 38) (tgt := 101) (by decide +kernel) rfl (fun c => ?_) (fun c => ?_)
          · rw [if_pos c] at h
            refine G_r C [(.iconst 0, 1, 0, 0, .int (0 : Int32)), (.istore 5, 2, 0, 0, .null), (.iload 5, 2, 0, 0, .null)] 106 [(5, .int (0 : Int32)), (4, .int (0 : Int32)), (3, .int ((x1 + (1 : Int32)) / (2 : Int32))), (0, .ref 0), (1, .int x1), (2, .int x2)] [.int (0 : Int32)] (wMo cy Ms Mb Mq MB My ML Mg MF MW MI MA Mr Ma Mp Mf Mt Ml Mo Mn Mm MT MP Mv Mx Mz) (by decide +kernel) rfl rfl ?_
            refine G_if_ne C (off := 9) (tgt := 115) (by decide +kernel) rfl (fun c => absurd (by decide) c) (fun _ => ?_)
            refine G_r C [(.aload_n 0, 1, 0, 0, .null)] 110 [(5, .int (0 : Int32)), (4, .int (0 : Int32)), (3, .int ((x1 + (1 : Int32)) / (2 : Int32))), (0, .ref 0), (1, .int x1), (2, .int x2)] [.ref 0] (wMo cy Ms Mb Mq MB My ML Mg MF MW MI MA Mr Ma Mp Mf Mt Ml Mo Mn Mm MT MP Mv Mx Mz) (by decide +kernel) rfl rfl ?_
            obtain ⟨q23, hq23, h⟩ := obd h
            refine G_c0 C lk_7_87 ⟨Nat.le_of_ble_eq_true rfl, Nat.le_of_ble_eq_true rfl⟩ (by decide +kernel) [.int q23.1] (c_X7_no cy Ms Mb Mq MB My ML Mg MF MW MI MA Mr Ma Mp Mf Mt Ml Mo Mn Mm MT MP Mv Mx Mz q23 hq23) rfl rfl (Nat.le_of_ble_eq_true rfl) ⟨rfl, rfl⟩ rfl ?_
            refine G_r C [(.i2l, 1, 0, 0, .null)] 114 [(5, .int (0 : Int32)), (4, .int (0 : Int32)), (3, .int ((x1 + (1 : Int32)) / (2 : Int32))), (0, .ref 0), (1, .int x1), (2, .int x2)] [.long q23.1.toInt64] (wMo cy Ms Mb Mq MB My ML Mg MF MW MI MA Mr Ma Mp q23.2 Mt Ml Mo Mn Mm MT MP Mv Mx Mz) (by decide +kernel) rfl rfl ?_
            have h := Option.some.inj h
            subst h
            exact G_lret C hR (by decide +kernel)
          · rw [if_neg c] at h
            refine G_r C [(.aload_n 0, 1, 0, 0, .null), (.iconst 1, 1, 0, 0, .int (1 : Int32)), (.iload_n 3, 1, 0, 0, .null)] 69 [(4, .int (0 : Int32)), (3, .int ((x1 + (1 : Int32)) / (2 : Int32))), (0, .ref 0), (1, .int x1), (2, .int x2)] [.int ((x1 + (1 : Int32)) / (2 : Int32)), .int (1 : Int32), .ref 0] (wMo cy Ms Mb Mq MB My ML Mg MF MW MI MA Mr Ma Mp Mf Mt Ml Mo Mn Mm MT MP Mv Mx Mz) (by decide +kernel) rfl rfl ?_
            obtain ⟨q24, hq24, h⟩ := obd h
            refine G_c0 C lk_7_143 ⟨Nat.le_of_ble_eq_true rfl, Nat.le_of_ble_eq_true rfl⟩ (by decide +kernel) [.int (bI q24)] (c_X7_isThere cy Ms Mb Mq MB My ML Mg MF MW MI MA Mr Ma Mp Mf Mt Ml Mo Mn Mm MT MP Mv Mx Mz (1 : Int32) ((x1 + (1 : Int32)) / (2 : Int32)) q24 hq24) rfl rfl (Nat.le_of_ble_eq_true rfl) ⟨rfl, rfl⟩ rfl ?_
            refine G_if_eq C (off := 29) (tgt := 101) (by decide +kernel) rfl (fun c => ?_) (fun c => ?_)
            · rw [if_pos c] at h
              refine G_r C [(.iconst 0, 1, 0, 0, .int (0 : Int32)), (.istore 5, 2, 0, 0, .null), (.iload 5, 2, 0, 0, .null)] 106 [(5, .int (0 : Int32)), (4, .int (0 : Int32)), (3, .int ((x1 + (1 : Int32)) / (2 : Int32))), (0, .ref 0), (1, .int x1), (2, .int x2)] [.int (0 : Int32)] (wMo cy Ms Mb Mq MB My ML Mg MF MW MI MA Mr Ma Mp Mf Mt Ml Mo Mn Mm MT MP Mv Mx Mz) (by decide +kernel) rfl rfl ?_
              refine G_if_ne C (off := 9) (tgt := 115) (by decide +kernel) rfl (fun c => absurd (by decide) c) (fun _ => ?_)
              refine G_r C [(.aload_n 0, 1, 0, 0, .null)] 110 [(5, .int (0 : Int32)), (4, .int (0 : Int32)), (3, .int ((x1 + (1 : Int32)) / (2 : Int32))), (0, .ref 0), (1, .int x1), (2, .int x2)] [.ref 0] (wMo cy Ms Mb Mq MB My ML Mg MF MW MI MA Mr Ma Mp Mf Mt Ml Mo Mn Mm MT MP Mv Mx Mz) (by decide +kernel) rfl rfl ?_
              obtain ⟨q25, hq25, h⟩ := obd h
              refine G_c0 C lk_7_87 ⟨Nat.le_of_ble_eq_true rfl, Nat.le_of_ble_eq_true rfl⟩ (by decide +kernel) [.int q25.1] (c_X7_no cy Ms Mb Mq MB My ML Mg MF MW MI MA Mr Ma Mp Mf Mt Ml Mo Mn Mm MT MP Mv Mx Mz q25 hq25) rfl rfl (Nat.le_of_ble_eq_true rfl) ⟨rfl, rfl⟩ rfl ?_
              refine G_r C [(.i2l, 1, 0, 0, .null)] 114 [(5, .int (0 : Int32)), (4, .int (0 : Int32)), (3, .int ((x1 + (1 : Int32)) / (2 : Int32))), (0, .ref 0), (1, .int x1), (2, .int x2)] [.long q25.1.toInt64] (wMo cy Ms Mb Mq MB My ML Mg MF MW MI MA Mr Ma Mp q25.2 Mt Ml Mo Mn Mm MT MP Mv Mx Mz) (by decide +kernel) rfl rfl ?_
              have h := Option.some.inj h
              subst h
              exact G_lret C hR (by decide +kernel)
            · rw [if_neg c] at h
              refine G_r C [(.aload_n 0, 1, 0, 0, .null), (.iconst 1, 1, 0, 0, .int (1 : Int32)), (.iload_n 3, 1, 0, 0, .null), (.iconst 1, 1, 0, 0, .int (1 : Int32)), (.isub, 1, 0, 0, .null)] 80 [(4, .int (0 : Int32)), (3, .int ((x1 + (1 : Int32)) / (2 : Int32))), (0, .ref 0), (1, .int x1), (2, .int x2)] [.int (((x1 + (1 : Int32)) / (2 : Int32)) - (1 : Int32)), .int (1 : Int32), .ref 0] (wMo cy Ms Mb Mq MB My ML Mg MF MW MI MA Mr Ma Mp Mf Mt Ml Mo Mn Mm MT MP Mv Mx Mz) (by decide +kernel) rfl rfl ?_
              obtain ⟨q26, hq26, h⟩ := obd h
              refine G_c0 C lk_7_143 ⟨Nat.le_of_ble_eq_true rfl, Nat.le_of_ble_eq_true rfl⟩ (by decide +kernel) [.int (bI q26)] (c_X7_isThere cy Ms Mb Mq MB My ML Mg MF MW MI MA Mr Ma Mp Mf Mt Ml Mo Mn Mm MT MP Mv Mx Mz (1 : Int32) (((x1 + (1 : Int32)) / (2 : Int32)) - (1 : Int32)) q26 hq26) rfl rfl (Nat.le_of_ble_eq_true rfl) ⟨rfl, rfl⟩ rfl ?_
              refine G_if_eq C (off := 18) (tgt := 101) (by decide +kernel) rfl (fun c => ?_) (fun c => ?_)
              · rw [if_pos c] at h
                refine G_r C [(.iconst 0, 1, 0, 0, .int (0 : Int32)), (.istore 5, 2, 0, 0, .null), (.iload 5, 2, 0, 0, .null)] 106 [(5, .int (0 : Int32)), (4, .int (0 : Int32)), (3, .int ((x1 + (1 : Int32)) / (2 : Int32))), (0, .ref 0), (1, .int x1), (2, .int x2)] [.int (0 : Int32)] (wMo cy Ms Mb Mq MB My ML Mg MF MW MI MA Mr Ma Mp Mf Mt Ml Mo Mn Mm MT MP Mv Mx Mz) (by decide +kernel) rfl rfl ?_
                refine G_if_ne C (off := 9) (tgt := 115) (by decide +kernel) rfl (fun c => absurd (by decide) c) (fun _ => ?_)
                refine G_r C [(.aload_n 0, 1, 0, 0, .null)] 110 [(5, .int (0 : Int32)), (4, .int (0 : Int32)), (3, .int ((x1 + (1 : Int32)) / (2 : Int32))), (0, .ref 0), (1, .int x1), (2, .int x2)] [.ref 0] (wMo cy Ms Mb Mq MB My ML Mg MF MW MI MA Mr Ma Mp Mf Mt Ml Mo Mn Mm MT MP Mv Mx Mz) (by decide +kernel) rfl rfl ?_
                obtain ⟨q27, hq27, h⟩ := obd h
                refine G_c0 C lk_7_87 ⟨Nat.le_of_ble_eq_true rfl, Nat.le_of_ble_eq_true rfl⟩ (by decide +kernel) [.int q27.1] (c_X7_no cy Ms Mb Mq MB My ML Mg MF MW MI MA Mr Ma Mp Mf Mt Ml Mo Mn Mm MT MP Mv Mx Mz q27 hq27) rfl rfl (Nat.le_of_ble_eq_true rfl) ⟨rfl, rfl⟩ rfl ?_
                refine G_r C [(.i2l, 1, 0, 0, .null)] 114 [(5, .int (0 : Int32)), (4, .int (0 : Int32)), (3, .int ((x1 + (1 : Int32)) / (2 : Int32))), (0, .ref 0), (1, .int x1), (2, .int x2)] [.long q27.1.toInt64] (wMo cy Ms Mb Mq MB My ML Mg MF MW MI MA Mr Ma Mp q27.2 Mt Ml Mo Mn Mm MT MP Mv Mx Mz) (by decide +kernel) rfl rfl ?_
                have h := Option.some.inj h
                subst h
                exact G_lret C hR (by decide +kernel)
              · rw [if_neg c] at h
                refine G_r C [(.aload_n 0, 1, 0, 0, .null), (.iconst 0, 1, 0, 0, .int (0 : Int32)), (.iload_n 3, 1, 0, 0, .null), (.iconst 1, 1, 0, 0, .int (1 : Int32)), (.isub, 1, 0, 0, .null)] 91 [(4, .int (0 : Int32)), (3, .int ((x1 + (1 : Int32)) / (2 : Int32))), (0, .ref 0), (1, .int x1), (2, .int x2)] [.int (((x1 + (1 : Int32)) / (2 : Int32)) - (1 : Int32)), .int (0 : Int32), .ref 0] (wMo cy Ms Mb Mq MB My ML Mg MF MW MI MA Mr Ma Mp Mf Mt Ml Mo Mn Mm MT MP Mv Mx Mz) (by decide +kernel) rfl rfl ?_
                obtain ⟨q28, hq28, h⟩ := obd h
                refine G_c0 C lk_7_143 ⟨Nat.le_of_ble_eq_true rfl, Nat.le_of_ble_eq_true rfl⟩ (by decide +kernel) [.int (bI q28)] (c_X7_isThere cy Ms Mb Mq MB My ML Mg MF MW MI MA Mr Ma Mp Mf Mt Ml Mo Mn Mm MT MP Mv Mx Mz (0 : Int32) (((x1 + (1 : Int32)) / (2 : Int32)) - (1 : Int32)) q28 hq28) rfl rfl (Nat.le_of_ble_eq_true rfl) ⟨rfl, rfl⟩ rfl ?_
                refine G_if_eq C (off := 7) (tgt := 101) (by decide +kernel) rfl (fun c => ?_) (fun c => ?_)
                · rw [if_pos c] at h
                  refine G_r C [(.iconst 0, 1, 0, 0, .int (0 : Int32)), (.istore 5, 2, 0, 0, .null), (.iload 5, 2, 0, 0, .null)] 106 [(5, .int (0 : Int32)), (4, .int (0 : Int32)), (3, .int ((x1 + (1 : Int32)) / (2 : Int32))), (0, .ref 0), (1, .int x1), (2, .int x2)] [.int (0 : Int32)] (wMo cy Ms Mb Mq MB My ML Mg MF MW MI MA Mr Ma Mp Mf Mt Ml Mo Mn Mm MT MP Mv Mx Mz) (by decide +kernel) rfl rfl ?_
                  refine G_if_ne C (off := 9) (tgt := 115) (by decide +kernel) rfl (fun c => absurd (by decide) c) (fun _ => ?_)
                  refine G_r C [(.aload_n 0, 1, 0, 0, .null)] 110 [(5, .int (0 : Int32)), (4, .int (0 : Int32)), (3, .int ((x1 + (1 : Int32)) / (2 : Int32))), (0, .ref 0), (1, .int x1), (2, .int x2)] [.ref 0] (wMo cy Ms Mb Mq MB My ML Mg MF MW MI MA Mr Ma Mp Mf Mt Ml Mo Mn Mm MT MP Mv Mx Mz) (by decide +kernel) rfl rfl ?_
                  obtain ⟨q29, hq29, h⟩ := obd h
                  refine G_c0 C lk_7_87 ⟨Nat.le_of_ble_eq_true rfl, Nat.le_of_ble_eq_true rfl⟩ (by decide +kernel) [.int q29.1] (c_X7_no cy Ms Mb Mq MB My ML Mg MF MW MI MA Mr Ma Mp Mf Mt Ml Mo Mn Mm MT MP Mv Mx Mz q29 hq29) rfl rfl (Nat.le_of_ble_eq_true rfl) ⟨rfl, rfl⟩ rfl ?_
                  refine G_r C [(.i2l, 1, 0, 0, .null)] 114 [(5, .int (0 : Int32)), (4, .int (0 : Int32)), (3, .int ((x1 + (1 : Int32)) / (2 : Int32))), (0, .ref 0), (1, .int x1), (2, .int x2)] [.long q29.1.toInt64] (wMo cy Ms Mb Mq MB My ML Mg MF MW MI MA Mr Ma Mp q29.2 Mt Ml Mo Mn Mm MT MP Mv Mx Mz) (by decide +kernel) rfl rfl ?_
                  have h := Option.some.inj h
                  subst h
                  exact G_lret C hR (by decide +kernel)
                · rw [if_neg c] at h
                  refine G_r C [(.iconst 1, 1, 0, 0, .int (1 : Int32))] 98 [(4, .int (0 : Int32)), (3, .int ((x1 + (1 : Int32)) / (2 : Int32))), (0, .ref 0), (1, .int x1), (2, .int x2)] [.int (1 : Int32)] (wMo cy Ms Mb Mq MB My ML Mg MF MW MI MA Mr Ma Mp Mf Mt Ml Mo Mn Mm MT MP Mv Mx Mz) (by decide +kernel) rfl rfl ?_
                  refine G_goto C (off := 4) (tgt := 102) (by decide +kernel) rfl ?_
                  refine G_r C [(.istore 5, 2, 0, 0, .null), (.iload 5, 2, 0, 0, .null)] 106 [(5, .int (1 : Int32)), (4, .int (0 : Int32)), (3, .int ((x1 + (1 : Int32)) / (2 : Int32))), (0, .ref 0), (1, .int x1), (2, .int x2)] [.int (1 : Int32)] (wMo cy Ms Mb Mq MB My ML Mg MF MW MI MA Mr Ma Mp Mf Mt Ml Mo Mn Mm MT MP Mv Mx Mz) (by decide +kernel) rfl rfl ?_
                  refine G_if_ne C (off := 9) (tgt := 115) (by decide +kernel) rfl (fun _ => ?_) (fun c => absurd c (by decide))
                  refine G_r C [(.iload 4, 2, 0, 0, .null)] 117 [(5, .int (1 : Int32)), (4, .int (0 : Int32)), (3, .int ((x1 + (1 : Int32)) / (2 : Int32))), (0, .ref 0), (1, .int x1), (2, .int x2)] [.int (0 : Int32)] (wMo cy Ms Mb Mq MB My ML Mg MF MW MI MA Mr Ma Mp Mf Mt Ml Mo Mn Mm MT MP Mv Mx Mz) (by decide +kernel) rfl rfl ?_
                  refine G_if_ne C (off := 21) (tgt := 138) (by decide +kernel) rfl (fun c => absurd (by decide) c) (fun _ => ?_)
                  refine G_r C [(.aload_n 0, 1, 0, 0, .null), (.iconst 1, 1, 0, 0, .int (1 : Int32)), (.iload_n 3, 1, 0, 0, .null)] 123 [(5, .int (1 : Int32)), (4, .int (0 : Int32)), (3, .int ((x1 + (1 : Int32)) / (2 : Int32))), (0, .ref 0), (1, .int x1), (2, .int x2)] [.int ((x1 + (1 : Int32)) / (2 : Int32)), .int (1 : Int32), .ref 0] (wMo cy Ms Mb Mq MB My ML Mg MF MW MI MA Mr Ma Mp Mf Mt Ml Mo Mn Mm MT MP Mv Mx Mz) (by decide +kernel) rfl rfl ?_
                  obtain ⟨q30, hq30, h⟩ := obd h
                  refine G_c0 C lk_7_146 ⟨Nat.le_of_ble_eq_true rfl, Nat.le_of_ble_eq_true rfl⟩ (by decide +kernel) [.long q30.1] (c_X7_detOf cy Ms Mb Mq MB My ML Mg MF MW MI MA Mr Ma Mp Mf Mt Ml Mo Mn Mm MT MP Mv Mx Mz (1 : Int32) ((x1 + (1 : Int32)) / (2 : Int32)) q30 hq30) rfl rfl (Nat.le_of_ble_eq_true rfl) ⟨rfl, rfl⟩ rfl ?_
                  refine G_r C [(.aload_n 0, 1, 0, 0, .null), (.iconst 0, 1, 0, 0, .int (0 : Int32)), (.iload_n 3, 1, 0, 0, .null), (.iconst 1, 1, 0, 0, .int (1 : Int32)), (.isub, 1, 0, 0, .null)] 131 [(5, .int (1 : Int32)), (4, .int (0 : Int32)), (3, .int ((x1 + (1 : Int32)) / (2 : Int32))), (0, .ref 0), (1, .int x1), (2, .int x2)] [.int (((x1 + (1 : Int32)) / (2 : Int32)) - (1 : Int32)), .int (0 : Int32), .ref 0, .long q30.1] (wMo cy Ms Mb Mq MB My ML Mg MF MW MI MA Mr Ma Mp Mf Mt Ml Mo Mn Mm q30.2 MP Mv Mx Mz) (by decide +kernel) rfl rfl ?_
                  obtain ⟨q31, hq31, h⟩ := obd h
                  refine G_c0 C lk_7_146 ⟨Nat.le_of_ble_eq_true rfl, Nat.le_of_ble_eq_true rfl⟩ (by decide +kernel) [.long q31.1, .long q30.1] (c_X7_detOf cy Ms Mb Mq MB My ML Mg MF MW MI MA Mr Ma Mp Mf Mt Ml Mo Mn Mm q30.2 MP Mv Mx Mz (0 : Int32) (((x1 + (1 : Int32)) / (2 : Int32)) - (1 : Int32)) q31 hq31) rfl rfl (Nat.le_of_ble_eq_true rfl) ⟨rfl, rfl⟩ rfl ?_
                  refine G_r C [(.lmul, 1, 0, 0, .null)] 135 [(5, .int (1 : Int32)), (4, .int (0 : Int32)), (3, .int ((x1 + (1 : Int32)) / (2 : Int32))), (0, .ref 0), (1, .int x1), (2, .int x2)] [.long (q30.1 * q31.1)] (wMo cy Ms Mb Mq MB My ML Mg MF MW MI MA Mr Ma Mp Mf Mt Ml Mo Mn Mm q31.2 MP Mv Mx Mz) (by decide +kernel) rfl rfl ?_
                  refine G_goto C (off := 20) (tgt := 155) (by decide +kernel) rfl ?_
                  refine G_r C [(.lstore 6, 2, 0, 0, .null), (.aload_n 0, 1, 0, 0, .null), (.iconst 0, 1, 0, 0, .int (0 : Int32)), (.iload_n 3, 1, 0, 0, .null)] 160 [(6, .long (q30.1 * q31.1)), (5, .int (1 : Int32)), (4, .int (0 : Int32)), (3, .int ((x1 + (1 : Int32)) / (2 : Int32))), (0, .ref 0), (1, .int x1), (2, .int x2)] [.int ((x1 + (1 : Int32)) / (2 : Int32)), .int (0 : Int32), .ref 0] (wMo cy Ms Mb Mq MB My ML Mg MF MW MI MA Mr Ma Mp Mf Mt Ml Mo Mn Mm q31.2 MP Mv Mx Mz) (by decide +kernel) rfl rfl ?_
                  obtain ⟨q32, hq32, h⟩ := obd h
                  refine G_c0 C lk_7_146 ⟨Nat.le_of_ble_eq_true rfl, Nat.le_of_ble_eq_true rfl⟩ (by decide +kernel) [.long q32.1] (c_X7_detOf cy Ms Mb Mq MB My ML Mg MF MW MI MA Mr Ma Mp Mf Mt Ml Mo Mn Mm q31.2 MP Mv Mx Mz (0 : Int32) ((x1 + (1 : Int32)) / (2 : Int32)) q32 hq32) rfl rfl (Nat.le_of_ble_eq_true rfl) ⟨rfl, rfl⟩ rfl ?_
                  refine G_r C [(.iload 4, 2, 0, 0, .null)] 165 [(6, .long (q30.1 * q31.1)), (5, .int (1 : Int32)), (4, .int (0 : Int32)), (3, .int ((x1 + (1 : Int32)) / (2 : Int32))), (0, .ref 0), (1, .int x1), (2, .int x2)] [.int (0 : Int32), .long q32.1] (wMo cy Ms Mb Mq MB My ML Mg MF MW MI MA Mr Ma Mp Mf Mt Ml Mo Mn Mm q32.2 MP Mv Mx Mz) (by decide +kernel) rfl rfl ?_
                  refine G_if_ne C (off := 14) (tgt := 179) (by decide +kernel) rfl (fun c => absurd (by decide) c) (fun _ => ?_)
                  refine G_r C [(.aload_n 0, 1, 0, 0, .null), (.iconst 1, 1, 0, 0, .int (1 : Int32)), (.iload_n 3, 1, 0, 0, .null), (.iconst 1, 1, 0, 0, .int (1 : Int32)), (.isub, 1, 0, 0, .null)] 173 [(6, .long (q30.1 * q31.1)), (5, .int (1 : Int32)), (4, .int (0 : Int32)), (3, .int ((x1 + (1 : Int32)) / (2 : Int32))), (0, .ref 0), (1, .int x1), (2, .int x2)] [.int (((x1 + (1 : Int32)) / (2 : Int32)) - (1 : Int32)), .int (1 : Int32), .ref 0, .long q32.1] (wMo cy Ms Mb Mq MB My ML Mg MF MW MI MA Mr Ma Mp Mf Mt Ml Mo Mn Mm q32.2 MP Mv Mx Mz) (by decide +kernel) rfl rfl ?_
                  obtain ⟨q33, hq33, h⟩ := obd h
                  refine G_c0 C lk_7_146 ⟨Nat.le_of_ble_eq_true rfl, Nat.le_of_ble_eq_true rfl⟩ (by decide +kernel) [.long q33.1, .long q32.1] (c_X7_detOf cy Ms Mb Mq MB My ML Mg MF MW MI MA Mr Ma Mp Mf Mt Ml Mo Mn Mm q32.2 MP Mv Mx Mz (1 : Int32) (((x1 + (1 : Int32)) / (2 : Int32)) - (1 : Int32)) q33 hq33) rfl rfl (Nat.le_of_ble_eq_true rfl) ⟨rfl, rfl⟩ rfl ?_
                  refine G_goto C (off := 9) (tgt := 185) (by decide +kernel) rfl ?_
                  refine G_r C [(.lmul, 1, 0, 0, .null), (.lstore 8, 2, 0, 0, .null), (.lload 8, 2, 0, 0, .null), (.lconst 0, 1, 0, 0, .long (0 : Int64))] 191 [(8, .long (q32.1 * q33.1)), (6, .long (q30.1 * q31.1)), (5, .int (1 : Int32)), (4, .int (0 : Int32)), (3, .int ((x1 + (1 : Int32)) / (2 : Int32))), (0, .ref 0), (1, .int x1), (2, .int x2)] [.long (0 : Int64), .long (q32.1 * q33.1)] (wMo cy Ms Mb Mq MB My ML Mg MF MW MI MA Mr Ma Mp Mf Mt Ml Mo Mn Mm q33.2 MP Mv Mx Mz) (by decide +kernel) rfl rfl ?_
                  refine G_lcmp_ne C (off := 11) (tgt := 203) (by decide +kernel) (by decide +kernel) rfl (fun c => ?_) (fun c => ?_)
                  · rw [if_neg c] at h
                    refine G_r C [(.lload 6, 2, 0, 0, .null), (.lload 8, 2, 0, 0, .null), (.iload_n 2, 1, 0, 0, .null)] 208 [(8, .long (q32.1 * q33.1)), (6, .long (q30.1 * q31.1)), (5, .int (1 : Int32)), (4, .int (0 : Int32)), (3, .int ((x1 + (1 : Int32)) / (2 : Int32))), (0, .ref 0), (1, .int x1), (2, .int x2)] [.int x2, .long (q32.1 * q33.1), .long (q30.1 * q31.1)] (wMo cy Ms Mb Mq MB My ML Mg MF MW MI MA Mr Ma Mp Mf Mt Ml Mo Mn Mm q33.2 MP Mv Mx Mz) (by decide +kernel) rfl rfl ?_
                    obtain ⟨q34, hq34, h⟩ := obd h
                    refine G_cS C lk_7_168 ⟨Nat.le_of_ble_eq_true rfl, Nat.le_of_ble_eq_true rfl⟩ (by decide +kernel) [.long q34] (c_X7_part cy (q30.1 * q31.1) (q32.1 * q33.1) x2 q34 hq34) rfl rfl (Nat.le_of_ble_eq_true rfl) rfl ?_
                    have h := Option.some.inj h
                    subst h
                    exact G_lret C hR (by decide +kernel)
                  · rw [if_pos c] at h
                    refine G_r C [(.aload_n 0, 1, 0, 0, .null)] 196 [(8, .long (q32.1 * q33.1)), (6, .long (q30.1 * q31.1)), (5, .int (1 : Int32)), (4, .int (0 : Int32)), (3, .int ((x1 + (1 : Int32)) / (2 : Int32))), (0, .ref 0), (1, .int x1), (2, .int x2)] [.ref 0] (wMo cy Ms Mb Mq MB My ML Mg MF MW MI MA Mr Ma Mp Mf Mt Ml Mo Mn Mm q33.2 MP Mv Mx Mz) (by decide +kernel) rfl rfl ?_
                    obtain ⟨q35, hq35, h⟩ := obd h
                    refine G_c0 C lk_7_87 ⟨Nat.le_of_ble_eq_true rfl, Nat.le_of_ble_eq_true rfl⟩ (by decide +kernel) [.int q35.1] (c_X7_no cy Ms Mb Mq MB My ML Mg MF MW MI MA Mr Ma Mp Mf Mt Ml Mo Mn Mm q33.2 MP Mv Mx Mz q35 hq35) rfl rfl (Nat.le_of_ble_eq_true rfl) ⟨rfl, rfl⟩ rfl ?_
                    refine G_r C [(.i2l, 1, 0, 0, .null)] 200 [(8, .long (q32.1 * q33.1)), (6, .long (q30.1 * q31.1)), (5, .int (1 : Int32)), (4, .int (0 : Int32)), (3, .int ((x1 + (1 : Int32)) / (2 : Int32))), (0, .ref 0), (1, .int x1), (2, .int x2)] [.long q35.1.toInt64] (wMo cy Ms Mb Mq MB My ML Mg MF MW MI MA Mr Ma Mp q35.2 Mt Ml Mo Mn Mm q33.2 MP Mv Mx Mz) (by decide +kernel) rfl rfl ?_
                    refine G_goto C (off := 11) (tgt := 211) (by decide +kernel) rfl ?_
                    have h := Option.some.inj h
                    subst h
                    exact G_lret C hR (by decide +kernel)
    · rw [if_pos c] at h
      refine G_r C [(.aload_n 0, 1, 0, 0, .null)] 20 [(0, .ref 0), (1, .int x1), (2, .int x2)] [.ref 0] (wMo cy Ms Mb Mq MB My ML Mg MF MW MI MA Mr Ma Mp Mf Mt Ml Mo Mn Mm MT MP Mv Mx Mz) (by decide +kernel) rfl rfl ?_
      obtain ⟨q36, hq36, h⟩ := obd h
      refine G_c0 C lk_7_72 ⟨Nat.le_of_ble_eq_true rfl, Nat.le_of_ble_eq_true rfl⟩ (by decide +kernel) [.int q36.1] (c_X7_bad cy Ms Mb Mq MB My ML Mg MF MW MI MA Mr Ma Mp Mf Mt Ml Mo Mn Mm MT MP Mv Mx Mz q36 hq36) rfl rfl (Nat.le_of_ble_eq_true rfl) ⟨rfl, rfl⟩ rfl ?_
      refine G_r C [(.i2l, 1, 0, 0, .null)] 24 [(0, .ref 0), (1, .int x1), (2, .int x2)] [.long q36.1.toInt64] (wMo cy Ms Mb Mq MB My ML Mg MF MW MI MA Mr Ma Mp q36.2 Mt Ml Mo Mn Mm MT MP Mv Mx Mz) (by decide +kernel) rfl rfl ?_
      have h := Option.some.inj h
      subst h
      exact G_lret C hR (by decide +kernel)
def f_X7_type (x1 : Int32) (Mb : Int32) (Mf : Nat → Int32) (Mt : Nat → Int32) : Option (Int32 × Int32 × (Nat → Int32) × (Nat → Int32)) := (f_X7_in x1.toInt64 (0 : Int64) (127 : Int64)).bind fun q1 => if (bI q1) = 0 then ((f_X7_bad Mf).bind fun q3 => some (q3.1, Mb, q3.2, Mt)) else (if Mb = (100 : Int32) then ((f_X7_full Mf).bind fun q2 => some (q2.1, Mb, q2.2, Mt)) else (if Mb < 0 ∨ 100 ≤ Mb.toNatClampNeg then none else some ((Mb + (1 : Int32)), (Mb + (1 : Int32)), Mf, (upd Mt Mb.toNatClampNeg x1))))
set_option maxHeartbeats 4000000 in
set_option maxRecDepth 100000 in
theorem c_X7_type (cy : Nat → ClassId) (Ms : Int32) (Mb : Int32) (Mq : Int32) (MB : Int64) (My : Int32) (ML : Int32) (Mg : Int32) (MF : Int32) (MW : Bool) (MI : Bool) (MA : Int32) (Mr : Nat → Int32) (Ma : Nat → Int32) (Mp : Nat → Int32) (Mf : Nat → Int32) (Mt : Nat → Int32) (Ml : Nat → Int32) (Mo : Nat → Int32) (Mn : Nat → Int32) (Mm : Nat → Int64) (MT : Nat → Int64) (MP : Nat → Int64) (Mv : Nat → Int32) (Mx : Nat → Int64) (Mz : Nat → Int64) (x1 : Int32) (res : (Int32 × Int32 × (Nat → Int32) × (Nat → Int32))) (h : f_X7_type x1 Mb Mf Mt = some res) : MG cy yX7_type cX7_type 2 (some .int) 1 25 [.ref 0, .int x1] (wMo cy Ms Mb Mq MB My ML Mg MF MW MI MA Mr Ma Mp Mf Mt Ml Mo Mn Mm MT MP Mv Mx Mz) (some (.int res.1)) (wMo cy Ms res.2.1 Mq MB My ML Mg MF MW MI MA Mr Ma Mp res.2.2.1 res.2.2.2 Ml Mo Mn Mm MT MP Mv Mx Mz) := by
  refine MG_of (o := 7) (lv := [(0, .ref 0), (1, .int x1)]) ⟨by decide +kernel, rfl⟩ (Nat.le_of_ble_eq_true rfl) rfl (fun k C hR => ?_)
  rw [f_X7_type] at h
  refine G_r C [(.iload_n 1, 1, 0, 0, .null), (.i2l, 1, 0, 0, .null), (.lconst 0, 1, 0, 0, .long (0 : Int64))] 3 [(0, .ref 0), (1, .int x1)] [.long (0 : Int64), .long x1.toInt64] (wMo cy Ms Mb Mq MB My ML Mg MF MW MI MA Mr Ma Mp Mf Mt Ml Mo Mn Mm MT MP Mv Mx Mz) (by decide +kernel) rfl rfl ?_
  refine G_ldc2 C co_7_218 (by decide +kernel) ?_
  obtain ⟨q1, hq1, h⟩ := obd h
  refine G_cS C lk_7_64 ⟨Nat.le_of_ble_eq_true rfl, Nat.le_of_ble_eq_true rfl⟩ (by decide +kernel) [.int (bI q1)] (c_X7_in cy x1.toInt64 (0 : Int64) (127 : Int64) q1 hq1) rfl rfl (Nat.le_of_ble_eq_true rfl) rfl ?_
  refine G_if_ne C (off := 8) (tgt := 17) (by decide +kernel) rfl (fun c => ?_) (fun c => ?_)
  · rw [if_neg c] at h
    refine G_r C [(.aload_n 0, 1, 0, 0, .null), (.getfield 220, 3, 7, 6, .null), (.bipush 100, 2, 0, 0, .int (100 : Int32))] 23 [(0, .ref 0), (1, .int x1)] [.int (100 : Int32), .int Mb] (wMo cy Ms Mb Mq MB My ML Mg MF MW MI MA Mr Ma Mp Mf Mt Ml Mo Mn Mm MT MP Mv Mx Mz) (by decide +kernel) rfl rfl ?_
    refine G_icmp_ne C (off := 8) (tgt := 31) (by decide +kernel) rfl (fun c => ?_) (fun c => ?_)
    · rw [if_neg c] at h
      refine G_r C [(.aload_n 0, 1, 0, 0, .null), (.getfield 22, 3, 7, 5, .null), (.aload_n 0, 1, 0, 0, .null), (.getfield 220, 3, 7, 6, .null), (.iload_n 1, 1, 0, 0, .null)] 40 [(0, .ref 0), (1, .int x1)] [.int x1, .int Mb, .ref 5] (wMo cy Ms Mb Mq MB My ML Mg MF MW MI MA Mr Ma Mp Mf Mt Ml Mo Mn Mm MT MP Mv Mx Mz) (by decide +kernel) rfl rfl ?_
      obtain ⟨cg, h⟩ := oob h
      refine G_iast C (a := 5) (w' := (wMo cy Ms Mb Mq MB My ML Mg MF MW MI MA Mr Ma Mp Mf (upd Mt Mb.toNatClampNeg x1) Ml Mo Mn Mm MT MP Mv Mx Mz)) rfl cg (by decide +kernel) rfl ?_
      refine G_r C [(.aload_n 0, 1, 0, 0, .null), (.dup, 1, 0, 0, .null), (.getfield 220, 3, 7, 6, .null), (.iconst 1, 1, 0, 0, .int (1 : Int32)), (.iadd, 1, 0, 0, .null), (.putfield 220, 3, 7, 6, .null), (.aload_n 0, 1, 0, 0, .null), (.getfield 220, 3, 7, 6, .null)] 55 [(0, .ref 0), (1, .int x1)] [.int (Mb + (1 : Int32))] (wMo cy Ms (Mb + (1 : Int32)) Mq MB My ML Mg MF MW MI MA Mr Ma Mp Mf (upd Mt Mb.toNatClampNeg x1) Ml Mo Mn Mm MT MP Mv Mx Mz) (by decide +kernel) rfl rfl ?_
      have h := Option.some.inj h
      subst h
      exact G_iret C hR (by decide +kernel)
    · rw [if_pos c] at h
      refine G_r C [(.aload_n 0, 1, 0, 0, .null)] 27 [(0, .ref 0), (1, .int x1)] [.ref 0] (wMo cy Ms Mb Mq MB My ML Mg MF MW MI MA Mr Ma Mp Mf Mt Ml Mo Mn Mm MT MP Mv Mx Mz) (by decide +kernel) rfl rfl ?_
      obtain ⟨q2, hq2, h⟩ := obd h
      refine G_c0 C lk_7_80 ⟨Nat.le_of_ble_eq_true rfl, Nat.le_of_ble_eq_true rfl⟩ (by decide +kernel) [.int q2.1] (c_X7_full cy Ms Mb Mq MB My ML Mg MF MW MI MA Mr Ma Mp Mf Mt Ml Mo Mn Mm MT MP Mv Mx Mz q2 hq2) rfl rfl (Nat.le_of_ble_eq_true rfl) ⟨rfl, rfl⟩ rfl ?_
      have h := Option.some.inj h
      subst h
      exact G_iret C hR (by decide +kernel)
  · rw [if_pos c] at h
    refine G_r C [(.aload_n 0, 1, 0, 0, .null)] 13 [(0, .ref 0), (1, .int x1)] [.ref 0] (wMo cy Ms Mb Mq MB My ML Mg MF MW MI MA Mr Ma Mp Mf Mt Ml Mo Mn Mm MT MP Mv Mx Mz) (by decide +kernel) rfl rfl ?_
    obtain ⟨q3, hq3, h⟩ := obd h
    refine G_c0 C lk_7_72 ⟨Nat.le_of_ble_eq_true rfl, Nat.le_of_ble_eq_true rfl⟩ (by decide +kernel) [.int q3.1] (c_X7_bad cy Ms Mb Mq MB My ML Mg MF MW MI MA Mr Ma Mp Mf Mt Ml Mo Mn Mm MT MP Mv Mx Mz q3 hq3) rfl rfl (Nat.le_of_ble_eq_true rfl) ⟨rfl, rfl⟩ rfl ?_
    have h := Option.some.inj h
    subst h
    exact G_iret C hR (by decide +kernel)
def f_X7_clear (Mb : Int32) : Option (Int32 × Int32) := some (Mb, (0 : Int32))
set_option maxHeartbeats 4000000 in
set_option maxRecDepth 100000 in
theorem c_X7_clear (cy : Nat → ClassId) (Ms : Int32) (Mb : Int32) (Mq : Int32) (MB : Int64) (My : Int32) (ML : Int32) (Mg : Int32) (MF : Int32) (MW : Bool) (MI : Bool) (MA : Int32) (Mr : Nat → Int32) (Ma : Nat → Int32) (Mp : Nat → Int32) (Mf : Nat → Int32) (Mt : Nat → Int32) (Ml : Nat → Int32) (Mo : Nat → Int32) (Mn : Nat → Int32) (Mm : Nat → Int64) (MT : Nat → Int64) (MP : Nat → Int64) (Mv : Nat → Int32) (Mx : Nat → Int64) (Mz : Nat → Int64)  (res : (Int32 × Int32)) (h : f_X7_clear Mb = some res) : MG cy yX7_clear cX7_clear 2 (some .int) 0 0 [.ref 0] (wMo cy Ms Mb Mq MB My ML Mg MF MW MI MA Mr Ma Mp Mf Mt Ml Mo Mn Mm MT MP Mv Mx Mz) (some (.int res.1)) (wMo cy Ms res.2 Mq MB My ML Mg MF MW MI MA Mr Ma Mp Mf Mt Ml Mo Mn Mm MT MP Mv Mx Mz) := by
  refine MG_of (o := 7) (lv := [(0, .ref 0)]) ⟨by decide +kernel, rfl⟩ (Nat.le_of_ble_eq_true rfl) rfl (fun k C hR => ?_)
  rw [f_X7_clear] at h
  refine G_r C [(.aload_n 0, 1, 0, 0, .null), (.getfield 220, 3, 7, 6, .null), (.istore_n 1, 1, 0, 0, .null), (.aload_n 0, 1, 0, 0, .null), (.iconst 0, 1, 0, 0, .int (0 : Int32)), (.putfield 220, 3, 7, 6, .null), (.iload_n 1, 1, 0, 0, .null)] 11 [(1, .int Mb), (0, .ref 0)] [.int Mb] (wMo cy Ms (0 : Int32) Mq MB My ML Mg MF MW MI MA Mr Ma Mp Mf Mt Ml Mo Mn Mm MT MP Mv Mx Mz) (by decide +kernel) rfl rfl ?_
  have h := Option.some.inj h
  subst h
  exact G_iret C hR (by decide +kernel)
def f_X7_mostNumbers (x0 : Int32) : Option Int32 := if x0 = (109 : Int32) then (some (7 : Int32)) else (if x0 = (112 : Int32) then (some (2 : Int32)) else (if x0 = (108 : Int32) then (some (0 : Int32)) else (some (1 : Int32))))
set_option maxHeartbeats 4000000 in
set_option maxRecDepth 100000 in
theorem c_X7_mostNumbers (cy : Nat → ClassId)  (x0 : Int32) (res : Int32) (h : f_X7_mostNumbers x0 = some res) : MG cy yX7_mostNumbers cX7_mostNumbers 1 (some .int) 0 0 [.int x0] [] (some (.int res)) [] := by
  refine MG_of (o := 7) (lv := [(0, .int x0)]) ⟨by decide +kernel, rfl⟩ (Nat.le_of_ble_eq_true rfl) rfl (fun k C hR => ?_)
  rw [f_X7_mostNumbers] at h
  refine G_r C [(.iload_n 0, 1, 0, 0, .null), (.bipush 109, 2, 0, 0, .int (109 : Int32))] 3 [(0, .int x0)] [.int (109 : Int32), .int x0] [] (by decide +kernel) rfl rfl ?_
  refine G_icmp_ne C (off := 8) (tgt := 11) (by decide +kernel) rfl (fun c => ?_) (fun c => ?_)
  · rw [if_neg c] at h
    refine G_r C [(.iload_n 0, 1, 0, 0, .null), (.bipush 112, 2, 0, 0, .int (112 : Int32))] 14 [(0, .int x0)] [.int (112 : Int32), .int x0] [] (by decide +kernel) rfl rfl ?_
    refine G_icmp_ne C (off := 7) (tgt := 21) (by decide +kernel) rfl (fun c => ?_) (fun c => ?_)
    · rw [if_neg c] at h
      refine G_r C [(.iload_n 0, 1, 0, 0, .null), (.bipush 108, 2, 0, 0, .int (108 : Int32))] 24 [(0, .int x0)] [.int (108 : Int32), .int x0] [] (by decide +kernel) rfl rfl ?_
      refine G_icmp_ne C (off := 7) (tgt := 31) (by decide +kernel) rfl (fun c => ?_) (fun c => ?_)
      · rw [if_neg c] at h
        refine G_r C [(.iconst 1, 1, 0, 0, .int (1 : Int32))] 32 [(0, .int x0)] [.int (1 : Int32)] [] (by decide +kernel) rfl rfl ?_
        have h := Option.some.inj h
        subst h
        exact G_iret C hR (by decide +kernel)
      · rw [if_pos c] at h
        refine G_r C [(.iconst 0, 1, 0, 0, .int (0 : Int32))] 28 [(0, .int x0)] [.int (0 : Int32)] [] (by decide +kernel) rfl rfl ?_
        refine G_goto C (off := 4) (tgt := 32) (by decide +kernel) rfl ?_
        have h := Option.some.inj h
        subst h
        exact G_iret C hR (by decide +kernel)
    · rw [if_pos c] at h
      refine G_r C [(.iconst 2, 1, 0, 0, .int (2 : Int32))] 18 [(0, .int x0)] [.int (2 : Int32)] [] (by decide +kernel) rfl rfl ?_
      refine G_goto C (off := 14) (tgt := 32) (by decide +kernel) rfl ?_
      have h := Option.some.inj h
      subst h
      exact G_iret C hR (by decide +kernel)
  · rw [if_pos c] at h
    refine G_r C [(.bipush 7, 2, 0, 0, .int (7 : Int32))] 8 [(0, .int x0)] [.int (7 : Int32)] [] (by decide +kernel) rfl rfl ?_
    refine G_goto C (off := 24) (tgt := 32) (by decide +kernel) rfl ?_
    have h := Option.some.inj h
    subst h
    exact G_iret C hR (by decide +kernel)
def f_X7_leastNumbers (x0 : Int32) : Option Int32 := if x0 = (109 : Int32) then (some (1 : Int32)) else ((f_X7_mostNumbers x0).bind fun q1 => some q1)
set_option maxHeartbeats 4000000 in
set_option maxRecDepth 100000 in
theorem c_X7_leastNumbers (cy : Nat → ClassId)  (x0 : Int32) (res : Int32) (h : f_X7_leastNumbers x0 = some res) : MG cy yX7_leastNumbers cX7_leastNumbers 1 (some .int) 1 20 [.int x0] [] (some (.int res)) [] := by
  refine MG_of (o := 7) (lv := [(0, .int x0)]) ⟨by decide +kernel, rfl⟩ (Nat.le_of_ble_eq_true rfl) rfl (fun k C hR => ?_)
  rw [f_X7_leastNumbers] at h
  refine G_r C [(.iload_n 0, 1, 0, 0, .null), (.bipush 109, 2, 0, 0, .int (109 : Int32))] 3 [(0, .int x0)] [.int (109 : Int32), .int x0] [] (by decide +kernel) rfl rfl ?_
  refine G_icmp_ne C (off := 7) (tgt := 10) (by decide +kernel) rfl (fun c => ?_) (fun c => ?_)
  · rw [if_neg c] at h
    refine G_r C [(.iload_n 0, 1, 0, 0, .null)] 11 [(0, .int x0)] [.int x0] [] (by decide +kernel) rfl rfl ?_
    obtain ⟨q1, hq1, h⟩ := obd h
    refine G_cS C lk_7_223 ⟨Nat.le_of_ble_eq_true rfl, Nat.le_of_ble_eq_true rfl⟩ (by decide +kernel) [.int q1] (c_X7_mostNumbers cy x0 q1 hq1) rfl rfl (Nat.le_of_ble_eq_true rfl) rfl ?_
    have h := Option.some.inj h
    subst h
    exact G_iret C hR (by decide +kernel)
  · rw [if_pos c] at h
    refine G_r C [(.iconst 1, 1, 0, 0, .int (1 : Int32))] 7 [(0, .int x0)] [.int (1 : Int32)] [] (by decide +kernel) rfl rfl ?_
    refine G_goto C (off := 7) (tgt := 14) (by decide +kernel) rfl ?_
    have h := Option.some.inj h
    subst h
    exact G_iret C hR (by decide +kernel)
def f_X7_beginNumber (x1 : Bool) (ML : Int32) (Mg : Int32) (MF : Int32) (MI : Bool) (MA : Int32) (Mn : Nat → Int32) : Option (Bool × Int32 × Int32 × Bool × Int32 × (Nat → Int32)) := (f_X7_mostNumbers ML).bind fun q1 => if Mg = q1 then (some (false, Mg, MF, MI, MA, Mn)) else (if MA < 0 ∨ 100 ≤ MA.toNatClampNeg then none else some (true, (Mg + (1 : Int32)), (0 : Int32), x1, (MA + (1 : Int32)), (upd Mn MA.toNatClampNeg (0 : Int32))))
set_option maxHeartbeats 4000000 in
set_option maxRecDepth 100000 in
theorem c_X7_beginNumber (cy : Nat → ClassId) (Ms : Int32) (Mb : Int32) (Mq : Int32) (MB : Int64) (My : Int32) (ML : Int32) (Mg : Int32) (MF : Int32) (MW : Bool) (MI : Bool) (MA : Int32) (Mr : Nat → Int32) (Ma : Nat → Int32) (Mp : Nat → Int32) (Mf : Nat → Int32) (Mt : Nat → Int32) (Ml : Nat → Int32) (Mo : Nat → Int32) (Mn : Nat → Int32) (Mm : Nat → Int64) (MT : Nat → Int64) (MP : Nat → Int64) (Mv : Nat → Int32) (Mx : Nat → Int64) (Mz : Nat → Int64) (x1 : Bool) (res : (Bool × Int32 × Int32 × Bool × Int32 × (Nat → Int32))) (h : f_X7_beginNumber x1 ML Mg MF MI MA Mn = some res) : MG cy yX7_beginNumber cX7_beginNumber 2 (some .boolean) 1 20 [.ref 0, .int (bI x1)] (wMo cy Ms Mb Mq MB My ML Mg MF MW MI MA Mr Ma Mp Mf Mt Ml Mo Mn Mm MT MP Mv Mx Mz) (some (.int (bI res.1))) (wMo cy Ms Mb Mq MB My ML res.2.1 res.2.2.1 MW res.2.2.2.1 res.2.2.2.2.1 Mr Ma Mp Mf Mt Ml Mo res.2.2.2.2.2 Mm MT MP Mv Mx Mz) := by
  refine MG_of (o := 7) (lv := [(0, .ref 0), (1, .int (bI x1))]) ⟨by decide +kernel, rfl⟩ (Nat.le_of_ble_eq_true rfl) rfl (fun k C hR => ?_)
  rw [f_X7_beginNumber] at h
  refine G_r C [(.aload_n 0, 1, 0, 0, .null), (.getfield 226, 3, 7, 20, .null), (.aload_n 0, 1, 0, 0, .null), (.getfield 229, 3, 7, 19, .null)] 8 [(0, .ref 0), (1, .int (bI x1))] [.int ML, .int Mg] (wMo cy Ms Mb Mq MB My ML Mg MF MW MI MA Mr Ma Mp Mf Mt Ml Mo Mn Mm MT MP Mv Mx Mz) (by decide +kernel) rfl rfl ?_
  obtain ⟨q1, hq1, h⟩ := obd h
  refine G_cS C lk_7_223 ⟨Nat.le_of_ble_eq_true rfl, Nat.le_of_ble_eq_true rfl⟩ (by decide +kernel) [.int q1, .int Mg] (c_X7_mostNumbers cy ML q1 hq1) rfl rfl (Nat.le_of_ble_eq_true rfl) rfl ?_
  refine G_icmp_ne C (off := 5) (tgt := 16) (by decide +kernel) rfl (fun c => ?_) (fun c => ?_)
  · rw [if_neg c] at h
    refine G_r C [(.aload_n 0, 1, 0, 0, .null), (.dup, 1, 0, 0, .null), (.getfield 226, 3, 7, 20, .null), (.iconst 1, 1, 0, 0, .int (1 : Int32)), (.iadd, 1, 0, 0, .null), (.putfield 226, 3, 7, 20, .null), (.aload_n 0, 1, 0, 0, .null), (.iconst 0, 1, 0, 0, .int (0 : Int32)), (.putfield 232, 3, 7, 21, .null), (.aload_n 0, 1, 0, 0, .null), (.iload_n 1, 1, 0, 0, .null)] 33 [(0, .ref 0), (1, .int (bI x1))] [.int (bI x1), .ref 0] (wMo cy Ms Mb Mq MB My ML (Mg + (1 : Int32)) (0 : Int32) MW MI MA Mr Ma Mp Mf Mt Ml Mo Mn Mm MT MP Mv Mx Mz) (by decide +kernel) rfl rfl ?_
    refine G_putZ C (idx := 235) (ci := 7) (kf := 23) (b := x1) (w' := (wMo cy Ms Mb Mq MB My ML (Mg + (1 : Int32)) (0 : Int32) MW x1 MA Mr Ma Mp Mf Mt Ml Mo Mn Mm MT MP Mv Mx Mz)) (by decide +kernel) rfl (Nat.le_of_ble_eq_true rfl) rfl rfl (by decide +kernel) rfl ?_
    refine G_r C [(.aload_n 0, 1, 0, 0, .null), (.getfield 31, 3, 7, 9, .null), (.aload_n 0, 1, 0, 0, .null), (.getfield 239, 3, 7, 24, .null), (.iconst 0, 1, 0, 0, .int (0 : Int32))] 45 [(0, .ref 0), (1, .int (bI x1))] [.int (0 : Int32), .int MA, .ref 8] (wMo cy Ms Mb Mq MB My ML (Mg + (1 : Int32)) (0 : Int32) MW x1 MA Mr Ma Mp Mf Mt Ml Mo Mn Mm MT MP Mv Mx Mz) (by decide +kernel) rfl rfl ?_
    obtain ⟨cg, h⟩ := oob h
    refine G_iast C (a := 8) (w' := (wMo cy Ms Mb Mq MB My ML (Mg + (1 : Int32)) (0 : Int32) MW x1 MA Mr Ma Mp Mf Mt Ml Mo (upd Mn MA.toNatClampNeg (0 : Int32)) Mm MT MP Mv Mx Mz)) rfl cg (by decide +kernel) rfl ?_
    refine G_r C [(.aload_n 0, 1, 0, 0, .null), (.dup, 1, 0, 0, .null), (.getfield 239, 3, 7, 24, .null), (.iconst 1, 1, 0, 0, .int (1 : Int32)), (.iadd, 1, 0, 0, .null), (.putfield 239, 3, 7, 24, .null), (.iconst 1, 1, 0, 0, .int (1 : Int32))] 57 [(0, .ref 0), (1, .int (bI x1))] [.int (1 : Int32)] (wMo cy Ms Mb Mq MB My ML (Mg + (1 : Int32)) (0 : Int32) MW x1 (MA + (1 : Int32)) Mr Ma Mp Mf Mt Ml Mo (upd Mn MA.toNatClampNeg (0 : Int32)) Mm MT MP Mv Mx Mz) (by decide +kernel) rfl rfl ?_
    have h := Option.some.inj h
    subst h
    exact G_zret C (v := true) hR (by decide +kernel)
  · rw [if_pos c] at h
    refine G_r C [(.iconst 0, 1, 0, 0, .int (0 : Int32))] 15 [(0, .ref 0), (1, .int (bI x1))] [.int (0 : Int32)] (wMo cy Ms Mb Mq MB My ML Mg MF MW MI MA Mr Ma Mp Mf Mt Ml Mo Mn Mm MT MP Mv Mx Mz) (by decide +kernel) rfl rfl ?_
    have h := Option.some.inj h
    subst h
    exact G_zret C (v := false) hR (by decide +kernel)
