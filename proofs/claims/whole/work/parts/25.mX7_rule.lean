def f_X7_rule (x1 : Int32) (x2 : Int32) (x3 : Int32) (MB : Int64) (Mr : Nat → Int32) (Mf : Nat → Int32) (MT : Nat → Int64) (MP : Nat → Int64) : Option (Int64 × Int64 × (Nat → Int32) × (Nat → Int64) × (Nat → Int64)) := (f_X7_in x1.toInt64 (0 : Int64) (1 : Int64)).bind fun q1 => if (bI q1) = 0 then ((f_X7_bad Mf).bind fun q2 => some (q2.1.toInt64, MB, q2.2, MT, MP)) else ((f_X7_in x2.toInt64 x1.toInt64 (2 : Int64)).bind fun q3 => if (bI q3) = 0 then ((f_X7_bad Mf).bind fun q4 => some (q4.1.toInt64, MB, q4.2, MT, MP)) else ((f_X7_isPart x3).bind fun q5 => if (bI q5) = 0 then ((f_X7_bad Mf).bind fun q34 => some (q34.1.toInt64, MB, q34.2, MT, MP)) else (if x2 ≤ 0 then ((f_X7_isPoly x2 Mr MT).bind fun q6 => if (bI q6.1) = 0 then ((f_X7_no Mf).bind fun q7 => some (q7.1.toInt64, MB, q7.2, q6.2, MP)) else ((f_X7_isPoly (x2 + (1 : Int32)) Mr q6.2).bind fun q8 => if (bI q8.1) = 0 then ((f_X7_no Mf).bind fun q18 => some (q18.1.toInt64, MB, q18.2, q8.2, MP)) else ((f_X7_detOf (0 : Int32) x2 Mr q8.2).bind fun q9 => (f_X7_detOf (0 : Int32) (x2 + (1 : Int32)) Mr q9.2).bind fun q10 => if x1 = (1 : Int32) then ((f_X7_detOf (0 : Int32) (x2 - (1 : Int32)) Mr q10.2).bind fun q16 => (f_X7_part (q10.1 * q16.1) (q9.1 * q9.1) x3).bind fun q17 => some (q17, MB, Mf, q16.2, MP)) else ((f_X7_makePoly x2 Mr q10.2 MP).bind fun q11 => if x2 = 0 then ((f_X7_makePoly (x2 + (1 : Int32)) Mr q11.2.1 q11.2.2).bind fun q14 => if x2 < 0 ∨ 4 ≤ x2.toNatClampNeg then none else (f_X7_part (((0 : Int64) * q10.1) - ((q14.2.2 x2.toNatClampNeg) * q9.1)) (q9.1 * q10.1) x3).bind fun q15 => some (q15, q14.1, Mf, q14.2.1, q14.2.2)) else (if (x2 - (1 : Int32)) < 0 ∨ 4 ≤ (x2 - (1 : Int32)).toNatClampNeg then none else (f_X7_makePoly (x2 + (1 : Int32)) Mr q11.2.1 q11.2.2).bind fun q12 => if x2 < 0 ∨ 4 ≤ x2.toNatClampNeg then none else (f_X7_part (((q11.2.2 (x2 - (1 : Int32)).toNatClampNeg) * q10.1) - ((q12.2.2 x2.toNatClampNeg) * q9.1)) (q9.1 * q10.1) x3).bind fun q13 => some (q13, q12.1, Mf, q12.2.1, q12.2.2)))))) else ((f_X7_isPoly (x2 - (1 : Int32)) Mr MT).bind fun q19 => if (bI q19.1) = 0 then ((f_X7_no Mf).bind fun q20 => some (q20.1.toInt64, MB, q20.2, q19.2, MP)) else ((f_X7_isPoly x2 Mr q19.2).bind fun q21 => if (bI q21.1) = 0 then ((f_X7_no Mf).bind fun q22 => some (q22.1.toInt64, MB, q22.2, q21.2, MP)) else ((f_X7_isPoly (x2 + (1 : Int32)) Mr q21.2).bind fun q23 => if (bI q23.1) = 0 then ((f_X7_no Mf).bind fun q33 => some (q33.1.toInt64, MB, q33.2, q23.2, MP)) else ((f_X7_detOf (0 : Int32) x2 Mr q23.2).bind fun q24 => (f_X7_detOf (0 : Int32) (x2 + (1 : Int32)) Mr q24.2).bind fun q25 => if x1 = (1 : Int32) then ((f_X7_detOf (0 : Int32) (x2 - (1 : Int32)) Mr q25.2).bind fun q31 => (f_X7_part (q25.1 * q31.1) (q24.1 * q24.1) x3).bind fun q32 => some (q32, MB, Mf, q31.2, MP)) else ((f_X7_makePoly x2 Mr q25.2 MP).bind fun q26 => if x2 = 0 then ((f_X7_makePoly (x2 + (1 : Int32)) Mr q26.2.1 q26.2.2).bind fun q29 => if x2 < 0 ∨ 4 ≤ x2.toNatClampNeg then none else (f_X7_part (((0 : Int64) * q25.1) - ((q29.2.2 x2.toNatClampNeg) * q24.1)) (q24.1 * q25.1) x3).bind fun q30 => some (q30, q29.1, Mf, q29.2.1, q29.2.2)) else (if (x2 - (1 : Int32)) < 0 ∨ 4 ≤ (x2 - (1 : Int32)).toNatClampNeg then none else (f_X7_makePoly (x2 + (1 : Int32)) Mr q26.2.1 q26.2.2).bind fun q27 => if x2 < 0 ∨ 4 ≤ x2.toNatClampNeg then none else (f_X7_part (((q26.2.2 (x2 - (1 : Int32)).toNatClampNeg) * q25.1) - ((q27.2.2 x2.toNatClampNeg) * q24.1)) (q24.1 * q25.1) x3).bind fun q28 => some (q28, q27.1, Mf, q27.2.1, q27.2.2))))))))))
set_option maxHeartbeats 4000000 in
set_option maxRecDepth 100000 in
theorem c_X7_rule (cy : Nat → ClassId) (Ms : Int32) (Mb : Int32) (Mq : Int32) (MB : Int64) (My : Int32) (ML : Int32) (Mg : Int32) (MF : Int32) (MW : Bool) (MI : Bool) (MA : Int32) (Mr : Nat → Int32) (Ma : Nat → Int32) (Mp : Nat → Int32) (Mf : Nat → Int32) (Mt : Nat → Int32) (Ml : Nat → Int32) (Mo : Nat → Int32) (Mn : Nat → Int32) (Mm : Nat → Int64) (MT : Nat → Int64) (MP : Nat → Int64) (Mv : Nat → Int32) (Mx : Nat → Int64) (Mz : Nat → Int64) (x1 : Int32) (x2 : Int32) (x3 : Int32) (res : (Int64 × Int64 × (Nat → Int32) × (Nat → Int64) × (Nat → Int64))) (h : f_X7_rule x1 x2 x3 MB Mr Mf MT MP = some res) : MG cy yX7_rule cX7_rule 10 (some .long) 3 78 [.ref 0, .int x1, .int x2, .int x3] (wMo cy Ms Mb Mq MB My ML Mg MF MW MI MA Mr Ma Mp Mf Mt Ml Mo Mn Mm MT MP Mv Mx Mz) (some (.long res.1)) (wMo cy Ms Mb Mq res.2.1 My ML Mg MF MW MI MA Mr Ma Mp res.2.2.1 Mt Ml Mo Mn Mm res.2.2.2.1 res.2.2.2.2 Mv Mx Mz) := by
  refine MG_of (o := 7) (lv := [(0, .ref 0), (1, .int x1), (2, .int x2), (3, .int x3)]) ⟨by decide +kernel, rfl⟩ (Nat.le_of_ble_eq_true rfl) rfl (fun k C hR => ?_)
  rw [f_X7_rule] at h
  refine G_r C [(.iload_n 1, 1, 0, 0, .null), (.i2l, 1, 0, 0, .null), (.lconst 0, 1, 0, 0, .long (0 : Int64)), (.lconst 1, 1, 0, 0, .long (1 : Int64))] 4 [(0, .ref 0), (1, .int x1), (2, .int x2), (3, .int x3)] [.long (1 : Int64), .long (0 : Int64), .long x1.toInt64] (wMo cy Ms Mb Mq MB My ML Mg MF MW MI MA Mr Ma Mp Mf Mt Ml Mo Mn Mm MT MP Mv Mx Mz) (by decide +kernel) rfl rfl ?_
  obtain ⟨q1, hq1, h⟩ := obd h
  refine G_cS C lk_7_64 ⟨Nat.le_of_ble_eq_true rfl, Nat.le_of_ble_eq_true rfl⟩ (by decide +kernel) [.int (bI q1)] (c_X7_in cy x1.toInt64 (0 : Int64) (1 : Int64) q1 hq1) rfl rfl (Nat.le_of_ble_eq_true rfl) rfl ?_
  refine G_if_eq C (off := 23) (tgt := 30) (by decide +kernel) rfl (fun c => ?_) (fun c => ?_)
  · rw [if_pos c] at h
    refine G_r C [(.aload_n 0, 1, 0, 0, .null)] 31 [(0, .ref 0), (1, .int x1), (2, .int x2), (3, .int x3)] [.ref 0] (wMo cy Ms Mb Mq MB My ML Mg MF MW MI MA Mr Ma Mp Mf Mt Ml Mo Mn Mm MT MP Mv Mx Mz) (by decide +kernel) rfl rfl ?_
    obtain ⟨q2, hq2, h⟩ := obd h
    refine G_c0 C lk_7_72 ⟨Nat.le_of_ble_eq_true rfl, Nat.le_of_ble_eq_true rfl⟩ (by decide +kernel) [.int q2.1] (c_X7_bad cy Ms Mb Mq MB My ML Mg MF MW MI MA Mr Ma Mp Mf Mt Ml Mo Mn Mm MT MP Mv Mx Mz q2 hq2) rfl rfl (Nat.le_of_ble_eq_true rfl) ⟨rfl, rfl⟩ rfl ?_
    refine G_r C [(.i2l, 1, 0, 0, .null)] 35 [(0, .ref 0), (1, .int x1), (2, .int x2), (3, .int x3)] [.long q2.1.toInt64] (wMo cy Ms Mb Mq MB My ML Mg MF MW MI MA Mr Ma Mp q2.2 Mt Ml Mo Mn Mm MT MP Mv Mx Mz) (by decide +kernel) rfl rfl ?_
    have h := Option.some.inj h
    subst h
    exact G_lret C hR (by decide +kernel)
  · rw [if_neg c] at h
    refine G_r C [(.iload_n 2, 1, 0, 0, .null), (.i2l, 1, 0, 0, .null), (.iload_n 1, 1, 0, 0, .null), (.i2l, 1, 0, 0, .null)] 14 [(0, .ref 0), (1, .int x1), (2, .int x2), (3, .int x3)] [.long x1.toInt64, .long x2.toInt64] (wMo cy Ms Mb Mq MB My ML Mg MF MW MI MA Mr Ma Mp Mf Mt Ml Mo Mn Mm MT MP Mv Mx Mz) (by decide +kernel) rfl rfl ?_
    refine G_ldc2 C co_7_175 (by decide +kernel) ?_
    obtain ⟨q3, hq3, h⟩ := obd h
    refine G_cS C lk_7_64 ⟨Nat.le_of_ble_eq_true rfl, Nat.le_of_ble_eq_true rfl⟩ (by decide +kernel) [.int (bI q3)] (c_X7_in cy x2.toInt64 x1.toInt64 (2 : Int64) q3 hq3) rfl rfl (Nat.le_of_ble_eq_true rfl) rfl ?_
    refine G_if_eq C (off := 10) (tgt := 30) (by decide +kernel) rfl (fun c => ?_) (fun c => ?_)
    · rw [if_pos c] at h
      refine G_r C [(.aload_n 0, 1, 0, 0, .null)] 31 [(0, .ref 0), (1, .int x1), (2, .int x2), (3, .int x3)] [.ref 0] (wMo cy Ms Mb Mq MB My ML Mg MF MW MI MA Mr Ma Mp Mf Mt Ml Mo Mn Mm MT MP Mv Mx Mz) (by decide +kernel) rfl rfl ?_
      obtain ⟨q4, hq4, h⟩ := obd h
      refine G_c0 C lk_7_72 ⟨Nat.le_of_ble_eq_true rfl, Nat.le_of_ble_eq_true rfl⟩ (by decide +kernel) [.int q4.1] (c_X7_bad cy Ms Mb Mq MB My ML Mg MF MW MI MA Mr Ma Mp Mf Mt Ml Mo Mn Mm MT MP Mv Mx Mz q4 hq4) rfl rfl (Nat.le_of_ble_eq_true rfl) ⟨rfl, rfl⟩ rfl ?_
      refine G_r C [(.i2l, 1, 0, 0, .null)] 35 [(0, .ref 0), (1, .int x1), (2, .int x2), (3, .int x3)] [.long q4.1.toInt64] (wMo cy Ms Mb Mq MB My ML Mg MF MW MI MA Mr Ma Mp q4.2 Mt Ml Mo Mn Mm MT MP Mv Mx Mz) (by decide +kernel) rfl rfl ?_
      have h := Option.some.inj h
      subst h
      exact G_lret C hR (by decide +kernel)
    · rw [if_neg c] at h
      refine G_r C [(.iload_n 3, 1, 0, 0, .null)] 24 [(0, .ref 0), (1, .int x1), (2, .int x2), (3, .int x3)] [.int x3] (wMo cy Ms Mb Mq MB My ML Mg MF MW MI MA Mr Ma Mp Mf Mt Ml Mo Mn Mm MT MP Mv Mx Mz) (by decide +kernel) rfl rfl ?_
      obtain ⟨q5, hq5, h⟩ := obd h
      refine G_cS C lk_7_159 ⟨Nat.le_of_ble_eq_true rfl, Nat.le_of_ble_eq_true rfl⟩ (by decide +kernel) [.int (bI q5)] (c_X7_isPart cy x3 q5 hq5) rfl rfl (Nat.le_of_ble_eq_true rfl) rfl ?_
      refine G_if_ne C (off := 9) (tgt := 36) (by decide +kernel) rfl (fun c => ?_) (fun c => ?_)
      · rw [if_neg c] at h
        refine G_r C [(.iload_n 2, 1, 0, 0, .null)] 37 [(0, .ref 0), (1, .int x1), (2, .int x2), (3, .int x3)] [.int x2] (wMo cy Ms Mb Mq MB My ML Mg MF MW MI MA Mr Ma Mp Mf Mt Ml Mo Mn Mm MT MP Mv Mx Mz) (by decide +kernel) rfl rfl ?_
        refine G_if_le C (off := 13) (tgt := 50) (by decide +kernel) rfl (fun c => ?_) (fun c => ?_)
        · rw [if_pos c] at h
          refine G_r C [(.aload_n 0, 1, 0, 0, .null), (.iload_n 2, 1, 0, 0, .null)] 52 [(0, .ref 0), (1, .int x1), (2, .int x2), (3, .int x3)] [.int x2, .ref 0] (wMo cy Ms Mb Mq MB My ML Mg MF MW MI MA Mr Ma Mp Mf Mt Ml Mo Mn Mm MT MP Mv Mx Mz) (by decide +kernel) rfl rfl ?_
          obtain ⟨q6, hq6, h⟩ := obd h
          refine G_c0 C lk_7_162 ⟨Nat.le_of_ble_eq_true rfl, Nat.le_of_ble_eq_true rfl⟩ (by decide +kernel) [.int (bI q6.1)] (c_X7_isPoly cy Ms Mb Mq MB My ML Mg MF MW MI MA Mr Ma Mp Mf Mt Ml Mo Mn Mm MT MP Mv Mx Mz x2 q6 hq6) rfl rfl (Nat.le_of_ble_eq_true rfl) ⟨rfl, rfl⟩ rfl ?_
          refine G_if_eq C (off := 13) (tgt := 68) (by decide +kernel) rfl (fun c => ?_) (fun c => ?_)
          · rw [if_pos c] at h
            refine G_r C [(.aload_n 0, 1, 0, 0, .null)] 69 [(0, .ref 0), (1, .int x1), (2, .int x2), (3, .int x3)] [.ref 0] (wMo cy Ms Mb Mq MB My ML Mg MF MW MI MA Mr Ma Mp Mf Mt Ml Mo Mn Mm q6.2 MP Mv Mx Mz) (by decide +kernel) rfl rfl ?_
            obtain ⟨q7, hq7, h⟩ := obd h
            refine G_c0 C lk_7_87 ⟨Nat.le_of_ble_eq_true rfl, Nat.le_of_ble_eq_true rfl⟩ (by decide +kernel) [.int q7.1] (c_X7_no cy Ms Mb Mq MB My ML Mg MF MW MI MA Mr Ma Mp Mf Mt Ml Mo Mn Mm q6.2 MP Mv Mx Mz q7 hq7) rfl rfl (Nat.le_of_ble_eq_true rfl) ⟨rfl, rfl⟩ rfl ?_
            refine G_r C [(.i2l, 1, 0, 0, .null)] 73 [(0, .ref 0), (1, .int x1), (2, .int x2), (3, .int x3)] [.long q7.1.toInt64] (wMo cy Ms Mb Mq MB My ML Mg MF MW MI MA Mr Ma Mp q7.2 Mt Ml Mo Mn Mm q6.2 MP Mv Mx Mz) (by decide +kernel) rfl rfl ?_
            have h := Option.some.inj h
            subst h
            exact G_lret C hR (by decide +kernel)
          · rw [if_neg c] at h
            refine G_r C [(.aload_n 0, 1, 0, 0, .null), (.iload_n 2, 1, 0, 0, .null), (.iconst 1, 1, 0, 0, .int (1 : Int32)), (.iadd, 1, 0, 0, .null)] 62 [(0, .ref 0), (1, .int x1), (2, .int x2), (3, .int x3)] [.int (x2 + (1 : Int32)), .ref 0] (wMo cy Ms Mb Mq MB My ML Mg MF MW MI MA Mr Ma Mp Mf Mt Ml Mo Mn Mm q6.2 MP Mv Mx Mz) (by decide +kernel) rfl rfl ?_
            obtain ⟨q8, hq8, h⟩ := obd h
            refine G_c0 C lk_7_162 ⟨Nat.le_of_ble_eq_true rfl, Nat.le_of_ble_eq_true rfl⟩ (by decide +kernel) [.int (bI q8.1)] (c_X7_isPoly cy Ms Mb Mq MB My ML Mg MF MW MI MA Mr Ma Mp Mf Mt Ml Mo Mn Mm q6.2 MP Mv Mx Mz (x2 + (1 : Int32)) q8 hq8) rfl rfl (Nat.le_of_ble_eq_true rfl) ⟨rfl, rfl⟩ rfl ?_
            refine G_if_ne C (off := 9) (tgt := 74) (by decide +kernel) rfl (fun c => ?_) (fun c => ?_)
            · rw [if_neg c] at h
              refine G_r C [(.aload_n 0, 1, 0, 0, .null), (.iconst 0, 1, 0, 0, .int (0 : Int32)), (.iload_n 2, 1, 0, 0, .null)] 77 [(0, .ref 0), (1, .int x1), (2, .int x2), (3, .int x3)] [.int x2, .int (0 : Int32), .ref 0] (wMo cy Ms Mb Mq MB My ML Mg MF MW MI MA Mr Ma Mp Mf Mt Ml Mo Mn Mm q8.2 MP Mv Mx Mz) (by decide +kernel) rfl rfl ?_
              obtain ⟨q9, hq9, h⟩ := obd h
              refine G_c0 C lk_7_146 ⟨Nat.le_of_ble_eq_true rfl, Nat.le_of_ble_eq_true rfl⟩ (by decide +kernel) [.long q9.1] (c_X7_detOf cy Ms Mb Mq MB My ML Mg MF MW MI MA Mr Ma Mp Mf Mt Ml Mo Mn Mm q8.2 MP Mv Mx Mz (0 : Int32) x2 q9 hq9) rfl rfl (Nat.le_of_ble_eq_true rfl) ⟨rfl, rfl⟩ rfl ?_
              refine G_r C [(.lstore 4, 2, 0, 0, .null), (.aload_n 0, 1, 0, 0, .null), (.iconst 0, 1, 0, 0, .int (0 : Int32)), (.iload_n 2, 1, 0, 0, .null), (.iconst 1, 1, 0, 0, .int (1 : Int32)), (.iadd, 1, 0, 0, .null)] 87 [(4, .long q9.1), (0, .ref 0), (1, .int x1), (2, .int x2), (3, .int x3)] [.int (x2 + (1 : Int32)), .int (0 : Int32), .ref 0] (wMo cy Ms Mb Mq MB My ML Mg MF MW MI MA Mr Ma Mp Mf Mt Ml Mo Mn Mm q9.2 MP Mv Mx Mz) (by decide +kernel) rfl rfl ?_
              obtain ⟨q10, hq10, h⟩ := obd h
              refine G_c0 C lk_7_146 ⟨Nat.le_of_ble_eq_true rfl, Nat.le_of_ble_eq_true rfl⟩ (by decide +kernel) [.long q10.1] (c_X7_detOf cy Ms Mb Mq MB My ML Mg MF MW MI MA Mr Ma Mp Mf Mt Ml Mo Mn Mm q9.2 MP Mv Mx Mz (0 : Int32) (x2 + (1 : Int32)) q10 hq10) rfl rfl (Nat.le_of_ble_eq_true rfl) ⟨rfl, rfl⟩ rfl ?_
              refine G_r C [(.lstore 6, 2, 0, 0, .null), (.iload_n 1, 1, 0, 0, .null), (.iconst 1, 1, 0, 0, .int (1 : Int32))] 94 [(6, .long q10.1), (4, .long q9.1), (0, .ref 0), (1, .int x1), (2, .int x2), (3, .int x3)] [.int (1 : Int32), .int x1] (wMo cy Ms Mb Mq MB My ML Mg MF MW MI MA Mr Ma Mp Mf Mt Ml Mo Mn Mm q10.2 MP Mv Mx Mz) (by decide +kernel) rfl rfl ?_
              refine G_icmp_ne C (off := 24) (tgt := 118) (by decide +kernel) rfl (fun c => ?_) (fun c => ?_)
              · rw [if_neg c] at h
                refine G_r C [(.aload_n 0, 1, 0, 0, .null), (.iload_n 2, 1, 0, 0, .null)] 120 [(6, .long q10.1), (4, .long q9.1), (0, .ref 0), (1, .int x1), (2, .int x2), (3, .int x3)] [.int x2, .ref 0] (wMo cy Ms Mb Mq MB My ML Mg MF MW MI MA Mr Ma Mp Mf Mt Ml Mo Mn Mm q10.2 MP Mv Mx Mz) (by decide +kernel) rfl rfl ?_
                obtain ⟨q11, hq11, h⟩ := obd h
                refine G_c0 C lk_7_165 ⟨Nat.le_of_ble_eq_true rfl, Nat.le_of_ble_eq_true rfl⟩ (by decide +kernel) [] (c_X7_makePoly cy Ms Mb Mq MB My ML Mg MF MW MI MA Mr Ma Mp Mf Mt Ml Mo Mn Mm q10.2 MP Mv Mx Mz x2 q11 hq11) rfl rfl (Nat.le_of_ble_eq_true rfl) ⟨rfl, rfl⟩ rfl ?_
                refine G_r C [(.iload_n 2, 1, 0, 0, .null)] 124 [(6, .long q10.1), (4, .long q9.1), (0, .ref 0), (1, .int x1), (2, .int x2), (3, .int x3)] [.int x2] (wMo cy Ms Mb Mq q11.1 My ML Mg MF MW MI MA Mr Ma Mp Mf Mt Ml Mo Mn Mm q11.2.1 q11.2.2 Mv Mx Mz) (by decide +kernel) rfl rfl ?_
                refine G_if_ne C (off := 7) (tgt := 131) (by decide +kernel) rfl (fun c => ?_) (fun c => ?_)
                · rw [if_neg c] at h
                  refine G_r C [(.aload_n 0, 1, 0, 0, .null), (.getfield 41, 3, 7, 13, .null), (.iload_n 2, 1, 0, 0, .null), (.iconst 1, 1, 0, 0, .int (1 : Int32)), (.isub, 1, 0, 0, .null)] 138 [(6, .long q10.1), (4, .long q9.1), (0, .ref 0), (1, .int x1), (2, .int x2), (3, .int x3)] [.int (x2 - (1 : Int32)), .ref 11] (wMo cy Ms Mb Mq q11.1 My ML Mg MF MW MI MA Mr Ma Mp Mf Mt Ml Mo Mn Mm q11.2.1 q11.2.2 Mv Mx Mz) (by decide +kernel) rfl rfl ?_
                  obtain ⟨cg, h⟩ := oob h
                  refine G_lald C (a := 11) rfl cg (by decide +kernel) ?_
                  refine G_r C [(.lstore 8, 2, 0, 0, .null), (.aload_n 0, 1, 0, 0, .null), (.iload_n 2, 1, 0, 0, .null), (.iconst 1, 1, 0, 0, .int (1 : Int32)), (.iadd, 1, 0, 0, .null)] 145 [(8, .long (q11.2.2 (x2 - (1 : Int32)).toNatClampNeg)), (6, .long q10.1), (4, .long q9.1), (0, .ref 0), (1, .int x1), (2, .int x2), (3, .int x3)] [.int (x2 + (1 : Int32)), .ref 0] (wMo cy Ms Mb Mq q11.1 My ML Mg MF MW MI MA Mr Ma Mp Mf Mt Ml Mo Mn Mm q11.2.1 q11.2.2 Mv Mx Mz) (by decide +kernel) rfl rfl ?_
                  obtain ⟨q12, hq12, h⟩ := obd h
                  refine G_c0 C lk_7_165 ⟨Nat.le_of_ble_eq_true rfl, Nat.le_of_ble_eq_true rfl⟩ (by decide +kernel) [] (c_X7_makePoly cy Ms Mb Mq q11.1 My ML Mg MF MW MI MA Mr Ma Mp Mf Mt Ml Mo Mn Mm q11.2.1 q11.2.2 Mv Mx Mz (x2 + (1 : Int32)) q12 hq12) rfl rfl (Nat.le_of_ble_eq_true rfl) ⟨rfl, rfl⟩ rfl ?_
                  refine G_r C [(.lload 8, 2, 0, 0, .null), (.lload 6, 2, 0, 0, .null), (.lmul, 1, 0, 0, .null), (.aload_n 0, 1, 0, 0, .null), (.getfield 41, 3, 7, 13, .null), (.iload_n 2, 1, 0, 0, .null)] 158 [(8, .long (q11.2.2 (x2 - (1 : Int32)).toNatClampNeg)), (6, .long q10.1), (4, .long q9.1), (0, .ref 0), (1, .int x1), (2, .int x2), (3, .int x3)] [.int x2, .ref 11, .long ((q11.2.2 (x2 - (1 : Int32)).toNatClampNeg) * q10.1)] (wMo cy Ms Mb Mq q12.1 My ML Mg MF MW MI MA Mr Ma Mp Mf Mt Ml Mo Mn Mm q12.2.1 q12.2.2 Mv Mx Mz) (by decide +kernel) rfl rfl ?_
                  obtain ⟨cg, h⟩ := oob h
                  refine G_lald C (a := 11) rfl cg (by decide +kernel) ?_
                  refine G_r C [(.lload 4, 2, 0, 0, .null), (.lmul, 1, 0, 0, .null), (.lsub, 1, 0, 0, .null), (.lload 4, 2, 0, 0, .null), (.lload 6, 2, 0, 0, .null), (.lmul, 1, 0, 0, .null), (.iload_n 3, 1, 0, 0, .null)] 169 [(8, .long (q11.2.2 (x2 - (1 : Int32)).toNatClampNeg)), (6, .long q10.1), (4, .long q9.1), (0, .ref 0), (1, .int x1), (2, .int x2), (3, .int x3)] [.int x3, .long (q9.1 * q10.1), .long (((q11.2.2 (x2 - (1 : Int32)).toNatClampNeg) * q10.1) - ((q12.2.2 x2.toNatClampNeg) * q9.1))] (wMo cy Ms Mb Mq q12.1 My ML Mg MF MW MI MA Mr Ma Mp Mf Mt Ml Mo Mn Mm q12.2.1 q12.2.2 Mv Mx Mz) (by decide +kernel) rfl rfl ?_
                  obtain ⟨q13, hq13, h⟩ := obd h
                  refine G_cS C lk_7_168 ⟨Nat.le_of_ble_eq_true rfl, Nat.le_of_ble_eq_true rfl⟩ (by decide +kernel) [.long q13] (c_X7_part cy (((q11.2.2 (x2 - (1 : Int32)).toNatClampNeg) * q10.1) - ((q12.2.2 x2.toNatClampNeg) * q9.1)) (q9.1 * q10.1) x3 q13 hq13) rfl rfl (Nat.le_of_ble_eq_true rfl) rfl ?_
                  have h := Option.some.inj h
                  subst h
                  exact G_lret C hR (by decide +kernel)
                · rw [if_pos c] at h
                  refine G_r C [(.lconst 0, 1, 0, 0, .long (0 : Int64))] 128 [(6, .long q10.1), (4, .long q9.1), (0, .ref 0), (1, .int x1), (2, .int x2), (3, .int x3)] [.long (0 : Int64)] (wMo cy Ms Mb Mq q11.1 My ML Mg MF MW MI MA Mr Ma Mp Mf Mt Ml Mo Mn Mm q11.2.1 q11.2.2 Mv Mx Mz) (by decide +kernel) rfl rfl ?_
                  refine G_goto C (off := 11) (tgt := 139) (by decide +kernel) rfl ?_
                  refine G_r C [(.lstore 8, 2, 0, 0, .null), (.aload_n 0, 1, 0, 0, .null), (.iload_n 2, 1, 0, 0, .null), (.iconst 1, 1, 0, 0, .int (1 : Int32)), (.iadd, 1, 0, 0, .null)] 145 [(8, .long (0 : Int64)), (6, .long q10.1), (4, .long q9.1), (0, .ref 0), (1, .int x1), (2, .int x2), (3, .int x3)] [.int (x2 + (1 : Int32)), .ref 0] (wMo cy Ms Mb Mq q11.1 My ML Mg MF MW MI MA Mr Ma Mp Mf Mt Ml Mo Mn Mm q11.2.1 q11.2.2 Mv Mx Mz) (by decide +kernel) rfl rfl ?_
                  obtain ⟨q14, hq14, h⟩ := obd h
                  refine G_c0 C lk_7_165 ⟨Nat.le_of_ble_eq_true rfl, Nat.le_of_ble_eq_true rfl⟩ (by decide +kernel) [] (c_X7_makePoly cy Ms Mb Mq q11.1 My ML Mg MF MW MI MA Mr Ma Mp Mf Mt Ml Mo Mn Mm q11.2.1 q11.2.2 Mv Mx Mz (x2 + (1 : Int32)) q14 hq14) rfl rfl (Nat.le_of_ble_eq_true rfl) ⟨rfl, rfl⟩ rfl ?_
                  refine G_r C [(.lload 8, 2, 0, 0, .null), (.lload 6, 2, 0, 0, .null), (.lmul, 1, 0, 0, .null), (.aload_n 0, 1, 0, 0, .null), (.getfield 41, 3, 7, 13, .null), (.iload_n 2, 1, 0, 0, .null)] 158 [(8, .long (0 : Int64)), (6, .long q10.1), (4, .long q9.1), (0, .ref 0), (1, .int x1), (2, .int x2), (3, .int x3)] [.int x2, .ref 11, .long ((0 : Int64) * q10.1)] (wMo cy Ms Mb Mq q14.1 My ML Mg MF MW MI MA Mr Ma Mp Mf Mt Ml Mo Mn Mm q14.2.1 q14.2.2 Mv Mx Mz) (by decide +kernel) rfl rfl ?_
                  obtain ⟨cg, h⟩ := oob h
                  refine G_lald C (a := 11) rfl cg (by decide +kernel) ?_
                  refine G_r C [(.lload 4, 2, 0, 0, .null), (.lmul, 1, 0, 0, .null), (.lsub, 1, 0, 0, .null), (.lload 4, 2, 0, 0, .null), (.lload 6, 2, 0, 0, .null), (.lmul, 1, 0, 0, .null), (.iload_n 3, 1, 0, 0, .null)] 169 [(8, .long (0 : Int64)), (6, .long q10.1), (4, .long q9.1), (0, .ref 0), (1, .int x1), (2, .int x2), (3, .int x3)] [.int x3, .long (q9.1 * q10.1), .long (((0 : Int64) * q10.1) - ((q14.2.2 x2.toNatClampNeg) * q9.1))] (wMo cy Ms Mb Mq q14.1 My ML Mg MF MW MI MA Mr Ma Mp Mf Mt Ml Mo Mn Mm q14.2.1 q14.2.2 Mv Mx Mz) (by decide +kernel) rfl rfl ?_
                  obtain ⟨q15, hq15, h⟩ := obd h
                  refine G_cS C lk_7_168 ⟨Nat.le_of_ble_eq_true rfl, Nat.le_of_ble_eq_true rfl⟩ (by decide +kernel) [.long q15] (c_X7_part cy (((0 : Int64) * q10.1) - ((q14.2.2 x2.toNatClampNeg) * q9.1)) (q9.1 * q10.1) x3 q15 hq15) rfl rfl (Nat.le_of_ble_eq_true rfl) rfl ?_
                  have h := Option.some.inj h
                  subst h
                  exact G_lret C hR (by decide +kernel)
              · rw [if_pos c] at h
                refine G_r C [(.lload 6, 2, 0, 0, .null), (.aload_n 0, 1, 0, 0, .null), (.iconst 0, 1, 0, 0, .int (0 : Int32)), (.iload_n 2, 1, 0, 0, .null), (.iconst 1, 1, 0, 0, .int (1 : Int32)), (.isub, 1, 0, 0, .null)] 104 [(6, .long q10.1), (4, .long q9.1), (0, .ref 0), (1, .int x1), (2, .int x2), (3, .int x3)] [.int (x2 - (1 : Int32)), .int (0 : Int32), .ref 0, .long q10.1] (wMo cy Ms Mb Mq MB My ML Mg MF MW MI MA Mr Ma Mp Mf Mt Ml Mo Mn Mm q10.2 MP Mv Mx Mz) (by decide +kernel) rfl rfl ?_
                obtain ⟨q16, hq16, h⟩ := obd h
                refine G_c0 C lk_7_146 ⟨Nat.le_of_ble_eq_true rfl, Nat.le_of_ble_eq_true rfl⟩ (by decide +kernel) [.long q16.1, .long q10.1] (c_X7_detOf cy Ms Mb Mq MB My ML Mg MF MW MI MA Mr Ma Mp Mf Mt Ml Mo Mn Mm q10.2 MP Mv Mx Mz (0 : Int32) (x2 - (1 : Int32)) q16 hq16) rfl rfl (Nat.le_of_ble_eq_true rfl) ⟨rfl, rfl⟩ rfl ?_
                refine G_r C [(.lmul, 1, 0, 0, .null), (.lload 4, 2, 0, 0, .null), (.lload 4, 2, 0, 0, .null), (.lmul, 1, 0, 0, .null), (.iload_n 3, 1, 0, 0, .null)] 114 [(6, .long q10.1), (4, .long q9.1), (0, .ref 0), (1, .int x1), (2, .int x2), (3, .int x3)] [.int x3, .long (q9.1 * q9.1), .long (q10.1 * q16.1)] (wMo cy Ms Mb Mq MB My ML Mg MF MW MI MA Mr Ma Mp Mf Mt Ml Mo Mn Mm q16.2 MP Mv Mx Mz) (by decide +kernel) rfl rfl ?_
                obtain ⟨q17, hq17, h⟩ := obd h
                refine G_cS C lk_7_168 ⟨Nat.le_of_ble_eq_true rfl, Nat.le_of_ble_eq_true rfl⟩ (by decide +kernel) [.long q17] (c_X7_part cy (q10.1 * q16.1) (q9.1 * q9.1) x3 q17 hq17) rfl rfl (Nat.le_of_ble_eq_true rfl) rfl ?_
                have h := Option.some.inj h
                subst h
                exact G_lret C hR (by decide +kernel)
            · rw [if_pos c] at h
              refine G_r C [(.aload_n 0, 1, 0, 0, .null)] 69 [(0, .ref 0), (1, .int x1), (2, .int x2), (3, .int x3)] [.ref 0] (wMo cy Ms Mb Mq MB My ML Mg MF MW MI MA Mr Ma Mp Mf Mt Ml Mo Mn Mm q8.2 MP Mv Mx Mz) (by decide +kernel) rfl rfl ?_
              obtain ⟨q18, hq18, h⟩ := obd h
              refine G_c0 C lk_7_87 ⟨Nat.le_of_ble_eq_true rfl, Nat.le_of_ble_eq_true rfl⟩ (by decide +kernel) [.int q18.1] (c_X7_no cy Ms Mb Mq MB My ML Mg MF MW MI MA Mr Ma Mp Mf Mt Ml Mo Mn Mm q8.2 MP Mv Mx Mz q18 hq18) rfl rfl (Nat.le_of_ble_eq_true rfl) ⟨rfl, rfl⟩ rfl ?_
              refine G_r C [(.i2l, 1, 0, 0, .null)] 73 [(0, .ref 0), (1, .int x1), (2, .int x2), (3, .int x3)] [.long q18.1.toInt64] (wMo cy Ms Mb Mq MB My ML Mg MF MW MI MA Mr Ma Mp q18.2 Mt Ml Mo Mn Mm q8.2 MP Mv Mx Mz) (by decide +kernel) rfl rfl ?_
              have h := Option.some.inj h
              subst h
              exact G_lret C hR (by decide +kernel)
        · rw [if_neg c] at h
          refine G_r C [(.aload_n 0, 1, 0, 0, .null), (.iload_n 2, 1, 0, 0, .null), (.iconst 1, 1, 0, 0, .int (1 : Int32)), (.isub, 1, 0, 0, .null)] 44 [(0, .ref 0), (1, .int x1), (2, .int x2), (3, .int x3)] [.int (x2 - (1 : Int32)), .ref 0] (wMo cy Ms Mb Mq MB My ML Mg MF MW MI MA Mr Ma Mp Mf Mt Ml Mo Mn Mm MT MP Mv Mx Mz) (by decide +kernel) rfl rfl ?_
          obtain ⟨q19, hq19, h⟩ := obd h
          refine G_c0 C lk_7_162 ⟨Nat.le_of_ble_eq_true rfl, Nat.le_of_ble_eq_true rfl⟩ (by decide +kernel) [.int (bI q19.1)] (c_X7_isPoly cy Ms Mb Mq MB My ML Mg MF MW MI MA Mr Ma Mp Mf Mt Ml Mo Mn Mm MT MP Mv Mx Mz (x2 - (1 : Int32)) q19 hq19) rfl rfl (Nat.le_of_ble_eq_true rfl) ⟨rfl, rfl⟩ rfl ?_
          refine G_if_eq C (off := 21) (tgt := 68) (by decide +kernel) rfl (fun c => ?_) (fun c => ?_)
          · rw [if_pos c] at h
            refine G_r C [(.aload_n 0, 1, 0, 0, .null)] 69 [(0, .ref 0), (1, .int x1), (2, .int x2), (3, .int x3)] [.ref 0] (wMo cy Ms Mb Mq MB My ML Mg MF MW MI MA Mr Ma Mp Mf Mt Ml Mo Mn Mm q19.2 MP Mv Mx Mz) (by decide +kernel) rfl rfl ?_
            obtain ⟨q20, hq20, h⟩ := obd h
            refine G_c0 C lk_7_87 ⟨Nat.le_of_ble_eq_true rfl, Nat.le_of_ble_eq_true rfl⟩ (by decide +kernel) [.int q20.1] (c_X7_no cy Ms Mb Mq MB My ML Mg MF MW MI MA Mr Ma Mp Mf Mt Ml Mo Mn Mm q19.2 MP Mv Mx Mz q20 hq20) rfl rfl (Nat.le_of_ble_eq_true rfl) ⟨rfl, rfl⟩ rfl ?_
            refine G_r C [(.i2l, 1, 0, 0, .null)] 73 [(0, .ref 0), (1, .int x1), (2, .int x2), (3, .int x3)] [.long q20.1.toInt64] (wMo cy Ms Mb Mq MB My ML Mg MF MW MI MA Mr Ma Mp q20.2 Mt Ml Mo Mn Mm q19.2 MP Mv Mx Mz) (by decide +kernel) rfl rfl ?_
            have h := Option.some.inj h
            subst h
            exact G_lret C hR (by decide +kernel)
          · rw [if_neg c] at h
            refine G_r C [(.aload_n 0, 1, 0, 0, .null), (.iload_n 2, 1, 0, 0, .null)] 52 [(0, .ref 0), (1, .int x1), (2, .int x2), (3, .int x3)] [.int x2, .ref 0] (wMo cy Ms Mb Mq MB My ML Mg MF MW MI MA Mr Ma Mp Mf Mt Ml Mo Mn Mm q19.2 MP Mv Mx Mz) (by decide +kernel) rfl rfl ?_
            obtain ⟨q21, hq21, h⟩ := obd h
            refine G_c0 C lk_7_162 ⟨Nat.le_of_ble_eq_true rfl, Nat.le_of_ble_eq_true rfl⟩ (by decide +kernel) [.int (bI q21.1)] (c_X7_isPoly cy Ms Mb Mq MB My ML Mg MF MW MI MA Mr Ma Mp Mf Mt Ml Mo Mn Mm q19.2 MP Mv Mx Mz x2 q21 hq21) rfl rfl (Nat.le_of_ble_eq_true rfl) ⟨rfl, rfl⟩ rfl ?_
            refine G_if_eq C (off := 13) (tgt := 68) (by decide +kernel) rfl (fun c => ?_) (fun c => ?_)
            · rw [if_pos c] at h
              refine G_r C [(.aload_n 0, 1, 0, 0, .null)] 69 [(0, .ref 0), (1, .int x1), (2, .int x2), (3, .int x3)] [.ref 0] (wMo cy Ms Mb Mq MB My ML Mg MF MW MI MA Mr Ma Mp Mf Mt Ml Mo Mn Mm q21.2 MP Mv Mx Mz) (by decide +kernel) rfl rfl ?_
              obtain ⟨q22, hq22, h⟩ := obd h
              refine G_c0 C lk_7_87 ⟨Nat.le_of_ble_eq_true rfl, Nat.le_of_ble_eq_true rfl⟩ (by decide +kernel) [.int q22.1] (c_X7_no cy Ms Mb Mq MB My ML Mg MF MW MI MA Mr Ma Mp Mf Mt Ml Mo Mn Mm q21.2 MP Mv Mx Mz q22 hq22) rfl rfl (Nat.le_of_ble_eq_true rfl) ⟨rfl, rfl⟩ rfl ?_
              refine G_r C [(.i2l, 1, 0, 0, .null)] 73 [(0, .ref 0), (1, .int x1), (2, .int x2), (3, .int x3)] [.long q22.1.toInt64] (wMo cy Ms Mb Mq MB My ML Mg MF MW MI MA Mr Ma Mp q22.2 Mt Ml Mo Mn Mm q21.2 MP Mv Mx Mz) (by decide +kernel) rfl rfl ?_
              have h := Option.some.inj h
              subst h
              exact G_lret C hR (by decide +kernel)
            · rw [if_neg c] at h
              refine G_r C [(.aload_n 0, 1, 0, 0, .null), (.iload_n 2, 1, 0, 0, .null), (.iconst 1, 1, 0, 0, .int (1 : Int32)), (.iadd, 1, 0, 0, .null)] 62 [(0, .ref 0), (1, .int x1), (2, .int x2), (3, .int x3)] [.int (x2 + (1 : Int32)), .ref 0] (wMo cy Ms Mb Mq MB My ML Mg MF MW MI MA Mr Ma Mp Mf Mt Ml Mo Mn Mm q21.2 MP Mv Mx Mz) (by decide +kernel) rfl rfl ?_
              obtain ⟨q23, hq23, h⟩ := obd h
              refine G_c0 C lk_7_162 ⟨Nat.le_of_ble_eq_true rfl, Nat.le_of_ble_eq_true rfl⟩ (by decide +kernel) [.int (bI q23.1)] (c_X7_isPoly cy Ms Mb Mq MB My ML Mg MF MW MI MA Mr Ma Mp Mf Mt Ml Mo Mn Mm q21.2 MP Mv Mx Mz (x2 + (1 : Int32)) q23 hq23) rfl rfl (Nat.le_of_ble_eq_true rfl) ⟨rfl, rfl⟩ rfl ?_
              refine G_if_ne C (off := 9) (tgt := 74) (by decide +kernel) rfl (fun c => ?_) (fun c => ?_)
              · rw [if_neg c] at h
                refine G_r C [(.aload_n 0, 1, 0, 0, .null), (.iconst 0, 1, 0, 0, .int (0 : Int32)), (.iload_n 2, 1, 0, 0, .null)] 77 [(0, .ref 0), (1, .int x1), (2, .int x2), (3, .int x3)] [.int x2, .int (0 : Int32), .ref 0] (wMo cy Ms Mb Mq MB My ML Mg MF MW MI MA Mr Ma Mp Mf Mt Ml Mo Mn Mm q23.2 MP Mv Mx Mz) (by decide +kernel) rfl rfl ?_
                obtain ⟨q24, hq24, h⟩ := obd h
                refine G_c0 C lk_7_146 ⟨Nat.le_of_ble_eq_true rfl, Nat.le_of_ble_eq_true rfl⟩ (by decide +kernel) [.long q24.1] (c_X7_detOf cy Ms Mb Mq MB My ML Mg MF MW MI MA Mr Ma Mp Mf Mt Ml Mo Mn Mm q23.2 MP Mv Mx Mz (0 : Int32) x2 q24 hq24) rfl rfl (Nat.le_of_ble_eq_true rfl) ⟨rfl, rfl⟩ rfl ?_
                refine G_r C [(.lstore 4, 2, 0, 0, .null), (.aload_n 0, 1, 0, 0, .null), (.iconst 0, 1, 0, 0, .int (0 : Int32)), (.iload_n 2, 1, 0, 0, .null), (.iconst 1, 1, 0, 0, .int (1 : Int32)), (.iadd, 1, 0, 0, .null)] 87 [(4, .long q24.1), (0, .ref 0), (1, .int x1), (2, .int x2), (3, .int x3)] [.int (x2 + (1 : Int32)), .int (0 : Int32), .ref 0] (wMo cy Ms Mb Mq MB My ML Mg MF MW MI MA Mr Ma Mp Mf Mt Ml Mo Mn Mm q24.2 MP Mv Mx Mz) (by decide +kernel) rfl rfl ?_
                obtain ⟨q25, hq25, h⟩ := obd h
                refine G_c0 C lk_7_146 ⟨Nat.le_of_ble_eq_true rfl, Nat.le_of_ble_eq_true rfl⟩ (by decide +kernel) [.long q25.1] (c_X7_detOf cy Ms Mb Mq MB My ML Mg MF MW MI MA Mr Ma Mp Mf Mt Ml Mo Mn Mm q24.2 MP Mv Mx Mz (0 : Int32) (x2 + (1 : Int32)) q25 hq25) rfl rfl (Nat.le_of_ble_eq_true rfl) ⟨rfl, rfl⟩ rfl ?_
                refine G_r C [(.lstore 6, 2, 0, 0, .null), (.iload_n 1, 1, 0, 0, .null), (.iconst 1, 1, 0, 0, .int (1 : Int32))] 94 [(6, .long q25.1), (4, .long q24.1), (0, .ref 0), (1, .int x1), (2, .int x2), (3, .int x3)] [.int (1 : Int32), .int x1] (wMo cy Ms Mb Mq MB My ML Mg MF MW MI MA Mr Ma Mp Mf Mt Ml Mo Mn Mm q25.2 MP Mv Mx Mz) (by decide +kernel) rfl rfl ?_
                refine G_icmp_ne C (off := 24) (tgt := 118) (by decide +kernel) rfl (fun c => ?_) (fun c => ?_)
                · rw [if_neg c] at h
                  refine G_r C [(.aload_n 0, 1, 0, 0, .null), (.iload_n 2, 1, 0, 0, .null)] 120 [(6, .long q25.1), (4, .long q24.1), (0, .ref 0), (1, .int x1), (2, .int x2), (3, .int x3)] [.int x2, .ref 0] (wMo cy Ms Mb Mq MB My ML Mg MF MW MI MA Mr Ma Mp Mf Mt Ml Mo Mn Mm q25.2 MP Mv Mx Mz) (by decide +kernel) rfl rfl ?_
                  obtain ⟨q26, hq26, h⟩ := obd h
                  refine G_c0 C lk_7_165 ⟨Nat.le_of_ble_eq_true rfl, Nat.le_of_ble_eq_true rfl⟩ (by decide +kernel) [] (c_X7_makePoly cy Ms Mb Mq MB My ML Mg MF MW MI MA Mr Ma Mp Mf Mt Ml Mo Mn Mm q25.2 MP Mv Mx Mz x2 q26 hq26) rfl rfl (Nat.le_of_ble_eq_true rfl) ⟨rfl, rfl⟩ rfl ?_
                  refine G_r C [(.iload_n 2, 1, 0, 0, .null)] 124 [(6, .long q25.1), (4, .long q24.1), (0, .ref 0), (1, .int x1), (2, .int x2), (3, .int x3)] [.int x2] (wMo cy Ms Mb Mq q26.1 My ML Mg MF MW MI MA Mr Ma Mp Mf Mt Ml Mo Mn Mm q26.2.1 q26.2.2 Mv Mx Mz) (by decide +kernel) rfl rfl ?_
                  refine G_if_ne C (off := 7) (tgt := 131) (by decide +kernel) rfl (fun c => ?_) (fun c => ?_)
                  · rw [if_neg c] at h
                    refine G_r C [(.aload_n 0, 1, 0, 0, .null), (.getfield 41, 3, 7, 13, .null), (.iload_n 2, 1, 0, 0, .null), (.iconst 1, 1, 0, 0, .int (1 : Int32)), (.isub, 1, 0, 0, .null)] 138 [(6, .long q25.1), (4, .long q24.1), (0, .ref 0), (1, .int x1), (2, .int x2), (3, .int x3)] [.int (x2 - (1 : Int32)), .ref 11] (wMo cy Ms Mb Mq q26.1 My ML Mg MF MW MI MA Mr Ma Mp Mf Mt Ml Mo Mn Mm q26.2.1 q26.2.2 Mv Mx Mz) (by decide +kernel) rfl rfl ?_
                    obtain ⟨cg, h⟩ := oob h
                    refine G_lald C (a := 11) rfl cg (by decide +kernel) ?_
                    refine G_r C [(.lstore 8, 2, 0, 0, .null), (.aload_n 0, 1, 0, 0, .null), (.iload_n 2, 1, 0, 0, .null), (.iconst 1, 1, 0, 0, .int (1 : Int32)), (.iadd, 1, 0, 0, .null)] 145 [(8, .long (q26.2.2 (x2 - (1 : Int32)).toNatClampNeg)), (6, .long q25.1), (4, .long q24.1), (0, .ref 0), (1, .int x1), (2, .int x2), (3, .int x3)] [.int (x2 + (1 : Int32)), .ref 0] (wMo cy Ms Mb Mq q26.1 My ML Mg MF MW MI MA Mr Ma Mp Mf Mt Ml Mo Mn Mm q26.2.1 q26.2.2 Mv Mx Mz) (by decide +kernel) rfl rfl ?_
                    obtain ⟨q27, hq27, h⟩ := obd h
                    refine G_c0 C lk_7_165 ⟨Nat.le_of_ble_eq_true rfl, Nat.le_of_ble_eq_true rfl⟩ (by decide +kernel) [] (c_X7_makePoly cy Ms Mb Mq q26.1 My ML Mg MF MW MI MA Mr Ma Mp Mf Mt Ml Mo Mn Mm q26.2.1 q26.2.2 Mv Mx Mz (x2 + (1 : Int32)) q27 hq27) rfl rfl (Nat.le_of_ble_eq_true rfl) ⟨rfl, rfl⟩ rfl ?_
                    refine G_r C [(.lload 8, 2, 0, 0, .null), (.lload 6, 2, 0, 0, .null), (.lmul, 1, 0, 0, .null), (.aload_n 0, 1, 0, 0, .null), (.getfield 41, 3, 7, 13, .null), (.iload_n 2, 1, 0, 0, .null)] 158 [(8, .long (q26.2.2 (x2 - (1 : Int32)).toNatClampNeg)), (6, .long q25.1), (4, .long q24.1), (0, .ref 0), (1, .int x1), (2, .int x2), (3, .int x3)] [.int x2, .ref 11, .long ((q26.2.2 (x2 - (1 : Int32)).toNatClampNeg) * q25.1)] (wMo cy Ms Mb Mq q27.1 My ML Mg MF MW MI MA Mr Ma Mp Mf Mt Ml Mo Mn Mm q27.2.1 q27.2.2 Mv Mx Mz) (by decide +kernel) rfl rfl ?_
                    obtain ⟨cg, h⟩ := oob h
                    refine G_lald C (a := 11) rfl cg (by decide +kernel) ?_
                    refine G_r C [(.lload 4, 2, 0, 0, .null), (.lmul, 1, 0, 0, .null), (.lsub, 1, 0, 0, .null), (.lload 4, 2, 0, 0, .null), (.lload 6, 2, 0, 0, .null), (.lmul, 1, 0, 0, .null), (.iload_n 3, 1, 0, 0, .null)] 169 [(8, .long (q26.2.2 (x2 - (1 : Int32)).toNatClampNeg)), (6, .long q25.1), (4, .long q24.1), (0, .ref 0), (1, .int x1), (2, .int x2), (3, .int x3)] [.int x3, .long (q24.1 * q25.1), .long (((q26.2.2 (x2 - (1 : Int32)).toNatClampNeg) * q25.1) - ((q27.2.2 x2.toNatClampNeg) * q24.1))] (wMo cy Ms Mb Mq q27.1 My ML Mg MF MW MI MA Mr Ma Mp Mf Mt Ml Mo Mn Mm q27.2.1 q27.2.2 Mv Mx Mz) (by decide +kernel) rfl rfl ?_
                    obtain ⟨q28, hq28, h⟩ := obd h
                    refine G_cS C lk_7_168 ⟨Nat.le_of_ble_eq_true rfl, Nat.le_of_ble_eq_true rfl⟩ (by decide +kernel) [.long q28] (c_X7_part cy (((q26.2.2 (x2 - (1 : Int32)).toNatClampNeg) * q25.1) - ((q27.2.2 x2.toNatClampNeg) * q24.1)) (q24.1 * q25.1) x3 q28 hq28) rfl rfl (Nat.le_of_ble_eq_true rfl) rfl ?_
                    have h := Option.some.inj h
                    subst h
                    exact G_lret C hR (by decide +kernel)
                  · rw [if_pos c] at h
                    refine G_r C [(.lconst 0, 1, 0, 0, .long (0 : Int64))] 128 [(6, .long q25.1), (4, .long q24.1), (0, .ref 0), (1, .int x1), (2, .int x2), (3, .int x3)] [.long (0 : Int64)] (wMo cy Ms Mb Mq q26.1 My ML Mg MF MW MI MA Mr Ma Mp Mf Mt Ml Mo Mn Mm q26.2.1 q26.2.2 Mv Mx Mz) (by decide +kernel) rfl rfl ?_
                    refine G_goto C (off := 11) (tgt := 139) (by decide +kernel) rfl ?_
                    refine G_r C [(.lstore 8, 2, 0, 0, .null), (.aload_n 0, 1, 0, 0, .null), (.iload_n 2, 1, 0, 0, .null), (.iconst 1, 1, 0, 0, .int (1 : Int32)), (.iadd, 1, 0, 0, .null)] 145 [(8, .long (0 : Int64)), (6, .long q25.1), (4, .long q24.1), (0, .ref 0), (1, .int x1), (2, .int x2), (3, .int x3)] [.int (x2 + (1 : Int32)), .ref 0] (wMo cy Ms Mb Mq q26.1 My ML Mg MF MW MI MA Mr Ma Mp Mf Mt Ml Mo Mn Mm q26.2.1 q26.2.2 Mv Mx Mz) (by decide +kernel) rfl rfl ?_
                    obtain ⟨q29, hq29, h⟩ := obd h
                    refine G_c0 C lk_7_165 ⟨Nat.le_of_ble_eq_true rfl, Nat.le_of_ble_eq_true rfl⟩ (by decide +kernel) [] (c_X7_makePoly cy Ms Mb Mq q26.1 My ML Mg MF MW MI MA Mr Ma Mp Mf Mt Ml Mo Mn Mm q26.2.1 q26.2.2 Mv Mx Mz (x2 + (1 : Int32)) q29 hq29) rfl rfl (Nat.le_of_ble_eq_true rfl) ⟨rfl, rfl⟩ rfl ?_
                    refine G_r C [(.lload 8, 2, 0, 0, .null), (.lload 6, 2, 0, 0, .null), (.lmul, 1, 0, 0, .null), (.aload_n 0, 1, 0, 0, .null), (.getfield 41, 3, 7, 13, .null), (.iload_n 2, 1, 0, 0, .null)] 158 [(8, .long (0 : Int64)), (6, .long q25.1), (4, .long q24.1), (0, .ref 0), (1, .int x1), (2, .int x2), (3, .int x3)] [.int x2, .ref 11, .long ((0 : Int64) * q25.1)] (wMo cy Ms Mb Mq q29.1 My ML Mg MF MW MI MA Mr Ma Mp Mf Mt Ml Mo Mn Mm q29.2.1 q29.2.2 Mv Mx Mz) (by decide +kernel) rfl rfl ?_
                    obtain ⟨cg, h⟩ := oob h
                    refine G_lald C (a := 11) rfl cg (by decide +kernel) ?_
                    refine G_r C [(.lload 4, 2, 0, 0, .null), (.lmul, 1, 0, 0, .null), (.lsub, 1, 0, 0, .null), (.lload 4, 2, 0, 0, .null), (.lload 6, 2, 0, 0, .null), (.lmul, 1, 0, 0, .null), (.iload_n 3, 1, 0, 0, .null)] 169 [(8, .long (0 : Int64)), (6, .long q25.1), (4, .long q24.1), (0, .ref 0), (1, .int x1), (2, .int x2), (3, .int x3)] [.int x3, .long (q24.1 * q25.1), .long (((0 : Int64) * q25.1) - ((q29.2.2 x2.toNatClampNeg) * q24.1))] (wMo cy Ms Mb Mq q29.1 My ML Mg MF MW MI MA Mr Ma Mp Mf Mt Ml Mo Mn Mm q29.2.1 q29.2.2 Mv Mx Mz) (by decide +kernel) rfl rfl ?_
                    obtain ⟨q30, hq30, h⟩ := obd h
                    refine G_cS C lk_7_168 ⟨Nat.le_of_ble_eq_true rfl, Nat.le_of_ble_eq_true rfl⟩ (by decide +kernel) [.long q30] (c_X7_part cy (((0 : Int64) * q25.1) - ((q29.2.2 x2.toNatClampNeg) * q24.1)) (q24.1 * q25.1) x3 q30 hq30) rfl rfl (Nat.le_of_ble_eq_true rfl) rfl ?_
                    have h := Option.some.inj h
                    subst h
                    exact G_lret C hR (by decide +kernel)
                · rw [if_pos c] at h
                  refine G_r C [(.lload 6, 2, 0, 0, .null), (.aload_n 0, 1, 0, 0, .null), (.iconst 0, 1, 0, 0, .int (0 : Int32)), (.iload_n 2, 1, 0, 0, .null), (.iconst 1, 1, 0, 0, .int (1 : Int32)), (.isub, 1, 0, 0, .null)] 104 [(6, .long q25.1), (4, .long q24.1), (0, .ref 0), (1, .int x1), (2, .int x2), (3, .int x3)] [.int (x2 - (1 : Int32)), .int (0 : Int32), .ref 0, .long q25.1] (wMo cy Ms Mb Mq MB My ML Mg MF MW MI MA Mr Ma Mp Mf Mt Ml Mo Mn Mm q25.2 MP Mv Mx Mz) (by decide +kernel) rfl rfl ?_
                  obtain ⟨q31, hq31, h⟩ := obd h
                  refine G_c0 C lk_7_146 ⟨Nat.le_of_ble_eq_true rfl, Nat.le_of_ble_eq_true rfl⟩ (by decide +kernel) [.long q31.1, .long q25.1] (c_X7_detOf cy Ms Mb Mq MB My ML Mg MF MW MI MA Mr Ma Mp Mf Mt Ml Mo Mn Mm q25.2 MP Mv Mx Mz (0 : Int32) (x2 - (1 : Int32)) q31 hq31) rfl rfl (Nat.le_of_ble_eq_true rfl) ⟨rfl, rfl⟩ rfl ?_
                  refine G_r C [(.lmul, 1, 0, 0, .null), (.lload 4, 2, 0, 0, .null), (.lload 4, 2, 0, 0, .null), (.lmul, 1, 0, 0, .null), (.iload_n 3, 1, 0, 0, .null)] 114 [(6, .long q25.1), (4, .long q24.1), (0, .ref 0), (1, .int x1), (2, .int x2), (3, .int x3)] [.int x3, .long (q24.1 * q24.1), .long (q25.1 * q31.1)] (wMo cy Ms Mb Mq MB My ML Mg MF MW MI MA Mr Ma Mp Mf Mt Ml Mo Mn Mm q31.2 MP Mv Mx Mz) (by decide +kernel) rfl rfl ?_
                  obtain ⟨q32, hq32, h⟩ := obd h
                  refine G_cS C lk_7_168 ⟨Nat.le_of_ble_eq_true rfl, Nat.le_of_ble_eq_true rfl⟩ (by decide +kernel) [.long q32] (c_X7_part cy (q25.1 * q31.1) (q24.1 * q24.1) x3 q32 hq32) rfl rfl (Nat.le_of_ble_eq_true rfl) rfl ?_
                  have h := Option.some.inj h
                  subst h
                  exact G_lret C hR (by decide +kernel)
              · rw [if_pos c] at h
                refine G_r C [(.aload_n 0, 1, 0, 0, .null)] 69 [(0, .ref 0), (1, .int x1), (2, .int x2), (3, .int x3)] [.ref 0] (wMo cy Ms Mb Mq MB My ML Mg MF MW MI MA Mr Ma Mp Mf Mt Ml Mo Mn Mm q23.2 MP Mv Mx Mz) (by decide +kernel) rfl rfl ?_
                obtain ⟨q33, hq33, h⟩ := obd h
                refine G_c0 C lk_7_87 ⟨Nat.le_of_ble_eq_true rfl, Nat.le_of_ble_eq_true rfl⟩ (by decide +kernel) [.int q33.1] (c_X7_no cy Ms Mb Mq MB My ML Mg MF MW MI MA Mr Ma Mp Mf Mt Ml Mo Mn Mm q23.2 MP Mv Mx Mz q33 hq33) rfl rfl (Nat.le_of_ble_eq_true rfl) ⟨rfl, rfl⟩ rfl ?_
                refine G_r C [(.i2l, 1, 0, 0, .null)] 73 [(0, .ref 0), (1, .int x1), (2, .int x2), (3, .int x3)] [.long q33.1.toInt64] (wMo cy Ms Mb Mq MB My ML Mg MF MW MI MA Mr Ma Mp q33.2 Mt Ml Mo Mn Mm q23.2 MP Mv Mx Mz) (by decide +kernel) rfl rfl ?_
                have h := Option.some.inj h
                subst h
                exact G_lret C hR (by decide +kernel)
      · rw [if_pos c] at h
        refine G_r C [(.aload_n 0, 1, 0, 0, .null)] 31 [(0, .ref 0), (1, .int x1), (2, .int x2), (3, .int x3)] [.ref 0] (wMo cy Ms Mb Mq MB My ML Mg MF MW MI MA Mr Ma Mp Mf Mt Ml Mo Mn Mm MT MP Mv Mx Mz) (by decide +kernel) rfl rfl ?_
        obtain ⟨q34, hq34, h⟩ := obd h
        refine G_c0 C lk_7_72 ⟨Nat.le_of_ble_eq_true rfl, Nat.le_of_ble_eq_true rfl⟩ (by decide +kernel) [.int q34.1] (c_X7_bad cy Ms Mb Mq MB My ML Mg MF MW MI MA Mr Ma Mp Mf Mt Ml Mo Mn Mm MT MP Mv Mx Mz q34 hq34) rfl rfl (Nat.le_of_ble_eq_true rfl) ⟨rfl, rfl⟩ rfl ?_
        refine G_r C [(.i2l, 1, 0, 0, .null)] 35 [(0, .ref 0), (1, .int x1), (2, .int x2), (3, .int x3)] [.long q34.1.toInt64] (wMo cy Ms Mb Mq MB My ML Mg MF MW MI MA Mr Ma Mp q34.2 Mt Ml Mo Mn Mm MT MP Mv Mx Mz) (by decide +kernel) rfl rfl ?_
        have h := Option.some.inj h
        subst h
        exact G_lret C hR (by decide +kernel)
def f_X7_meanWith_L5 : Nat → Int32 → Int32 → Int64 → Int32 → (Nat → Int32) → (Nat → Int64) → Option Int64
  | 0, _, _, _, _, _, _ => none
  | fu + 1, x1, x2, x3, x5, Mr, MP => if x1 < x5 then (some x3) else (if x5 < 0 ∨ 4 ≤ x5.toNatClampNeg then none else if (x5 + x2) < 0 ∨ 8 ≤ (x5 + x2).toNatClampNeg then none else f_X7_meanWith_L5 fu x1 x2 (x3 + ((MP x5.toNatClampNeg) * ((Mr (x5 + x2).toNatClampNeg).toInt64))) (x5 + (1 : Int32)) Mr MP)
def f_X7_meanWith (x1 : Int32) (x2 : Int32) (Mr : Nat → Int32) (MP : Nat → Int64) : Option Int64 := (f_X7_meanWith_L5 200 x1 x2 (0 : Int64) (0 : Int32) Mr MP).bind fun q1 => some q1
set_option maxHeartbeats 4000000 in
set_option maxRecDepth 100000 in
theorem g_X7_meanWith_L5 {k : KX} {cy : Nat → ClassId} (C : OK k cX7_meanWith 7 6 cy 0 0) : ∀ (fu : Nat) (x1 : Int32) (x2 : Int32) (x3 : Int64) (x5 : Int32) (Ms : Int32) (Mb : Int32) (Mq : Int32) (MB : Int64) (My : Int32) (ML : Int32) (Mg : Int32) (MF : Int32) (MW : Bool) (MI : Bool) (MA : Int32) (Mr : Nat → Int32) (Ma : Nat → Int32) (Mp : Nat → Int32) (Mf : Nat → Int32) (Mt : Nat → Int32) (Ml : Nat → Int32) (Mo : Nat → Int32) (Mn : Nat → Int32) (Mm : Nat → Int64) (MT : Nat → Int64) (MP : Nat → Int64) (Mv : Nat → Int32) (Mx : Nat → Int64) (Mz : Nat → Int64) (res : Int64), (f_X7_meanWith_L5 fu x1 x2 x3 x5 Mr MP = some res) → G k 6 38 [(3, .long res)] [] (wMo cy Ms Mb Mq MB My ML Mg MF MW MI MA Mr Ma Mp Mf Mt Ml Mo Mn Mm MT MP Mv Mx Mz) → G k 6 5 [(0, .ref 0), (1, .int x1), (2, .int x2), (3, .long x3), (5, .int x5)] [] (wMo cy Ms Mb Mq MB My ML Mg MF MW MI MA Mr Ma Mp Mf Mt Ml Mo Mn Mm MT MP Mv Mx Mz) := by
  intro fu
  induction fu with
  | zero =>
    intro x1 x2 x3 x5 Ms Mb Mq MB My ML Mg MF MW MI MA Mr Ma Mp Mf Mt Ml Mo Mn Mm MT MP Mv Mx Mz res h hex
    rw [f_X7_meanWith_L5] at h
    cases h
  | succ fu ih =>
    intro x1 x2 x3 x5 Ms Mb Mq MB My ML Mg MF MW MI MA Mr Ma Mp Mf Mt Ml Mo Mn Mm MT MP Mv Mx Mz res h hex
    rw [f_X7_meanWith_L5] at h
    refine G_r C [(.iload 5, 2, 0, 0, .null), (.iload_n 1, 1, 0, 0, .null)] 8 [(0, .ref 0), (1, .int x1), (2, .int x2), (3, .long x3), (5, .int x5)] [.int x1, .int x5] (wMo cy Ms Mb Mq MB My ML Mg MF MW MI MA Mr Ma Mp Mf Mt Ml Mo Mn Mm MT MP Mv Mx Mz) (by decide +kernel) rfl rfl ?_
    refine G_icmp_gt C (off := 30) (tgt := 38) (by decide +kernel) rfl (fun c => ?_) (fun c => ?_)
    · rw [if_pos c] at h
      have h := Option.some.inj h
      subst h
      refine G_lv [3] (lv' := [(3, .long x3)]) rfl ?_
      exact hex
    · rw [if_neg c] at h
      refine G_r C [(.lload_n 3, 1, 0, 0, .null), (.aload_n 0, 1, 0, 0, .null), (.getfield 41, 3, 7, 13, .null), (.iload 5, 2, 0, 0, .null)] 18 [(0, .ref 0), (1, .int x1), (2, .int x2), (3, .long x3), (5, .int x5)] [.int x5, .ref 11, .long x3] (wMo cy Ms Mb Mq MB My ML Mg MF MW MI MA Mr Ma Mp Mf Mt Ml Mo Mn Mm MT MP Mv Mx Mz) (by decide +kernel) rfl rfl ?_
      obtain ⟨cg, h⟩ := oob h
      refine G_lald C (a := 11) rfl cg (by decide +kernel) ?_
      refine G_r C [(.aload_n 0, 1, 0, 0, .null), (.getfield 7, 3, 7, 0, .null), (.iload 5, 2, 0, 0, .null), (.iload_n 2, 1, 0, 0, .null), (.iadd, 1, 0, 0, .null)] 27 [(0, .ref 0), (1, .int x1), (2, .int x2), (3, .long x3), (5, .int x5)] [.int (x5 + x2), .ref 1, .long (MP x5.toNatClampNeg), .long x3] (wMo cy Ms Mb Mq MB My ML Mg MF MW MI MA Mr Ma Mp Mf Mt Ml Mo Mn Mm MT MP Mv Mx Mz) (by decide +kernel) rfl rfl ?_
      obtain ⟨cg, h⟩ := oob h
      refine G_iald C (a := 1) rfl cg (by decide +kernel) ?_
      refine G_r C [(.i2l, 1, 0, 0, .null), (.lmul, 1, 0, 0, .null), (.ladd, 1, 0, 0, .null), (.lstore_n 3, 1, 0, 0, .null), (.iinc 5 1, 3, 0, 0, .int (1 : Int32))] 35 [(5, .int (x5 + (1 : Int32))), (3, .long (x3 + ((MP x5.toNatClampNeg) * ((Mr (x5 + x2).toNatClampNeg).toInt64)))), (0, .ref 0), (1, .int x1), (2, .int x2)] [] (wMo cy Ms Mb Mq MB My ML Mg MF MW MI MA Mr Ma Mp Mf Mt Ml Mo Mn Mm MT MP Mv Mx Mz) (by decide +kernel) rfl rfl ?_
      refine G_goto C (off := -30) (tgt := 5) (by decide +kernel) rfl ?_
      refine G_lv [2, 3, 4, 1, 0] (lv' := [(0, .ref 0), (1, .int x1), (2, .int x2), (3, .long (x3 + ((MP x5.toNatClampNeg) * ((Mr (x5 + x2).toNatClampNeg).toInt64)))), (5, .int (x5 + (1 : Int32)))]) rfl ?_
      exact ih x1 x2 (x3 + ((MP x5.toNatClampNeg) * ((Mr (x5 + x2).toNatClampNeg).toInt64))) (x5 + (1 : Int32)) Ms Mb Mq MB My ML Mg MF MW MI MA Mr Ma Mp Mf Mt Ml Mo Mn Mm MT MP Mv Mx Mz res h hex
set_option maxHeartbeats 4000000 in
set_option maxRecDepth 100000 in
theorem c_X7_meanWith (cy : Nat → ClassId) (Ms : Int32) (Mb : Int32) (Mq : Int32) (MB : Int64) (My : Int32) (ML : Int32) (Mg : Int32) (MF : Int32) (MW : Bool) (MI : Bool) (MA : Int32) (Mr : Nat → Int32) (Ma : Nat → Int32) (Mp : Nat → Int32) (Mf : Nat → Int32) (Mt : Nat → Int32) (Ml : Nat → Int32) (Mo : Nat → Int32) (Mn : Nat → Int32) (Mm : Nat → Int64) (MT : Nat → Int64) (MP : Nat → Int64) (Mv : Nat → Int32) (Mx : Nat → Int64) (Mz : Nat → Int64) (x1 : Int32) (x2 : Int32) (res : Int64) (h : f_X7_meanWith x1 x2 Mr MP = some res) : MG cy yX7_meanWith cX7_meanWith 6 (some .long) 0 0 [.ref 0, .int x1, .int x2] (wMo cy Ms Mb Mq MB My ML Mg MF MW MI MA Mr Ma Mp Mf Mt Ml Mo Mn Mm MT MP Mv Mx Mz) (some (.long res)) (wMo cy Ms Mb Mq MB My ML Mg MF MW MI MA Mr Ma Mp Mf Mt Ml Mo Mn Mm MT MP Mv Mx Mz) := by
  refine MG_of (o := 7) (lv := [(0, .ref 0), (1, .int x1), (2, .int x2)]) ⟨by decide +kernel, rfl⟩ (Nat.le_of_ble_eq_true rfl) rfl (fun k C hR => ?_)
  rw [f_X7_meanWith] at h
  refine G_r C [(.lconst 0, 1, 0, 0, .long (0 : Int64)), (.lstore_n 3, 1, 0, 0, .null), (.iconst 0, 1, 0, 0, .int (0 : Int32)), (.istore 5, 2, 0, 0, .null)] 5 [(5, .int (0 : Int32)), (3, .long (0 : Int64)), (0, .ref 0), (1, .int x1), (2, .int x2)] [] (wMo cy Ms Mb Mq MB My ML Mg MF MW MI MA Mr Ma Mp Mf Mt Ml Mo Mn Mm MT MP Mv Mx Mz) (by decide +kernel) rfl rfl ?_
  obtain ⟨q1, hq1, h⟩ := obd h
  refine G_lv [2, 3, 4, 1, 0] (lv' := [(0, .ref 0), (1, .int x1), (2, .int x2), (3, .long (0 : Int64)), (5, .int (0 : Int32))]) rfl ?_
  refine g_X7_meanWith_L5 C 200 x1 x2 (0 : Int64) (0 : Int32) Ms Mb Mq MB My ML Mg MF MW MI MA Mr Ma Mp Mf Mt Ml Mo Mn Mm MT MP Mv Mx Mz q1 hq1 ?_
  refine G_r C [(.lload_n 3, 1, 0, 0, .null)] 39 [(3, .long q1)] [.long q1] (wMo cy Ms Mb Mq MB My ML Mg MF MW MI MA Mr Ma Mp Mf Mt Ml Mo Mn Mm MT MP Mv Mx Mz) (by decide +kernel) rfl rfl ?_
  have h := Option.some.inj h
  subst h
  exact G_lret C hR (by decide +kernel)
