def f_X7_fraction_L108 : Nat → Int32 → Int32 → Int32 → Int64 → Int32 → Int32 → (Nat → Int32) → (Nat → Int64) → Option Int64
  | 0, _, _, _, _, _, _, _, _ => none
  | fu + 1, x1, x2, x3, x7, x9, x10, Mr, MP => if x9 ≤ x10 then (some x7) else (if x9 < 0 ∨ 4 ≤ x9.toNatClampNeg then none else (f_X7_power x2.toInt64 x10).bind fun q11 => (f_X7_power x3.toInt64 (x1 - x10)).bind fun q12 => if ((x9 - (1 : Int32)) - x10) < 0 ∨ 8 ≤ ((x9 - (1 : Int32)) - x10).toNatClampNeg then none else (some (x7 + ((((MP x9.toNatClampNeg) * q11) * q12) * ((Mr ((x9 - (1 : Int32)) - x10).toNatClampNeg).toInt64)))).bind fun (q13 : Int64) => f_X7_fraction_L108 fu x1 x2 x3 q13 x9 (x10 + (1 : Int32)) Mr MP)
def f_X7_fraction_L99 : Nat → Int32 → Int32 → Int32 → Int64 → Int32 → (Nat → Int32) → (Nat → Int64) → Option Int64
  | 0, _, _, _, _, _, _, _ => none
  | fu + 1, x1, x2, x3, x7, x9, Mr, MP => if x1 < x9 then (some x7) else ((f_X7_fraction_L108 200 x1 x2 x3 x7 x9 (0 : Int32) Mr MP).bind fun q14 => f_X7_fraction_L99 fu x1 x2 x3 q14 (x9 + (1 : Int32)) Mr MP)
def f_X7_fraction (x1 : Int32) (x2 : Int32) (x3 : Int32) (x4 : Int32) (MB : Int64) (Mr : Nat → Int32) (Mf : Nat → Int32) (MT : Nat → Int64) (MP : Nat → Int64) : Option (Int64 × Int64 × (Nat → Int32) × (Nat → Int64) × (Nat → Int64)) := (f_X7_in x1.toInt64 (1 : Int64) (3 : Int64)).bind fun q1 => if (bI q1) = 0 then ((f_X7_bad Mf).bind fun q2 => some (q2.1.toInt64, MB, q2.2, MT, MP)) else ((f_X7_in x2.toInt64 (-20 : Int64) (20 : Int64)).bind fun q3 => if (bI q3) = 0 then ((f_X7_bad Mf).bind fun q4 => some (q4.1.toInt64, MB, q4.2, MT, MP)) else ((f_X7_in x3.toInt64 (1 : Int64) (4 : Int64)).bind fun q5 => if (bI q5) = 0 then ((f_X7_bad Mf).bind fun q6 => some (q6.1.toInt64, MB, q6.2, MT, MP)) else ((f_X7_isPart x4).bind fun q7 => if (bI q7) = 0 then ((f_X7_bad Mf).bind fun q19 => some (q19.1.toInt64, MB, q19.2, MT, MP)) else ((f_X7_isPoly x1 Mr MT).bind fun q8 => if (bI q8.1) = 0 then ((f_X7_no Mf).bind fun q18 => some (q18.1.toInt64, MB, q18.2, q8.2, MP)) else ((f_X7_makePoly x1 Mr q8.2 MP).bind fun q9 => (f_X7_polyAt x1 x2 x3 q9.2.2).bind fun q10 => if q10 = (0 : Int64) then ((f_X7_no Mf).bind fun q17 => some (q17.1.toInt64, q9.1, q17.2, q9.2.1, q9.2.2)) else ((f_X7_fraction_L99 200 x1 x2 x3 (0 : Int64) (1 : Int32) Mr q9.2.2).bind fun q15 => (f_X7_part q15 q10 x4).bind fun q16 => some (q16, q9.1, Mf, q9.2.1, q9.2.2)))))))
set_option maxHeartbeats 4000000 in
set_option maxRecDepth 100000 in
theorem g_X7_fraction_L108 {k : KX} {cy : Nat → ClassId} (C : OK k cX7_fraction 7 11 cy 3 78) : ∀ (fu : Nat) (x1 : Int32) (x2 : Int32) (x3 : Int32) (x4 : Int32) (x5 : Int64) (x7 : Int64) (x9 : Int32) (x10 : Int32) (Ms : Int32) (Mb : Int32) (Mq : Int32) (MB : Int64) (My : Int32) (ML : Int32) (Mg : Int32) (MF : Int32) (MW : Bool) (MI : Bool) (MA : Int32) (Mr : Nat → Int32) (Ma : Nat → Int32) (Mp : Nat → Int32) (Mf : Nat → Int32) (Mt : Nat → Int32) (Ml : Nat → Int32) (Mo : Nat → Int32) (Mn : Nat → Int32) (Mm : Nat → Int64) (MT : Nat → Int64) (MP : Nat → Int64) (Mv : Nat → Int32) (Mx : Nat → Int64) (Mz : Nat → Int64) (res : Int64), (f_X7_fraction_L108 fu x1 x2 x3 x7 x9 x10 Mr MP = some res) → G k 11 165 [(0, .ref 0), (1, .int x1), (2, .int x2), (3, .int x3), (4, .int x4), (5, .long x5), (7, .long res), (9, .int x9)] [] (wMo cy Ms Mb Mq MB My ML Mg MF MW MI MA Mr Ma Mp Mf Mt Ml Mo Mn Mm MT MP Mv Mx Mz) → G k 11 108 [(0, .ref 0), (1, .int x1), (2, .int x2), (3, .int x3), (4, .int x4), (5, .long x5), (7, .long x7), (9, .int x9), (10, .int x10)] [] (wMo cy Ms Mb Mq MB My ML Mg MF MW MI MA Mr Ma Mp Mf Mt Ml Mo Mn Mm MT MP Mv Mx Mz) := by
  intro fu
  induction fu with
  | zero =>
    intro x1 x2 x3 x4 x5 x7 x9 x10 Ms Mb Mq MB My ML Mg MF MW MI MA Mr Ma Mp Mf Mt Ml Mo Mn Mm MT MP Mv Mx Mz res h hex
    rw [f_X7_fraction_L108] at h
    cases h
  | succ fu ih =>
    intro x1 x2 x3 x4 x5 x7 x9 x10 Ms Mb Mq MB My ML Mg MF MW MI MA Mr Ma Mp Mf Mt Ml Mo Mn Mm MT MP Mv Mx Mz res h hex
    rw [f_X7_fraction_L108] at h
    refine G_r C [(.iload 10, 2, 0, 0, .null), (.iload 9, 2, 0, 0, .null)] 112 [(0, .ref 0), (1, .int x1), (2, .int x2), (3, .int x3), (4, .int x4), (5, .long x5), (7, .long x7), (9, .int x9), (10, .int x10)] [.int x9, .int x10] (wMo cy Ms Mb Mq MB My ML Mg MF MW MI MA Mr Ma Mp Mf Mt Ml Mo Mn Mm MT MP Mv Mx Mz) (by decide +kernel) rfl rfl ?_
    refine G_icmp_ge C (off := 53) (tgt := 165) (by decide +kernel) rfl (fun c => ?_) (fun c => ?_)
    · rw [if_pos c] at h
      have h := Option.some.inj h
      subst h
      refine G_lv [0, 1, 2, 3, 4, 5, 6, 7] (lv' := [(0, .ref 0), (1, .int x1), (2, .int x2), (3, .int x3), (4, .int x4), (5, .long x5), (7, .long x7), (9, .int x9)]) rfl ?_
      exact hex
    · rw [if_neg c] at h
      refine G_r C [(.lload 7, 2, 0, 0, .null), (.aload_n 0, 1, 0, 0, .null), (.getfield 41, 3, 7, 13, .null), (.iload 9, 2, 0, 0, .null)] 123 [(0, .ref 0), (1, .int x1), (2, .int x2), (3, .int x3), (4, .int x4), (5, .long x5), (7, .long x7), (9, .int x9), (10, .int x10)] [.int x9, .ref 11, .long x7] (wMo cy Ms Mb Mq MB My ML Mg MF MW MI MA Mr Ma Mp Mf Mt Ml Mo Mn Mm MT MP Mv Mx Mz) (by decide +kernel) rfl rfl ?_
      obtain ⟨cg, h⟩ := oob h
      refine G_lald C (a := 11) rfl cg (by decide +kernel) ?_
      refine G_r C [(.iload_n 2, 1, 0, 0, .null), (.i2l, 1, 0, 0, .null), (.iload 10, 2, 0, 0, .null)] 128 [(0, .ref 0), (1, .int x1), (2, .int x2), (3, .int x3), (4, .int x4), (5, .long x5), (7, .long x7), (9, .int x9), (10, .int x10)] [.int x10, .long x2.toInt64, .long (MP x9.toNatClampNeg), .long x7] (wMo cy Ms Mb Mq MB My ML Mg MF MW MI MA Mr Ma Mp Mf Mt Ml Mo Mn Mm MT MP Mv Mx Mz) (by decide +kernel) rfl rfl ?_
      obtain ⟨q11, hq11, h⟩ := obd h
      refine G_cS C lk_7_93 ⟨Nat.le_of_ble_eq_true rfl, Nat.le_of_ble_eq_true rfl⟩ (by decide +kernel) [.long q11, .long (MP x9.toNatClampNeg), .long x7] (c_X7_power cy x2.toInt64 x10 q11 hq11) rfl rfl (Nat.le_of_ble_eq_true rfl) rfl ?_
      refine G_r C [(.lmul, 1, 0, 0, .null), (.iload_n 3, 1, 0, 0, .null), (.i2l, 1, 0, 0, .null), (.iload_n 1, 1, 0, 0, .null), (.iload 10, 2, 0, 0, .null), (.isub, 1, 0, 0, .null)] 138 [(0, .ref 0), (1, .int x1), (2, .int x2), (3, .int x3), (4, .int x4), (5, .long x5), (7, .long x7), (9, .int x9), (10, .int x10)] [.int (x1 - x10), .long x3.toInt64, .long ((MP x9.toNatClampNeg) * q11), .long x7] (wMo cy Ms Mb Mq MB My ML Mg MF MW MI MA Mr Ma Mp Mf Mt Ml Mo Mn Mm MT MP Mv Mx Mz) (by decide +kernel) rfl rfl ?_
      obtain ⟨q12, hq12, h⟩ := obd h
      refine G_cS C lk_7_93 ⟨Nat.le_of_ble_eq_true rfl, Nat.le_of_ble_eq_true rfl⟩ (by decide +kernel) [.long q12, .long ((MP x9.toNatClampNeg) * q11), .long x7] (c_X7_power cy x3.toInt64 (x1 - x10) q12 hq12) rfl rfl (Nat.le_of_ble_eq_true rfl) rfl ?_
      refine G_r C [(.lmul, 1, 0, 0, .null), (.aload_n 0, 1, 0, 0, .null), (.getfield 7, 3, 7, 0, .null), (.iload 9, 2, 0, 0, .null), (.iconst 1, 1, 0, 0, .int (1 : Int32)), (.isub, 1, 0, 0, .null), (.iload 10, 2, 0, 0, .null), (.isub, 1, 0, 0, .null)] 153 [(0, .ref 0), (1, .int x1), (2, .int x2), (3, .int x3), (4, .int x4), (5, .long x5), (7, .long x7), (9, .int x9), (10, .int x10)] [.int ((x9 - (1 : Int32)) - x10), .ref 1, .long (((MP x9.toNatClampNeg) * q11) * q12), .long x7] (wMo cy Ms Mb Mq MB My ML Mg MF MW MI MA Mr Ma Mp Mf Mt Ml Mo Mn Mm MT MP Mv Mx Mz) (by decide +kernel) rfl rfl ?_
      obtain ⟨cg, h⟩ := oob h
      refine G_iald C (a := 1) rfl cg (by decide +kernel) ?_
      refine G_r C [(.i2l, 1, 0, 0, .null), (.lmul, 1, 0, 0, .null), (.ladd, 1, 0, 0, .null), (.lstore 7, 2, 0, 0, .null)] 159 [(7, .long (x7 + ((((MP x9.toNatClampNeg) * q11) * q12) * ((Mr ((x9 - (1 : Int32)) - x10).toNatClampNeg).toInt64)))), (0, .ref 0), (1, .int x1), (2, .int x2), (3, .int x3), (4, .int x4), (5, .long x5), (9, .int x9), (10, .int x10)] [] (wMo cy Ms Mb Mq MB My ML Mg MF MW MI MA Mr Ma Mp Mf Mt Ml Mo Mn Mm MT MP Mv Mx Mz) (by decide +kernel) rfl rfl ?_
      obtain ⟨q13, hq13, h⟩ := obd h
      have hq13 := Option.some.inj hq13
      rw [hq13]
      refine G_r C [(.iinc 10 1, 3, 0, 0, .int (1 : Int32))] 162 [(10, .int (x10 + (1 : Int32))), (7, .long q13), (0, .ref 0), (1, .int x1), (2, .int x2), (3, .int x3), (4, .int x4), (5, .long x5), (9, .int x9)] [] (wMo cy Ms Mb Mq MB My ML Mg MF MW MI MA Mr Ma Mp Mf Mt Ml Mo Mn Mm MT MP Mv Mx Mz) (by decide +kernel) rfl rfl ?_
      refine G_goto C (off := -54) (tgt := 108) (by decide +kernel) rfl ?_
      refine G_lv [2, 3, 4, 5, 6, 7, 1, 8, 0] (lv' := [(0, .ref 0), (1, .int x1), (2, .int x2), (3, .int x3), (4, .int x4), (5, .long x5), (7, .long q13), (9, .int x9), (10, .int (x10 + (1 : Int32)))]) rfl ?_
      exact ih x1 x2 x3 x4 x5 q13 x9 (x10 + (1 : Int32)) Ms Mb Mq MB My ML Mg MF MW MI MA Mr Ma Mp Mf Mt Ml Mo Mn Mm MT MP Mv Mx Mz res h hex
set_option maxHeartbeats 4000000 in
set_option maxRecDepth 100000 in
theorem g_X7_fraction_L99 {k : KX} {cy : Nat → ClassId} (C : OK k cX7_fraction 7 11 cy 3 78) : ∀ (fu : Nat) (x1 : Int32) (x2 : Int32) (x3 : Int32) (x4 : Int32) (x5 : Int64) (x7 : Int64) (x9 : Int32) (Ms : Int32) (Mb : Int32) (Mq : Int32) (MB : Int64) (My : Int32) (ML : Int32) (Mg : Int32) (MF : Int32) (MW : Bool) (MI : Bool) (MA : Int32) (Mr : Nat → Int32) (Ma : Nat → Int32) (Mp : Nat → Int32) (Mf : Nat → Int32) (Mt : Nat → Int32) (Ml : Nat → Int32) (Mo : Nat → Int32) (Mn : Nat → Int32) (Mm : Nat → Int64) (MT : Nat → Int64) (MP : Nat → Int64) (Mv : Nat → Int32) (Mx : Nat → Int64) (Mz : Nat → Int64) (res : Int64), (f_X7_fraction_L99 fu x1 x2 x3 x7 x9 Mr MP = some res) → G k 11 171 [(4, .int x4), (5, .long x5), (7, .long res)] [] (wMo cy Ms Mb Mq MB My ML Mg MF MW MI MA Mr Ma Mp Mf Mt Ml Mo Mn Mm MT MP Mv Mx Mz) → G k 11 99 [(0, .ref 0), (1, .int x1), (2, .int x2), (3, .int x3), (4, .int x4), (5, .long x5), (7, .long x7), (9, .int x9)] [] (wMo cy Ms Mb Mq MB My ML Mg MF MW MI MA Mr Ma Mp Mf Mt Ml Mo Mn Mm MT MP Mv Mx Mz) := by
  intro fu
  induction fu with
  | zero =>
    intro x1 x2 x3 x4 x5 x7 x9 Ms Mb Mq MB My ML Mg MF MW MI MA Mr Ma Mp Mf Mt Ml Mo Mn Mm MT MP Mv Mx Mz res h hex
    rw [f_X7_fraction_L99] at h
    cases h
  | succ fu ih =>
    intro x1 x2 x3 x4 x5 x7 x9 Ms Mb Mq MB My ML Mg MF MW MI MA Mr Ma Mp Mf Mt Ml Mo Mn Mm MT MP Mv Mx Mz res h hex
    rw [f_X7_fraction_L99] at h
    refine G_r C [(.iload 9, 2, 0, 0, .null), (.iload_n 1, 1, 0, 0, .null)] 102 [(0, .ref 0), (1, .int x1), (2, .int x2), (3, .int x3), (4, .int x4), (5, .long x5), (7, .long x7), (9, .int x9)] [.int x1, .int x9] (wMo cy Ms Mb Mq MB My ML Mg MF MW MI MA Mr Ma Mp Mf Mt Ml Mo Mn Mm MT MP Mv Mx Mz) (by decide +kernel) rfl rfl ?_
    refine G_icmp_gt C (off := 69) (tgt := 171) (by decide +kernel) rfl (fun c => ?_) (fun c => ?_)
    · rw [if_pos c] at h
      have h := Option.some.inj h
      subst h
      refine G_lv [4, 5, 6] (lv' := [(4, .int x4), (5, .long x5), (7, .long x7)]) rfl ?_
      exact hex
    · rw [if_neg c] at h
      refine G_r C [(.iconst 0, 1, 0, 0, .int (0 : Int32)), (.istore 10, 2, 0, 0, .null)] 108 [(10, .int (0 : Int32)), (0, .ref 0), (1, .int x1), (2, .int x2), (3, .int x3), (4, .int x4), (5, .long x5), (7, .long x7), (9, .int x9)] [] (wMo cy Ms Mb Mq MB My ML Mg MF MW MI MA Mr Ma Mp Mf Mt Ml Mo Mn Mm MT MP Mv Mx Mz) (by decide +kernel) rfl rfl ?_
      obtain ⟨q14, hq14, h⟩ := obd h
      refine G_lv [1, 2, 3, 4, 5, 6, 7, 8, 0] (lv' := [(0, .ref 0), (1, .int x1), (2, .int x2), (3, .int x3), (4, .int x4), (5, .long x5), (7, .long x7), (9, .int x9), (10, .int (0 : Int32))]) rfl ?_
      refine g_X7_fraction_L108 C 200 x1 x2 x3 x4 x5 x7 x9 (0 : Int32) Ms Mb Mq MB My ML Mg MF MW MI MA Mr Ma Mp Mf Mt Ml Mo Mn Mm MT MP Mv Mx Mz q14 hq14 ?_
      refine G_r C [(.iinc 9 1, 3, 0, 0, .int (1 : Int32))] 168 [(9, .int (x9 + (1 : Int32))), (0, .ref 0), (1, .int x1), (2, .int x2), (3, .int x3), (4, .int x4), (5, .long x5), (7, .long q14)] [] (wMo cy Ms Mb Mq MB My ML Mg MF MW MI MA Mr Ma Mp Mf Mt Ml Mo Mn Mm MT MP Mv Mx Mz) (by decide +kernel) rfl rfl ?_
      refine G_goto C (off := -69) (tgt := 99) (by decide +kernel) rfl ?_
      refine G_lv [1, 2, 3, 4, 5, 6, 7, 0] (lv' := [(0, .ref 0), (1, .int x1), (2, .int x2), (3, .int x3), (4, .int x4), (5, .long x5), (7, .long q14), (9, .int (x9 + (1 : Int32)))]) rfl ?_
      exact ih x1 x2 x3 x4 x5 q14 (x9 + (1 : Int32)) Ms Mb Mq MB My ML Mg MF MW MI MA Mr Ma Mp Mf Mt Ml Mo Mn Mm MT MP Mv Mx Mz res h hex
set_option maxHeartbeats 4000000 in
set_option maxRecDepth 100000 in
theorem c_X7_fraction (cy : Nat → ClassId) (Ms : Int32) (Mb : Int32) (Mq : Int32) (MB : Int64) (My : Int32) (ML : Int32) (Mg : Int32) (MF : Int32) (MW : Bool) (MI : Bool) (MA : Int32) (Mr : Nat → Int32) (Ma : Nat → Int32) (Mp : Nat → Int32) (Mf : Nat → Int32) (Mt : Nat → Int32) (Ml : Nat → Int32) (Mo : Nat → Int32) (Mn : Nat → Int32) (Mm : Nat → Int64) (MT : Nat → Int64) (MP : Nat → Int64) (Mv : Nat → Int32) (Mx : Nat → Int64) (Mz : Nat → Int64) (x1 : Int32) (x2 : Int32) (x3 : Int32) (x4 : Int32) (res : (Int64 × Int64 × (Nat → Int32) × (Nat → Int64) × (Nat → Int64))) (h : f_X7_fraction x1 x2 x3 x4 MB Mr Mf MT MP = some res) : MG cy yX7_fraction cX7_fraction 11 (some .long) 3 78 [.ref 0, .int x1, .int x2, .int x3, .int x4] (wMo cy Ms Mb Mq MB My ML Mg MF MW MI MA Mr Ma Mp Mf Mt Ml Mo Mn Mm MT MP Mv Mx Mz) (some (.long res.1)) (wMo cy Ms Mb Mq res.2.1 My ML Mg MF MW MI MA Mr Ma Mp res.2.2.1 Mt Ml Mo Mn Mm res.2.2.2.1 res.2.2.2.2 Mv Mx Mz) := by
  refine MG_of (o := 7) (lv := [(0, .ref 0), (1, .int x1), (2, .int x2), (3, .int x3), (4, .int x4)]) ⟨by decide +kernel, rfl⟩ (Nat.le_of_ble_eq_true rfl) rfl (fun k C hR => ?_)
  rw [f_X7_fraction] at h
  refine G_r C [(.iload_n 1, 1, 0, 0, .null), (.i2l, 1, 0, 0, .null), (.lconst 1, 1, 0, 0, .long (1 : Int64))] 3 [(0, .ref 0), (1, .int x1), (2, .int x2), (3, .int x3), (4, .int x4)] [.long (1 : Int64), .long x1.toInt64] (wMo cy Ms Mb Mq MB My ML Mg MF MW MI MA Mr Ma Mp Mf Mt Ml Mo Mn Mm MT MP Mv Mx Mz) (by decide +kernel) rfl rfl ?_
  refine G_ldc2 C co_7_157 (by decide +kernel) ?_
  obtain ⟨q1, hq1, h⟩ := obd h
  refine G_cS C lk_7_64 ⟨Nat.le_of_ble_eq_true rfl, Nat.le_of_ble_eq_true rfl⟩ (by decide +kernel) [.int (bI q1)] (c_X7_in cy x1.toInt64 (1 : Int64) (3 : Int64) q1 hq1) rfl rfl (Nat.le_of_ble_eq_true rfl) rfl ?_
  refine G_if_eq C (off := 37) (tgt := 46) (by decide +kernel) rfl (fun c => ?_) (fun c => ?_)
  · rw [if_pos c] at h
    refine G_r C [(.aload_n 0, 1, 0, 0, .null)] 47 [(0, .ref 0), (1, .int x1), (2, .int x2), (3, .int x3), (4, .int x4)] [.ref 0] (wMo cy Ms Mb Mq MB My ML Mg MF MW MI MA Mr Ma Mp Mf Mt Ml Mo Mn Mm MT MP Mv Mx Mz) (by decide +kernel) rfl rfl ?_
    obtain ⟨q2, hq2, h⟩ := obd h
    refine G_c0 C lk_7_72 ⟨Nat.le_of_ble_eq_true rfl, Nat.le_of_ble_eq_true rfl⟩ (by decide +kernel) [.int q2.1] (c_X7_bad cy Ms Mb Mq MB My ML Mg MF MW MI MA Mr Ma Mp Mf Mt Ml Mo Mn Mm MT MP Mv Mx Mz q2 hq2) rfl rfl (Nat.le_of_ble_eq_true rfl) ⟨rfl, rfl⟩ rfl ?_
    refine G_r C [(.i2l, 1, 0, 0, .null)] 51 [(0, .ref 0), (1, .int x1), (2, .int x2), (3, .int x3), (4, .int x4)] [.long q2.1.toInt64] (wMo cy Ms Mb Mq MB My ML Mg MF MW MI MA Mr Ma Mp q2.2 Mt Ml Mo Mn Mm MT MP Mv Mx Mz) (by decide +kernel) rfl rfl ?_
    have h := Option.some.inj h
    subst h
    exact G_lret C hR (by decide +kernel)
  · rw [if_neg c] at h
    refine G_r C [(.iload_n 2, 1, 0, 0, .null), (.i2l, 1, 0, 0, .null)] 14 [(0, .ref 0), (1, .int x1), (2, .int x2), (3, .int x3), (4, .int x4)] [.long x2.toInt64] (wMo cy Ms Mb Mq MB My ML Mg MF MW MI MA Mr Ma Mp Mf Mt Ml Mo Mn Mm MT MP Mv Mx Mz) (by decide +kernel) rfl rfl ?_
    refine G_ldc2 C co_7_214 (by decide +kernel) ?_
    refine G_ldc2 C co_7_216 (by decide +kernel) ?_
    obtain ⟨q3, hq3, h⟩ := obd h
    refine G_cS C lk_7_64 ⟨Nat.le_of_ble_eq_true rfl, Nat.le_of_ble_eq_true rfl⟩ (by decide +kernel) [.int (bI q3)] (c_X7_in cy x2.toInt64 (-20 : Int64) (20 : Int64) q3 hq3) rfl rfl (Nat.le_of_ble_eq_true rfl) rfl ?_
    refine G_if_eq C (off := 23) (tgt := 46) (by decide +kernel) rfl (fun c => ?_) (fun c => ?_)
    · rw [if_pos c] at h
      refine G_r C [(.aload_n 0, 1, 0, 0, .null)] 47 [(0, .ref 0), (1, .int x1), (2, .int x2), (3, .int x3), (4, .int x4)] [.ref 0] (wMo cy Ms Mb Mq MB My ML Mg MF MW MI MA Mr Ma Mp Mf Mt Ml Mo Mn Mm MT MP Mv Mx Mz) (by decide +kernel) rfl rfl ?_
      obtain ⟨q4, hq4, h⟩ := obd h
      refine G_c0 C lk_7_72 ⟨Nat.le_of_ble_eq_true rfl, Nat.le_of_ble_eq_true rfl⟩ (by decide +kernel) [.int q4.1] (c_X7_bad cy Ms Mb Mq MB My ML Mg MF MW MI MA Mr Ma Mp Mf Mt Ml Mo Mn Mm MT MP Mv Mx Mz q4 hq4) rfl rfl (Nat.le_of_ble_eq_true rfl) ⟨rfl, rfl⟩ rfl ?_
      refine G_r C [(.i2l, 1, 0, 0, .null)] 51 [(0, .ref 0), (1, .int x1), (2, .int x2), (3, .int x3), (4, .int x4)] [.long q4.1.toInt64] (wMo cy Ms Mb Mq MB My ML Mg MF MW MI MA Mr Ma Mp q4.2 Mt Ml Mo Mn Mm MT MP Mv Mx Mz) (by decide +kernel) rfl rfl ?_
      have h := Option.some.inj h
      subst h
      exact G_lret C hR (by decide +kernel)
    · rw [if_neg c] at h
      refine G_r C [(.iload_n 3, 1, 0, 0, .null), (.i2l, 1, 0, 0, .null), (.lconst 1, 1, 0, 0, .long (1 : Int64))] 29 [(0, .ref 0), (1, .int x1), (2, .int x2), (3, .int x3), (4, .int x4)] [.long (1 : Int64), .long x3.toInt64] (wMo cy Ms Mb Mq MB My ML Mg MF MW MI MA Mr Ma Mp Mf Mt Ml Mo Mn Mm MT MP Mv Mx Mz) (by decide +kernel) rfl rfl ?_
      refine G_ldc2 C co_7_141 (by decide +kernel) ?_
      obtain ⟨q5, hq5, h⟩ := obd h
      refine G_cS C lk_7_64 ⟨Nat.le_of_ble_eq_true rfl, Nat.le_of_ble_eq_true rfl⟩ (by decide +kernel) [.int (bI q5)] (c_X7_in cy x3.toInt64 (1 : Int64) (4 : Int64) q5 hq5) rfl rfl (Nat.le_of_ble_eq_true rfl) rfl ?_
      refine G_if_eq C (off := 11) (tgt := 46) (by decide +kernel) rfl (fun c => ?_) (fun c => ?_)
      · rw [if_pos c] at h
        refine G_r C [(.aload_n 0, 1, 0, 0, .null)] 47 [(0, .ref 0), (1, .int x1), (2, .int x2), (3, .int x3), (4, .int x4)] [.ref 0] (wMo cy Ms Mb Mq MB My ML Mg MF MW MI MA Mr Ma Mp Mf Mt Ml Mo Mn Mm MT MP Mv Mx Mz) (by decide +kernel) rfl rfl ?_
        obtain ⟨q6, hq6, h⟩ := obd h
        refine G_c0 C lk_7_72 ⟨Nat.le_of_ble_eq_true rfl, Nat.le_of_ble_eq_true rfl⟩ (by decide +kernel) [.int q6.1] (c_X7_bad cy Ms Mb Mq MB My ML Mg MF MW MI MA Mr Ma Mp Mf Mt Ml Mo Mn Mm MT MP Mv Mx Mz q6 hq6) rfl rfl (Nat.le_of_ble_eq_true rfl) ⟨rfl, rfl⟩ rfl ?_
        refine G_r C [(.i2l, 1, 0, 0, .null)] 51 [(0, .ref 0), (1, .int x1), (2, .int x2), (3, .int x3), (4, .int x4)] [.long q6.1.toInt64] (wMo cy Ms Mb Mq MB My ML Mg MF MW MI MA Mr Ma Mp q6.2 Mt Ml Mo Mn Mm MT MP Mv Mx Mz) (by decide +kernel) rfl rfl ?_
        have h := Option.some.inj h
        subst h
        exact G_lret C hR (by decide +kernel)
      · rw [if_neg c] at h
        refine G_r C [(.iload 4, 2, 0, 0, .null)] 40 [(0, .ref 0), (1, .int x1), (2, .int x2), (3, .int x3), (4, .int x4)] [.int x4] (wMo cy Ms Mb Mq MB My ML Mg MF MW MI MA Mr Ma Mp Mf Mt Ml Mo Mn Mm MT MP Mv Mx Mz) (by decide +kernel) rfl rfl ?_
        obtain ⟨q7, hq7, h⟩ := obd h
        refine G_cS C lk_7_159 ⟨Nat.le_of_ble_eq_true rfl, Nat.le_of_ble_eq_true rfl⟩ (by decide +kernel) [.int (bI q7)] (c_X7_isPart cy x4 q7 hq7) rfl rfl (Nat.le_of_ble_eq_true rfl) rfl ?_
        refine G_if_ne C (off := 9) (tgt := 52) (by decide +kernel) rfl (fun c => ?_) (fun c => ?_)
        · rw [if_neg c] at h
          refine G_r C [(.aload_n 0, 1, 0, 0, .null), (.iload_n 1, 1, 0, 0, .null)] 54 [(0, .ref 0), (1, .int x1), (2, .int x2), (3, .int x3), (4, .int x4)] [.int x1, .ref 0] (wMo cy Ms Mb Mq MB My ML Mg MF MW MI MA Mr Ma Mp Mf Mt Ml Mo Mn Mm MT MP Mv Mx Mz) (by decide +kernel) rfl rfl ?_
          obtain ⟨q8, hq8, h⟩ := obd h
          refine G_c0 C lk_7_162 ⟨Nat.le_of_ble_eq_true rfl, Nat.le_of_ble_eq_true rfl⟩ (by decide +kernel) [.int (bI q8.1)] (c_X7_isPoly cy Ms Mb Mq MB My ML Mg MF MW MI MA Mr Ma Mp Mf Mt Ml Mo Mn Mm MT MP Mv Mx Mz x1 q8 hq8) rfl rfl (Nat.le_of_ble_eq_true rfl) ⟨rfl, rfl⟩ rfl ?_
          refine G_if_ne C (off := 9) (tgt := 66) (by decide +kernel) rfl (fun c => ?_) (fun c => ?_)
          · rw [if_neg c] at h
            refine G_r C [(.aload_n 0, 1, 0, 0, .null), (.iload_n 1, 1, 0, 0, .null)] 68 [(0, .ref 0), (1, .int x1), (2, .int x2), (3, .int x3), (4, .int x4)] [.int x1, .ref 0] (wMo cy Ms Mb Mq MB My ML Mg MF MW MI MA Mr Ma Mp Mf Mt Ml Mo Mn Mm q8.2 MP Mv Mx Mz) (by decide +kernel) rfl rfl ?_
            obtain ⟨q9, hq9, h⟩ := obd h
            refine G_c0 C lk_7_165 ⟨Nat.le_of_ble_eq_true rfl, Nat.le_of_ble_eq_true rfl⟩ (by decide +kernel) [] (c_X7_makePoly cy Ms Mb Mq MB My ML Mg MF MW MI MA Mr Ma Mp Mf Mt Ml Mo Mn Mm q8.2 MP Mv Mx Mz x1 q9 hq9) rfl rfl (Nat.le_of_ble_eq_true rfl) ⟨rfl, rfl⟩ rfl ?_
            refine G_r C [(.aload_n 0, 1, 0, 0, .null), (.iload_n 1, 1, 0, 0, .null), (.iload_n 2, 1, 0, 0, .null), (.iload_n 3, 1, 0, 0, .null)] 75 [(0, .ref 0), (1, .int x1), (2, .int x2), (3, .int x3), (4, .int x4)] [.int x3, .int x2, .int x1, .ref 0] (wMo cy Ms Mb Mq q9.1 My ML Mg MF MW MI MA Mr Ma Mp Mf Mt Ml Mo Mn Mm q9.2.1 q9.2.2 Mv Mx Mz) (by decide +kernel) rfl rfl ?_
            obtain ⟨q10, hq10, h⟩ := obd h
            refine G_c0 C lk_7_187 ⟨Nat.le_of_ble_eq_true rfl, Nat.le_of_ble_eq_true rfl⟩ (by decide +kernel) [.long q10] (c_X7_polyAt cy Ms Mb Mq q9.1 My ML Mg MF MW MI MA Mr Ma Mp Mf Mt Ml Mo Mn Mm q9.2.1 q9.2.2 Mv Mx Mz x1 x2 x3 q10 hq10) rfl rfl (Nat.le_of_ble_eq_true rfl) ⟨rfl, rfl⟩ rfl ?_
            refine G_r C [(.lstore 5, 2, 0, 0, .null), (.lload 5, 2, 0, 0, .null), (.lconst 0, 1, 0, 0, .long (0 : Int64))] 83 [(5, .long q10), (0, .ref 0), (1, .int x1), (2, .int x2), (3, .int x3), (4, .int x4)] [.long (0 : Int64), .long q10] (wMo cy Ms Mb Mq q9.1 My ML Mg MF MW MI MA Mr Ma Mp Mf Mt Ml Mo Mn Mm q9.2.1 q9.2.2 Mv Mx Mz) (by decide +kernel) rfl rfl ?_
            refine G_lcmp_ne C (off := 9) (tgt := 93) (by decide +kernel) (by decide +kernel) rfl (fun c => ?_) (fun c => ?_)
            · rw [if_neg c] at h
              refine G_r C [(.lconst 0, 1, 0, 0, .long (0 : Int64)), (.lstore 7, 2, 0, 0, .null), (.iconst 1, 1, 0, 0, .int (1 : Int32)), (.istore 9, 2, 0, 0, .null)] 99 [(9, .int (1 : Int32)), (7, .long (0 : Int64)), (5, .long q10), (0, .ref 0), (1, .int x1), (2, .int x2), (3, .int x3), (4, .int x4)] [] (wMo cy Ms Mb Mq q9.1 My ML Mg MF MW MI MA Mr Ma Mp Mf Mt Ml Mo Mn Mm q9.2.1 q9.2.2 Mv Mx Mz) (by decide +kernel) rfl rfl ?_
              obtain ⟨q15, hq15, h⟩ := obd h
              refine G_lv [3, 4, 5, 6, 7, 2, 1, 0] (lv' := [(0, .ref 0), (1, .int x1), (2, .int x2), (3, .int x3), (4, .int x4), (5, .long q10), (7, .long (0 : Int64)), (9, .int (1 : Int32))]) rfl ?_
              refine g_X7_fraction_L99 C 200 x1 x2 x3 x4 q10 (0 : Int64) (1 : Int32) Ms Mb Mq q9.1 My ML Mg MF MW MI MA Mr Ma Mp Mf Mt Ml Mo Mn Mm q9.2.1 q9.2.2 Mv Mx Mz q15 hq15 ?_
              refine G_r C [(.lload 7, 2, 0, 0, .null), (.lload 5, 2, 0, 0, .null), (.iload 4, 2, 0, 0, .null)] 177 [(4, .int x4), (5, .long q10), (7, .long q15)] [.int x4, .long q10, .long q15] (wMo cy Ms Mb Mq q9.1 My ML Mg MF MW MI MA Mr Ma Mp Mf Mt Ml Mo Mn Mm q9.2.1 q9.2.2 Mv Mx Mz) (by decide +kernel) rfl rfl ?_
              obtain ⟨q16, hq16, h⟩ := obd h
              refine G_cS C lk_7_168 ⟨Nat.le_of_ble_eq_true rfl, Nat.le_of_ble_eq_true rfl⟩ (by decide +kernel) [.long q16] (c_X7_part cy q15 q10 x4 q16 hq16) rfl rfl (Nat.le_of_ble_eq_true rfl) rfl ?_
              have h := Option.some.inj h
              subst h
              exact G_lret C hR (by decide +kernel)
            · rw [if_pos c] at h
              refine G_r C [(.aload_n 0, 1, 0, 0, .null)] 88 [(5, .long q10), (0, .ref 0), (1, .int x1), (2, .int x2), (3, .int x3), (4, .int x4)] [.ref 0] (wMo cy Ms Mb Mq q9.1 My ML Mg MF MW MI MA Mr Ma Mp Mf Mt Ml Mo Mn Mm q9.2.1 q9.2.2 Mv Mx Mz) (by decide +kernel) rfl rfl ?_
              obtain ⟨q17, hq17, h⟩ := obd h
              refine G_c0 C lk_7_87 ⟨Nat.le_of_ble_eq_true rfl, Nat.le_of_ble_eq_true rfl⟩ (by decide +kernel) [.int q17.1] (c_X7_no cy Ms Mb Mq q9.1 My ML Mg MF MW MI MA Mr Ma Mp Mf Mt Ml Mo Mn Mm q9.2.1 q9.2.2 Mv Mx Mz q17 hq17) rfl rfl (Nat.le_of_ble_eq_true rfl) ⟨rfl, rfl⟩ rfl ?_
              refine G_r C [(.i2l, 1, 0, 0, .null)] 92 [(5, .long q10), (0, .ref 0), (1, .int x1), (2, .int x2), (3, .int x3), (4, .int x4)] [.long q17.1.toInt64] (wMo cy Ms Mb Mq q9.1 My ML Mg MF MW MI MA Mr Ma Mp q17.2 Mt Ml Mo Mn Mm q9.2.1 q9.2.2 Mv Mx Mz) (by decide +kernel) rfl rfl ?_
              have h := Option.some.inj h
              subst h
              exact G_lret C hR (by decide +kernel)
          · rw [if_pos c] at h
            refine G_r C [(.aload_n 0, 1, 0, 0, .null)] 61 [(0, .ref 0), (1, .int x1), (2, .int x2), (3, .int x3), (4, .int x4)] [.ref 0] (wMo cy Ms Mb Mq MB My ML Mg MF MW MI MA Mr Ma Mp Mf Mt Ml Mo Mn Mm q8.2 MP Mv Mx Mz) (by decide +kernel) rfl rfl ?_
            obtain ⟨q18, hq18, h⟩ := obd h
            refine G_c0 C lk_7_87 ⟨Nat.le_of_ble_eq_true rfl, Nat.le_of_ble_eq_true rfl⟩ (by decide +kernel) [.int q18.1] (c_X7_no cy Ms Mb Mq MB My ML Mg MF MW MI MA Mr Ma Mp Mf Mt Ml Mo Mn Mm q8.2 MP Mv Mx Mz q18 hq18) rfl rfl (Nat.le_of_ble_eq_true rfl) ⟨rfl, rfl⟩ rfl ?_
            refine G_r C [(.i2l, 1, 0, 0, .null)] 65 [(0, .ref 0), (1, .int x1), (2, .int x2), (3, .int x3), (4, .int x4)] [.long q18.1.toInt64] (wMo cy Ms Mb Mq MB My ML Mg MF MW MI MA Mr Ma Mp q18.2 Mt Ml Mo Mn Mm q8.2 MP Mv Mx Mz) (by decide +kernel) rfl rfl ?_
            have h := Option.some.inj h
            subst h
            exact G_lret C hR (by decide +kernel)
        · rw [if_pos c] at h
          refine G_r C [(.aload_n 0, 1, 0, 0, .null)] 47 [(0, .ref 0), (1, .int x1), (2, .int x2), (3, .int x3), (4, .int x4)] [.ref 0] (wMo cy Ms Mb Mq MB My ML Mg MF MW MI MA Mr Ma Mp Mf Mt Ml Mo Mn Mm MT MP Mv Mx Mz) (by decide +kernel) rfl rfl ?_
          obtain ⟨q19, hq19, h⟩ := obd h
          refine G_c0 C lk_7_72 ⟨Nat.le_of_ble_eq_true rfl, Nat.le_of_ble_eq_true rfl⟩ (by decide +kernel) [.int q19.1] (c_X7_bad cy Ms Mb Mq MB My ML Mg MF MW MI MA Mr Ma Mp Mf Mt Ml Mo Mn Mm MT MP Mv Mx Mz q19 hq19) rfl rfl (Nat.le_of_ble_eq_true rfl) ⟨rfl, rfl⟩ rfl ?_
          refine G_r C [(.i2l, 1, 0, 0, .null)] 51 [(0, .ref 0), (1, .int x1), (2, .int x2), (3, .int x3), (4, .int x4)] [.long q19.1.toInt64] (wMo cy Ms Mb Mq MB My ML Mg MF MW MI MA Mr Ma Mp q19.2 Mt Ml Mo Mn Mm MT MP Mv Mx Mz) (by decide +kernel) rfl rfl ?_
          have h := Option.some.inj h
          subst h
          exact G_lret C hR (by decide +kernel)
