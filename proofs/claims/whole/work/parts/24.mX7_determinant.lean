def f_X7_determinant (x1 : Int32) (x2 : Int32) (Mr : Nat → Int32) (Mf : Nat → Int32) (MT : Nat → Int64) : Option (Int64 × (Nat → Int32) × (Nat → Int64)) := (f_X7_in x1.toInt64 (0 : Int64) (6 : Int64)).bind fun q1 => if (bI q1) = 0 then ((f_X7_bad Mf).bind fun q2 => some (q2.1.toInt64, q2.2, MT)) else ((f_X7_in x2.toInt64 (0 : Int64) (4 : Int64)).bind fun q3 => if (bI q3) = 0 then ((f_X7_bad Mf).bind fun q7 => some (q7.1.toInt64, q7.2, MT)) else ((f_X7_isThere x1 x2 Mr).bind fun q4 => if (bI q4) = 0 then ((f_X7_no Mf).bind fun q5 => some (q5.1.toInt64, q5.2, MT)) else ((f_X7_detOf x1 x2 Mr MT).bind fun q6 => some (q6.1, Mf, q6.2))))
set_option maxHeartbeats 4000000 in
set_option maxRecDepth 100000 in
theorem c_X7_determinant (cy : Nat → ClassId) (Ms : Int32) (Mb : Int32) (Mq : Int32) (MB : Int64) (My : Int32) (ML : Int32) (Mg : Int32) (MF : Int32) (MW : Bool) (MI : Bool) (MA : Int32) (Mr : Nat → Int32) (Ma : Nat → Int32) (Mp : Nat → Int32) (Mf : Nat → Int32) (Mt : Nat → Int32) (Ml : Nat → Int32) (Mo : Nat → Int32) (Mn : Nat → Int32) (Mm : Nat → Int64) (MT : Nat → Int64) (MP : Nat → Int64) (Mv : Nat → Int32) (Mx : Nat → Int64) (Mz : Nat → Int64) (x1 : Int32) (x2 : Int32) (res : (Int64 × (Nat → Int32) × (Nat → Int64))) (h : f_X7_determinant x1 x2 Mr Mf MT = some res) : MG cy yX7_determinant cX7_determinant 3 (some .long) 2 54 [.ref 0, .int x1, .int x2] (wMo cy Ms Mb Mq MB My ML Mg MF MW MI MA Mr Ma Mp Mf Mt Ml Mo Mn Mm MT MP Mv Mx Mz) (some (.long res.1)) (wMo cy Ms Mb Mq MB My ML Mg MF MW MI MA Mr Ma Mp res.2.1 Mt Ml Mo Mn Mm res.2.2 MP Mv Mx Mz) := by
  refine MG_of (o := 7) (lv := [(0, .ref 0), (1, .int x1), (2, .int x2)]) ⟨by decide +kernel, rfl⟩ (Nat.le_of_ble_eq_true rfl) rfl (fun k C hR => ?_)
  rw [f_X7_determinant] at h
  refine G_r C [(.iload_n 1, 1, 0, 0, .null), (.i2l, 1, 0, 0, .null), (.lconst 0, 1, 0, 0, .long (0 : Int64))] 3 [(0, .ref 0), (1, .int x1), (2, .int x2)] [.long (0 : Int64), .long x1.toInt64] (wMo cy Ms Mb Mq MB My ML Mg MF MW MI MA Mr Ma Mp Mf Mt Ml Mo Mn Mm MT MP Mv Mx Mz) (by decide +kernel) rfl rfl ?_
  refine G_ldc2 C co_7_139 (by decide +kernel) ?_
  obtain ⟨q1, hq1, h⟩ := obd h
  refine G_cS C lk_7_64 ⟨Nat.le_of_ble_eq_true rfl, Nat.le_of_ble_eq_true rfl⟩ (by decide +kernel) [.int (bI q1)] (c_X7_in cy x1.toInt64 (0 : Int64) (6 : Int64) q1 hq1) rfl rfl (Nat.le_of_ble_eq_true rfl) rfl ?_
  refine G_if_eq C (off := 15) (tgt := 24) (by decide +kernel) rfl (fun c => ?_) (fun c => ?_)
  · rw [if_pos c] at h
    refine G_r C [(.aload_n 0, 1, 0, 0, .null)] 25 [(0, .ref 0), (1, .int x1), (2, .int x2)] [.ref 0] (wMo cy Ms Mb Mq MB My ML Mg MF MW MI MA Mr Ma Mp Mf Mt Ml Mo Mn Mm MT MP Mv Mx Mz) (by decide +kernel) rfl rfl ?_
    obtain ⟨q2, hq2, h⟩ := obd h
    refine G_c0 C lk_7_72 ⟨Nat.le_of_ble_eq_true rfl, Nat.le_of_ble_eq_true rfl⟩ (by decide +kernel) [.int q2.1] (c_X7_bad cy Ms Mb Mq MB My ML Mg MF MW MI MA Mr Ma Mp Mf Mt Ml Mo Mn Mm MT MP Mv Mx Mz q2 hq2) rfl rfl (Nat.le_of_ble_eq_true rfl) ⟨rfl, rfl⟩ rfl ?_
    refine G_r C [(.i2l, 1, 0, 0, .null)] 29 [(0, .ref 0), (1, .int x1), (2, .int x2)] [.long q2.1.toInt64] (wMo cy Ms Mb Mq MB My ML Mg MF MW MI MA Mr Ma Mp q2.2 Mt Ml Mo Mn Mm MT MP Mv Mx Mz) (by decide +kernel) rfl rfl ?_
    have h := Option.some.inj h
    subst h
    exact G_lret C hR (by decide +kernel)
  · rw [if_neg c] at h
    refine G_r C [(.iload_n 2, 1, 0, 0, .null), (.i2l, 1, 0, 0, .null), (.lconst 0, 1, 0, 0, .long (0 : Int64))] 15 [(0, .ref 0), (1, .int x1), (2, .int x2)] [.long (0 : Int64), .long x2.toInt64] (wMo cy Ms Mb Mq MB My ML Mg MF MW MI MA Mr Ma Mp Mf Mt Ml Mo Mn Mm MT MP Mv Mx Mz) (by decide +kernel) rfl rfl ?_
    refine G_ldc2 C co_7_141 (by decide +kernel) ?_
    obtain ⟨q3, hq3, h⟩ := obd h
    refine G_cS C lk_7_64 ⟨Nat.le_of_ble_eq_true rfl, Nat.le_of_ble_eq_true rfl⟩ (by decide +kernel) [.int (bI q3)] (c_X7_in cy x2.toInt64 (0 : Int64) (4 : Int64) q3 hq3) rfl rfl (Nat.le_of_ble_eq_true rfl) rfl ?_
    refine G_if_ne C (off := 9) (tgt := 30) (by decide +kernel) rfl (fun c => ?_) (fun c => ?_)
    · rw [if_neg c] at h
      refine G_r C [(.aload_n 0, 1, 0, 0, .null), (.iload_n 1, 1, 0, 0, .null), (.iload_n 2, 1, 0, 0, .null)] 33 [(0, .ref 0), (1, .int x1), (2, .int x2)] [.int x2, .int x1, .ref 0] (wMo cy Ms Mb Mq MB My ML Mg MF MW MI MA Mr Ma Mp Mf Mt Ml Mo Mn Mm MT MP Mv Mx Mz) (by decide +kernel) rfl rfl ?_
      obtain ⟨q4, hq4, h⟩ := obd h
      refine G_c0 C lk_7_143 ⟨Nat.le_of_ble_eq_true rfl, Nat.le_of_ble_eq_true rfl⟩ (by decide +kernel) [.int (bI q4)] (c_X7_isThere cy Ms Mb Mq MB My ML Mg MF MW MI MA Mr Ma Mp Mf Mt Ml Mo Mn Mm MT MP Mv Mx Mz x1 x2 q4 hq4) rfl rfl (Nat.le_of_ble_eq_true rfl) ⟨rfl, rfl⟩ rfl ?_
      refine G_if_eq C (off := 12) (tgt := 48) (by decide +kernel) rfl (fun c => ?_) (fun c => ?_)
      · rw [if_pos c] at h
        refine G_r C [(.aload_n 0, 1, 0, 0, .null)] 49 [(0, .ref 0), (1, .int x1), (2, .int x2)] [.ref 0] (wMo cy Ms Mb Mq MB My ML Mg MF MW MI MA Mr Ma Mp Mf Mt Ml Mo Mn Mm MT MP Mv Mx Mz) (by decide +kernel) rfl rfl ?_
        obtain ⟨q5, hq5, h⟩ := obd h
        refine G_c0 C lk_7_87 ⟨Nat.le_of_ble_eq_true rfl, Nat.le_of_ble_eq_true rfl⟩ (by decide +kernel) [.int q5.1] (c_X7_no cy Ms Mb Mq MB My ML Mg MF MW MI MA Mr Ma Mp Mf Mt Ml Mo Mn Mm MT MP Mv Mx Mz q5 hq5) rfl rfl (Nat.le_of_ble_eq_true rfl) ⟨rfl, rfl⟩ rfl ?_
        refine G_r C [(.i2l, 1, 0, 0, .null)] 53 [(0, .ref 0), (1, .int x1), (2, .int x2)] [.long q5.1.toInt64] (wMo cy Ms Mb Mq MB My ML Mg MF MW MI MA Mr Ma Mp q5.2 Mt Ml Mo Mn Mm MT MP Mv Mx Mz) (by decide +kernel) rfl rfl ?_
        have h := Option.some.inj h
        subst h
        exact G_lret C hR (by decide +kernel)
      · rw [if_neg c] at h
        refine G_r C [(.aload_n 0, 1, 0, 0, .null), (.iload_n 1, 1, 0, 0, .null), (.iload_n 2, 1, 0, 0, .null)] 42 [(0, .ref 0), (1, .int x1), (2, .int x2)] [.int x2, .int x1, .ref 0] (wMo cy Ms Mb Mq MB My ML Mg MF MW MI MA Mr Ma Mp Mf Mt Ml Mo Mn Mm MT MP Mv Mx Mz) (by decide +kernel) rfl rfl ?_
        obtain ⟨q6, hq6, h⟩ := obd h
        refine G_c0 C lk_7_146 ⟨Nat.le_of_ble_eq_true rfl, Nat.le_of_ble_eq_true rfl⟩ (by decide +kernel) [.long q6.1] (c_X7_detOf cy Ms Mb Mq MB My ML Mg MF MW MI MA Mr Ma Mp Mf Mt Ml Mo Mn Mm MT MP Mv Mx Mz x1 x2 q6 hq6) rfl rfl (Nat.le_of_ble_eq_true rfl) ⟨rfl, rfl⟩ rfl ?_
        refine G_goto C (off := 8) (tgt := 53) (by decide +kernel) rfl ?_
        have h := Option.some.inj h
        subst h
        exact G_lret C hR (by decide +kernel)
    · rw [if_pos c] at h
      refine G_r C [(.aload_n 0, 1, 0, 0, .null)] 25 [(0, .ref 0), (1, .int x1), (2, .int x2)] [.ref 0] (wMo cy Ms Mb Mq MB My ML Mg MF MW MI MA Mr Ma Mp Mf Mt Ml Mo Mn Mm MT MP Mv Mx Mz) (by decide +kernel) rfl rfl ?_
      obtain ⟨q7, hq7, h⟩ := obd h
      refine G_c0 C lk_7_72 ⟨Nat.le_of_ble_eq_true rfl, Nat.le_of_ble_eq_true rfl⟩ (by decide +kernel) [.int q7.1] (c_X7_bad cy Ms Mb Mq MB My ML Mg MF MW MI MA Mr Ma Mp Mf Mt Ml Mo Mn Mm MT MP Mv Mx Mz q7 hq7) rfl rfl (Nat.le_of_ble_eq_true rfl) ⟨rfl, rfl⟩ rfl ?_
      refine G_r C [(.i2l, 1, 0, 0, .null)] 29 [(0, .ref 0), (1, .int x1), (2, .int x2)] [.long q7.1.toInt64] (wMo cy Ms Mb Mq MB My ML Mg MF MW MI MA Mr Ma Mp q7.2 Mt Ml Mo Mn Mm MT MP Mv Mx Mz) (by decide +kernel) rfl rfl ?_
      have h := Option.some.inj h
      subst h
      exact G_lret C hR (by decide +kernel)
def f_X7_isPart (x0 : Int32) : Option Bool := (f_X7_in x0.toInt64 (0 : Int64) (1 : Int64)).bind fun q1 => some q1
set_option maxHeartbeats 4000000 in
set_option maxRecDepth 100000 in
theorem c_X7_isPart (cy : Nat → ClassId)  (x0 : Int32) (res : Bool) (h : f_X7_isPart x0 = some res) : MG cy yX7_isPart cX7_isPart 1 (some .boolean) 1 25 [.int x0] [] (some (.int (bI res))) [] := by
  refine MG_of (o := 7) (lv := [(0, .int x0)]) ⟨by decide +kernel, rfl⟩ (Nat.le_of_ble_eq_true rfl) rfl (fun k C hR => ?_)
  rw [f_X7_isPart] at h
  refine G_r C [(.iload_n 0, 1, 0, 0, .null), (.i2l, 1, 0, 0, .null), (.lconst 0, 1, 0, 0, .long (0 : Int64)), (.lconst 1, 1, 0, 0, .long (1 : Int64))] 4 [(0, .int x0)] [.long (1 : Int64), .long (0 : Int64), .long x0.toInt64] [] (by decide +kernel) rfl rfl ?_
  obtain ⟨q1, hq1, h⟩ := obd h
  refine G_cS C lk_7_64 ⟨Nat.le_of_ble_eq_true rfl, Nat.le_of_ble_eq_true rfl⟩ (by decide +kernel) [.int (bI q1)] (c_X7_in cy x0.toInt64 (0 : Int64) (1 : Int64) q1 hq1) rfl rfl (Nat.le_of_ble_eq_true rfl) rfl ?_
  have h := Option.some.inj h
  subst h
  exact G_zret C (v := q1) hR (by decide +kernel)
def f_X7_isPoly (x1 : Int32) (Mr : Nat → Int32) (MT : Nat → Int64) : Option (Bool × (Nat → Int64)) := if x1 = 0 then (some (true, MT)) else (if (7 : Int32) < 0 ∨ 8 ≤ (7 : Int32).toNatClampNeg then none else if (Mr (7 : Int32).toNatClampNeg) < ((2 : Int32) * x1) then (some (false, MT)) else ((f_X7_detOf (0 : Int32) x1 Mr MT).bind fun q1 => if q1.1 = (0 : Int64) then (some (false, q1.2)) else (some (true, q1.2))))
set_option maxHeartbeats 4000000 in
set_option maxRecDepth 100000 in
theorem c_X7_isPoly (cy : Nat → ClassId) (Ms : Int32) (Mb : Int32) (Mq : Int32) (MB : Int64) (My : Int32) (ML : Int32) (Mg : Int32) (MF : Int32) (MW : Bool) (MI : Bool) (MA : Int32) (Mr : Nat → Int32) (Ma : Nat → Int32) (Mp : Nat → Int32) (Mf : Nat → Int32) (Mt : Nat → Int32) (Ml : Nat → Int32) (Mo : Nat → Int32) (Mn : Nat → Int32) (Mm : Nat → Int64) (MT : Nat → Int64) (MP : Nat → Int64) (Mv : Nat → Int32) (Mx : Nat → Int64) (Mz : Nat → Int64) (x1 : Int32) (res : (Bool × (Nat → Int64))) (h : f_X7_isPoly x1 Mr MT = some res) : MG cy yX7_isPoly cX7_isPoly 2 (some .boolean) 2 54 [.ref 0, .int x1] (wMo cy Ms Mb Mq MB My ML Mg MF MW MI MA Mr Ma Mp Mf Mt Ml Mo Mn Mm MT MP Mv Mx Mz) (some (.int (bI res.1))) (wMo cy Ms Mb Mq MB My ML Mg MF MW MI MA Mr Ma Mp Mf Mt Ml Mo Mn Mm res.2 MP Mv Mx Mz) := by
  refine MG_of (o := 7) (lv := [(0, .ref 0), (1, .int x1)]) ⟨by decide +kernel, rfl⟩ (Nat.le_of_ble_eq_true rfl) rfl (fun k C hR => ?_)
  rw [f_X7_isPoly] at h
  refine G_r C [(.iload_n 1, 1, 0, 0, .null)] 1 [(0, .ref 0), (1, .int x1)] [.int x1] (wMo cy Ms Mb Mq MB My ML Mg MF MW MI MA Mr Ma Mp Mf Mt Ml Mo Mn Mm MT MP Mv Mx Mz) (by decide +kernel) rfl rfl ?_
  refine G_if_eq C (off := 27) (tgt := 28) (by decide +kernel) rfl (fun c => ?_) (fun c => ?_)
  · rw [if_pos c] at h
    refine G_r C [(.iconst 1, 1, 0, 0, .int (1 : Int32))] 29 [(0, .ref 0), (1, .int x1)] [.int (1 : Int32)] (wMo cy Ms Mb Mq MB My ML Mg MF MW MI MA Mr Ma Mp Mf Mt Ml Mo Mn Mm MT MP Mv Mx Mz) (by decide +kernel) rfl rfl ?_
    refine G_goto C (off := 4) (tgt := 33) (by decide +kernel) rfl ?_
    have h := Option.some.inj h
    subst h
    exact G_zret C (v := true) hR (by decide +kernel)
  · rw [if_neg c] at h
    refine G_r C [(.aload_n 0, 1, 0, 0, .null), (.getfield 7, 3, 7, 0, .null), (.bipush 7, 2, 0, 0, .int (7 : Int32))] 10 [(0, .ref 0), (1, .int x1)] [.int (7 : Int32), .ref 1] (wMo cy Ms Mb Mq MB My ML Mg MF MW MI MA Mr Ma Mp Mf Mt Ml Mo Mn Mm MT MP Mv Mx Mz) (by decide +kernel) rfl rfl ?_
    obtain ⟨cg, h⟩ := oob h
    refine G_iald C (a := 1) rfl cg (by decide +kernel) ?_
    refine G_r C [(.iconst 2, 1, 0, 0, .int (2 : Int32)), (.iload_n 1, 1, 0, 0, .null), (.imul, 1, 0, 0, .null)] 14 [(0, .ref 0), (1, .int x1)] [.int ((2 : Int32) * x1), .int (Mr (7 : Int32).toNatClampNeg)] (wMo cy Ms Mb Mq MB My ML Mg MF MW MI MA Mr Ma Mp Mf Mt Ml Mo Mn Mm MT MP Mv Mx Mz) (by decide +kernel) rfl rfl ?_
    refine G_icmp_lt C (off := 18) (tgt := 32) (by decide +kernel) rfl (fun c => ?_) (fun c => ?_)
    · rw [if_pos c] at h
      refine G_r C [(.iconst 0, 1, 0, 0, .int (0 : Int32))] 33 [(0, .ref 0), (1, .int x1)] [.int (0 : Int32)] (wMo cy Ms Mb Mq MB My ML Mg MF MW MI MA Mr Ma Mp Mf Mt Ml Mo Mn Mm MT MP Mv Mx Mz) (by decide +kernel) rfl rfl ?_
      have h := Option.some.inj h
      subst h
      exact G_zret C (v := false) hR (by decide +kernel)
    · rw [if_neg c] at h
      refine G_r C [(.aload_n 0, 1, 0, 0, .null), (.iconst 0, 1, 0, 0, .int (0 : Int32)), (.iload_n 1, 1, 0, 0, .null)] 20 [(0, .ref 0), (1, .int x1)] [.int x1, .int (0 : Int32), .ref 0] (wMo cy Ms Mb Mq MB My ML Mg MF MW MI MA Mr Ma Mp Mf Mt Ml Mo Mn Mm MT MP Mv Mx Mz) (by decide +kernel) rfl rfl ?_
      obtain ⟨q1, hq1, h⟩ := obd h
      refine G_c0 C lk_7_146 ⟨Nat.le_of_ble_eq_true rfl, Nat.le_of_ble_eq_true rfl⟩ (by decide +kernel) [.long q1.1] (c_X7_detOf cy Ms Mb Mq MB My ML Mg MF MW MI MA Mr Ma Mp Mf Mt Ml Mo Mn Mm MT MP Mv Mx Mz (0 : Int32) x1 q1 hq1) rfl rfl (Nat.le_of_ble_eq_true rfl) ⟨rfl, rfl⟩ rfl ?_
      refine G_r C [(.lconst 0, 1, 0, 0, .long (0 : Int64))] 24 [(0, .ref 0), (1, .int x1)] [.long (0 : Int64), .long q1.1] (wMo cy Ms Mb Mq MB My ML Mg MF MW MI MA Mr Ma Mp Mf Mt Ml Mo Mn Mm q1.2 MP Mv Mx Mz) (by decide +kernel) rfl rfl ?_
      refine G_lcmp_eq C (off := 7) (tgt := 32) (by decide +kernel) (by decide +kernel) rfl (fun c => ?_) (fun c => ?_)
      · rw [if_pos c] at h
        refine G_r C [(.iconst 0, 1, 0, 0, .int (0 : Int32))] 33 [(0, .ref 0), (1, .int x1)] [.int (0 : Int32)] (wMo cy Ms Mb Mq MB My ML Mg MF MW MI MA Mr Ma Mp Mf Mt Ml Mo Mn Mm q1.2 MP Mv Mx Mz) (by decide +kernel) rfl rfl ?_
        have h := Option.some.inj h
        subst h
        exact G_zret C (v := false) hR (by decide +kernel)
      · rw [if_neg c] at h
        refine G_r C [(.iconst 1, 1, 0, 0, .int (1 : Int32))] 29 [(0, .ref 0), (1, .int x1)] [.int (1 : Int32)] (wMo cy Ms Mb Mq MB My ML Mg MF MW MI MA Mr Ma Mp Mf Mt Ml Mo Mn Mm q1.2 MP Mv Mx Mz) (by decide +kernel) rfl rfl ?_
        refine G_goto C (off := 4) (tgt := 33) (by decide +kernel) rfl ?_
        have h := Option.some.inj h
        subst h
        exact G_zret C (v := true) hR (by decide +kernel)
def f_X7_makePoly_L27 : Nat → Int32 → Int32 → Int32 → Int32 → (Nat → Int32) → (Nat → Int64) → Option (Nat → Int64)
  | 0, _, _, _, _, _, _ => none
  | fu + 1, x1, x2, x3, x4, Mr, MT => if x1 ≤ x4 then (some MT) else (if x4 = x2 then (if (x3 + x1) < 0 ∨ 8 ≤ (x3 + x1).toNatClampNeg then none else if (((4 : Int32) * x3) + x4) < 0 ∨ 16 ≤ (((4 : Int32) * x3) + x4).toNatClampNeg then none else f_X7_makePoly_L27 fu x1 x2 x3 (x4 + (1 : Int32)) Mr (vp_updL MT (((4 : Int32) * x3) + x4).toNatClampNeg ((-(Mr (x3 + x1).toNatClampNeg)).toInt64))) else (if (x3 + x4) < 0 ∨ 8 ≤ (x3 + x4).toNatClampNeg then none else if (((4 : Int32) * x3) + x4) < 0 ∨ 16 ≤ (((4 : Int32) * x3) + x4).toNatClampNeg then none else f_X7_makePoly_L27 fu x1 x2 x3 (x4 + (1 : Int32)) Mr (vp_updL MT (((4 : Int32) * x3) + x4).toNatClampNeg ((Mr (x3 + x4).toNatClampNeg).toInt64))))
def f_X7_makePoly_L19 : Nat → Int32 → Int32 → Int32 → (Nat → Int32) → (Nat → Int64) → Option (Nat → Int64)
  | 0, _, _, _, _, _ => none
  | fu + 1, x1, x2, x3, Mr, MT => if x1 ≤ x3 then (some MT) else ((f_X7_makePoly_L27 200 x1 x2 x3 (0 : Int32) Mr MT).bind fun q2 => f_X7_makePoly_L19 fu x1 x2 (x3 + (1 : Int32)) Mr q2)
def f_X7_makePoly_L12 : Nat → Int32 → Int32 → (Nat → Int32) → (Nat → Int64) → (Nat → Int64) → Option ((Nat → Int64) × (Nat → Int64))
  | 0, _, _, _, _, _ => none
  | fu + 1, x1, x2, Mr, MT, MP => if x1 ≤ x2 then (some (MT, MP)) else ((f_X7_makePoly_L19 200 x1 x2 (0 : Int32) Mr MT).bind fun q3 => (f_X7_clearTable x1 q3).bind fun q4 => if x2 < 0 ∨ 4 ≤ x2.toNatClampNeg then none else f_X7_makePoly_L12 fu x1 (x2 + (1 : Int32)) Mr q4.2 (vp_updL MP x2.toNatClampNeg q4.1))
def f_X7_makePoly (x1 : Int32) (Mr : Nat → Int32) (MT : Nat → Int64) (MP : Nat → Int64) : Option (Int64 × (Nat → Int64) × (Nat → Int64)) := (f_X7_detOf (0 : Int32) x1 Mr MT).bind fun q1 => (f_X7_makePoly_L12 200 x1 (0 : Int32) Mr q1.2 MP).bind fun q5 => if x1 < 0 ∨ 4 ≤ x1.toNatClampNeg then none else some (q1.1, q5.1, (vp_updL q5.2 x1.toNatClampNeg q1.1))
set_option maxHeartbeats 4000000 in
set_option maxRecDepth 100000 in
theorem g_X7_makePoly_L27 {k : KX} {cy : Nat → ClassId} (C : OK k cX7_makePoly 7 5 cy 2 54) : ∀ (fu : Nat) (x1 : Int32) (x2 : Int32) (x3 : Int32) (x4 : Int32) (Ms : Int32) (Mb : Int32) (Mq : Int32) (MB : Int64) (My : Int32) (ML : Int32) (Mg : Int32) (MF : Int32) (MW : Bool) (MI : Bool) (MA : Int32) (Mr : Nat → Int32) (Ma : Nat → Int32) (Mp : Nat → Int32) (Mf : Nat → Int32) (Mt : Nat → Int32) (Ml : Nat → Int32) (Mo : Nat → Int32) (Mn : Nat → Int32) (Mm : Nat → Int64) (MT : Nat → Int64) (MP : Nat → Int64) (Mv : Nat → Int32) (Mx : Nat → Int64) (Mz : Nat → Int64) (res : (Nat → Int64)), (f_X7_makePoly_L27 fu x1 x2 x3 x4 Mr MT = some res) → G k 5 79 [(0, .ref 0), (1, .int x1), (2, .int x2), (3, .int x3)] [] (wMo cy Ms Mb Mq MB My ML Mg MF MW MI MA Mr Ma Mp Mf Mt Ml Mo Mn Mm res MP Mv Mx Mz) → G k 5 27 [(0, .ref 0), (1, .int x1), (2, .int x2), (3, .int x3), (4, .int x4)] [] (wMo cy Ms Mb Mq MB My ML Mg MF MW MI MA Mr Ma Mp Mf Mt Ml Mo Mn Mm MT MP Mv Mx Mz) := by
  intro fu
  induction fu with
  | zero =>
    intro x1 x2 x3 x4 Ms Mb Mq MB My ML Mg MF MW MI MA Mr Ma Mp Mf Mt Ml Mo Mn Mm MT MP Mv Mx Mz res h hex
    rw [f_X7_makePoly_L27] at h
    cases h
  | succ fu ih =>
    intro x1 x2 x3 x4 Ms Mb Mq MB My ML Mg MF MW MI MA Mr Ma Mp Mf Mt Ml Mo Mn Mm MT MP Mv Mx Mz res h hex
    rw [f_X7_makePoly_L27] at h
    refine G_r C [(.iload 4, 2, 0, 0, .null), (.iload_n 1, 1, 0, 0, .null)] 30 [(0, .ref 0), (1, .int x1), (2, .int x2), (3, .int x3), (4, .int x4)] [.int x1, .int x4] (wMo cy Ms Mb Mq MB My ML Mg MF MW MI MA Mr Ma Mp Mf Mt Ml Mo Mn Mm MT MP Mv Mx Mz) (by decide +kernel) rfl rfl ?_
    refine G_icmp_ge C (off := 49) (tgt := 79) (by decide +kernel) rfl (fun c => ?_) (fun c => ?_)
    · rw [if_pos c] at h
      have h := Option.some.inj h
      subst h
      refine G_lv [0, 1, 2, 3] (lv' := [(0, .ref 0), (1, .int x1), (2, .int x2), (3, .int x3)]) rfl ?_
      exact hex
    · rw [if_neg c] at h
      refine G_r C [(.aload_n 0, 1, 0, 0, .null), (.getfield 38, 3, 7, 12, .null), (.iconst 4, 1, 0, 0, .int (4 : Int32)), (.iload_n 3, 1, 0, 0, .null), (.imul, 1, 0, 0, .null), (.iload 4, 2, 0, 0, .null), (.iadd, 1, 0, 0, .null), (.iload 4, 2, 0, 0, .null), (.iload_n 2, 1, 0, 0, .null)] 46 [(0, .ref 0), (1, .int x1), (2, .int x2), (3, .int x3), (4, .int x4)] [.int x2, .int x4, .int (((4 : Int32) * x3) + x4), .ref 10] (wMo cy Ms Mb Mq MB My ML Mg MF MW MI MA Mr Ma Mp Mf Mt Ml Mo Mn Mm MT MP Mv Mx Mz) (by decide +kernel) rfl rfl ?_
      refine G_icmp_ne C (off := 16) (tgt := 62) (by decide +kernel) rfl (fun c => ?_) (fun c => ?_)
      · rw [if_neg c] at h
        refine G_r C [(.aload_n 0, 1, 0, 0, .null), (.getfield 7, 3, 7, 0, .null), (.iload_n 3, 1, 0, 0, .null), (.iload 4, 2, 0, 0, .null), (.iadd, 1, 0, 0, .null)] 70 [(0, .ref 0), (1, .int x1), (2, .int x2), (3, .int x3), (4, .int x4)] [.int (x3 + x4), .ref 1, .int (((4 : Int32) * x3) + x4), .ref 10] (wMo cy Ms Mb Mq MB My ML Mg MF MW MI MA Mr Ma Mp Mf Mt Ml Mo Mn Mm MT MP Mv Mx Mz) (by decide +kernel) rfl rfl ?_
        obtain ⟨cg, h⟩ := oob h
        refine G_iald C (a := 1) rfl cg (by decide +kernel) ?_
        refine G_r C [(.i2l, 1, 0, 0, .null)] 72 [(0, .ref 0), (1, .int x1), (2, .int x2), (3, .int x3), (4, .int x4)] [.long ((Mr (x3 + x4).toNatClampNeg).toInt64), .int (((4 : Int32) * x3) + x4), .ref 10] (wMo cy Ms Mb Mq MB My ML Mg MF MW MI MA Mr Ma Mp Mf Mt Ml Mo Mn Mm MT MP Mv Mx Mz) (by decide +kernel) rfl rfl ?_
        obtain ⟨cg, h⟩ := oob h
        refine G_last C (a := 10) (w' := (wMo cy Ms Mb Mq MB My ML Mg MF MW MI MA Mr Ma Mp Mf Mt Ml Mo Mn Mm (vp_updL MT (((4 : Int32) * x3) + x4).toNatClampNeg ((Mr (x3 + x4).toNatClampNeg).toInt64)) MP Mv Mx Mz)) rfl cg (by decide +kernel) rfl ?_
        refine G_r C [(.iinc 4 1, 3, 0, 0, .int (1 : Int32))] 76 [(4, .int (x4 + (1 : Int32))), (0, .ref 0), (1, .int x1), (2, .int x2), (3, .int x3)] [] (wMo cy Ms Mb Mq MB My ML Mg MF MW MI MA Mr Ma Mp Mf Mt Ml Mo Mn Mm (vp_updL MT (((4 : Int32) * x3) + x4).toNatClampNeg ((Mr (x3 + x4).toNatClampNeg).toInt64)) MP Mv Mx Mz) (by decide +kernel) rfl rfl ?_
        refine G_goto C (off := -49) (tgt := 27) (by decide +kernel) rfl ?_
        refine G_lv [1, 2, 3, 4, 0] (lv' := [(0, .ref 0), (1, .int x1), (2, .int x2), (3, .int x3), (4, .int (x4 + (1 : Int32)))]) rfl ?_
        exact ih x1 x2 x3 (x4 + (1 : Int32)) Ms Mb Mq MB My ML Mg MF MW MI MA Mr Ma Mp Mf Mt Ml Mo Mn Mm (vp_updL MT (((4 : Int32) * x3) + x4).toNatClampNeg ((Mr (x3 + x4).toNatClampNeg).toInt64)) MP Mv Mx Mz res h hex
      · rw [if_pos c] at h
        refine G_r C [(.aload_n 0, 1, 0, 0, .null), (.getfield 7, 3, 7, 0, .null), (.iload_n 3, 1, 0, 0, .null), (.iload_n 1, 1, 0, 0, .null), (.iadd, 1, 0, 0, .null)] 56 [(0, .ref 0), (1, .int x1), (2, .int x2), (3, .int x3), (4, .int x4)] [.int (x3 + x1), .ref 1, .int (((4 : Int32) * x3) + x4), .ref 10] (wMo cy Ms Mb Mq MB My ML Mg MF MW MI MA Mr Ma Mp Mf Mt Ml Mo Mn Mm MT MP Mv Mx Mz) (by decide +kernel) rfl rfl ?_
        obtain ⟨cg, h⟩ := oob h
        refine G_iald C (a := 1) rfl cg (by decide +kernel) ?_
        refine G_r C [(.ineg, 1, 0, 0, .null), (.i2l, 1, 0, 0, .null)] 59 [(0, .ref 0), (1, .int x1), (2, .int x2), (3, .int x3), (4, .int x4)] [.long ((-(Mr (x3 + x1).toNatClampNeg)).toInt64), .int (((4 : Int32) * x3) + x4), .ref 10] (wMo cy Ms Mb Mq MB My ML Mg MF MW MI MA Mr Ma Mp Mf Mt Ml Mo Mn Mm MT MP Mv Mx Mz) (by decide +kernel) rfl rfl ?_
        refine G_goto C (off := 13) (tgt := 72) (by decide +kernel) rfl ?_
        obtain ⟨cg, h⟩ := oob h
        refine G_last C (a := 10) (w' := (wMo cy Ms Mb Mq MB My ML Mg MF MW MI MA Mr Ma Mp Mf Mt Ml Mo Mn Mm (vp_updL MT (((4 : Int32) * x3) + x4).toNatClampNeg ((-(Mr (x3 + x1).toNatClampNeg)).toInt64)) MP Mv Mx Mz)) rfl cg (by decide +kernel) rfl ?_
        refine G_r C [(.iinc 4 1, 3, 0, 0, .int (1 : Int32))] 76 [(4, .int (x4 + (1 : Int32))), (0, .ref 0), (1, .int x1), (2, .int x2), (3, .int x3)] [] (wMo cy Ms Mb Mq MB My ML Mg MF MW MI MA Mr Ma Mp Mf Mt Ml Mo Mn Mm (vp_updL MT (((4 : Int32) * x3) + x4).toNatClampNeg ((-(Mr (x3 + x1).toNatClampNeg)).toInt64)) MP Mv Mx Mz) (by decide +kernel) rfl rfl ?_
        refine G_goto C (off := -49) (tgt := 27) (by decide +kernel) rfl ?_
        refine G_lv [1, 2, 3, 4, 0] (lv' := [(0, .ref 0), (1, .int x1), (2, .int x2), (3, .int x3), (4, .int (x4 + (1 : Int32)))]) rfl ?_
        exact ih x1 x2 x3 (x4 + (1 : Int32)) Ms Mb Mq MB My ML Mg MF MW MI MA Mr Ma Mp Mf Mt Ml Mo Mn Mm (vp_updL MT (((4 : Int32) * x3) + x4).toNatClampNeg ((-(Mr (x3 + x1).toNatClampNeg)).toInt64)) MP Mv Mx Mz res h hex
set_option maxHeartbeats 4000000 in
set_option maxRecDepth 100000 in
theorem g_X7_makePoly_L19 {k : KX} {cy : Nat → ClassId} (C : OK k cX7_makePoly 7 5 cy 2 54) : ∀ (fu : Nat) (x1 : Int32) (x2 : Int32) (x3 : Int32) (Ms : Int32) (Mb : Int32) (Mq : Int32) (MB : Int64) (My : Int32) (ML : Int32) (Mg : Int32) (MF : Int32) (MW : Bool) (MI : Bool) (MA : Int32) (Mr : Nat → Int32) (Ma : Nat → Int32) (Mp : Nat → Int32) (Mf : Nat → Int32) (Mt : Nat → Int32) (Ml : Nat → Int32) (Mo : Nat → Int32) (Mn : Nat → Int32) (Mm : Nat → Int64) (MT : Nat → Int64) (MP : Nat → Int64) (Mv : Nat → Int32) (Mx : Nat → Int64) (Mz : Nat → Int64) (res : (Nat → Int64)), (f_X7_makePoly_L19 fu x1 x2 x3 Mr MT = some res) → G k 5 85 [(0, .ref 0), (1, .int x1), (2, .int x2)] [] (wMo cy Ms Mb Mq MB My ML Mg MF MW MI MA Mr Ma Mp Mf Mt Ml Mo Mn Mm res MP Mv Mx Mz) → G k 5 19 [(0, .ref 0), (1, .int x1), (2, .int x2), (3, .int x3)] [] (wMo cy Ms Mb Mq MB My ML Mg MF MW MI MA Mr Ma Mp Mf Mt Ml Mo Mn Mm MT MP Mv Mx Mz) := by
  intro fu
  induction fu with
  | zero =>
    intro x1 x2 x3 Ms Mb Mq MB My ML Mg MF MW MI MA Mr Ma Mp Mf Mt Ml Mo Mn Mm MT MP Mv Mx Mz res h hex
    rw [f_X7_makePoly_L19] at h
    cases h
  | succ fu ih =>
    intro x1 x2 x3 Ms Mb Mq MB My ML Mg MF MW MI MA Mr Ma Mp Mf Mt Ml Mo Mn Mm MT MP Mv Mx Mz res h hex
    rw [f_X7_makePoly_L19] at h
    refine G_r C [(.iload_n 3, 1, 0, 0, .null), (.iload_n 1, 1, 0, 0, .null)] 21 [(0, .ref 0), (1, .int x1), (2, .int x2), (3, .int x3)] [.int x1, .int x3] (wMo cy Ms Mb Mq MB My ML Mg MF MW MI MA Mr Ma Mp Mf Mt Ml Mo Mn Mm MT MP Mv Mx Mz) (by decide +kernel) rfl rfl ?_
    refine G_icmp_ge C (off := 64) (tgt := 85) (by decide +kernel) rfl (fun c => ?_) (fun c => ?_)
    · rw [if_pos c] at h
      have h := Option.some.inj h
      subst h
      refine G_lv [0, 1, 2] (lv' := [(0, .ref 0), (1, .int x1), (2, .int x2)]) rfl ?_
      exact hex
    · rw [if_neg c] at h
      refine G_r C [(.iconst 0, 1, 0, 0, .int (0 : Int32)), (.istore 4, 2, 0, 0, .null)] 27 [(4, .int (0 : Int32)), (0, .ref 0), (1, .int x1), (2, .int x2), (3, .int x3)] [] (wMo cy Ms Mb Mq MB My ML Mg MF MW MI MA Mr Ma Mp Mf Mt Ml Mo Mn Mm MT MP Mv Mx Mz) (by decide +kernel) rfl rfl ?_
      obtain ⟨q2, hq2, h⟩ := obd h
      refine G_lv [1, 2, 3, 4, 0] (lv' := [(0, .ref 0), (1, .int x1), (2, .int x2), (3, .int x3), (4, .int (0 : Int32))]) rfl ?_
      refine g_X7_makePoly_L27 C 200 x1 x2 x3 (0 : Int32) Ms Mb Mq MB My ML Mg MF MW MI MA Mr Ma Mp Mf Mt Ml Mo Mn Mm MT MP Mv Mx Mz q2 hq2 ?_
      refine G_r C [(.iinc 3 1, 3, 0, 0, .int (1 : Int32))] 82 [(3, .int (x3 + (1 : Int32))), (0, .ref 0), (1, .int x1), (2, .int x2)] [] (wMo cy Ms Mb Mq MB My ML Mg MF MW MI MA Mr Ma Mp Mf Mt Ml Mo Mn Mm q2 MP Mv Mx Mz) (by decide +kernel) rfl rfl ?_
      refine G_goto C (off := -63) (tgt := 19) (by decide +kernel) rfl ?_
      refine G_lv [1, 2, 3, 0] (lv' := [(0, .ref 0), (1, .int x1), (2, .int x2), (3, .int (x3 + (1 : Int32)))]) rfl ?_
      exact ih x1 x2 (x3 + (1 : Int32)) Ms Mb Mq MB My ML Mg MF MW MI MA Mr Ma Mp Mf Mt Ml Mo Mn Mm q2 MP Mv Mx Mz res h hex
set_option maxHeartbeats 4000000 in
set_option maxRecDepth 100000 in
theorem g_X7_makePoly_L12 {k : KX} {cy : Nat → ClassId} (C : OK k cX7_makePoly 7 5 cy 2 54) : ∀ (fu : Nat) (x1 : Int32) (x2 : Int32) (Ms : Int32) (Mb : Int32) (Mq : Int32) (MB : Int64) (My : Int32) (ML : Int32) (Mg : Int32) (MF : Int32) (MW : Bool) (MI : Bool) (MA : Int32) (Mr : Nat → Int32) (Ma : Nat → Int32) (Mp : Nat → Int32) (Mf : Nat → Int32) (Mt : Nat → Int32) (Ml : Nat → Int32) (Mo : Nat → Int32) (Mn : Nat → Int32) (Mm : Nat → Int64) (MT : Nat → Int64) (MP : Nat → Int64) (Mv : Nat → Int32) (Mx : Nat → Int64) (Mz : Nat → Int64) (res : ((Nat → Int64) × (Nat → Int64))), (f_X7_makePoly_L12 fu x1 x2 Mr MT MP = some res) → G k 5 102 [(0, .ref 0), (1, .int x1)] [] (wMo cy Ms Mb Mq MB My ML Mg MF MW MI MA Mr Ma Mp Mf Mt Ml Mo Mn Mm res.1 res.2 Mv Mx Mz) → G k 5 12 [(0, .ref 0), (1, .int x1), (2, .int x2)] [] (wMo cy Ms Mb Mq MB My ML Mg MF MW MI MA Mr Ma Mp Mf Mt Ml Mo Mn Mm MT MP Mv Mx Mz) := by
  intro fu
  induction fu with
  | zero =>
    intro x1 x2 Ms Mb Mq MB My ML Mg MF MW MI MA Mr Ma Mp Mf Mt Ml Mo Mn Mm MT MP Mv Mx Mz res h hex
    rw [f_X7_makePoly_L12] at h
    cases h
  | succ fu ih =>
    intro x1 x2 Ms Mb Mq MB My ML Mg MF MW MI MA Mr Ma Mp Mf Mt Ml Mo Mn Mm MT MP Mv Mx Mz res h hex
    rw [f_X7_makePoly_L12] at h
    refine G_r C [(.iload_n 2, 1, 0, 0, .null), (.iload_n 1, 1, 0, 0, .null)] 14 [(0, .ref 0), (1, .int x1), (2, .int x2)] [.int x1, .int x2] (wMo cy Ms Mb Mq MB My ML Mg MF MW MI MA Mr Ma Mp Mf Mt Ml Mo Mn Mm MT MP Mv Mx Mz) (by decide +kernel) rfl rfl ?_
    refine G_icmp_ge C (off := 88) (tgt := 102) (by decide +kernel) rfl (fun c => ?_) (fun c => ?_)
    · rw [if_pos c] at h
      have h := Option.some.inj h
      subst h
      refine G_lv [0, 1] (lv' := [(0, .ref 0), (1, .int x1)]) rfl ?_
      exact hex
    · rw [if_neg c] at h
      refine G_r C [(.iconst 0, 1, 0, 0, .int (0 : Int32)), (.istore_n 3, 1, 0, 0, .null)] 19 [(3, .int (0 : Int32)), (0, .ref 0), (1, .int x1), (2, .int x2)] [] (wMo cy Ms Mb Mq MB My ML Mg MF MW MI MA Mr Ma Mp Mf Mt Ml Mo Mn Mm MT MP Mv Mx Mz) (by decide +kernel) rfl rfl ?_
      obtain ⟨q3, hq3, h⟩ := obd h
      refine G_lv [1, 2, 3, 0] (lv' := [(0, .ref 0), (1, .int x1), (2, .int x2), (3, .int (0 : Int32))]) rfl ?_
      refine g_X7_makePoly_L19 C 200 x1 x2 (0 : Int32) Ms Mb Mq MB My ML Mg MF MW MI MA Mr Ma Mp Mf Mt Ml Mo Mn Mm MT MP Mv Mx Mz q3 hq3 ?_
      refine G_r C [(.aload_n 0, 1, 0, 0, .null), (.getfield 41, 3, 7, 13, .null), (.iload_n 2, 1, 0, 0, .null), (.aload_n 0, 1, 0, 0, .null), (.iload_n 1, 1, 0, 0, .null)] 92 [(0, .ref 0), (1, .int x1), (2, .int x2)] [.int x1, .ref 0, .int x2, .ref 11] (wMo cy Ms Mb Mq MB My ML Mg MF MW MI MA Mr Ma Mp Mf Mt Ml Mo Mn Mm q3 MP Mv Mx Mz) (by decide +kernel) rfl rfl ?_
      obtain ⟨q4, hq4, h⟩ := obd h
      refine G_c0 C lk_7_135 ⟨Nat.le_of_ble_eq_true rfl, Nat.le_of_ble_eq_true rfl⟩ (by decide +kernel) [.long q4.1, .int x2, .ref 11] (c_X7_clearTable cy Ms Mb Mq MB My ML Mg MF MW MI MA Mr Ma Mp Mf Mt Ml Mo Mn Mm q3 MP Mv Mx Mz x1 q4 hq4) rfl rfl (Nat.le_of_ble_eq_true rfl) ⟨rfl, rfl⟩ rfl ?_
      obtain ⟨cg, h⟩ := oob h
      refine G_last C (a := 11) (w' := (wMo cy Ms Mb Mq MB My ML Mg MF MW MI MA Mr Ma Mp Mf Mt Ml Mo Mn Mm q4.2 (vp_updL MP x2.toNatClampNeg q4.1) Mv Mx Mz)) rfl cg (by decide +kernel) rfl ?_
      refine G_r C [(.iinc 2 1, 3, 0, 0, .int (1 : Int32))] 99 [(2, .int (x2 + (1 : Int32))), (0, .ref 0), (1, .int x1)] [] (wMo cy Ms Mb Mq MB My ML Mg MF MW MI MA Mr Ma Mp Mf Mt Ml Mo Mn Mm q4.2 (vp_updL MP x2.toNatClampNeg q4.1) Mv Mx Mz) (by decide +kernel) rfl rfl ?_
      refine G_goto C (off := -87) (tgt := 12) (by decide +kernel) rfl ?_
      refine G_lv [1, 2, 0] (lv' := [(0, .ref 0), (1, .int x1), (2, .int (x2 + (1 : Int32)))]) rfl ?_
      exact ih x1 (x2 + (1 : Int32)) Ms Mb Mq MB My ML Mg MF MW MI MA Mr Ma Mp Mf Mt Ml Mo Mn Mm q4.2 (vp_updL MP x2.toNatClampNeg q4.1) Mv Mx Mz res h hex
set_option maxHeartbeats 4000000 in
set_option maxRecDepth 100000 in
theorem c_X7_makePoly (cy : Nat → ClassId) (Ms : Int32) (Mb : Int32) (Mq : Int32) (MB : Int64) (My : Int32) (ML : Int32) (Mg : Int32) (MF : Int32) (MW : Bool) (MI : Bool) (MA : Int32) (Mr : Nat → Int32) (Ma : Nat → Int32) (Mp : Nat → Int32) (Mf : Nat → Int32) (Mt : Nat → Int32) (Ml : Nat → Int32) (Mo : Nat → Int32) (Mn : Nat → Int32) (Mm : Nat → Int64) (MT : Nat → Int64) (MP : Nat → Int64) (Mv : Nat → Int32) (Mx : Nat → Int64) (Mz : Nat → Int64) (x1 : Int32) (res : (Int64 × (Nat → Int64) × (Nat → Int64))) (h : f_X7_makePoly x1 Mr MT MP = some res) : MG cy yX7_makePoly cX7_makePoly 5 none 2 54 [.ref 0, .int x1] (wMo cy Ms Mb Mq MB My ML Mg MF MW MI MA Mr Ma Mp Mf Mt Ml Mo Mn Mm MT MP Mv Mx Mz) none (wMo cy Ms Mb Mq res.1 My ML Mg MF MW MI MA Mr Ma Mp Mf Mt Ml Mo Mn Mm res.2.1 res.2.2 Mv Mx Mz) := by
  refine MG_of (o := 7) (lv := [(0, .ref 0), (1, .int x1)]) ⟨by decide +kernel, rfl⟩ (Nat.le_of_ble_eq_true rfl) rfl (fun k C hR => ?_)
  rw [f_X7_makePoly] at h
  refine G_r C [(.aload_n 0, 1, 0, 0, .null), (.aload_n 0, 1, 0, 0, .null), (.iconst 0, 1, 0, 0, .int (0 : Int32)), (.iload_n 1, 1, 0, 0, .null)] 4 [(0, .ref 0), (1, .int x1)] [.int x1, .int (0 : Int32), .ref 0, .ref 0] (wMo cy Ms Mb Mq MB My ML Mg MF MW MI MA Mr Ma Mp Mf Mt Ml Mo Mn Mm MT MP Mv Mx Mz) (by decide +kernel) rfl rfl ?_
  obtain ⟨q1, hq1, h⟩ := obd h
  refine G_c0 C lk_7_146 ⟨Nat.le_of_ble_eq_true rfl, Nat.le_of_ble_eq_true rfl⟩ (by decide +kernel) [.long q1.1, .ref 0] (c_X7_detOf cy Ms Mb Mq MB My ML Mg MF MW MI MA Mr Ma Mp Mf Mt Ml Mo Mn Mm MT MP Mv Mx Mz (0 : Int32) x1 q1 hq1) rfl rfl (Nat.le_of_ble_eq_true rfl) ⟨rfl, rfl⟩ rfl ?_
  refine G_r C [(.putfield 153, 3, 7, 14, .null), (.iconst 0, 1, 0, 0, .int (0 : Int32)), (.istore_n 2, 1, 0, 0, .null)] 12 [(2, .int (0 : Int32)), (0, .ref 0), (1, .int x1)] [] (wMo cy Ms Mb Mq q1.1 My ML Mg MF MW MI MA Mr Ma Mp Mf Mt Ml Mo Mn Mm q1.2 MP Mv Mx Mz) (by decide +kernel) rfl rfl ?_
  obtain ⟨q5, hq5, h⟩ := obd h
  refine G_lv [1, 2, 0] (lv' := [(0, .ref 0), (1, .int x1), (2, .int (0 : Int32))]) rfl ?_
  refine g_X7_makePoly_L12 C 200 x1 (0 : Int32) Ms Mb Mq q1.1 My ML Mg MF MW MI MA Mr Ma Mp Mf Mt Ml Mo Mn Mm q1.2 MP Mv Mx Mz q5 hq5 ?_
  refine G_r C [(.aload_n 0, 1, 0, 0, .null), (.getfield 41, 3, 7, 13, .null), (.iload_n 1, 1, 0, 0, .null), (.aload_n 0, 1, 0, 0, .null), (.getfield 153, 3, 7, 14, .null)] 111 [(0, .ref 0), (1, .int x1)] [.long q1.1, .int x1, .ref 11] (wMo cy Ms Mb Mq q1.1 My ML Mg MF MW MI MA Mr Ma Mp Mf Mt Ml Mo Mn Mm q5.1 q5.2 Mv Mx Mz) (by decide +kernel) rfl rfl ?_
  obtain ⟨cg, h⟩ := oob h
  refine G_last C (a := 11) (w' := (wMo cy Ms Mb Mq q1.1 My ML Mg MF MW MI MA Mr Ma Mp Mf Mt Ml Mo Mn Mm q5.1 (vp_updL q5.2 x1.toNatClampNeg q1.1) Mv Mx Mz)) rfl cg (by decide +kernel) rfl ?_
  have h := Option.some.inj h
  subst h
  exact G_vret C hR (by decide +kernel)
def f_X7_common_L28 : Nat → Int64 → Int64 → Option Int64
  | 0, _, _ => none
  | fu + 1, x4, x6 => if x6 = (0 : Int64) then (some x4) else (if x6 = 0 then none else f_X7_common_L28 fu x6 (x4 - x4 / x6 * x6))
def f_X7_common (x0 : Int64) (x2 : Int64) : Option Int64 := if (0 : Int64) ≤ x0 then (if (0 : Int64) ≤ x2 then ((f_X7_common_L28 200 x0 x2).bind fun q1 => some q1) else ((f_X7_common_L28 200 x0 (-x2)).bind fun q2 => some q2)) else (if (0 : Int64) ≤ x2 then ((f_X7_common_L28 200 (-x0) x2).bind fun q3 => some q3) else ((f_X7_common_L28 200 (-x0) (-x2)).bind fun q4 => some q4))
set_option maxHeartbeats 4000000 in
set_option maxRecDepth 100000 in
theorem g_X7_common_L28 {k : KX} {cy : Nat → ClassId} (C : OK k cX7_common 7 10 cy 0 0) : ∀ (fu : Nat) (x4 : Int64) (x6 : Int64) (res : Int64), (f_X7_common_L28 fu x4 x6 = some res) → G k 10 53 [(4, .long res)] [] [] → G k 10 28 [(4, .long x4), (6, .long x6)] [] [] := by
  intro fu
  induction fu with
  | zero =>
    intro x4 x6 res h hex
    rw [f_X7_common_L28] at h
    cases h
  | succ fu ih =>
    intro x4 x6 res h hex
    rw [f_X7_common_L28] at h
    refine G_r C [(.lload 6, 2, 0, 0, .null), (.lconst 0, 1, 0, 0, .long (0 : Int64))] 31 [(4, .long x4), (6, .long x6)] [.long (0 : Int64), .long x6] [] (by decide +kernel) rfl rfl ?_
    refine G_lcmp_eq C (off := 21) (tgt := 53) (by decide +kernel) (by decide +kernel) rfl (fun c => ?_) (fun c => ?_)
    · rw [if_pos c] at h
      have h := Option.some.inj h
      subst h
      refine G_lv [0] (lv' := [(4, .long x4)]) rfl ?_
      exact hex
    · rw [if_neg c] at h
      refine G_r C [(.lload 4, 2, 0, 0, .null), (.lload 6, 2, 0, 0, .null)] 39 [(4, .long x4), (6, .long x6)] [.long x6, .long x4] [] (by decide +kernel) rfl rfl ?_
      obtain ⟨cg, h⟩ := oob h
      refine G_lrem C (by decide +kernel) cg ?_
      refine G_r C [(.lstore 8, 2, 0, 0, .null), (.lload 6, 2, 0, 0, .null), (.lstore 4, 2, 0, 0, .null), (.lload 8, 2, 0, 0, .null), (.lstore 6, 2, 0, 0, .null)] 50 [(6, .long (x4 - x4 / x6 * x6)), (4, .long x6), (8, .long (x4 - x4 / x6 * x6))] [] [] (by decide +kernel) rfl rfl ?_
      refine G_goto C (off := -22) (tgt := 28) (by decide +kernel) rfl ?_
      refine G_lv [1, 0] (lv' := [(4, .long x6), (6, .long (x4 - x4 / x6 * x6))]) rfl ?_
      exact ih x6 (x4 - x4 / x6 * x6)  res h hex
set_option maxHeartbeats 4000000 in
set_option maxRecDepth 100000 in
theorem c_X7_common (cy : Nat → ClassId)  (x0 : Int64) (x2 : Int64) (res : Int64) (h : f_X7_common x0 x2 = some res) : MG cy yX7_common cX7_common 10 (some .long) 0 0 [.long x0, .long x2] [] (some (.long res)) [] := by
  refine MG_of (o := 7) (lv := [(0, .long x0), (2, .long x2)]) ⟨by decide +kernel, rfl⟩ (Nat.le_of_ble_eq_true rfl) rfl (fun k C hR => ?_)
  rw [f_X7_common] at h
  refine G_r C [(.lload_n 0, 1, 0, 0, .null), (.lconst 0, 1, 0, 0, .long (0 : Int64))] 2 [(0, .long x0), (2, .long x2)] [.long (0 : Int64), .long x0] [] (by decide +kernel) rfl rfl ?_
  refine G_lcmp_ge C (off := 8) (tgt := 11) (by decide +kernel) (by decide +kernel) rfl (fun c => ?_) (fun c => ?_)
  · rw [if_pos c] at h
    refine G_r C [(.lload_n 0, 1, 0, 0, .null), (.lstore 4, 2, 0, 0, .null), (.lload_n 2, 1, 0, 0, .null), (.lconst 0, 1, 0, 0, .long (0 : Int64))] 16 [(4, .long x0), (0, .long x0), (2, .long x2)] [.long (0 : Int64), .long x2] [] (by decide +kernel) rfl rfl ?_
    refine G_lcmp_ge C (off := 8) (tgt := 25) (by decide +kernel) (by decide +kernel) rfl (fun c => ?_) (fun c => ?_)
    · rw [if_pos c] at h
      refine G_r C [(.lload_n 2, 1, 0, 0, .null), (.lstore 6, 2, 0, 0, .null)] 28 [(6, .long x2), (4, .long x0), (0, .long x0), (2, .long x2)] [] [] (by decide +kernel) rfl rfl ?_
      obtain ⟨q1, hq1, h⟩ := obd h
      refine G_lv [1, 0] (lv' := [(4, .long x0), (6, .long x2)]) rfl ?_
      refine g_X7_common_L28 C 200 x0 x2  q1 hq1 ?_
      refine G_r C [(.lload 4, 2, 0, 0, .null)] 55 [(4, .long q1)] [.long q1] [] (by decide +kernel) rfl rfl ?_
      have h := Option.some.inj h
      subst h
      exact G_lret C hR (by decide +kernel)
    · rw [if_neg c] at h
      refine G_r C [(.lload_n 2, 1, 0, 0, .null), (.lneg, 1, 0, 0, .null)] 22 [(4, .long x0), (0, .long x0), (2, .long x2)] [.long (-x2)] [] (by decide +kernel) rfl rfl ?_
      refine G_goto C (off := 4) (tgt := 26) (by decide +kernel) rfl ?_
      refine G_r C [(.lstore 6, 2, 0, 0, .null)] 28 [(6, .long (-x2)), (4, .long x0), (0, .long x0), (2, .long x2)] [] [] (by decide +kernel) rfl rfl ?_
      obtain ⟨q2, hq2, h⟩ := obd h
      refine G_lv [1, 0] (lv' := [(4, .long x0), (6, .long (-x2))]) rfl ?_
      refine g_X7_common_L28 C 200 x0 (-x2)  q2 hq2 ?_
      refine G_r C [(.lload 4, 2, 0, 0, .null)] 55 [(4, .long q2)] [.long q2] [] (by decide +kernel) rfl rfl ?_
      have h := Option.some.inj h
      subst h
      exact G_lret C hR (by decide +kernel)
  · rw [if_neg c] at h
    refine G_r C [(.lload_n 0, 1, 0, 0, .null), (.lneg, 1, 0, 0, .null)] 8 [(0, .long x0), (2, .long x2)] [.long (-x0)] [] (by decide +kernel) rfl rfl ?_
    refine G_goto C (off := 4) (tgt := 12) (by decide +kernel) rfl ?_
    refine G_r C [(.lstore 4, 2, 0, 0, .null), (.lload_n 2, 1, 0, 0, .null), (.lconst 0, 1, 0, 0, .long (0 : Int64))] 16 [(4, .long (-x0)), (0, .long x0), (2, .long x2)] [.long (0 : Int64), .long x2] [] (by decide +kernel) rfl rfl ?_
    refine G_lcmp_ge C (off := 8) (tgt := 25) (by decide +kernel) (by decide +kernel) rfl (fun c => ?_) (fun c => ?_)
    · rw [if_pos c] at h
      refine G_r C [(.lload_n 2, 1, 0, 0, .null), (.lstore 6, 2, 0, 0, .null)] 28 [(6, .long x2), (4, .long (-x0)), (0, .long x0), (2, .long x2)] [] [] (by decide +kernel) rfl rfl ?_
      obtain ⟨q3, hq3, h⟩ := obd h
      refine G_lv [1, 0] (lv' := [(4, .long (-x0)), (6, .long x2)]) rfl ?_
      refine g_X7_common_L28 C 200 (-x0) x2  q3 hq3 ?_
      refine G_r C [(.lload 4, 2, 0, 0, .null)] 55 [(4, .long q3)] [.long q3] [] (by decide +kernel) rfl rfl ?_
      have h := Option.some.inj h
      subst h
      exact G_lret C hR (by decide +kernel)
    · rw [if_neg c] at h
      refine G_r C [(.lload_n 2, 1, 0, 0, .null), (.lneg, 1, 0, 0, .null)] 22 [(4, .long (-x0)), (0, .long x0), (2, .long x2)] [.long (-x2)] [] (by decide +kernel) rfl rfl ?_
      refine G_goto C (off := 4) (tgt := 26) (by decide +kernel) rfl ?_
      refine G_r C [(.lstore 6, 2, 0, 0, .null)] 28 [(6, .long (-x2)), (4, .long (-x0)), (0, .long x0), (2, .long x2)] [] [] (by decide +kernel) rfl rfl ?_
      obtain ⟨q4, hq4, h⟩ := obd h
      refine G_lv [1, 0] (lv' := [(4, .long (-x0)), (6, .long (-x2))]) rfl ?_
      refine g_X7_common_L28 C 200 (-x0) (-x2)  q4 hq4 ?_
      refine G_r C [(.lload 4, 2, 0, 0, .null)] 55 [(4, .long q4)] [.long q4] [] (by decide +kernel) rfl rfl ?_
      have h := Option.some.inj h
      subst h
      exact G_lret C hR (by decide +kernel)
def f_X7_part (x0 : Int64) (x2 : Int64) (x4 : Int32) : Option Int64 := (f_X7_common x0 x2).bind fun q1 => if (0 : Int64) ≤ x2 then (if x4 = 0 then (if q1 = 0 then none else some (x0 / q1)) else (if q1 = 0 then none else some (x2 / q1))) else (if x4 = 0 then (if (-q1) = 0 then none else some (x0 / (-q1))) else (if (-q1) = 0 then none else some (x2 / (-q1))))
set_option maxHeartbeats 4000000 in
set_option maxRecDepth 100000 in
theorem c_X7_part (cy : Nat → ClassId)  (x0 : Int64) (x2 : Int64) (x4 : Int32) (res : Int64) (h : f_X7_part x0 x2 x4 = some res) : MG cy yX7_part cX7_part 7 (some .long) 1 29 [.long x0, .long x2, .int x4] [] (some (.long res)) [] := by
  refine MG_of (o := 7) (lv := [(0, .long x0), (2, .long x2), (4, .int x4)]) ⟨by decide +kernel, rfl⟩ (Nat.le_of_ble_eq_true rfl) rfl (fun k C hR => ?_)
  rw [f_X7_part] at h
  refine G_r C [(.lload_n 0, 1, 0, 0, .null), (.lload_n 2, 1, 0, 0, .null)] 2 [(0, .long x0), (2, .long x2), (4, .int x4)] [.long x2, .long x0] [] (by decide +kernel) rfl rfl ?_
  obtain ⟨q1, hq1, h⟩ := obd h
  refine G_cS C lk_7_149 ⟨Nat.le_of_ble_eq_true rfl, Nat.le_of_ble_eq_true rfl⟩ (by decide +kernel) [.long q1] (c_X7_common cy x0 x2 q1 hq1) rfl rfl (Nat.le_of_ble_eq_true rfl) rfl ?_
  refine G_r C [(.lstore 5, 2, 0, 0, .null), (.lload_n 2, 1, 0, 0, .null), (.lconst 0, 1, 0, 0, .long (0 : Int64))] 9 [(5, .long q1), (0, .long x0), (2, .long x2), (4, .int x4)] [.long (0 : Int64), .long x2] [] (by decide +kernel) rfl rfl ?_
  refine G_lcmp_ge C (off := 9) (tgt := 19) (by decide +kernel) (by decide +kernel) rfl (fun c => ?_) (fun c => ?_)
  · rw [if_pos c] at h
    refine G_r C [(.lload 5, 2, 0, 0, .null), (.lstore 5, 2, 0, 0, .null), (.iload 4, 2, 0, 0, .null)] 25 [(5, .long q1), (0, .long x0), (2, .long x2), (4, .int x4)] [.int x4] [] (by decide +kernel) rfl rfl ?_
    refine G_if_ne C (off := 10) (tgt := 35) (by decide +kernel) rfl (fun c => ?_) (fun c => ?_)
    · rw [if_neg c] at h
      refine G_r C [(.lload_n 2, 1, 0, 0, .null), (.lload 5, 2, 0, 0, .null)] 38 [(5, .long q1), (0, .long x0), (2, .long x2), (4, .int x4)] [.long q1, .long x2] [] (by decide +kernel) rfl rfl ?_
      obtain ⟨cg, h⟩ := oob h
      refine G_ldiv C (by decide +kernel) cg ?_
      have h := Option.some.inj h
      subst h
      exact G_lret C hR (by decide +kernel)
    · rw [if_pos c] at h
      refine G_r C [(.lload_n 0, 1, 0, 0, .null), (.lload 5, 2, 0, 0, .null)] 31 [(5, .long q1), (0, .long x0), (2, .long x2), (4, .int x4)] [.long q1, .long x0] [] (by decide +kernel) rfl rfl ?_
      obtain ⟨cg, h⟩ := oob h
      refine G_ldiv C (by decide +kernel) cg ?_
      refine G_goto C (off := 7) (tgt := 39) (by decide +kernel) rfl ?_
      have h := Option.some.inj h
      subst h
      exact G_lret C hR (by decide +kernel)
  · rw [if_neg c] at h
    refine G_r C [(.lload 5, 2, 0, 0, .null), (.lneg, 1, 0, 0, .null)] 16 [(5, .long q1), (0, .long x0), (2, .long x2), (4, .int x4)] [.long (-q1)] [] (by decide +kernel) rfl rfl ?_
    refine G_goto C (off := 5) (tgt := 21) (by decide +kernel) rfl ?_
    refine G_r C [(.lstore 5, 2, 0, 0, .null), (.iload 4, 2, 0, 0, .null)] 25 [(5, .long (-q1)), (0, .long x0), (2, .long x2), (4, .int x4)] [.int x4] [] (by decide +kernel) rfl rfl ?_
    refine G_if_ne C (off := 10) (tgt := 35) (by decide +kernel) rfl (fun c => ?_) (fun c => ?_)
    · rw [if_neg c] at h
      refine G_r C [(.lload_n 2, 1, 0, 0, .null), (.lload 5, 2, 0, 0, .null)] 38 [(5, .long (-q1)), (0, .long x0), (2, .long x2), (4, .int x4)] [.long (-q1), .long x2] [] (by decide +kernel) rfl rfl ?_
      obtain ⟨cg, h⟩ := oob h
      refine G_ldiv C (by decide +kernel) cg ?_
      have h := Option.some.inj h
      subst h
      exact G_lret C hR (by decide +kernel)
    · rw [if_pos c] at h
      refine G_r C [(.lload_n 0, 1, 0, 0, .null), (.lload 5, 2, 0, 0, .null)] 31 [(5, .long (-q1)), (0, .long x0), (2, .long x2), (4, .int x4)] [.long (-q1), .long x0] [] (by decide +kernel) rfl rfl ?_
      obtain ⟨cg, h⟩ := oob h
      refine G_ldiv C (by decide +kernel) cg ?_
      refine G_goto C (off := 7) (tgt := 39) (by decide +kernel) rfl ?_
      have h := Option.some.inj h
      subst h
      exact G_lret C hR (by decide +kernel)
def f_X7_polynomial (x1 : Int32) (x2 : Int32) (x3 : Int32) (MB : Int64) (Mr : Nat → Int32) (Mf : Nat → Int32) (MT : Nat → Int64) (MP : Nat → Int64) : Option (Int64 × Int64 × (Nat → Int32) × (Nat → Int64) × (Nat → Int64)) := (f_X7_in x1.toInt64 (0 : Int64) (3 : Int64)).bind fun q1 => if (bI q1) = 0 then ((f_X7_bad Mf).bind fun q2 => some (q2.1.toInt64, MB, q2.2, MT, MP)) else ((f_X7_in x2.toInt64 (0 : Int64) x1.toInt64).bind fun q3 => if (bI q3) = 0 then ((f_X7_bad Mf).bind fun q4 => some (q4.1.toInt64, MB, q4.2, MT, MP)) else ((f_X7_isPart x3).bind fun q5 => if (bI q5) = 0 then ((f_X7_bad Mf).bind fun q10 => some (q10.1.toInt64, MB, q10.2, MT, MP)) else ((f_X7_isPoly x1 Mr MT).bind fun q6 => if (bI q6.1) = 0 then ((f_X7_no Mf).bind fun q9 => some (q9.1.toInt64, MB, q9.2, q6.2, MP)) else ((f_X7_makePoly x1 Mr q6.2 MP).bind fun q7 => if x2 < 0 ∨ 4 ≤ x2.toNatClampNeg then none else (f_X7_part (q7.2.2 x2.toNatClampNeg) q7.1 x3).bind fun q8 => some (q8, q7.1, Mf, q7.2.1, q7.2.2)))))
set_option maxHeartbeats 4000000 in
set_option maxRecDepth 100000 in
theorem c_X7_polynomial (cy : Nat → ClassId) (Ms : Int32) (Mb : Int32) (Mq : Int32) (MB : Int64) (My : Int32) (ML : Int32) (Mg : Int32) (MF : Int32) (MW : Bool) (MI : Bool) (MA : Int32) (Mr : Nat → Int32) (Ma : Nat → Int32) (Mp : Nat → Int32) (Mf : Nat → Int32) (Mt : Nat → Int32) (Ml : Nat → Int32) (Mo : Nat → Int32) (Mn : Nat → Int32) (Mm : Nat → Int64) (MT : Nat → Int64) (MP : Nat → Int64) (Mv : Nat → Int32) (Mx : Nat → Int64) (Mz : Nat → Int64) (x1 : Int32) (x2 : Int32) (x3 : Int32) (res : (Int64 × Int64 × (Nat → Int32) × (Nat → Int64) × (Nat → Int64))) (h : f_X7_polynomial x1 x2 x3 MB Mr Mf MT MP = some res) : MG cy yX7_polynomial cX7_polynomial 4 (some .long) 3 78 [.ref 0, .int x1, .int x2, .int x3] (wMo cy Ms Mb Mq MB My ML Mg MF MW MI MA Mr Ma Mp Mf Mt Ml Mo Mn Mm MT MP Mv Mx Mz) (some (.long res.1)) (wMo cy Ms Mb Mq res.2.1 My ML Mg MF MW MI MA Mr Ma Mp res.2.2.1 Mt Ml Mo Mn Mm res.2.2.2.1 res.2.2.2.2 Mv Mx Mz) := by
  refine MG_of (o := 7) (lv := [(0, .ref 0), (1, .int x1), (2, .int x2), (3, .int x3)]) ⟨by decide +kernel, rfl⟩ (Nat.le_of_ble_eq_true rfl) rfl (fun k C hR => ?_)
  rw [f_X7_polynomial] at h
  refine G_r C [(.iload_n 1, 1, 0, 0, .null), (.i2l, 1, 0, 0, .null), (.lconst 0, 1, 0, 0, .long (0 : Int64))] 3 [(0, .ref 0), (1, .int x1), (2, .int x2), (3, .int x3)] [.long (0 : Int64), .long x1.toInt64] (wMo cy Ms Mb Mq MB My ML Mg MF MW MI MA Mr Ma Mp Mf Mt Ml Mo Mn Mm MT MP Mv Mx Mz) (by decide +kernel) rfl rfl ?_
  refine G_ldc2 C co_7_157 (by decide +kernel) ?_
  obtain ⟨q1, hq1, h⟩ := obd h
  refine G_cS C lk_7_64 ⟨Nat.le_of_ble_eq_true rfl, Nat.le_of_ble_eq_true rfl⟩ (by decide +kernel) [.int (bI q1)] (c_X7_in cy x1.toInt64 (0 : Int64) (3 : Int64) q1 hq1) rfl rfl (Nat.le_of_ble_eq_true rfl) rfl ?_
  refine G_if_eq C (off := 21) (tgt := 30) (by decide +kernel) rfl (fun c => ?_) (fun c => ?_)
  · rw [if_pos c] at h
    refine G_r C [(.aload_n 0, 1, 0, 0, .null)] 31 [(0, .ref 0), (1, .int x1), (2, .int x2), (3, .int x3)] [.ref 0] (wMo cy Ms Mb Mq MB My ML Mg MF MW MI MA Mr Ma Mp Mf Mt Ml Mo Mn Mm MT MP Mv Mx Mz) (by decide +kernel) rfl rfl ?_
    obtain ⟨q2, hq2, h⟩ := obd h
    refine G_c0 C lk_7_72 ⟨Nat.le_of_ble_eq_true rfl, Nat.le_of_ble_eq_true rfl⟩ (by decide +kernel) [.int q2.1] (c_X7_bad cy Ms Mb Mq MB My ML Mg MF MW MI MA Mr Ma Mp Mf Mt Ml Mo Mn Mm MT MP Mv Mx Mz q2 hq2) rfl rfl (Nat.le_of_ble_eq_true rfl) ⟨rfl, rfl⟩ rfl ?_
    refine G_r C [(.i2l, 1, 0, 0, .null)] 35 [(0, .ref 0), (1, .int x1), (2, .int x2), (3, .int x3)] [.long q2.1.toInt64] (wMo cy Ms Mb Mq MB My ML Mg MF MW MI MA Mr Ma Mp q2.2 Mt Ml Mo Mn Mm MT MP Mv Mx Mz) (by decide +kernel) rfl rfl ?_
    have h := Option.some.inj h
    subst h
    exact G_lret C hR (by decide +kernel)
  · rw [if_neg c] at h
    refine G_r C [(.iload_n 2, 1, 0, 0, .null), (.i2l, 1, 0, 0, .null), (.lconst 0, 1, 0, 0, .long (0 : Int64)), (.iload_n 1, 1, 0, 0, .null), (.i2l, 1, 0, 0, .null)] 17 [(0, .ref 0), (1, .int x1), (2, .int x2), (3, .int x3)] [.long x1.toInt64, .long (0 : Int64), .long x2.toInt64] (wMo cy Ms Mb Mq MB My ML Mg MF MW MI MA Mr Ma Mp Mf Mt Ml Mo Mn Mm MT MP Mv Mx Mz) (by decide +kernel) rfl rfl ?_
    obtain ⟨q3, hq3, h⟩ := obd h
    refine G_cS C lk_7_64 ⟨Nat.le_of_ble_eq_true rfl, Nat.le_of_ble_eq_true rfl⟩ (by decide +kernel) [.int (bI q3)] (c_X7_in cy x2.toInt64 (0 : Int64) x1.toInt64 q3 hq3) rfl rfl (Nat.le_of_ble_eq_true rfl) rfl ?_
    refine G_if_eq C (off := 10) (tgt := 30) (by decide +kernel) rfl (fun c => ?_) (fun c => ?_)
    · rw [if_pos c] at h
      refine G_r C [(.aload_n 0, 1, 0, 0, .null)] 31 [(0, .ref 0), (1, .int x1), (2, .int x2), (3, .int x3)] [.ref 0] (wMo cy Ms Mb Mq MB My ML Mg MF MW MI MA Mr Ma Mp Mf Mt Ml Mo Mn Mm MT MP Mv Mx Mz) (by decide +kernel) rfl rfl ?_
      obtain ⟨q4, hq4, h⟩ := obd h
      refine G_c0 C lk_7_72 ⟨Nat.le_of_ble_eq_true rfl, Nat.le_of_ble_eq_true rfl⟩ (by decide +kernel) [.int q4.1] (c_X7_bad cy Ms Mb Mq MB My ML Mg MF MW MI MA Mr Ma Mp Mf Mt Ml Mo Mn Mm MT MP Mv Mx Mz q4 hq4) rfl rfl (Nat.le_of_ble_eq_true rfl) ⟨rfl, rfl⟩ rfl ?_
      refine G_r C [(.i2l, 1, 0, 0, .null)] 35 [(0, .ref 0), (1, .int x1), (2, .int x2), (3, .int x3)] [.long q4.1.toInt64] (wMo cy Ms Mb Mq MB My ML Mg MF MW MI MA Mr Ma Mp q4.2 Mt Ml Mo Mn Mm MT MP Mv Mx Mz) (by decide +kernel) rfl rfl ?_
      have h := Option.some.inj h
      subst h
      exact G_lret C hR (by decide +kernel)
    · rw [if_neg c] at h
      refine G_r C [(.iload_n 3, 1, 0, 0, .null)] 24 [(0, .ref 0), (1, .int x1), (2, .int x2), (3, .int x3)] [.int x3] (wMo cy Ms Mb Mq MB My ML Mg MF MW MI MA Mr Ma Mp Mf Mt Ml Mo Mn Mm MT MP Mv Mx Mz) (by decide +kernel) rfl rfl ?_
      obtain ⟨q5, hq5, h⟩ := obd h
      refine G_cS C lk_7_159 ⟨Nat.le_of_ble_eq_true rfl, Nat.le_of_ble_eq_true rfl⟩ (by decide +kernel) [.int (bI q5)] (c_X7_isPart cy x3 q5 hq5) rfl rfl (Nat.le_of_ble_eq_true rfl) rfl ?_
      refine G_if_ne C (off := 9) (tgt := 36) (by decide +kernel) rfl (fun c => ?_) (fun c => ?_)
      · rw [if_neg c] at h
        refine G_r C [(.aload_n 0, 1, 0, 0, .null), (.iload_n 1, 1, 0, 0, .null)] 38 [(0, .ref 0), (1, .int x1), (2, .int x2), (3, .int x3)] [.int x1, .ref 0] (wMo cy Ms Mb Mq MB My ML Mg MF MW MI MA Mr Ma Mp Mf Mt Ml Mo Mn Mm MT MP Mv Mx Mz) (by decide +kernel) rfl rfl ?_
        obtain ⟨q6, hq6, h⟩ := obd h
        refine G_c0 C lk_7_162 ⟨Nat.le_of_ble_eq_true rfl, Nat.le_of_ble_eq_true rfl⟩ (by decide +kernel) [.int (bI q6.1)] (c_X7_isPoly cy Ms Mb Mq MB My ML Mg MF MW MI MA Mr Ma Mp Mf Mt Ml Mo Mn Mm MT MP Mv Mx Mz x1 q6 hq6) rfl rfl (Nat.le_of_ble_eq_true rfl) ⟨rfl, rfl⟩ rfl ?_
        refine G_if_ne C (off := 9) (tgt := 50) (by decide +kernel) rfl (fun c => ?_) (fun c => ?_)
        · rw [if_neg c] at h
          refine G_r C [(.aload_n 0, 1, 0, 0, .null), (.iload_n 1, 1, 0, 0, .null)] 52 [(0, .ref 0), (1, .int x1), (2, .int x2), (3, .int x3)] [.int x1, .ref 0] (wMo cy Ms Mb Mq MB My ML Mg MF MW MI MA Mr Ma Mp Mf Mt Ml Mo Mn Mm q6.2 MP Mv Mx Mz) (by decide +kernel) rfl rfl ?_
          obtain ⟨q7, hq7, h⟩ := obd h
          refine G_c0 C lk_7_165 ⟨Nat.le_of_ble_eq_true rfl, Nat.le_of_ble_eq_true rfl⟩ (by decide +kernel) [] (c_X7_makePoly cy Ms Mb Mq MB My ML Mg MF MW MI MA Mr Ma Mp Mf Mt Ml Mo Mn Mm q6.2 MP Mv Mx Mz x1 q7 hq7) rfl rfl (Nat.le_of_ble_eq_true rfl) ⟨rfl, rfl⟩ rfl ?_
          refine G_r C [(.aload_n 0, 1, 0, 0, .null), (.getfield 41, 3, 7, 13, .null), (.iload_n 2, 1, 0, 0, .null)] 60 [(0, .ref 0), (1, .int x1), (2, .int x2), (3, .int x3)] [.int x2, .ref 11] (wMo cy Ms Mb Mq q7.1 My ML Mg MF MW MI MA Mr Ma Mp Mf Mt Ml Mo Mn Mm q7.2.1 q7.2.2 Mv Mx Mz) (by decide +kernel) rfl rfl ?_
          obtain ⟨cg, h⟩ := oob h
          refine G_lald C (a := 11) rfl cg (by decide +kernel) ?_
          refine G_r C [(.aload_n 0, 1, 0, 0, .null), (.getfield 153, 3, 7, 14, .null), (.iload_n 3, 1, 0, 0, .null)] 66 [(0, .ref 0), (1, .int x1), (2, .int x2), (3, .int x3)] [.int x3, .long q7.1, .long (q7.2.2 x2.toNatClampNeg)] (wMo cy Ms Mb Mq q7.1 My ML Mg MF MW MI MA Mr Ma Mp Mf Mt Ml Mo Mn Mm q7.2.1 q7.2.2 Mv Mx Mz) (by decide +kernel) rfl rfl ?_
          obtain ⟨q8, hq8, h⟩ := obd h
          refine G_cS C lk_7_168 ⟨Nat.le_of_ble_eq_true rfl, Nat.le_of_ble_eq_true rfl⟩ (by decide +kernel) [.long q8] (c_X7_part cy (q7.2.2 x2.toNatClampNeg) q7.1 x3 q8 hq8) rfl rfl (Nat.le_of_ble_eq_true rfl) rfl ?_
          have h := Option.some.inj h
          subst h
          exact G_lret C hR (by decide +kernel)
        · rw [if_pos c] at h
          refine G_r C [(.aload_n 0, 1, 0, 0, .null)] 45 [(0, .ref 0), (1, .int x1), (2, .int x2), (3, .int x3)] [.ref 0] (wMo cy Ms Mb Mq MB My ML Mg MF MW MI MA Mr Ma Mp Mf Mt Ml Mo Mn Mm q6.2 MP Mv Mx Mz) (by decide +kernel) rfl rfl ?_
          obtain ⟨q9, hq9, h⟩ := obd h
          refine G_c0 C lk_7_87 ⟨Nat.le_of_ble_eq_true rfl, Nat.le_of_ble_eq_true rfl⟩ (by decide +kernel) [.int q9.1] (c_X7_no cy Ms Mb Mq MB My ML Mg MF MW MI MA Mr Ma Mp Mf Mt Ml Mo Mn Mm q6.2 MP Mv Mx Mz q9 hq9) rfl rfl (Nat.le_of_ble_eq_true rfl) ⟨rfl, rfl⟩ rfl ?_
          refine G_r C [(.i2l, 1, 0, 0, .null)] 49 [(0, .ref 0), (1, .int x1), (2, .int x2), (3, .int x3)] [.long q9.1.toInt64] (wMo cy Ms Mb Mq MB My ML Mg MF MW MI MA Mr Ma Mp q9.2 Mt Ml Mo Mn Mm q6.2 MP Mv Mx Mz) (by decide +kernel) rfl rfl ?_
          have h := Option.some.inj h
          subst h
          exact G_lret C hR (by decide +kernel)
      · rw [if_pos c] at h
        refine G_r C [(.aload_n 0, 1, 0, 0, .null)] 31 [(0, .ref 0), (1, .int x1), (2, .int x2), (3, .int x3)] [.ref 0] (wMo cy Ms Mb Mq MB My ML Mg MF MW MI MA Mr Ma Mp Mf Mt Ml Mo Mn Mm MT MP Mv Mx Mz) (by decide +kernel) rfl rfl ?_
        obtain ⟨q10, hq10, h⟩ := obd h
        refine G_c0 C lk_7_72 ⟨Nat.le_of_ble_eq_true rfl, Nat.le_of_ble_eq_true rfl⟩ (by decide +kernel) [.int q10.1] (c_X7_bad cy Ms Mb Mq MB My ML Mg MF MW MI MA Mr Ma Mp Mf Mt Ml Mo Mn Mm MT MP Mv Mx Mz q10 hq10) rfl rfl (Nat.le_of_ble_eq_true rfl) ⟨rfl, rfl⟩ rfl ?_
        refine G_r C [(.i2l, 1, 0, 0, .null)] 35 [(0, .ref 0), (1, .int x1), (2, .int x2), (3, .int x3)] [.long q10.1.toInt64] (wMo cy Ms Mb Mq MB My ML Mg MF MW MI MA Mr Ma Mp q10.2 Mt Ml Mo Mn Mm MT MP Mv Mx Mz) (by decide +kernel) rfl rfl ?_
        have h := Option.some.inj h
        subst h
        exact G_lret C hR (by decide +kernel)
def f_X7_isNorm (x1 : Int32) (Mr : Nat → Int32) (MT : Nat → Int64) : Option (Bool × (Nat → Int64)) := if (7 : Int32) < 0 ∨ 8 ≤ (7 : Int32).toNatClampNeg then none else if (Mr (7 : Int32).toNatClampNeg) ≤ ((2 : Int32) * x1) then (some (false, MT)) else ((f_X7_isPoly x1 Mr MT).bind fun q1 => if (bI q1.1) = 0 then (some (false, q1.2)) else (some (true, q1.2)))
set_option maxHeartbeats 4000000 in
set_option maxRecDepth 100000 in
theorem c_X7_isNorm (cy : Nat → ClassId) (Ms : Int32) (Mb : Int32) (Mq : Int32) (MB : Int64) (My : Int32) (ML : Int32) (Mg : Int32) (MF : Int32) (MW : Bool) (MI : Bool) (MA : Int32) (Mr : Nat → Int32) (Ma : Nat → Int32) (Mp : Nat → Int32) (Mf : Nat → Int32) (Mt : Nat → Int32) (Ml : Nat → Int32) (Mo : Nat → Int32) (Mn : Nat → Int32) (Mm : Nat → Int64) (MT : Nat → Int64) (MP : Nat → Int64) (Mv : Nat → Int32) (Mx : Nat → Int64) (Mz : Nat → Int64) (x1 : Int32) (res : (Bool × (Nat → Int64))) (h : f_X7_isNorm x1 Mr MT = some res) : MG cy yX7_isNorm cX7_isNorm 2 (some .boolean) 3 75 [.ref 0, .int x1] (wMo cy Ms Mb Mq MB My ML Mg MF MW MI MA Mr Ma Mp Mf Mt Ml Mo Mn Mm MT MP Mv Mx Mz) (some (.int (bI res.1))) (wMo cy Ms Mb Mq MB My ML Mg MF MW MI MA Mr Ma Mp Mf Mt Ml Mo Mn Mm res.2 MP Mv Mx Mz) := by
  refine MG_of (o := 7) (lv := [(0, .ref 0), (1, .int x1)]) ⟨by decide +kernel, rfl⟩ (Nat.le_of_ble_eq_true rfl) rfl (fun k C hR => ?_)
  rw [f_X7_isNorm] at h
  refine G_r C [(.aload_n 0, 1, 0, 0, .null), (.getfield 7, 3, 7, 0, .null), (.bipush 7, 2, 0, 0, .int (7 : Int32))] 6 [(0, .ref 0), (1, .int x1)] [.int (7 : Int32), .ref 1] (wMo cy Ms Mb Mq MB My ML Mg MF MW MI MA Mr Ma Mp Mf Mt Ml Mo Mn Mm MT MP Mv Mx Mz) (by decide +kernel) rfl rfl ?_
  obtain ⟨cg, h⟩ := oob h
  refine G_iald C (a := 1) rfl cg (by decide +kernel) ?_
  refine G_r C [(.iconst 2, 1, 0, 0, .int (2 : Int32)), (.iload_n 1, 1, 0, 0, .null), (.imul, 1, 0, 0, .null)] 10 [(0, .ref 0), (1, .int x1)] [.int ((2 : Int32) * x1), .int (Mr (7 : Int32).toNatClampNeg)] (wMo cy Ms Mb Mq MB My ML Mg MF MW MI MA Mr Ma Mp Mf Mt Ml Mo Mn Mm MT MP Mv Mx Mz) (by decide +kernel) rfl rfl ?_
  refine G_icmp_le C (off := 15) (tgt := 25) (by decide +kernel) rfl (fun c => ?_) (fun c => ?_)
  · rw [if_pos c] at h
    refine G_r C [(.iconst 0, 1, 0, 0, .int (0 : Int32))] 26 [(0, .ref 0), (1, .int x1)] [.int (0 : Int32)] (wMo cy Ms Mb Mq MB My ML Mg MF MW MI MA Mr Ma Mp Mf Mt Ml Mo Mn Mm MT MP Mv Mx Mz) (by decide +kernel) rfl rfl ?_
    have h := Option.some.inj h
    subst h
    exact G_zret C (v := false) hR (by decide +kernel)
  · rw [if_neg c] at h
    refine G_r C [(.aload_n 0, 1, 0, 0, .null), (.iload_n 1, 1, 0, 0, .null)] 15 [(0, .ref 0), (1, .int x1)] [.int x1, .ref 0] (wMo cy Ms Mb Mq MB My ML Mg MF MW MI MA Mr Ma Mp Mf Mt Ml Mo Mn Mm MT MP Mv Mx Mz) (by decide +kernel) rfl rfl ?_
    obtain ⟨q1, hq1, h⟩ := obd h
    refine G_c0 C lk_7_162 ⟨Nat.le_of_ble_eq_true rfl, Nat.le_of_ble_eq_true rfl⟩ (by decide +kernel) [.int (bI q1.1)] (c_X7_isPoly cy Ms Mb Mq MB My ML Mg MF MW MI MA Mr Ma Mp Mf Mt Ml Mo Mn Mm MT MP Mv Mx Mz x1 q1 hq1) rfl rfl (Nat.le_of_ble_eq_true rfl) ⟨rfl, rfl⟩ rfl ?_
    refine G_if_eq C (off := 7) (tgt := 25) (by decide +kernel) rfl (fun c => ?_) (fun c => ?_)
    · rw [if_pos c] at h
      refine G_r C [(.iconst 0, 1, 0, 0, .int (0 : Int32))] 26 [(0, .ref 0), (1, .int x1)] [.int (0 : Int32)] (wMo cy Ms Mb Mq MB My ML Mg MF MW MI MA Mr Ma Mp Mf Mt Ml Mo Mn Mm q1.2 MP Mv Mx Mz) (by decide +kernel) rfl rfl ?_
      have h := Option.some.inj h
      subst h
      exact G_zret C (v := false) hR (by decide +kernel)
    · rw [if_neg c] at h
      refine G_r C [(.iconst 1, 1, 0, 0, .int (1 : Int32))] 22 [(0, .ref 0), (1, .int x1)] [.int (1 : Int32)] (wMo cy Ms Mb Mq MB My ML Mg MF MW MI MA Mr Ma Mp Mf Mt Ml Mo Mn Mm q1.2 MP Mv Mx Mz) (by decide +kernel) rfl rfl ?_
      refine G_goto C (off := 4) (tgt := 26) (by decide +kernel) rfl ?_
      have h := Option.some.inj h
      subst h
      exact G_zret C (v := true) hR (by decide +kernel)
def f_X7_norm (x1 : Int32) (x2 : Int32) (Mr : Nat → Int32) (Mf : Nat → Int32) (MT : Nat → Int64) : Option (Int64 × (Nat → Int32) × (Nat → Int64)) := (f_X7_in x1.toInt64 (0 : Int64) (3 : Int64)).bind fun q1 => if (bI q1) = 0 then ((f_X7_bad Mf).bind fun q2 => some (q2.1.toInt64, q2.2, MT)) else ((f_X7_isPart x2).bind fun q3 => if (bI q3) = 0 then ((f_X7_bad Mf).bind fun q9 => some (q9.1.toInt64, q9.2, MT)) else ((f_X7_isNorm x1 Mr MT).bind fun q4 => if (bI q4.1) = 0 then ((f_X7_no Mf).bind fun q5 => some (q5.1.toInt64, q5.2, q4.2)) else ((f_X7_detOf (0 : Int32) (x1 + (1 : Int32)) Mr q4.2).bind fun q6 => (f_X7_detOf (0 : Int32) x1 Mr q6.2).bind fun q7 => (f_X7_part q6.1 q7.1 x2).bind fun q8 => some (q8, Mf, q7.2))))
set_option maxHeartbeats 4000000 in
set_option maxRecDepth 100000 in
theorem c_X7_norm (cy : Nat → ClassId) (Ms : Int32) (Mb : Int32) (Mq : Int32) (MB : Int64) (My : Int32) (ML : Int32) (Mg : Int32) (MF : Int32) (MW : Bool) (MI : Bool) (MA : Int32) (Mr : Nat → Int32) (Ma : Nat → Int32) (Mp : Nat → Int32) (Mf : Nat → Int32) (Mt : Nat → Int32) (Ml : Nat → Int32) (Mo : Nat → Int32) (Mn : Nat → Int32) (Mm : Nat → Int64) (MT : Nat → Int64) (MP : Nat → Int64) (Mv : Nat → Int32) (Mx : Nat → Int64) (Mz : Nat → Int64) (x1 : Int32) (x2 : Int32) (res : (Int64 × (Nat → Int32) × (Nat → Int64))) (h : f_X7_norm x1 x2 Mr Mf MT = some res) : MG cy yX7_norm cX7_norm 3 (some .long) 4 96 [.ref 0, .int x1, .int x2] (wMo cy Ms Mb Mq MB My ML Mg MF MW MI MA Mr Ma Mp Mf Mt Ml Mo Mn Mm MT MP Mv Mx Mz) (some (.long res.1)) (wMo cy Ms Mb Mq MB My ML Mg MF MW MI MA Mr Ma Mp res.2.1 Mt Ml Mo Mn Mm res.2.2 MP Mv Mx Mz) := by
  refine MG_of (o := 7) (lv := [(0, .ref 0), (1, .int x1), (2, .int x2)]) ⟨by decide +kernel, rfl⟩ (Nat.le_of_ble_eq_true rfl) rfl (fun k C hR => ?_)
  rw [f_X7_norm] at h
  refine G_r C [(.iload_n 1, 1, 0, 0, .null), (.i2l, 1, 0, 0, .null), (.lconst 0, 1, 0, 0, .long (0 : Int64))] 3 [(0, .ref 0), (1, .int x1), (2, .int x2)] [.long (0 : Int64), .long x1.toInt64] (wMo cy Ms Mb Mq MB My ML Mg MF MW MI MA Mr Ma Mp Mf Mt Ml Mo Mn Mm MT MP Mv Mx Mz) (by decide +kernel) rfl rfl ?_
  refine G_ldc2 C co_7_157 (by decide +kernel) ?_
  obtain ⟨q1, hq1, h⟩ := obd h
  refine G_cS C lk_7_64 ⟨Nat.le_of_ble_eq_true rfl, Nat.le_of_ble_eq_true rfl⟩ (by decide +kernel) [.int (bI q1)] (c_X7_in cy x1.toInt64 (0 : Int64) (3 : Int64) q1 hq1) rfl rfl (Nat.le_of_ble_eq_true rfl) rfl ?_
  refine G_if_eq C (off := 10) (tgt := 19) (by decide +kernel) rfl (fun c => ?_) (fun c => ?_)
  · rw [if_pos c] at h
    refine G_r C [(.aload_n 0, 1, 0, 0, .null)] 20 [(0, .ref 0), (1, .int x1), (2, .int x2)] [.ref 0] (wMo cy Ms Mb Mq MB My ML Mg MF MW MI MA Mr Ma Mp Mf Mt Ml Mo Mn Mm MT MP Mv Mx Mz) (by decide +kernel) rfl rfl ?_
    obtain ⟨q2, hq2, h⟩ := obd h
    refine G_c0 C lk_7_72 ⟨Nat.le_of_ble_eq_true rfl, Nat.le_of_ble_eq_true rfl⟩ (by decide +kernel) [.int q2.1] (c_X7_bad cy Ms Mb Mq MB My ML Mg MF MW MI MA Mr Ma Mp Mf Mt Ml Mo Mn Mm MT MP Mv Mx Mz q2 hq2) rfl rfl (Nat.le_of_ble_eq_true rfl) ⟨rfl, rfl⟩ rfl ?_
    refine G_r C [(.i2l, 1, 0, 0, .null)] 24 [(0, .ref 0), (1, .int x1), (2, .int x2)] [.long q2.1.toInt64] (wMo cy Ms Mb Mq MB My ML Mg MF MW MI MA Mr Ma Mp q2.2 Mt Ml Mo Mn Mm MT MP Mv Mx Mz) (by decide +kernel) rfl rfl ?_
    have h := Option.some.inj h
    subst h
    exact G_lret C hR (by decide +kernel)
  · rw [if_neg c] at h
    refine G_r C [(.iload_n 2, 1, 0, 0, .null)] 13 [(0, .ref 0), (1, .int x1), (2, .int x2)] [.int x2] (wMo cy Ms Mb Mq MB My ML Mg MF MW MI MA Mr Ma Mp Mf Mt Ml Mo Mn Mm MT MP Mv Mx Mz) (by decide +kernel) rfl rfl ?_
    obtain ⟨q3, hq3, h⟩ := obd h
    refine G_cS C lk_7_159 ⟨Nat.le_of_ble_eq_true rfl, Nat.le_of_ble_eq_true rfl⟩ (by decide +kernel) [.int (bI q3)] (c_X7_isPart cy x2 q3 hq3) rfl rfl (Nat.le_of_ble_eq_true rfl) rfl ?_
    refine G_if_ne C (off := 9) (tgt := 25) (by decide +kernel) rfl (fun c => ?_) (fun c => ?_)
    · rw [if_neg c] at h
      refine G_r C [(.aload_n 0, 1, 0, 0, .null), (.iload_n 1, 1, 0, 0, .null)] 27 [(0, .ref 0), (1, .int x1), (2, .int x2)] [.int x1, .ref 0] (wMo cy Ms Mb Mq MB My ML Mg MF MW MI MA Mr Ma Mp Mf Mt Ml Mo Mn Mm MT MP Mv Mx Mz) (by decide +kernel) rfl rfl ?_
      obtain ⟨q4, hq4, h⟩ := obd h
      refine G_c0 C lk_7_172 ⟨Nat.le_of_ble_eq_true rfl, Nat.le_of_ble_eq_true rfl⟩ (by decide +kernel) [.int (bI q4.1)] (c_X7_isNorm cy Ms Mb Mq MB My ML Mg MF MW MI MA Mr Ma Mp Mf Mt Ml Mo Mn Mm MT MP Mv Mx Mz x1 q4 hq4) rfl rfl (Nat.le_of_ble_eq_true rfl) ⟨rfl, rfl⟩ rfl ?_
      refine G_if_eq C (off := 24) (tgt := 54) (by decide +kernel) rfl (fun c => ?_) (fun c => ?_)
      · rw [if_pos c] at h
        refine G_r C [(.aload_n 0, 1, 0, 0, .null)] 55 [(0, .ref 0), (1, .int x1), (2, .int x2)] [.ref 0] (wMo cy Ms Mb Mq MB My ML Mg MF MW MI MA Mr Ma Mp Mf Mt Ml Mo Mn Mm q4.2 MP Mv Mx Mz) (by decide +kernel) rfl rfl ?_
        obtain ⟨q5, hq5, h⟩ := obd h
        refine G_c0 C lk_7_87 ⟨Nat.le_of_ble_eq_true rfl, Nat.le_of_ble_eq_true rfl⟩ (by decide +kernel) [.int q5.1] (c_X7_no cy Ms Mb Mq MB My ML Mg MF MW MI MA Mr Ma Mp Mf Mt Ml Mo Mn Mm q4.2 MP Mv Mx Mz q5 hq5) rfl rfl (Nat.le_of_ble_eq_true rfl) ⟨rfl, rfl⟩ rfl ?_
        refine G_r C [(.i2l, 1, 0, 0, .null)] 59 [(0, .ref 0), (1, .int x1), (2, .int x2)] [.long q5.1.toInt64] (wMo cy Ms Mb Mq MB My ML Mg MF MW MI MA Mr Ma Mp q5.2 Mt Ml Mo Mn Mm q4.2 MP Mv Mx Mz) (by decide +kernel) rfl rfl ?_
        have h := Option.some.inj h
        subst h
        exact G_lret C hR (by decide +kernel)
      · rw [if_neg c] at h
        refine G_r C [(.aload_n 0, 1, 0, 0, .null), (.iconst 0, 1, 0, 0, .int (0 : Int32)), (.iload_n 1, 1, 0, 0, .null), (.iconst 1, 1, 0, 0, .int (1 : Int32)), (.iadd, 1, 0, 0, .null)] 38 [(0, .ref 0), (1, .int x1), (2, .int x2)] [.int (x1 + (1 : Int32)), .int (0 : Int32), .ref 0] (wMo cy Ms Mb Mq MB My ML Mg MF MW MI MA Mr Ma Mp Mf Mt Ml Mo Mn Mm q4.2 MP Mv Mx Mz) (by decide +kernel) rfl rfl ?_
        obtain ⟨q6, hq6, h⟩ := obd h
        refine G_c0 C lk_7_146 ⟨Nat.le_of_ble_eq_true rfl, Nat.le_of_ble_eq_true rfl⟩ (by decide +kernel) [.long q6.1] (c_X7_detOf cy Ms Mb Mq MB My ML Mg MF MW MI MA Mr Ma Mp Mf Mt Ml Mo Mn Mm q4.2 MP Mv Mx Mz (0 : Int32) (x1 + (1 : Int32)) q6 hq6) rfl rfl (Nat.le_of_ble_eq_true rfl) ⟨rfl, rfl⟩ rfl ?_
        refine G_r C [(.aload_n 0, 1, 0, 0, .null), (.iconst 0, 1, 0, 0, .int (0 : Int32)), (.iload_n 1, 1, 0, 0, .null)] 44 [(0, .ref 0), (1, .int x1), (2, .int x2)] [.int x1, .int (0 : Int32), .ref 0, .long q6.1] (wMo cy Ms Mb Mq MB My ML Mg MF MW MI MA Mr Ma Mp Mf Mt Ml Mo Mn Mm q6.2 MP Mv Mx Mz) (by decide +kernel) rfl rfl ?_
        obtain ⟨q7, hq7, h⟩ := obd h
        refine G_c0 C lk_7_146 ⟨Nat.le_of_ble_eq_true rfl, Nat.le_of_ble_eq_true rfl⟩ (by decide +kernel) [.long q7.1, .long q6.1] (c_X7_detOf cy Ms Mb Mq MB My ML Mg MF MW MI MA Mr Ma Mp Mf Mt Ml Mo Mn Mm q6.2 MP Mv Mx Mz (0 : Int32) x1 q7 hq7) rfl rfl (Nat.le_of_ble_eq_true rfl) ⟨rfl, rfl⟩ rfl ?_
        refine G_r C [(.iload_n 2, 1, 0, 0, .null)] 48 [(0, .ref 0), (1, .int x1), (2, .int x2)] [.int x2, .long q7.1, .long q6.1] (wMo cy Ms Mb Mq MB My ML Mg MF MW MI MA Mr Ma Mp Mf Mt Ml Mo Mn Mm q7.2 MP Mv Mx Mz) (by decide +kernel) rfl rfl ?_
        obtain ⟨q8, hq8, h⟩ := obd h
        refine G_cS C lk_7_168 ⟨Nat.le_of_ble_eq_true rfl, Nat.le_of_ble_eq_true rfl⟩ (by decide +kernel) [.long q8] (c_X7_part cy q6.1 q7.1 x2 q8 hq8) rfl rfl (Nat.le_of_ble_eq_true rfl) rfl ?_
        refine G_goto C (off := 8) (tgt := 59) (by decide +kernel) rfl ?_
        have h := Option.some.inj h
        subst h
        exact G_lret C hR (by decide +kernel)
    · rw [if_pos c] at h
      refine G_r C [(.aload_n 0, 1, 0, 0, .null)] 20 [(0, .ref 0), (1, .int x1), (2, .int x2)] [.ref 0] (wMo cy Ms Mb Mq MB My ML Mg MF MW MI MA Mr Ma Mp Mf Mt Ml Mo Mn Mm MT MP Mv Mx Mz) (by decide +kernel) rfl rfl ?_
      obtain ⟨q9, hq9, h⟩ := obd h
      refine G_c0 C lk_7_72 ⟨Nat.le_of_ble_eq_true rfl, Nat.le_of_ble_eq_true rfl⟩ (by decide +kernel) [.int q9.1] (c_X7_bad cy Ms Mb Mq MB My ML Mg MF MW MI MA Mr Ma Mp Mf Mt Ml Mo Mn Mm MT MP Mv Mx Mz q9 hq9) rfl rfl (Nat.le_of_ble_eq_true rfl) ⟨rfl, rfl⟩ rfl ?_
      refine G_r C [(.i2l, 1, 0, 0, .null)] 24 [(0, .ref 0), (1, .int x1), (2, .int x2)] [.long q9.1.toInt64] (wMo cy Ms Mb Mq MB My ML Mg MF MW MI MA Mr Ma Mp q9.2 Mt Ml Mo Mn Mm MT MP Mv Mx Mz) (by decide +kernel) rfl rfl ?_
      have h := Option.some.inj h
      subst h
      exact G_lret C hR (by decide +kernel)
