def f_X7_weighs (x1 : Int32) (Ms : Int32) (Mr : Nat → Int32) (Ma : Nat → Int32) (Mp : Nat → Int32) (Mf : Nat → Int32) (Mm : Nat → Int64) : Option (Int32 × Int32 × (Nat → Int32) × (Nat → Int32) × (Nat → Int32) × (Nat → Int32) × (Nat → Int64)) := (f_X7_isPlace x1).bind fun q1 => if (bI q1) = 0 then ((f_X7_bad Mf).bind fun q6 => some (q6.1, Ms, Mr, Ma, Mp, q6.2, Mm)) else ((f_X7_bring_v1 (0 : Int32) (0 : Int32) Mr Ma).bind fun q2 => (f_X7_weigh x1 Mr Mm).bind fun q3 => if (bI q3.1) = 0 then ((f_X7_no Mf).bind fun q5 => some (q5.1, Ms, q3.2.1, q2, Mp, q5.2, q3.2.2)) else ((f_X7_note_v1 Ms q2 Mp).bind fun q4 => if (0 : Int32) < 0 ∨ 8 ≤ (0 : Int32).toNatClampNeg then none else some ((q3.2.1 (0 : Int32).toNatClampNeg), q4.1, q3.2.1, q2, q4.2, Mf, q3.2.2)))
set_option maxHeartbeats 4000000 in
set_option maxRecDepth 100000 in
theorem c_X7_weighs (cy : Nat → ClassId) (Ms : Int32) (Mb : Int32) (Mq : Int32) (MB : Int64) (My : Int32) (ML : Int32) (Mg : Int32) (MF : Int32) (MW : Bool) (MI : Bool) (MA : Int32) (Mr : Nat → Int32) (Ma : Nat → Int32) (Mp : Nat → Int32) (Mf : Nat → Int32) (Mt : Nat → Int32) (Ml : Nat → Int32) (Mo : Nat → Int32) (Mn : Nat → Int32) (Mm : Nat → Int64) (MT : Nat → Int64) (MP : Nat → Int64) (Mv : Nat → Int32) (Mx : Nat → Int64) (Mz : Nat → Int64) (x1 : Int32) (res : (Int32 × Int32 × (Nat → Int32) × (Nat → Int32) × (Nat → Int32) × (Nat → Int32) × (Nat → Int64))) (h : f_X7_weighs x1 Ms Mr Ma Mp Mf Mm = some res) : MG cy yX7_weighs cX7_weighs 2 (some .int) 3 70 [.ref 0, .int x1] (wMo cy Ms Mb Mq MB My ML Mg MF MW MI MA Mr Ma Mp Mf Mt Ml Mo Mn Mm MT MP Mv Mx Mz) (some (.int res.1)) (wMo cy res.2.1 Mb Mq MB My ML Mg MF MW MI MA res.2.2.1 res.2.2.2.1 res.2.2.2.2.1 res.2.2.2.2.2.1 Mt Ml Mo Mn res.2.2.2.2.2.2 MT MP Mv Mx Mz) := by
  refine MG_of (o := 7) (lv := [(0, .ref 0), (1, .int x1)]) ⟨by decide +kernel, rfl⟩ (Nat.le_of_ble_eq_true rfl) rfl (fun k C hR => ?_)
  rw [f_X7_weighs] at h
  refine G_r C [(.iload_n 1, 1, 0, 0, .null)] 1 [(0, .ref 0), (1, .int x1)] [.int x1] (wMo cy Ms Mb Mq MB My ML Mg MF MW MI MA Mr Ma Mp Mf Mt Ml Mo Mn Mm MT MP Mv Mx Mz) (by decide +kernel) rfl rfl ?_
  obtain ⟨q1, hq1, h⟩ := obd h
  refine G_cS C lk_7_113 ⟨Nat.le_of_ble_eq_true rfl, Nat.le_of_ble_eq_true rfl⟩ (by decide +kernel) [.int (bI q1)] (c_X7_isPlace cy x1 q1 hq1) rfl rfl (Nat.le_of_ble_eq_true rfl) rfl ?_
  refine G_if_ne C (off := 8) (tgt := 12) (by decide +kernel) rfl (fun c => ?_) (fun c => ?_)
  · rw [if_neg c] at h
    refine G_r C [(.aload_n 0, 1, 0, 0, .null), (.aload_n 0, 1, 0, 0, .null), (.getfield 7, 3, 7, 0, .null), (.iconst 0, 1, 0, 0, .int (0 : Int32)), (.aload_n 0, 1, 0, 0, .null), (.getfield 13, 3, 7, 1, .null), (.iconst 0, 1, 0, 0, .int (0 : Int32))] 23 [(0, .ref 0), (1, .int x1)] [.int (0 : Int32), .ref 2, .int (0 : Int32), .ref 1, .ref 0] (wMo cy Ms Mb Mq MB My ML Mg MF MW MI MA Mr Ma Mp Mf Mt Ml Mo Mn Mm MT MP Mv Mx Mz) (by decide +kernel) rfl rfl ?_
    obtain ⟨q2, hq2, h⟩ := obd h
    refine G_c0 C lk_7_60 ⟨Nat.le_of_ble_eq_true rfl, Nat.le_of_ble_eq_true rfl⟩ (by decide +kernel) [] (c_X7_bring_v1 cy Ms Mb Mq MB My ML Mg MF MW MI MA Mr Ma Mp Mf Mt Ml Mo Mn Mm MT MP Mv Mx Mz (0 : Int32) (0 : Int32) q2 hq2) rfl rfl (Nat.le_of_ble_eq_true rfl) ⟨rfl, rfl⟩ rfl ?_
    refine G_r C [(.aload_n 0, 1, 0, 0, .null), (.iload_n 1, 1, 0, 0, .null)] 28 [(0, .ref 0), (1, .int x1)] [.int x1, .ref 0] (wMo cy Ms Mb Mq MB My ML Mg MF MW MI MA Mr q2 Mp Mf Mt Ml Mo Mn Mm MT MP Mv Mx Mz) (by decide +kernel) rfl rfl ?_
    obtain ⟨q3, hq3, h⟩ := obd h
    refine G_c0 C lk_7_132 ⟨Nat.le_of_ble_eq_true rfl, Nat.le_of_ble_eq_true rfl⟩ (by decide +kernel) [.int (bI q3.1)] (c_X7_weigh cy Ms Mb Mq MB My ML Mg MF MW MI MA Mr q2 Mp Mf Mt Ml Mo Mn Mm MT MP Mv Mx Mz x1 q3 hq3) rfl rfl (Nat.le_of_ble_eq_true rfl) ⟨rfl, rfl⟩ rfl ?_
    refine G_if_ne C (off := 8) (tgt := 39) (by decide +kernel) rfl (fun c => ?_) (fun c => ?_)
    · rw [if_neg c] at h
      refine G_r C [(.aload_n 0, 1, 0, 0, .null), (.aload_n 0, 1, 0, 0, .null), (.getfield 13, 3, 7, 1, .null)] 44 [(0, .ref 0), (1, .int x1)] [.ref 2, .ref 0] (wMo cy Ms Mb Mq MB My ML Mg MF MW MI MA q3.2.1 q2 Mp Mf Mt Ml Mo Mn q3.2.2 MT MP Mv Mx Mz) (by decide +kernel) rfl rfl ?_
      obtain ⟨q4, hq4, h⟩ := obd h
      refine G_c0 C lk_7_76 ⟨Nat.le_of_ble_eq_true rfl, Nat.le_of_ble_eq_true rfl⟩ (by decide +kernel) [] (c_X7_note_v1 cy Ms Mb Mq MB My ML Mg MF MW MI MA q3.2.1 q2 Mp Mf Mt Ml Mo Mn q3.2.2 MT MP Mv Mx Mz q4 hq4) rfl rfl (Nat.le_of_ble_eq_true rfl) ⟨rfl, rfl⟩ rfl ?_
      refine G_r C [(.aload_n 0, 1, 0, 0, .null), (.getfield 7, 3, 7, 0, .null), (.iconst 0, 1, 0, 0, .int (0 : Int32))] 52 [(0, .ref 0), (1, .int x1)] [.int (0 : Int32), .ref 1] (wMo cy q4.1 Mb Mq MB My ML Mg MF MW MI MA q3.2.1 q2 q4.2 Mf Mt Ml Mo Mn q3.2.2 MT MP Mv Mx Mz) (by decide +kernel) rfl rfl ?_
      obtain ⟨cg, h⟩ := oob h
      refine G_iald C (a := 1) rfl cg (by decide +kernel) ?_
      have h := Option.some.inj h
      subst h
      exact G_iret C hR (by decide +kernel)
    · rw [if_pos c] at h
      refine G_r C [(.aload_n 0, 1, 0, 0, .null)] 35 [(0, .ref 0), (1, .int x1)] [.ref 0] (wMo cy Ms Mb Mq MB My ML Mg MF MW MI MA q3.2.1 q2 Mp Mf Mt Ml Mo Mn q3.2.2 MT MP Mv Mx Mz) (by decide +kernel) rfl rfl ?_
      obtain ⟨q5, hq5, h⟩ := obd h
      refine G_c0 C lk_7_87 ⟨Nat.le_of_ble_eq_true rfl, Nat.le_of_ble_eq_true rfl⟩ (by decide +kernel) [.int q5.1] (c_X7_no cy Ms Mb Mq MB My ML Mg MF MW MI MA q3.2.1 q2 Mp Mf Mt Ml Mo Mn q3.2.2 MT MP Mv Mx Mz q5 hq5) rfl rfl (Nat.le_of_ble_eq_true rfl) ⟨rfl, rfl⟩ rfl ?_
      have h := Option.some.inj h
      subst h
      exact G_iret C hR (by decide +kernel)
  · rw [if_pos c] at h
    refine G_r C [(.aload_n 0, 1, 0, 0, .null)] 8 [(0, .ref 0), (1, .int x1)] [.ref 0] (wMo cy Ms Mb Mq MB My ML Mg MF MW MI MA Mr Ma Mp Mf Mt Ml Mo Mn Mm MT MP Mv Mx Mz) (by decide +kernel) rfl rfl ?_
    obtain ⟨q6, hq6, h⟩ := obd h
    refine G_c0 C lk_7_72 ⟨Nat.le_of_ble_eq_true rfl, Nat.le_of_ble_eq_true rfl⟩ (by decide +kernel) [.int q6.1] (c_X7_bad cy Ms Mb Mq MB My ML Mg MF MW MI MA Mr Ma Mp Mf Mt Ml Mo Mn Mm MT MP Mv Mx Mz q6 hq6) rfl rfl (Nat.le_of_ble_eq_true rfl) ⟨rfl, rfl⟩ rfl ?_
    have h := Option.some.inj h
    subst h
    exact G_iret C hR (by decide +kernel)
def f_X7_of (x1 : Int32) (Mr : Nat → Int32) (Mf : Nat → Int32) : Option (Int32 × (Nat → Int32)) := if (7 : Int32) < 0 ∨ 8 ≤ (7 : Int32).toNatClampNeg then none else (f_X7_in x1.toInt64 (0 : Int64) (((Mr (7 : Int32).toNatClampNeg) - (1 : Int32)).toInt64)).bind fun q1 => if (bI q1) = 0 then ((f_X7_bad Mf).bind fun q2 => some (q2.1, q2.2)) else (if x1 < 0 ∨ 8 ≤ x1.toNatClampNeg then none else some ((Mr x1.toNatClampNeg), Mf))
set_option maxHeartbeats 4000000 in
set_option maxRecDepth 100000 in
theorem c_X7_of (cy : Nat → ClassId) (Ms : Int32) (Mb : Int32) (Mq : Int32) (MB : Int64) (My : Int32) (ML : Int32) (Mg : Int32) (MF : Int32) (MW : Bool) (MI : Bool) (MA : Int32) (Mr : Nat → Int32) (Ma : Nat → Int32) (Mp : Nat → Int32) (Mf : Nat → Int32) (Mt : Nat → Int32) (Ml : Nat → Int32) (Mo : Nat → Int32) (Mn : Nat → Int32) (Mm : Nat → Int64) (MT : Nat → Int64) (MP : Nat → Int64) (Mv : Nat → Int32) (Mx : Nat → Int64) (Mz : Nat → Int64) (x1 : Int32) (res : (Int32 × (Nat → Int32))) (h : f_X7_of x1 Mr Mf = some res) : MG cy yX7_of cX7_of 2 (some .int) 1 25 [.ref 0, .int x1] (wMo cy Ms Mb Mq MB My ML Mg MF MW MI MA Mr Ma Mp Mf Mt Ml Mo Mn Mm MT MP Mv Mx Mz) (some (.int res.1)) (wMo cy Ms Mb Mq MB My ML Mg MF MW MI MA Mr Ma Mp res.2 Mt Ml Mo Mn Mm MT MP Mv Mx Mz) := by
  refine MG_of (o := 7) (lv := [(0, .ref 0), (1, .int x1)]) ⟨by decide +kernel, rfl⟩ (Nat.le_of_ble_eq_true rfl) rfl (fun k C hR => ?_)
  rw [f_X7_of] at h
  refine G_r C [(.iload_n 1, 1, 0, 0, .null), (.i2l, 1, 0, 0, .null), (.lconst 0, 1, 0, 0, .long (0 : Int64)), (.aload_n 0, 1, 0, 0, .null), (.getfield 7, 3, 7, 0, .null), (.bipush 7, 2, 0, 0, .int (7 : Int32))] 9 [(0, .ref 0), (1, .int x1)] [.int (7 : Int32), .ref 1, .long (0 : Int64), .long x1.toInt64] (wMo cy Ms Mb Mq MB My ML Mg MF MW MI MA Mr Ma Mp Mf Mt Ml Mo Mn Mm MT MP Mv Mx Mz) (by decide +kernel) rfl rfl ?_
  obtain ⟨cg, h⟩ := oob h
  refine G_iald C (a := 1) rfl cg (by decide +kernel) ?_
  refine G_r C [(.iconst 1, 1, 0, 0, .int (1 : Int32)), (.isub, 1, 0, 0, .null), (.i2l, 1, 0, 0, .null)] 13 [(0, .ref 0), (1, .int x1)] [.long (((Mr (7 : Int32).toNatClampNeg) - (1 : Int32)).toInt64), .long (0 : Int64), .long x1.toInt64] (wMo cy Ms Mb Mq MB My ML Mg MF MW MI MA Mr Ma Mp Mf Mt Ml Mo Mn Mm MT MP Mv Mx Mz) (by decide +kernel) rfl rfl ?_
  obtain ⟨q1, hq1, h⟩ := obd h
  refine G_cS C lk_7_64 ⟨Nat.le_of_ble_eq_true rfl, Nat.le_of_ble_eq_true rfl⟩ (by decide +kernel) [.int (bI q1)] (c_X7_in cy x1.toInt64 (0 : Int64) (((Mr (7 : Int32).toNatClampNeg) - (1 : Int32)).toInt64) q1 hq1) rfl rfl (Nat.le_of_ble_eq_true rfl) rfl ?_
  refine G_if_eq C (off := 12) (tgt := 28) (by decide +kernel) rfl (fun c => ?_) (fun c => ?_)
  · rw [if_pos c] at h
    refine G_r C [(.aload_n 0, 1, 0, 0, .null)] 29 [(0, .ref 0), (1, .int x1)] [.ref 0] (wMo cy Ms Mb Mq MB My ML Mg MF MW MI MA Mr Ma Mp Mf Mt Ml Mo Mn Mm MT MP Mv Mx Mz) (by decide +kernel) rfl rfl ?_
    obtain ⟨q2, hq2, h⟩ := obd h
    refine G_c0 C lk_7_72 ⟨Nat.le_of_ble_eq_true rfl, Nat.le_of_ble_eq_true rfl⟩ (by decide +kernel) [.int q2.1] (c_X7_bad cy Ms Mb Mq MB My ML Mg MF MW MI MA Mr Ma Mp Mf Mt Ml Mo Mn Mm MT MP Mv Mx Mz q2 hq2) rfl rfl (Nat.le_of_ble_eq_true rfl) ⟨rfl, rfl⟩ rfl ?_
    have h := Option.some.inj h
    subst h
    exact G_iret C hR (by decide +kernel)
  · rw [if_neg c] at h
    refine G_r C [(.aload_n 0, 1, 0, 0, .null), (.getfield 7, 3, 7, 0, .null), (.iload_n 1, 1, 0, 0, .null)] 24 [(0, .ref 0), (1, .int x1)] [.int x1, .ref 1] (wMo cy Ms Mb Mq MB My ML Mg MF MW MI MA Mr Ma Mp Mf Mt Ml Mo Mn Mm MT MP Mv Mx Mz) (by decide +kernel) rfl rfl ?_
    obtain ⟨cg, h⟩ := oob h
    refine G_iald C (a := 1) rfl cg (by decide +kernel) ?_
    refine G_goto C (off := 7) (tgt := 32) (by decide +kernel) rfl ?_
    have h := Option.some.inj h
    subst h
    exact G_iret C hR (by decide +kernel)
def f_X7_isThere (x1 : Int32) (x2 : Int32) (Mr : Nat → Int32) : Option Bool := if x2 = 0 then (some true) else (if (7 : Int32) < 0 ∨ 8 ≤ (7 : Int32).toNatClampNeg then none else if (Mr (7 : Int32).toNatClampNeg) ≤ (x1 + ((2 : Int32) * (x2 - (1 : Int32)))) then (some false) else (some true))
set_option maxHeartbeats 4000000 in
set_option maxRecDepth 100000 in
theorem c_X7_isThere (cy : Nat → ClassId) (Ms : Int32) (Mb : Int32) (Mq : Int32) (MB : Int64) (My : Int32) (ML : Int32) (Mg : Int32) (MF : Int32) (MW : Bool) (MI : Bool) (MA : Int32) (Mr : Nat → Int32) (Ma : Nat → Int32) (Mp : Nat → Int32) (Mf : Nat → Int32) (Mt : Nat → Int32) (Ml : Nat → Int32) (Mo : Nat → Int32) (Mn : Nat → Int32) (Mm : Nat → Int64) (MT : Nat → Int64) (MP : Nat → Int64) (Mv : Nat → Int32) (Mx : Nat → Int64) (Mz : Nat → Int64) (x1 : Int32) (x2 : Int32) (res : Bool) (h : f_X7_isThere x1 x2 Mr = some res) : MG cy yX7_isThere cX7_isThere 3 (some .boolean) 0 0 [.ref 0, .int x1, .int x2] (wMo cy Ms Mb Mq MB My ML Mg MF MW MI MA Mr Ma Mp Mf Mt Ml Mo Mn Mm MT MP Mv Mx Mz) (some (.int (bI res))) (wMo cy Ms Mb Mq MB My ML Mg MF MW MI MA Mr Ma Mp Mf Mt Ml Mo Mn Mm MT MP Mv Mx Mz) := by
  refine MG_of (o := 7) (lv := [(0, .ref 0), (1, .int x1), (2, .int x2)]) ⟨by decide +kernel, rfl⟩ (Nat.le_of_ble_eq_true rfl) rfl (fun k C hR => ?_)
  rw [f_X7_isThere] at h
  refine G_r C [(.iload_n 2, 1, 0, 0, .null)] 1 [(0, .ref 0), (1, .int x1), (2, .int x2)] [.int x2] (wMo cy Ms Mb Mq MB My ML Mg MF MW MI MA Mr Ma Mp Mf Mt Ml Mo Mn Mm MT MP Mv Mx Mz) (by decide +kernel) rfl rfl ?_
  refine G_if_eq C (off := 20) (tgt := 21) (by decide +kernel) rfl (fun c => ?_) (fun c => ?_)
  · rw [if_pos c] at h
    refine G_r C [(.iconst 1, 1, 0, 0, .int (1 : Int32))] 22 [(0, .ref 0), (1, .int x1), (2, .int x2)] [.int (1 : Int32)] (wMo cy Ms Mb Mq MB My ML Mg MF MW MI MA Mr Ma Mp Mf Mt Ml Mo Mn Mm MT MP Mv Mx Mz) (by decide +kernel) rfl rfl ?_
    refine G_goto C (off := 4) (tgt := 26) (by decide +kernel) rfl ?_
    have h := Option.some.inj h
    subst h
    exact G_zret C (v := true) hR (by decide +kernel)
  · rw [if_neg c] at h
    refine G_r C [(.aload_n 0, 1, 0, 0, .null), (.getfield 7, 3, 7, 0, .null), (.bipush 7, 2, 0, 0, .int (7 : Int32))] 10 [(0, .ref 0), (1, .int x1), (2, .int x2)] [.int (7 : Int32), .ref 1] (wMo cy Ms Mb Mq MB My ML Mg MF MW MI MA Mr Ma Mp Mf Mt Ml Mo Mn Mm MT MP Mv Mx Mz) (by decide +kernel) rfl rfl ?_
    obtain ⟨cg, h⟩ := oob h
    refine G_iald C (a := 1) rfl cg (by decide +kernel) ?_
    refine G_r C [(.iload_n 1, 1, 0, 0, .null), (.iconst 2, 1, 0, 0, .int (2 : Int32)), (.iload_n 2, 1, 0, 0, .null), (.iconst 1, 1, 0, 0, .int (1 : Int32)), (.isub, 1, 0, 0, .null), (.imul, 1, 0, 0, .null), (.iadd, 1, 0, 0, .null)] 18 [(0, .ref 0), (1, .int x1), (2, .int x2)] [.int (x1 + ((2 : Int32) * (x2 - (1 : Int32)))), .int (Mr (7 : Int32).toNatClampNeg)] (wMo cy Ms Mb Mq MB My ML Mg MF MW MI MA Mr Ma Mp Mf Mt Ml Mo Mn Mm MT MP Mv Mx Mz) (by decide +kernel) rfl rfl ?_
    refine G_icmp_le C (off := 7) (tgt := 25) (by decide +kernel) rfl (fun c => ?_) (fun c => ?_)
    · rw [if_pos c] at h
      refine G_r C [(.iconst 0, 1, 0, 0, .int (0 : Int32))] 26 [(0, .ref 0), (1, .int x1), (2, .int x2)] [.int (0 : Int32)] (wMo cy Ms Mb Mq MB My ML Mg MF MW MI MA Mr Ma Mp Mf Mt Ml Mo Mn Mm MT MP Mv Mx Mz) (by decide +kernel) rfl rfl ?_
      have h := Option.some.inj h
      subst h
      exact G_zret C (v := false) hR (by decide +kernel)
    · rw [if_neg c] at h
      refine G_r C [(.iconst 1, 1, 0, 0, .int (1 : Int32))] 22 [(0, .ref 0), (1, .int x1), (2, .int x2)] [.int (1 : Int32)] (wMo cy Ms Mb Mq MB My ML Mg MF MW MI MA Mr Ma Mp Mf Mt Ml Mo Mn Mm MT MP Mv Mx Mz) (by decide +kernel) rfl rfl ?_
      refine G_goto C (off := 4) (tgt := 26) (by decide +kernel) rfl ?_
      have h := Option.some.inj h
      subst h
      exact G_zret C (v := true) hR (by decide +kernel)
def f_X7_clearTable_L20 : Nat → Int32 → Int32 → Int32 → (Nat → Int64) → Option Int32
  | 0, _, _, _, _ => none
  | fu + 1, x1, x6, x7, MT => if x1 ≤ x7 then (some x7) else (if (((4 : Int32) * x7) + x6) < 0 ∨ 16 ≤ (((4 : Int32) * x7) + x6).toNatClampNeg then none else if (MT (((4 : Int32) * x7) + x6).toNatClampNeg) = (0 : Int64) then (f_X7_clearTable_L20 fu x1 x6 (x7 + (1 : Int32)) MT) else (some x7))
def f_X7_clearTable_L60 : Nat → Int32 → Int32 → Int32 → Int32 → (Nat → Int64) → Option (Nat → Int64)
  | 0, _, _, _, _, _ => none
  | fu + 1, x1, x6, x7, x8, MT => if x1 ≤ x8 then (some MT) else (if x7 = x6 then (some MT) else (if (((4 : Int32) * x7) + x8) < 0 ∨ 16 ≤ (((4 : Int32) * x7) + x8).toNatClampNeg then none else if (((4 : Int32) * x6) + x8) < 0 ∨ 16 ≤ (((4 : Int32) * x6) + x8).toNatClampNeg then none else if (((4 : Int32) * x7) + x8) < 0 ∨ 16 ≤ (((4 : Int32) * x7) + x8).toNatClampNeg then none else if (((4 : Int32) * x6) + x8) < 0 ∨ 16 ≤ (((4 : Int32) * x6) + x8).toNatClampNeg then none else f_X7_clearTable_L60 fu x1 x6 x7 (x8 + (1 : Int32)) (vp_updL (vp_updL MT (((4 : Int32) * x7) + x8).toNatClampNeg (MT (((4 : Int32) * x6) + x8).toNatClampNeg)) (((4 : Int32) * x6) + x8).toNatClampNeg (MT (((4 : Int32) * x7) + x8).toNatClampNeg))))
def f_X7_clearTable_L166 : Nat → Int32 → Int64 → Int32 → Int32 → Int32 → (Nat → Int64) → Option (Nat → Int64)
  | 0, _, _, _, _, _, _ => none
  | fu + 1, x1, x2, x6, x8, x9, MT => if x1 ≤ x9 then (some MT) else (if (((4 : Int32) * x8) + x9) < 0 ∨ 16 ≤ (((4 : Int32) * x8) + x9).toNatClampNeg then none else if (((4 : Int32) * x6) + x6) < 0 ∨ 16 ≤ (((4 : Int32) * x6) + x6).toNatClampNeg then none else if (((4 : Int32) * x8) + x6) < 0 ∨ 16 ≤ (((4 : Int32) * x8) + x6).toNatClampNeg then none else if (((4 : Int32) * x6) + x9) < 0 ∨ 16 ≤ (((4 : Int32) * x6) + x9).toNatClampNeg then none else if x2 = 0 then none else if (((4 : Int32) * x8) + x9) < 0 ∨ 16 ≤ (((4 : Int32) * x8) + x9).toNatClampNeg then none else f_X7_clearTable_L166 fu x1 x2 x6 x8 (x9 + (1 : Int32)) (vp_updL MT (((4 : Int32) * x8) + x9).toNatClampNeg ((((MT (((4 : Int32) * x8) + x9).toNatClampNeg) * (MT (((4 : Int32) * x6) + x6).toNatClampNeg)) - ((MT (((4 : Int32) * x8) + x6).toNatClampNeg) * (MT (((4 : Int32) * x6) + x9).toNatClampNeg))) / x2)))
def f_X7_clearTable_L154 : Nat → Int32 → Int64 → Int32 → Int32 → (Nat → Int64) → Option (Nat → Int64)
  | 0, _, _, _, _, _ => none
  | fu + 1, x1, x2, x6, x8, MT => if x1 ≤ x8 then (some MT) else ((f_X7_clearTable_L166 200 x1 x2 x6 x8 (x6 + (1 : Int32)) MT).bind fun q3 => f_X7_clearTable_L154 fu x1 x2 x6 (x8 + (1 : Int32)) q3)
def f_X7_clearTable_L8 : Nat → Int32 → Int64 → Int64 → Int32 → (Nat → Int64) → Option (Int64 × (Nat → Int64))
  | 0, _, _, _, _, _ => none
  | fu + 1, x1, x2, x4, x6, MT => if x1 ≤ (x6 + (1 : Int32)) then (if x1 = 0 then (some ((1 : Int64), MT)) else (if (((5 : Int32) * x1) - (5 : Int32)) < 0 ∨ 16 ≤ (((5 : Int32) * x1) - (5 : Int32)).toNatClampNeg then none else some ((x4 * (MT (((5 : Int32) * x1) - (5 : Int32)).toNatClampNeg)), MT))) else ((f_X7_clearTable_L20 200 x1 x6 x6 MT).bind fun q1 => if q1 = x1 then (some ((0 : Int64), MT)) else ((f_X7_clearTable_L60 200 x1 x6 q1 (0 : Int32) MT).bind fun q2 => if q1 = x6 then ((f_X7_clearTable_L154 200 x1 x2 x6 (x6 + (1 : Int32)) q2).bind fun q5 => if ((5 : Int32) * x6) < 0 ∨ 16 ≤ ((5 : Int32) * x6).toNatClampNeg then none else f_X7_clearTable_L8 fu x1 (q5 ((5 : Int32) * x6).toNatClampNeg) x4 (x6 + (1 : Int32)) q5) else ((f_X7_clearTable_L154 200 x1 x2 x6 (x6 + (1 : Int32)) q2).bind fun q4 => if ((5 : Int32) * x6) < 0 ∨ 16 ≤ ((5 : Int32) * x6).toNatClampNeg then none else f_X7_clearTable_L8 fu x1 (q4 ((5 : Int32) * x6).toNatClampNeg) (-x4) (x6 + (1 : Int32)) q4)))
def f_X7_clearTable (x1 : Int32) (MT : Nat → Int64) : Option (Int64 × (Nat → Int64)) := f_X7_clearTable_L8 200 x1 (1 : Int64) (1 : Int64) (0 : Int32) MT
set_option maxHeartbeats 4000000 in
set_option maxRecDepth 100000 in
theorem g_X7_clearTable_L20 {k : KX} {cy : Nat → ClassId} (C : OK k cX7_clearTable 7 11 cy 0 0) : ∀ (fu : Nat) (x1 : Int32) (x2 : Int64) (x4 : Int64) (x6 : Int32) (x7 : Int32) (Ms : Int32) (Mb : Int32) (Mq : Int32) (MB : Int64) (My : Int32) (ML : Int32) (Mg : Int32) (MF : Int32) (MW : Bool) (MI : Bool) (MA : Int32) (Mr : Nat → Int32) (Ma : Nat → Int32) (Mp : Nat → Int32) (Mf : Nat → Int32) (Mt : Nat → Int32) (Ml : Nat → Int32) (Mo : Nat → Int32) (Mn : Nat → Int32) (Mm : Nat → Int64) (MT : Nat → Int64) (MP : Nat → Int64) (Mv : Nat → Int32) (Mx : Nat → Int64) (Mz : Nat → Int64) (res : Int32), (f_X7_clearTable_L20 fu x1 x6 x7 MT = some res) → G k 11 49 [(0, .ref 0), (1, .int x1), (2, .long x2), (4, .long x4), (6, .int x6), (7, .int res)] [] (wMo cy Ms Mb Mq MB My ML Mg MF MW MI MA Mr Ma Mp Mf Mt Ml Mo Mn Mm MT MP Mv Mx Mz) → G k 11 20 [(0, .ref 0), (1, .int x1), (2, .long x2), (4, .long x4), (6, .int x6), (7, .int x7)] [] (wMo cy Ms Mb Mq MB My ML Mg MF MW MI MA Mr Ma Mp Mf Mt Ml Mo Mn Mm MT MP Mv Mx Mz) := by
  intro fu
  induction fu with
  | zero =>
    intro x1 x2 x4 x6 x7 Ms Mb Mq MB My ML Mg MF MW MI MA Mr Ma Mp Mf Mt Ml Mo Mn Mm MT MP Mv Mx Mz res h hex
    rw [f_X7_clearTable_L20] at h
    cases h
  | succ fu ih =>
    intro x1 x2 x4 x6 x7 Ms Mb Mq MB My ML Mg MF MW MI MA Mr Ma Mp Mf Mt Ml Mo Mn Mm MT MP Mv Mx Mz res h hex
    rw [f_X7_clearTable_L20] at h
    refine G_r C [(.iload 7, 2, 0, 0, .null), (.iload_n 1, 1, 0, 0, .null)] 23 [(0, .ref 0), (1, .int x1), (2, .long x2), (4, .long x4), (6, .int x6), (7, .int x7)] [.int x1, .int x7] (wMo cy Ms Mb Mq MB My ML Mg MF MW MI MA Mr Ma Mp Mf Mt Ml Mo Mn Mm MT MP Mv Mx Mz) (by decide +kernel) rfl rfl ?_
    refine G_icmp_ge C (off := 26) (tgt := 49) (by decide +kernel) rfl (fun c => ?_) (fun c => ?_)
    · rw [if_pos c] at h
      have h := Option.some.inj h
      subst h
      refine G_lv [0, 1, 2, 3, 4, 5] (lv' := [(0, .ref 0), (1, .int x1), (2, .long x2), (4, .long x4), (6, .int x6), (7, .int x7)]) rfl ?_
      exact hex
    · rw [if_neg c] at h
      refine G_r C [(.aload_n 0, 1, 0, 0, .null), (.getfield 38, 3, 7, 12, .null), (.iconst 4, 1, 0, 0, .int (4 : Int32)), (.iload 7, 2, 0, 0, .null), (.imul, 1, 0, 0, .null), (.iload 6, 2, 0, 0, .null), (.iadd, 1, 0, 0, .null)] 37 [(0, .ref 0), (1, .int x1), (2, .long x2), (4, .long x4), (6, .int x6), (7, .int x7)] [.int (((4 : Int32) * x7) + x6), .ref 10] (wMo cy Ms Mb Mq MB My ML Mg MF MW MI MA Mr Ma Mp Mf Mt Ml Mo Mn Mm MT MP Mv Mx Mz) (by decide +kernel) rfl rfl ?_
      obtain ⟨cg, h⟩ := oob h
      refine G_lald C (a := 10) rfl cg (by decide +kernel) ?_
      refine G_r C [(.lconst 0, 1, 0, 0, .long (0 : Int64))] 39 [(0, .ref 0), (1, .int x1), (2, .long x2), (4, .long x4), (6, .int x6), (7, .int x7)] [.long (0 : Int64), .long (MT (((4 : Int32) * x7) + x6).toNatClampNeg)] (wMo cy Ms Mb Mq MB My ML Mg MF MW MI MA Mr Ma Mp Mf Mt Ml Mo Mn Mm MT MP Mv Mx Mz) (by decide +kernel) rfl rfl ?_
      refine G_lcmp_ne C (off := 9) (tgt := 49) (by decide +kernel) (by decide +kernel) rfl (fun c => ?_) (fun c => ?_)
      · rw [if_neg c] at h
        have h := Option.some.inj h
        subst h
        refine G_lv [0, 1, 2, 3, 4, 5] (lv' := [(0, .ref 0), (1, .int x1), (2, .long x2), (4, .long x4), (6, .int x6), (7, .int x7)]) rfl ?_
        exact hex
      · rw [if_pos c] at h
        refine G_r C [(.iinc 7 1, 3, 0, 0, .int (1 : Int32))] 46 [(7, .int (x7 + (1 : Int32))), (0, .ref 0), (1, .int x1), (2, .long x2), (4, .long x4), (6, .int x6)] [] (wMo cy Ms Mb Mq MB My ML Mg MF MW MI MA Mr Ma Mp Mf Mt Ml Mo Mn Mm MT MP Mv Mx Mz) (by decide +kernel) rfl rfl ?_
        refine G_goto C (off := -26) (tgt := 20) (by decide +kernel) rfl ?_
        refine G_lv [1, 2, 3, 4, 5, 0] (lv' := [(0, .ref 0), (1, .int x1), (2, .long x2), (4, .long x4), (6, .int x6), (7, .int (x7 + (1 : Int32)))]) rfl ?_
        exact ih x1 x2 x4 x6 (x7 + (1 : Int32)) Ms Mb Mq MB My ML Mg MF MW MI MA Mr Ma Mp Mf Mt Ml Mo Mn Mm MT MP Mv Mx Mz res h hex
set_option maxHeartbeats 4000000 in
set_option maxRecDepth 100000 in
theorem g_X7_clearTable_L60 {k : KX} {cy : Nat → ClassId} (C : OK k cX7_clearTable 7 11 cy 0 0) : ∀ (fu : Nat) (x1 : Int32) (x2 : Int64) (x4 : Int64) (x6 : Int32) (x7 : Int32) (x8 : Int32) (Ms : Int32) (Mb : Int32) (Mq : Int32) (MB : Int64) (My : Int32) (ML : Int32) (Mg : Int32) (MF : Int32) (MW : Bool) (MI : Bool) (MA : Int32) (Mr : Nat → Int32) (Ma : Nat → Int32) (Mp : Nat → Int32) (Mf : Nat → Int32) (Mt : Nat → Int32) (Ml : Nat → Int32) (Mo : Nat → Int32) (Mn : Nat → Int32) (Mm : Nat → Int64) (MT : Nat → Int64) (MP : Nat → Int64) (Mv : Nat → Int32) (Mx : Nat → Int64) (Mz : Nat → Int64) (res : (Nat → Int64)), (f_X7_clearTable_L60 fu x1 x6 x7 x8 MT = some res) → G k 11 131 [(0, .ref 0), (1, .int x1), (2, .long x2), (4, .long x4), (6, .int x6), (7, .int x7)] [] (wMo cy Ms Mb Mq MB My ML Mg MF MW MI MA Mr Ma Mp Mf Mt Ml Mo Mn Mm res MP Mv Mx Mz) → G k 11 60 [(0, .ref 0), (1, .int x1), (2, .long x2), (4, .long x4), (6, .int x6), (7, .int x7), (8, .int x8)] [] (wMo cy Ms Mb Mq MB My ML Mg MF MW MI MA Mr Ma Mp Mf Mt Ml Mo Mn Mm MT MP Mv Mx Mz) := by
  intro fu
  induction fu with
  | zero =>
    intro x1 x2 x4 x6 x7 x8 Ms Mb Mq MB My ML Mg MF MW MI MA Mr Ma Mp Mf Mt Ml Mo Mn Mm MT MP Mv Mx Mz res h hex
    rw [f_X7_clearTable_L60] at h
    cases h
  | succ fu ih =>
    intro x1 x2 x4 x6 x7 x8 Ms Mb Mq MB My ML Mg MF MW MI MA Mr Ma Mp Mf Mt Ml Mo Mn Mm MT MP Mv Mx Mz res h hex
    rw [f_X7_clearTable_L60] at h
    refine G_r C [(.iload 8, 2, 0, 0, .null), (.iload_n 1, 1, 0, 0, .null)] 63 [(0, .ref 0), (1, .int x1), (2, .long x2), (4, .long x4), (6, .int x6), (7, .int x7), (8, .int x8)] [.int x1, .int x8] (wMo cy Ms Mb Mq MB My ML Mg MF MW MI MA Mr Ma Mp Mf Mt Ml Mo Mn Mm MT MP Mv Mx Mz) (by decide +kernel) rfl rfl ?_
    refine G_icmp_ge C (off := 68) (tgt := 131) (by decide +kernel) rfl (fun c => ?_) (fun c => ?_)
    · rw [if_pos c] at h
      have h := Option.some.inj h
      subst h
      refine G_lv [0, 1, 2, 3, 4, 5] (lv' := [(0, .ref 0), (1, .int x1), (2, .long x2), (4, .long x4), (6, .int x6), (7, .int x7)]) rfl ?_
      exact hex
    · rw [if_neg c] at h
      refine G_r C [(.iload 7, 2, 0, 0, .null), (.iload 6, 2, 0, 0, .null)] 70 [(0, .ref 0), (1, .int x1), (2, .long x2), (4, .long x4), (6, .int x6), (7, .int x7), (8, .int x8)] [.int x6, .int x7] (wMo cy Ms Mb Mq MB My ML Mg MF MW MI MA Mr Ma Mp Mf Mt Ml Mo Mn Mm MT MP Mv Mx Mz) (by decide +kernel) rfl rfl ?_
      refine G_icmp_eq C (off := 61) (tgt := 131) (by decide +kernel) rfl (fun c => ?_) (fun c => ?_)
      · rw [if_pos c] at h
        have h := Option.some.inj h
        subst h
        refine G_lv [0, 1, 2, 3, 4, 5] (lv' := [(0, .ref 0), (1, .int x1), (2, .long x2), (4, .long x4), (6, .int x6), (7, .int x7)]) rfl ?_
        exact hex
      · rw [if_neg c] at h
        refine G_r C [(.aload_n 0, 1, 0, 0, .null), (.getfield 38, 3, 7, 12, .null), (.iconst 4, 1, 0, 0, .int (4 : Int32)), (.iload 7, 2, 0, 0, .null), (.imul, 1, 0, 0, .null), (.iload 8, 2, 0, 0, .null), (.iadd, 1, 0, 0, .null)] 84 [(0, .ref 0), (1, .int x1), (2, .long x2), (4, .long x4), (6, .int x6), (7, .int x7), (8, .int x8)] [.int (((4 : Int32) * x7) + x8), .ref 10] (wMo cy Ms Mb Mq MB My ML Mg MF MW MI MA Mr Ma Mp Mf Mt Ml Mo Mn Mm MT MP Mv Mx Mz) (by decide +kernel) rfl rfl ?_
        obtain ⟨cg, h⟩ := oob h
        refine G_lald C (a := 10) rfl cg (by decide +kernel) ?_
        refine G_r C [(.lstore 9, 2, 0, 0, .null), (.aload_n 0, 1, 0, 0, .null), (.getfield 38, 3, 7, 12, .null), (.iconst 4, 1, 0, 0, .int (4 : Int32)), (.iload 7, 2, 0, 0, .null), (.imul, 1, 0, 0, .null), (.iload 8, 2, 0, 0, .null), (.iadd, 1, 0, 0, .null), (.aload_n 0, 1, 0, 0, .null), (.getfield 38, 3, 7, 12, .null), (.iconst 4, 1, 0, 0, .int (4 : Int32)), (.iload 6, 2, 0, 0, .null), (.imul, 1, 0, 0, .null), (.iload 8, 2, 0, 0, .null), (.iadd, 1, 0, 0, .null)] 109 [(9, .long (MT (((4 : Int32) * x7) + x8).toNatClampNeg)), (0, .ref 0), (1, .int x1), (2, .long x2), (4, .long x4), (6, .int x6), (7, .int x7), (8, .int x8)] [.int (((4 : Int32) * x6) + x8), .ref 10, .int (((4 : Int32) * x7) + x8), .ref 10] (wMo cy Ms Mb Mq MB My ML Mg MF MW MI MA Mr Ma Mp Mf Mt Ml Mo Mn Mm MT MP Mv Mx Mz) (by decide +kernel) rfl rfl ?_
        obtain ⟨cg, h⟩ := oob h
        refine G_lald C (a := 10) rfl cg (by decide +kernel) ?_
        obtain ⟨cg, h⟩ := oob h
        refine G_last C (a := 10) (w' := (wMo cy Ms Mb Mq MB My ML Mg MF MW MI MA Mr Ma Mp Mf Mt Ml Mo Mn Mm (vp_updL MT (((4 : Int32) * x7) + x8).toNatClampNeg (MT (((4 : Int32) * x6) + x8).toNatClampNeg)) MP Mv Mx Mz)) rfl cg (by decide +kernel) rfl ?_
        refine G_r C [(.aload_n 0, 1, 0, 0, .null), (.getfield 38, 3, 7, 12, .null), (.iconst 4, 1, 0, 0, .int (4 : Int32)), (.iload 6, 2, 0, 0, .null), (.imul, 1, 0, 0, .null), (.iload 8, 2, 0, 0, .null), (.iadd, 1, 0, 0, .null), (.lload 9, 2, 0, 0, .null)] 124 [(9, .long (MT (((4 : Int32) * x7) + x8).toNatClampNeg)), (0, .ref 0), (1, .int x1), (2, .long x2), (4, .long x4), (6, .int x6), (7, .int x7), (8, .int x8)] [.long (MT (((4 : Int32) * x7) + x8).toNatClampNeg), .int (((4 : Int32) * x6) + x8), .ref 10] (wMo cy Ms Mb Mq MB My ML Mg MF MW MI MA Mr Ma Mp Mf Mt Ml Mo Mn Mm (vp_updL MT (((4 : Int32) * x7) + x8).toNatClampNeg (MT (((4 : Int32) * x6) + x8).toNatClampNeg)) MP Mv Mx Mz) (by decide +kernel) rfl rfl ?_
        obtain ⟨cg, h⟩ := oob h
        refine G_last C (a := 10) (w' := (wMo cy Ms Mb Mq MB My ML Mg MF MW MI MA Mr Ma Mp Mf Mt Ml Mo Mn Mm (vp_updL (vp_updL MT (((4 : Int32) * x7) + x8).toNatClampNeg (MT (((4 : Int32) * x6) + x8).toNatClampNeg)) (((4 : Int32) * x6) + x8).toNatClampNeg (MT (((4 : Int32) * x7) + x8).toNatClampNeg)) MP Mv Mx Mz)) rfl cg (by decide +kernel) rfl ?_
        refine G_r C [(.iinc 8 1, 3, 0, 0, .int (1 : Int32))] 128 [(8, .int (x8 + (1 : Int32))), (9, .long (MT (((4 : Int32) * x7) + x8).toNatClampNeg)), (0, .ref 0), (1, .int x1), (2, .long x2), (4, .long x4), (6, .int x6), (7, .int x7)] [] (wMo cy Ms Mb Mq MB My ML Mg MF MW MI MA Mr Ma Mp Mf Mt Ml Mo Mn Mm (vp_updL (vp_updL MT (((4 : Int32) * x7) + x8).toNatClampNeg (MT (((4 : Int32) * x6) + x8).toNatClampNeg)) (((4 : Int32) * x6) + x8).toNatClampNeg (MT (((4 : Int32) * x7) + x8).toNatClampNeg)) MP Mv Mx Mz) (by decide +kernel) rfl rfl ?_
        refine G_goto C (off := -68) (tgt := 60) (by decide +kernel) rfl ?_
        refine G_lv [2, 3, 4, 5, 6, 7, 0] (lv' := [(0, .ref 0), (1, .int x1), (2, .long x2), (4, .long x4), (6, .int x6), (7, .int x7), (8, .int (x8 + (1 : Int32)))]) rfl ?_
        exact ih x1 x2 x4 x6 x7 (x8 + (1 : Int32)) Ms Mb Mq MB My ML Mg MF MW MI MA Mr Ma Mp Mf Mt Ml Mo Mn Mm (vp_updL (vp_updL MT (((4 : Int32) * x7) + x8).toNatClampNeg (MT (((4 : Int32) * x6) + x8).toNatClampNeg)) (((4 : Int32) * x6) + x8).toNatClampNeg (MT (((4 : Int32) * x7) + x8).toNatClampNeg)) MP Mv Mx Mz res h hex
set_option maxHeartbeats 4000000 in
set_option maxRecDepth 100000 in
theorem g_X7_clearTable_L166 {k : KX} {cy : Nat → ClassId} (C : OK k cX7_clearTable 7 11 cy 0 0) : ∀ (fu : Nat) (x1 : Int32) (x2 : Int64) (x4 : Int64) (x6 : Int32) (x8 : Int32) (x9 : Int32) (Ms : Int32) (Mb : Int32) (Mq : Int32) (MB : Int64) (My : Int32) (ML : Int32) (Mg : Int32) (MF : Int32) (MW : Bool) (MI : Bool) (MA : Int32) (Mr : Nat → Int32) (Ma : Nat → Int32) (Mp : Nat → Int32) (Mf : Nat → Int32) (Mt : Nat → Int32) (Ml : Nat → Int32) (Mo : Nat → Int32) (Mn : Nat → Int32) (Mm : Nat → Int64) (MT : Nat → Int64) (MP : Nat → Int64) (Mv : Nat → Int32) (Mx : Nat → Int64) (Mz : Nat → Int64) (res : (Nat → Int64)), (f_X7_clearTable_L166 fu x1 x2 x6 x8 x9 MT = some res) → G k 11 243 [(0, .ref 0), (1, .int x1), (2, .long x2), (4, .long x4), (6, .int x6), (8, .int x8)] [] (wMo cy Ms Mb Mq MB My ML Mg MF MW MI MA Mr Ma Mp Mf Mt Ml Mo Mn Mm res MP Mv Mx Mz) → G k 11 166 [(0, .ref 0), (1, .int x1), (2, .long x2), (4, .long x4), (6, .int x6), (8, .int x8), (9, .int x9)] [] (wMo cy Ms Mb Mq MB My ML Mg MF MW MI MA Mr Ma Mp Mf Mt Ml Mo Mn Mm MT MP Mv Mx Mz) := by
  intro fu
  induction fu with
  | zero =>
    intro x1 x2 x4 x6 x8 x9 Ms Mb Mq MB My ML Mg MF MW MI MA Mr Ma Mp Mf Mt Ml Mo Mn Mm MT MP Mv Mx Mz res h hex
    rw [f_X7_clearTable_L166] at h
    cases h
  | succ fu ih =>
    intro x1 x2 x4 x6 x8 x9 Ms Mb Mq MB My ML Mg MF MW MI MA Mr Ma Mp Mf Mt Ml Mo Mn Mm MT MP Mv Mx Mz res h hex
    rw [f_X7_clearTable_L166] at h
    refine G_r C [(.iload 9, 2, 0, 0, .null), (.iload_n 1, 1, 0, 0, .null)] 169 [(0, .ref 0), (1, .int x1), (2, .long x2), (4, .long x4), (6, .int x6), (8, .int x8), (9, .int x9)] [.int x1, .int x9] (wMo cy Ms Mb Mq MB My ML Mg MF MW MI MA Mr Ma Mp Mf Mt Ml Mo Mn Mm MT MP Mv Mx Mz) (by decide +kernel) rfl rfl ?_
    refine G_icmp_ge C (off := 74) (tgt := 243) (by decide +kernel) rfl (fun c => ?_) (fun c => ?_)
    · rw [if_pos c] at h
      have h := Option.some.inj h
      subst h
      refine G_lv [0, 1, 2, 3, 4, 5] (lv' := [(0, .ref 0), (1, .int x1), (2, .long x2), (4, .long x4), (6, .int x6), (8, .int x8)]) rfl ?_
      exact hex
    · rw [if_neg c] at h
      refine G_r C [(.aload_n 0, 1, 0, 0, .null), (.getfield 38, 3, 7, 12, .null), (.iconst 4, 1, 0, 0, .int (4 : Int32)), (.iload 8, 2, 0, 0, .null), (.imul, 1, 0, 0, .null), (.iload 9, 2, 0, 0, .null), (.iadd, 1, 0, 0, .null), (.aload_n 0, 1, 0, 0, .null), (.getfield 38, 3, 7, 12, .null), (.iconst 4, 1, 0, 0, .int (4 : Int32)), (.iload 8, 2, 0, 0, .null), (.imul, 1, 0, 0, .null), (.iload 9, 2, 0, 0, .null), (.iadd, 1, 0, 0, .null)] 194 [(0, .ref 0), (1, .int x1), (2, .long x2), (4, .long x4), (6, .int x6), (8, .int x8), (9, .int x9)] [.int (((4 : Int32) * x8) + x9), .ref 10, .int (((4 : Int32) * x8) + x9), .ref 10] (wMo cy Ms Mb Mq MB My ML Mg MF MW MI MA Mr Ma Mp Mf Mt Ml Mo Mn Mm MT MP Mv Mx Mz) (by decide +kernel) rfl rfl ?_
      obtain ⟨cg, h⟩ := oob h
      refine G_lald C (a := 10) rfl cg (by decide +kernel) ?_
      refine G_r C [(.aload_n 0, 1, 0, 0, .null), (.getfield 38, 3, 7, 12, .null), (.iconst 4, 1, 0, 0, .int (4 : Int32)), (.iload 6, 2, 0, 0, .null), (.imul, 1, 0, 0, .null), (.iload 6, 2, 0, 0, .null), (.iadd, 1, 0, 0, .null)] 206 [(0, .ref 0), (1, .int x1), (2, .long x2), (4, .long x4), (6, .int x6), (8, .int x8), (9, .int x9)] [.int (((4 : Int32) * x6) + x6), .ref 10, .long (MT (((4 : Int32) * x8) + x9).toNatClampNeg), .int (((4 : Int32) * x8) + x9), .ref 10] (wMo cy Ms Mb Mq MB My ML Mg MF MW MI MA Mr Ma Mp Mf Mt Ml Mo Mn Mm MT MP Mv Mx Mz) (by decide +kernel) rfl rfl ?_
      obtain ⟨cg, h⟩ := oob h
      refine G_lald C (a := 10) rfl cg (by decide +kernel) ?_
      refine G_r C [(.lmul, 1, 0, 0, .null), (.aload_n 0, 1, 0, 0, .null), (.getfield 38, 3, 7, 12, .null), (.iconst 4, 1, 0, 0, .int (4 : Int32)), (.iload 8, 2, 0, 0, .null), (.imul, 1, 0, 0, .null), (.iload 6, 2, 0, 0, .null), (.iadd, 1, 0, 0, .null)] 219 [(0, .ref 0), (1, .int x1), (2, .long x2), (4, .long x4), (6, .int x6), (8, .int x8), (9, .int x9)] [.int (((4 : Int32) * x8) + x6), .ref 10, .long ((MT (((4 : Int32) * x8) + x9).toNatClampNeg) * (MT (((4 : Int32) * x6) + x6).toNatClampNeg)), .int (((4 : Int32) * x8) + x9), .ref 10] (wMo cy Ms Mb Mq MB My ML Mg MF MW MI MA Mr Ma Mp Mf Mt Ml Mo Mn Mm MT MP Mv Mx Mz) (by decide +kernel) rfl rfl ?_
      obtain ⟨cg, h⟩ := oob h
      refine G_lald C (a := 10) rfl cg (by decide +kernel) ?_
      refine G_r C [(.aload_n 0, 1, 0, 0, .null), (.getfield 38, 3, 7, 12, .null), (.iconst 4, 1, 0, 0, .int (4 : Int32)), (.iload 6, 2, 0, 0, .null), (.imul, 1, 0, 0, .null), (.iload 9, 2, 0, 0, .null), (.iadd, 1, 0, 0, .null)] 231 [(0, .ref 0), (1, .int x1), (2, .long x2), (4, .long x4), (6, .int x6), (8, .int x8), (9, .int x9)] [.int (((4 : Int32) * x6) + x9), .ref 10, .long (MT (((4 : Int32) * x8) + x6).toNatClampNeg), .long ((MT (((4 : Int32) * x8) + x9).toNatClampNeg) * (MT (((4 : Int32) * x6) + x6).toNatClampNeg)), .int (((4 : Int32) * x8) + x9), .ref 10] (wMo cy Ms Mb Mq MB My ML Mg MF MW MI MA Mr Ma Mp Mf Mt Ml Mo Mn Mm MT MP Mv Mx Mz) (by decide +kernel) rfl rfl ?_
      obtain ⟨cg, h⟩ := oob h
      refine G_lald C (a := 10) rfl cg (by decide +kernel) ?_
      refine G_r C [(.lmul, 1, 0, 0, .null), (.lsub, 1, 0, 0, .null), (.lload_n 2, 1, 0, 0, .null)] 235 [(0, .ref 0), (1, .int x1), (2, .long x2), (4, .long x4), (6, .int x6), (8, .int x8), (9, .int x9)] [.long x2, .long (((MT (((4 : Int32) * x8) + x9).toNatClampNeg) * (MT (((4 : Int32) * x6) + x6).toNatClampNeg)) - ((MT (((4 : Int32) * x8) + x6).toNatClampNeg) * (MT (((4 : Int32) * x6) + x9).toNatClampNeg))), .int (((4 : Int32) * x8) + x9), .ref 10] (wMo cy Ms Mb Mq MB My ML Mg MF MW MI MA Mr Ma Mp Mf Mt Ml Mo Mn Mm MT MP Mv Mx Mz) (by decide +kernel) rfl rfl ?_
      obtain ⟨cg, h⟩ := oob h
      refine G_ldiv C (by decide +kernel) cg ?_
      obtain ⟨cg, h⟩ := oob h
      refine G_last C (a := 10) (w' := (wMo cy Ms Mb Mq MB My ML Mg MF MW MI MA Mr Ma Mp Mf Mt Ml Mo Mn Mm (vp_updL MT (((4 : Int32) * x8) + x9).toNatClampNeg ((((MT (((4 : Int32) * x8) + x9).toNatClampNeg) * (MT (((4 : Int32) * x6) + x6).toNatClampNeg)) - ((MT (((4 : Int32) * x8) + x6).toNatClampNeg) * (MT (((4 : Int32) * x6) + x9).toNatClampNeg))) / x2)) MP Mv Mx Mz)) rfl cg (by decide +kernel) rfl ?_
      refine G_r C [(.iinc 9 1, 3, 0, 0, .int (1 : Int32))] 240 [(9, .int (x9 + (1 : Int32))), (0, .ref 0), (1, .int x1), (2, .long x2), (4, .long x4), (6, .int x6), (8, .int x8)] [] (wMo cy Ms Mb Mq MB My ML Mg MF MW MI MA Mr Ma Mp Mf Mt Ml Mo Mn Mm (vp_updL MT (((4 : Int32) * x8) + x9).toNatClampNeg ((((MT (((4 : Int32) * x8) + x9).toNatClampNeg) * (MT (((4 : Int32) * x6) + x6).toNatClampNeg)) - ((MT (((4 : Int32) * x8) + x6).toNatClampNeg) * (MT (((4 : Int32) * x6) + x9).toNatClampNeg))) / x2)) MP Mv Mx Mz) (by decide +kernel) rfl rfl ?_
      refine G_goto C (off := -74) (tgt := 166) (by decide +kernel) rfl ?_
      refine G_lv [1, 2, 3, 4, 5, 6, 0] (lv' := [(0, .ref 0), (1, .int x1), (2, .long x2), (4, .long x4), (6, .int x6), (8, .int x8), (9, .int (x9 + (1 : Int32)))]) rfl ?_
      exact ih x1 x2 x4 x6 x8 (x9 + (1 : Int32)) Ms Mb Mq MB My ML Mg MF MW MI MA Mr Ma Mp Mf Mt Ml Mo Mn Mm (vp_updL MT (((4 : Int32) * x8) + x9).toNatClampNeg ((((MT (((4 : Int32) * x8) + x9).toNatClampNeg) * (MT (((4 : Int32) * x6) + x6).toNatClampNeg)) - ((MT (((4 : Int32) * x8) + x6).toNatClampNeg) * (MT (((4 : Int32) * x6) + x9).toNatClampNeg))) / x2)) MP Mv Mx Mz res h hex
set_option maxHeartbeats 4000000 in
set_option maxRecDepth 100000 in
theorem g_X7_clearTable_L154 {k : KX} {cy : Nat → ClassId} (C : OK k cX7_clearTable 7 11 cy 0 0) : ∀ (fu : Nat) (x1 : Int32) (x2 : Int64) (x4 : Int64) (x6 : Int32) (x8 : Int32) (Ms : Int32) (Mb : Int32) (Mq : Int32) (MB : Int64) (My : Int32) (ML : Int32) (Mg : Int32) (MF : Int32) (MW : Bool) (MI : Bool) (MA : Int32) (Mr : Nat → Int32) (Ma : Nat → Int32) (Mp : Nat → Int32) (Mf : Nat → Int32) (Mt : Nat → Int32) (Ml : Nat → Int32) (Mo : Nat → Int32) (Mn : Nat → Int32) (Mm : Nat → Int64) (MT : Nat → Int64) (MP : Nat → Int64) (Mv : Nat → Int32) (Mx : Nat → Int64) (Mz : Nat → Int64) (res : (Nat → Int64)), (f_X7_clearTable_L154 fu x1 x2 x6 x8 MT = some res) → G k 11 249 [(0, .ref 0), (1, .int x1), (4, .long x4), (6, .int x6)] [] (wMo cy Ms Mb Mq MB My ML Mg MF MW MI MA Mr Ma Mp Mf Mt Ml Mo Mn Mm res MP Mv Mx Mz) → G k 11 154 [(0, .ref 0), (1, .int x1), (2, .long x2), (4, .long x4), (6, .int x6), (8, .int x8)] [] (wMo cy Ms Mb Mq MB My ML Mg MF MW MI MA Mr Ma Mp Mf Mt Ml Mo Mn Mm MT MP Mv Mx Mz) := by
  intro fu
  induction fu with
  | zero =>
    intro x1 x2 x4 x6 x8 Ms Mb Mq MB My ML Mg MF MW MI MA Mr Ma Mp Mf Mt Ml Mo Mn Mm MT MP Mv Mx Mz res h hex
    rw [f_X7_clearTable_L154] at h
    cases h
  | succ fu ih =>
    intro x1 x2 x4 x6 x8 Ms Mb Mq MB My ML Mg MF MW MI MA Mr Ma Mp Mf Mt Ml Mo Mn Mm MT MP Mv Mx Mz res h hex
    rw [f_X7_clearTable_L154] at h
    refine G_r C [(.iload 8, 2, 0, 0, .null), (.iload_n 1, 1, 0, 0, .null)] 157 [(0, .ref 0), (1, .int x1), (2, .long x2), (4, .long x4), (6, .int x6), (8, .int x8)] [.int x1, .int x8] (wMo cy Ms Mb Mq MB My ML Mg MF MW MI MA Mr Ma Mp Mf Mt Ml Mo Mn Mm MT MP Mv Mx Mz) (by decide +kernel) rfl rfl ?_
    refine G_icmp_ge C (off := 92) (tgt := 249) (by decide +kernel) rfl (fun c => ?_) (fun c => ?_)
    · rw [if_pos c] at h
      have h := Option.some.inj h
      subst h
      refine G_lv [0, 1, 3, 4] (lv' := [(0, .ref 0), (1, .int x1), (4, .long x4), (6, .int x6)]) rfl ?_
      exact hex
    · rw [if_neg c] at h
      refine G_r C [(.iload 6, 2, 0, 0, .null), (.iconst 1, 1, 0, 0, .int (1 : Int32)), (.iadd, 1, 0, 0, .null), (.istore 9, 2, 0, 0, .null)] 166 [(9, .int (x6 + (1 : Int32))), (0, .ref 0), (1, .int x1), (2, .long x2), (4, .long x4), (6, .int x6), (8, .int x8)] [] (wMo cy Ms Mb Mq MB My ML Mg MF MW MI MA Mr Ma Mp Mf Mt Ml Mo Mn Mm MT MP Mv Mx Mz) (by decide +kernel) rfl rfl ?_
      obtain ⟨q3, hq3, h⟩ := obd h
      refine G_lv [1, 2, 3, 4, 5, 6, 0] (lv' := [(0, .ref 0), (1, .int x1), (2, .long x2), (4, .long x4), (6, .int x6), (8, .int x8), (9, .int (x6 + (1 : Int32)))]) rfl ?_
      refine g_X7_clearTable_L166 C 200 x1 x2 x4 x6 x8 (x6 + (1 : Int32)) Ms Mb Mq MB My ML Mg MF MW MI MA Mr Ma Mp Mf Mt Ml Mo Mn Mm MT MP Mv Mx Mz q3 hq3 ?_
      refine G_r C [(.iinc 8 1, 3, 0, 0, .int (1 : Int32))] 246 [(8, .int (x8 + (1 : Int32))), (0, .ref 0), (1, .int x1), (2, .long x2), (4, .long x4), (6, .int x6)] [] (wMo cy Ms Mb Mq MB My ML Mg MF MW MI MA Mr Ma Mp Mf Mt Ml Mo Mn Mm q3 MP Mv Mx Mz) (by decide +kernel) rfl rfl ?_
      refine G_goto C (off := -92) (tgt := 154) (by decide +kernel) rfl ?_
      refine G_lv [1, 2, 3, 4, 5, 0] (lv' := [(0, .ref 0), (1, .int x1), (2, .long x2), (4, .long x4), (6, .int x6), (8, .int (x8 + (1 : Int32)))]) rfl ?_
      exact ih x1 x2 x4 x6 (x8 + (1 : Int32)) Ms Mb Mq MB My ML Mg MF MW MI MA Mr Ma Mp Mf Mt Ml Mo Mn Mm q3 MP Mv Mx Mz res h hex
set_option maxHeartbeats 4000000 in
set_option maxRecDepth 100000 in
theorem g_X7_clearTable_L8 {k : KX} {cy : Nat → ClassId} (C : OK k cX7_clearTable 7 11 cy 0 0) : ∀ (fu : Nat) (x1 : Int32) (x2 : Int64) (x4 : Int64) (x6 : Int32) (Ms : Int32) (Mb : Int32) (Mq : Int32) (MB : Int64) (My : Int32) (ML : Int32) (Mg : Int32) (MF : Int32) (MW : Bool) (MI : Bool) (MA : Int32) (Mr : Nat → Int32) (Ma : Nat → Int32) (Mp : Nat → Int32) (Mf : Nat → Int32) (Mt : Nat → Int32) (Ml : Nat → Int32) (Mo : Nat → Int32) (Mn : Nat → Int32) (Mm : Nat → Int64) (MT : Nat → Int64) (MP : Nat → Int64) (Mv : Nat → Int32) (Mx : Nat → Int64) (Mz : Nat → Int64) (res : (Int64 × (Nat → Int64))), RT k cy (some .long) (some (.long res.1)) (wMo cy Ms Mb Mq MB My ML Mg MF MW MI MA Mr Ma Mp Mf Mt Ml Mo Mn Mm res.2 MP Mv Mx Mz) → (f_X7_clearTable_L8 fu x1 x2 x4 x6 MT = some res) → G k 11 8 [(0, .ref 0), (1, .int x1), (2, .long x2), (4, .long x4), (6, .int x6)] [] (wMo cy Ms Mb Mq MB My ML Mg MF MW MI MA Mr Ma Mp Mf Mt Ml Mo Mn Mm MT MP Mv Mx Mz) := by
  intro fu
  induction fu with
  | zero =>
    intro x1 x2 x4 x6 Ms Mb Mq MB My ML Mg MF MW MI MA Mr Ma Mp Mf Mt Ml Mo Mn Mm MT MP Mv Mx Mz res hR h
    rw [f_X7_clearTable_L8] at h
    cases h
  | succ fu ih =>
    intro x1 x2 x4 x6 Ms Mb Mq MB My ML Mg MF MW MI MA Mr Ma Mp Mf Mt Ml Mo Mn Mm MT MP Mv Mx Mz res hR h
    rw [f_X7_clearTable_L8] at h
    refine G_r C [(.iload 6, 2, 0, 0, .null), (.iconst 1, 1, 0, 0, .int (1 : Int32)), (.iadd, 1, 0, 0, .null), (.iload_n 1, 1, 0, 0, .null)] 13 [(0, .ref 0), (1, .int x1), (2, .long x2), (4, .long x4), (6, .int x6)] [.int x1, .int (x6 + (1 : Int32))] (wMo cy Ms Mb Mq MB My ML Mg MF MW MI MA Mr Ma Mp Mf Mt Ml Mo Mn Mm MT MP Mv Mx Mz) (by decide +kernel) rfl rfl ?_
    refine G_icmp_ge C (off := 252) (tgt := 265) (by decide +kernel) rfl (fun c => ?_) (fun c => ?_)
    · rw [if_pos c] at h
      refine G_r C [(.iload_n 1, 1, 0, 0, .null)] 266 [(0, .ref 0), (1, .int x1), (2, .long x2), (4, .long x4), (6, .int x6)] [.int x1] (wMo cy Ms Mb Mq MB My ML Mg MF MW MI MA Mr Ma Mp Mf Mt Ml Mo Mn Mm MT MP Mv Mx Mz) (by decide +kernel) rfl rfl ?_
      refine G_if_ne C (off := 7) (tgt := 273) (by decide +kernel) rfl (fun c => ?_) (fun c => ?_)
      · rw [if_neg c] at h
        refine G_r C [(.lload 4, 2, 0, 0, .null), (.aload_n 0, 1, 0, 0, .null), (.getfield 38, 3, 7, 12, .null), (.iconst 5, 1, 0, 0, .int (5 : Int32)), (.iload_n 1, 1, 0, 0, .null), (.imul, 1, 0, 0, .null), (.iconst 5, 1, 0, 0, .int (5 : Int32)), (.isub, 1, 0, 0, .null)] 284 [(0, .ref 0), (1, .int x1), (2, .long x2), (4, .long x4), (6, .int x6)] [.int (((5 : Int32) * x1) - (5 : Int32)), .ref 10, .long x4] (wMo cy Ms Mb Mq MB My ML Mg MF MW MI MA Mr Ma Mp Mf Mt Ml Mo Mn Mm MT MP Mv Mx Mz) (by decide +kernel) rfl rfl ?_
        obtain ⟨cg, h⟩ := oob h
        refine G_lald C (a := 10) rfl cg (by decide +kernel) ?_
        refine G_r C [(.lmul, 1, 0, 0, .null)] 286 [(0, .ref 0), (1, .int x1), (2, .long x2), (4, .long x4), (6, .int x6)] [.long (x4 * (MT (((5 : Int32) * x1) - (5 : Int32)).toNatClampNeg))] (wMo cy Ms Mb Mq MB My ML Mg MF MW MI MA Mr Ma Mp Mf Mt Ml Mo Mn Mm MT MP Mv Mx Mz) (by decide +kernel) rfl rfl ?_
        have h := Option.some.inj h
        subst h
        exact G_lret C hR (by decide +kernel)
      · rw [if_pos c] at h
        refine G_r C [(.lconst 1, 1, 0, 0, .long (1 : Int64))] 270 [(0, .ref 0), (1, .int x1), (2, .long x2), (4, .long x4), (6, .int x6)] [.long (1 : Int64)] (wMo cy Ms Mb Mq MB My ML Mg MF MW MI MA Mr Ma Mp Mf Mt Ml Mo Mn Mm MT MP Mv Mx Mz) (by decide +kernel) rfl rfl ?_
        refine G_goto C (off := 16) (tgt := 286) (by decide +kernel) rfl ?_
        have h := Option.some.inj h
        subst h
        exact G_lret C hR (by decide +kernel)
    · rw [if_neg c] at h
      refine G_r C [(.iload 6, 2, 0, 0, .null), (.istore 7, 2, 0, 0, .null)] 20 [(7, .int x6), (0, .ref 0), (1, .int x1), (2, .long x2), (4, .long x4), (6, .int x6)] [] (wMo cy Ms Mb Mq MB My ML Mg MF MW MI MA Mr Ma Mp Mf Mt Ml Mo Mn Mm MT MP Mv Mx Mz) (by decide +kernel) rfl rfl ?_
      obtain ⟨q1, hq1, h⟩ := obd h
      refine G_lv [1, 2, 3, 4, 5, 0] (lv' := [(0, .ref 0), (1, .int x1), (2, .long x2), (4, .long x4), (6, .int x6), (7, .int x6)]) rfl ?_
      refine g_X7_clearTable_L20 C 200 x1 x2 x4 x6 x6 Ms Mb Mq MB My ML Mg MF MW MI MA Mr Ma Mp Mf Mt Ml Mo Mn Mm MT MP Mv Mx Mz q1 hq1 ?_
      refine G_r C [(.iload 7, 2, 0, 0, .null), (.iload_n 1, 1, 0, 0, .null)] 52 [(0, .ref 0), (1, .int x1), (2, .long x2), (4, .long x4), (6, .int x6), (7, .int q1)] [.int x1, .int q1] (wMo cy Ms Mb Mq MB My ML Mg MF MW MI MA Mr Ma Mp Mf Mt Ml Mo Mn Mm MT MP Mv Mx Mz) (by decide +kernel) rfl rfl ?_
      refine G_icmp_ne C (off := 5) (tgt := 57) (by decide +kernel) rfl (fun c => ?_) (fun c => ?_)
      · rw [if_neg c] at h
        refine G_r C [(.iconst 0, 1, 0, 0, .int (0 : Int32)), (.istore 8, 2, 0, 0, .null)] 60 [(8, .int (0 : Int32)), (0, .ref 0), (1, .int x1), (2, .long x2), (4, .long x4), (6, .int x6), (7, .int q1)] [] (wMo cy Ms Mb Mq MB My ML Mg MF MW MI MA Mr Ma Mp Mf Mt Ml Mo Mn Mm MT MP Mv Mx Mz) (by decide +kernel) rfl rfl ?_
        obtain ⟨q2, hq2, h⟩ := obd h
        refine G_lv [1, 2, 3, 4, 5, 6, 0] (lv' := [(0, .ref 0), (1, .int x1), (2, .long x2), (4, .long x4), (6, .int x6), (7, .int q1), (8, .int (0 : Int32))]) rfl ?_
        refine g_X7_clearTable_L60 C 200 x1 x2 x4 x6 q1 (0 : Int32) Ms Mb Mq MB My ML Mg MF MW MI MA Mr Ma Mp Mf Mt Ml Mo Mn Mm MT MP Mv Mx Mz q2 hq2 ?_
        refine G_r C [(.iload 7, 2, 0, 0, .null), (.iload 6, 2, 0, 0, .null)] 135 [(0, .ref 0), (1, .int x1), (2, .long x2), (4, .long x4), (6, .int x6), (7, .int q1)] [.int x6, .int q1] (wMo cy Ms Mb Mq MB My ML Mg MF MW MI MA Mr Ma Mp Mf Mt Ml Mo Mn Mm q2 MP Mv Mx Mz) (by decide +kernel) rfl rfl ?_
        refine G_icmp_ne C (off := 8) (tgt := 143) (by decide +kernel) rfl (fun c => ?_) (fun c => ?_)
        · rw [if_neg c] at h
          refine G_r C [(.lload 4, 2, 0, 0, .null), (.lneg, 1, 0, 0, .null), (.lstore 4, 2, 0, 0, .null), (.iload 6, 2, 0, 0, .null), (.iconst 1, 1, 0, 0, .int (1 : Int32)), (.iadd, 1, 0, 0, .null), (.istore 8, 2, 0, 0, .null)] 154 [(8, .int (x6 + (1 : Int32))), (4, .long (-x4)), (0, .ref 0), (1, .int x1), (2, .long x2), (6, .int x6), (7, .int q1)] [] (wMo cy Ms Mb Mq MB My ML Mg MF MW MI MA Mr Ma Mp Mf Mt Ml Mo Mn Mm q2 MP Mv Mx Mz) (by decide +kernel) rfl rfl ?_
          obtain ⟨q4, hq4, h⟩ := obd h
          refine G_lv [2, 3, 4, 1, 5, 0] (lv' := [(0, .ref 0), (1, .int x1), (2, .long x2), (4, .long (-x4)), (6, .int x6), (8, .int (x6 + (1 : Int32)))]) rfl ?_
          refine g_X7_clearTable_L154 C 200 x1 x2 (-x4) x6 (x6 + (1 : Int32)) Ms Mb Mq MB My ML Mg MF MW MI MA Mr Ma Mp Mf Mt Ml Mo Mn Mm q2 MP Mv Mx Mz q4 hq4 ?_
          refine G_r C [(.aload_n 0, 1, 0, 0, .null), (.getfield 38, 3, 7, 12, .null), (.iconst 5, 1, 0, 0, .int (5 : Int32)), (.iload 6, 2, 0, 0, .null), (.imul, 1, 0, 0, .null)] 257 [(0, .ref 0), (1, .int x1), (4, .long (-x4)), (6, .int x6)] [.int ((5 : Int32) * x6), .ref 10] (wMo cy Ms Mb Mq MB My ML Mg MF MW MI MA Mr Ma Mp Mf Mt Ml Mo Mn Mm q4 MP Mv Mx Mz) (by decide +kernel) rfl rfl ?_
          obtain ⟨cg, h⟩ := oob h
          refine G_lald C (a := 10) rfl cg (by decide +kernel) ?_
          refine G_r C [(.lstore_n 2, 1, 0, 0, .null), (.iinc 6 1, 3, 0, 0, .int (1 : Int32))] 262 [(6, .int (x6 + (1 : Int32))), (2, .long (q4 ((5 : Int32) * x6).toNatClampNeg)), (0, .ref 0), (1, .int x1), (4, .long (-x4))] [] (wMo cy Ms Mb Mq MB My ML Mg MF MW MI MA Mr Ma Mp Mf Mt Ml Mo Mn Mm q4 MP Mv Mx Mz) (by decide +kernel) rfl rfl ?_
          refine G_goto C (off := -254) (tgt := 8) (by decide +kernel) rfl ?_
          refine G_lv [2, 3, 1, 4, 0] (lv' := [(0, .ref 0), (1, .int x1), (2, .long (q4 ((5 : Int32) * x6).toNatClampNeg)), (4, .long (-x4)), (6, .int (x6 + (1 : Int32)))]) rfl ?_
          exact ih x1 (q4 ((5 : Int32) * x6).toNatClampNeg) (-x4) (x6 + (1 : Int32)) Ms Mb Mq MB My ML Mg MF MW MI MA Mr Ma Mp Mf Mt Ml Mo Mn Mm q4 MP Mv Mx Mz res hR h
        · rw [if_pos c] at h
          refine G_r C [(.lload 4, 2, 0, 0, .null)] 140 [(0, .ref 0), (1, .int x1), (2, .long x2), (4, .long x4), (6, .int x6), (7, .int q1)] [.long x4] (wMo cy Ms Mb Mq MB My ML Mg MF MW MI MA Mr Ma Mp Mf Mt Ml Mo Mn Mm q2 MP Mv Mx Mz) (by decide +kernel) rfl rfl ?_
          refine G_goto C (off := 6) (tgt := 146) (by decide +kernel) rfl ?_
          refine G_r C [(.lstore 4, 2, 0, 0, .null), (.iload 6, 2, 0, 0, .null), (.iconst 1, 1, 0, 0, .int (1 : Int32)), (.iadd, 1, 0, 0, .null), (.istore 8, 2, 0, 0, .null)] 154 [(8, .int (x6 + (1 : Int32))), (4, .long x4), (0, .ref 0), (1, .int x1), (2, .long x2), (6, .int x6), (7, .int q1)] [] (wMo cy Ms Mb Mq MB My ML Mg MF MW MI MA Mr Ma Mp Mf Mt Ml Mo Mn Mm q2 MP Mv Mx Mz) (by decide +kernel) rfl rfl ?_
          obtain ⟨q5, hq5, h⟩ := obd h
          refine G_lv [2, 3, 4, 1, 5, 0] (lv' := [(0, .ref 0), (1, .int x1), (2, .long x2), (4, .long x4), (6, .int x6), (8, .int (x6 + (1 : Int32)))]) rfl ?_
          refine g_X7_clearTable_L154 C 200 x1 x2 x4 x6 (x6 + (1 : Int32)) Ms Mb Mq MB My ML Mg MF MW MI MA Mr Ma Mp Mf Mt Ml Mo Mn Mm q2 MP Mv Mx Mz q5 hq5 ?_
          refine G_r C [(.aload_n 0, 1, 0, 0, .null), (.getfield 38, 3, 7, 12, .null), (.iconst 5, 1, 0, 0, .int (5 : Int32)), (.iload 6, 2, 0, 0, .null), (.imul, 1, 0, 0, .null)] 257 [(0, .ref 0), (1, .int x1), (4, .long x4), (6, .int x6)] [.int ((5 : Int32) * x6), .ref 10] (wMo cy Ms Mb Mq MB My ML Mg MF MW MI MA Mr Ma Mp Mf Mt Ml Mo Mn Mm q5 MP Mv Mx Mz) (by decide +kernel) rfl rfl ?_
          obtain ⟨cg, h⟩ := oob h
          refine G_lald C (a := 10) rfl cg (by decide +kernel) ?_
          refine G_r C [(.lstore_n 2, 1, 0, 0, .null), (.iinc 6 1, 3, 0, 0, .int (1 : Int32))] 262 [(6, .int (x6 + (1 : Int32))), (2, .long (q5 ((5 : Int32) * x6).toNatClampNeg)), (0, .ref 0), (1, .int x1), (4, .long x4)] [] (wMo cy Ms Mb Mq MB My ML Mg MF MW MI MA Mr Ma Mp Mf Mt Ml Mo Mn Mm q5 MP Mv Mx Mz) (by decide +kernel) rfl rfl ?_
          refine G_goto C (off := -254) (tgt := 8) (by decide +kernel) rfl ?_
          refine G_lv [2, 3, 1, 4, 0] (lv' := [(0, .ref 0), (1, .int x1), (2, .long (q5 ((5 : Int32) * x6).toNatClampNeg)), (4, .long x4), (6, .int (x6 + (1 : Int32)))]) rfl ?_
          exact ih x1 (q5 ((5 : Int32) * x6).toNatClampNeg) x4 (x6 + (1 : Int32)) Ms Mb Mq MB My ML Mg MF MW MI MA Mr Ma Mp Mf Mt Ml Mo Mn Mm q5 MP Mv Mx Mz res hR h
      · rw [if_pos c] at h
        refine G_r C [(.lconst 0, 1, 0, 0, .long (0 : Int64))] 56 [(0, .ref 0), (1, .int x1), (2, .long x2), (4, .long x4), (6, .int x6), (7, .int q1)] [.long (0 : Int64)] (wMo cy Ms Mb Mq MB My ML Mg MF MW MI MA Mr Ma Mp Mf Mt Ml Mo Mn Mm MT MP Mv Mx Mz) (by decide +kernel) rfl rfl ?_
        have h := Option.some.inj h
        subst h
        exact G_lret C hR (by decide +kernel)
set_option maxHeartbeats 4000000 in
set_option maxRecDepth 100000 in
theorem c_X7_clearTable (cy : Nat → ClassId) (Ms : Int32) (Mb : Int32) (Mq : Int32) (MB : Int64) (My : Int32) (ML : Int32) (Mg : Int32) (MF : Int32) (MW : Bool) (MI : Bool) (MA : Int32) (Mr : Nat → Int32) (Ma : Nat → Int32) (Mp : Nat → Int32) (Mf : Nat → Int32) (Mt : Nat → Int32) (Ml : Nat → Int32) (Mo : Nat → Int32) (Mn : Nat → Int32) (Mm : Nat → Int64) (MT : Nat → Int64) (MP : Nat → Int64) (Mv : Nat → Int32) (Mx : Nat → Int64) (Mz : Nat → Int64) (x1 : Int32) (res : (Int64 × (Nat → Int64))) (h : f_X7_clearTable x1 MT = some res) : MG cy yX7_clearTable cX7_clearTable 11 (some .long) 0 0 [.ref 0, .int x1] (wMo cy Ms Mb Mq MB My ML Mg MF MW MI MA Mr Ma Mp Mf Mt Ml Mo Mn Mm MT MP Mv Mx Mz) (some (.long res.1)) (wMo cy Ms Mb Mq MB My ML Mg MF MW MI MA Mr Ma Mp Mf Mt Ml Mo Mn Mm res.2 MP Mv Mx Mz) := by
  refine MG_of (o := 7) (lv := [(0, .ref 0), (1, .int x1)]) ⟨by decide +kernel, rfl⟩ (Nat.le_of_ble_eq_true rfl) rfl (fun k C hR => ?_)
  rw [f_X7_clearTable] at h
  refine G_r C [(.lconst 1, 1, 0, 0, .long (1 : Int64)), (.lstore_n 2, 1, 0, 0, .null), (.lconst 1, 1, 0, 0, .long (1 : Int64)), (.lstore 4, 2, 0, 0, .null), (.iconst 0, 1, 0, 0, .int (0 : Int32)), (.istore 6, 2, 0, 0, .null)] 8 [(6, .int (0 : Int32)), (4, .long (1 : Int64)), (2, .long (1 : Int64)), (0, .ref 0), (1, .int x1)] [] (wMo cy Ms Mb Mq MB My ML Mg MF MW MI MA Mr Ma Mp Mf Mt Ml Mo Mn Mm MT MP Mv Mx Mz) (by decide +kernel) rfl rfl ?_
  refine G_lv [3, 4, 2, 1, 0] (lv' := [(0, .ref 0), (1, .int x1), (2, .long (1 : Int64)), (4, .long (1 : Int64)), (6, .int (0 : Int32))]) rfl ?_
  exact g_X7_clearTable_L8 C 200 x1 (1 : Int64) (1 : Int64) (0 : Int32) Ms Mb Mq MB My ML Mg MF MW MI MA Mr Ma Mp Mf Mt Ml Mo Mn Mm MT MP Mv Mx Mz res hR h
def f_X7_detOf_L10 : Nat → Int32 → Int32 → Int32 → Int32 → (Nat → Int32) → (Nat → Int64) → Option (Nat → Int64)
  | 0, _, _, _, _, _, _ => none
  | fu + 1, x1, x2, x3, x4, Mr, MT => if x2 ≤ x4 then (some MT) else (if ((x1 + x3) + x4) < 0 ∨ 8 ≤ ((x1 + x3) + x4).toNatClampNeg then none else if (((4 : Int32) * x3) + x4) < 0 ∨ 16 ≤ (((4 : Int32) * x3) + x4).toNatClampNeg then none else f_X7_detOf_L10 fu x1 x2 x3 (x4 + (1 : Int32)) Mr (vp_updL MT (((4 : Int32) * x3) + x4).toNatClampNeg ((Mr ((x1 + x3) + x4).toNatClampNeg).toInt64)))
def f_X7_detOf_L2 : Nat → Int32 → Int32 → Int32 → (Nat → Int32) → (Nat → Int64) → Option (Nat → Int64)
  | 0, _, _, _, _, _ => none
  | fu + 1, x1, x2, x3, Mr, MT => if x2 ≤ x3 then (some MT) else ((f_X7_detOf_L10 200 x1 x2 x3 (0 : Int32) Mr MT).bind fun q1 => f_X7_detOf_L2 fu x1 x2 (x3 + (1 : Int32)) Mr q1)
def f_X7_detOf (x1 : Int32) (x2 : Int32) (Mr : Nat → Int32) (MT : Nat → Int64) : Option (Int64 × (Nat → Int64)) := (f_X7_detOf_L2 200 x1 x2 (0 : Int32) Mr MT).bind fun q2 => (f_X7_clearTable x2 q2).bind fun q3 => some (q3.1, q3.2)
set_option maxHeartbeats 4000000 in
set_option maxRecDepth 100000 in
theorem g_X7_detOf_L10 {k : KX} {cy : Nat → ClassId} (C : OK k cX7_detOf 7 5 cy 1 30) : ∀ (fu : Nat) (x1 : Int32) (x2 : Int32) (x3 : Int32) (x4 : Int32) (Ms : Int32) (Mb : Int32) (Mq : Int32) (MB : Int64) (My : Int32) (ML : Int32) (Mg : Int32) (MF : Int32) (MW : Bool) (MI : Bool) (MA : Int32) (Mr : Nat → Int32) (Ma : Nat → Int32) (Mp : Nat → Int32) (Mf : Nat → Int32) (Mt : Nat → Int32) (Ml : Nat → Int32) (Mo : Nat → Int32) (Mn : Nat → Int32) (Mm : Nat → Int64) (MT : Nat → Int64) (MP : Nat → Int64) (Mv : Nat → Int32) (Mx : Nat → Int64) (Mz : Nat → Int64) (res : (Nat → Int64)), (f_X7_detOf_L10 fu x1 x2 x3 x4 Mr MT = some res) → G k 5 45 [(0, .ref 0), (1, .int x1), (2, .int x2), (3, .int x3)] [] (wMo cy Ms Mb Mq MB My ML Mg MF MW MI MA Mr Ma Mp Mf Mt Ml Mo Mn Mm res MP Mv Mx Mz) → G k 5 10 [(0, .ref 0), (1, .int x1), (2, .int x2), (3, .int x3), (4, .int x4)] [] (wMo cy Ms Mb Mq MB My ML Mg MF MW MI MA Mr Ma Mp Mf Mt Ml Mo Mn Mm MT MP Mv Mx Mz) := by
  intro fu
  induction fu with
  | zero =>
    intro x1 x2 x3 x4 Ms Mb Mq MB My ML Mg MF MW MI MA Mr Ma Mp Mf Mt Ml Mo Mn Mm MT MP Mv Mx Mz res h hex
    rw [f_X7_detOf_L10] at h
    cases h
  | succ fu ih =>
    intro x1 x2 x3 x4 Ms Mb Mq MB My ML Mg MF MW MI MA Mr Ma Mp Mf Mt Ml Mo Mn Mm MT MP Mv Mx Mz res h hex
    rw [f_X7_detOf_L10] at h
    refine G_r C [(.iload 4, 2, 0, 0, .null), (.iload_n 2, 1, 0, 0, .null)] 13 [(0, .ref 0), (1, .int x1), (2, .int x2), (3, .int x3), (4, .int x4)] [.int x2, .int x4] (wMo cy Ms Mb Mq MB My ML Mg MF MW MI MA Mr Ma Mp Mf Mt Ml Mo Mn Mm MT MP Mv Mx Mz) (by decide +kernel) rfl rfl ?_
    refine G_icmp_ge C (off := 32) (tgt := 45) (by decide +kernel) rfl (fun c => ?_) (fun c => ?_)
    · rw [if_pos c] at h
      have h := Option.some.inj h
      subst h
      refine G_lv [0, 1, 2, 3] (lv' := [(0, .ref 0), (1, .int x1), (2, .int x2), (3, .int x3)]) rfl ?_
      exact hex
    · rw [if_neg c] at h
      refine G_r C [(.aload_n 0, 1, 0, 0, .null), (.getfield 38, 3, 7, 12, .null), (.iconst 4, 1, 0, 0, .int (4 : Int32)), (.iload_n 3, 1, 0, 0, .null), (.imul, 1, 0, 0, .null), (.iload 4, 2, 0, 0, .null), (.iadd, 1, 0, 0, .null), (.aload_n 0, 1, 0, 0, .null), (.getfield 7, 3, 7, 0, .null), (.iload_n 1, 1, 0, 0, .null), (.iload_n 3, 1, 0, 0, .null), (.iadd, 1, 0, 0, .null), (.iload 4, 2, 0, 0, .null), (.iadd, 1, 0, 0, .null)] 36 [(0, .ref 0), (1, .int x1), (2, .int x2), (3, .int x3), (4, .int x4)] [.int ((x1 + x3) + x4), .ref 1, .int (((4 : Int32) * x3) + x4), .ref 10] (wMo cy Ms Mb Mq MB My ML Mg MF MW MI MA Mr Ma Mp Mf Mt Ml Mo Mn Mm MT MP Mv Mx Mz) (by decide +kernel) rfl rfl ?_
      obtain ⟨cg, h⟩ := oob h
      refine G_iald C (a := 1) rfl cg (by decide +kernel) ?_
      refine G_r C [(.i2l, 1, 0, 0, .null)] 38 [(0, .ref 0), (1, .int x1), (2, .int x2), (3, .int x3), (4, .int x4)] [.long ((Mr ((x1 + x3) + x4).toNatClampNeg).toInt64), .int (((4 : Int32) * x3) + x4), .ref 10] (wMo cy Ms Mb Mq MB My ML Mg MF MW MI MA Mr Ma Mp Mf Mt Ml Mo Mn Mm MT MP Mv Mx Mz) (by decide +kernel) rfl rfl ?_
      obtain ⟨cg, h⟩ := oob h
      refine G_last C (a := 10) (w' := (wMo cy Ms Mb Mq MB My ML Mg MF MW MI MA Mr Ma Mp Mf Mt Ml Mo Mn Mm (vp_updL MT (((4 : Int32) * x3) + x4).toNatClampNeg ((Mr ((x1 + x3) + x4).toNatClampNeg).toInt64)) MP Mv Mx Mz)) rfl cg (by decide +kernel) rfl ?_
      refine G_r C [(.iinc 4 1, 3, 0, 0, .int (1 : Int32))] 42 [(4, .int (x4 + (1 : Int32))), (0, .ref 0), (1, .int x1), (2, .int x2), (3, .int x3)] [] (wMo cy Ms Mb Mq MB My ML Mg MF MW MI MA Mr Ma Mp Mf Mt Ml Mo Mn Mm (vp_updL MT (((4 : Int32) * x3) + x4).toNatClampNeg ((Mr ((x1 + x3) + x4).toNatClampNeg).toInt64)) MP Mv Mx Mz) (by decide +kernel) rfl rfl ?_
      refine G_goto C (off := -32) (tgt := 10) (by decide +kernel) rfl ?_
      refine G_lv [1, 2, 3, 4, 0] (lv' := [(0, .ref 0), (1, .int x1), (2, .int x2), (3, .int x3), (4, .int (x4 + (1 : Int32)))]) rfl ?_
      exact ih x1 x2 x3 (x4 + (1 : Int32)) Ms Mb Mq MB My ML Mg MF MW MI MA Mr Ma Mp Mf Mt Ml Mo Mn Mm (vp_updL MT (((4 : Int32) * x3) + x4).toNatClampNeg ((Mr ((x1 + x3) + x4).toNatClampNeg).toInt64)) MP Mv Mx Mz res h hex
set_option maxHeartbeats 4000000 in
set_option maxRecDepth 100000 in
theorem g_X7_detOf_L2 {k : KX} {cy : Nat → ClassId} (C : OK k cX7_detOf 7 5 cy 1 30) : ∀ (fu : Nat) (x1 : Int32) (x2 : Int32) (x3 : Int32) (Ms : Int32) (Mb : Int32) (Mq : Int32) (MB : Int64) (My : Int32) (ML : Int32) (Mg : Int32) (MF : Int32) (MW : Bool) (MI : Bool) (MA : Int32) (Mr : Nat → Int32) (Ma : Nat → Int32) (Mp : Nat → Int32) (Mf : Nat → Int32) (Mt : Nat → Int32) (Ml : Nat → Int32) (Mo : Nat → Int32) (Mn : Nat → Int32) (Mm : Nat → Int64) (MT : Nat → Int64) (MP : Nat → Int64) (Mv : Nat → Int32) (Mx : Nat → Int64) (Mz : Nat → Int64) (res : (Nat → Int64)), (f_X7_detOf_L2 fu x1 x2 x3 Mr MT = some res) → G k 5 51 [(0, .ref 0), (2, .int x2)] [] (wMo cy Ms Mb Mq MB My ML Mg MF MW MI MA Mr Ma Mp Mf Mt Ml Mo Mn Mm res MP Mv Mx Mz) → G k 5 2 [(0, .ref 0), (1, .int x1), (2, .int x2), (3, .int x3)] [] (wMo cy Ms Mb Mq MB My ML Mg MF MW MI MA Mr Ma Mp Mf Mt Ml Mo Mn Mm MT MP Mv Mx Mz) := by
  intro fu
  induction fu with
  | zero =>
    intro x1 x2 x3 Ms Mb Mq MB My ML Mg MF MW MI MA Mr Ma Mp Mf Mt Ml Mo Mn Mm MT MP Mv Mx Mz res h hex
    rw [f_X7_detOf_L2] at h
    cases h
  | succ fu ih =>
    intro x1 x2 x3 Ms Mb Mq MB My ML Mg MF MW MI MA Mr Ma Mp Mf Mt Ml Mo Mn Mm MT MP Mv Mx Mz res h hex
    rw [f_X7_detOf_L2] at h
    refine G_r C [(.iload_n 3, 1, 0, 0, .null), (.iload_n 2, 1, 0, 0, .null)] 4 [(0, .ref 0), (1, .int x1), (2, .int x2), (3, .int x3)] [.int x2, .int x3] (wMo cy Ms Mb Mq MB My ML Mg MF MW MI MA Mr Ma Mp Mf Mt Ml Mo Mn Mm MT MP Mv Mx Mz) (by decide +kernel) rfl rfl ?_
    refine G_icmp_ge C (off := 47) (tgt := 51) (by decide +kernel) rfl (fun c => ?_) (fun c => ?_)
    · rw [if_pos c] at h
      have h := Option.some.inj h
      subst h
      refine G_lv [0, 2] (lv' := [(0, .ref 0), (2, .int x2)]) rfl ?_
      exact hex
    · rw [if_neg c] at h
      refine G_r C [(.iconst 0, 1, 0, 0, .int (0 : Int32)), (.istore 4, 2, 0, 0, .null)] 10 [(4, .int (0 : Int32)), (0, .ref 0), (1, .int x1), (2, .int x2), (3, .int x3)] [] (wMo cy Ms Mb Mq MB My ML Mg MF MW MI MA Mr Ma Mp Mf Mt Ml Mo Mn Mm MT MP Mv Mx Mz) (by decide +kernel) rfl rfl ?_
      obtain ⟨q1, hq1, h⟩ := obd h
      refine G_lv [1, 2, 3, 4, 0] (lv' := [(0, .ref 0), (1, .int x1), (2, .int x2), (3, .int x3), (4, .int (0 : Int32))]) rfl ?_
      refine g_X7_detOf_L10 C 200 x1 x2 x3 (0 : Int32) Ms Mb Mq MB My ML Mg MF MW MI MA Mr Ma Mp Mf Mt Ml Mo Mn Mm MT MP Mv Mx Mz q1 hq1 ?_
      refine G_r C [(.iinc 3 1, 3, 0, 0, .int (1 : Int32))] 48 [(3, .int (x3 + (1 : Int32))), (0, .ref 0), (1, .int x1), (2, .int x2)] [] (wMo cy Ms Mb Mq MB My ML Mg MF MW MI MA Mr Ma Mp Mf Mt Ml Mo Mn Mm q1 MP Mv Mx Mz) (by decide +kernel) rfl rfl ?_
      refine G_goto C (off := -46) (tgt := 2) (by decide +kernel) rfl ?_
      refine G_lv [1, 2, 3, 0] (lv' := [(0, .ref 0), (1, .int x1), (2, .int x2), (3, .int (x3 + (1 : Int32)))]) rfl ?_
      exact ih x1 x2 (x3 + (1 : Int32)) Ms Mb Mq MB My ML Mg MF MW MI MA Mr Ma Mp Mf Mt Ml Mo Mn Mm q1 MP Mv Mx Mz res h hex
set_option maxHeartbeats 4000000 in
set_option maxRecDepth 100000 in
theorem c_X7_detOf (cy : Nat → ClassId) (Ms : Int32) (Mb : Int32) (Mq : Int32) (MB : Int64) (My : Int32) (ML : Int32) (Mg : Int32) (MF : Int32) (MW : Bool) (MI : Bool) (MA : Int32) (Mr : Nat → Int32) (Ma : Nat → Int32) (Mp : Nat → Int32) (Mf : Nat → Int32) (Mt : Nat → Int32) (Ml : Nat → Int32) (Mo : Nat → Int32) (Mn : Nat → Int32) (Mm : Nat → Int64) (MT : Nat → Int64) (MP : Nat → Int64) (Mv : Nat → Int32) (Mx : Nat → Int64) (Mz : Nat → Int64) (x1 : Int32) (x2 : Int32) (res : (Int64 × (Nat → Int64))) (h : f_X7_detOf x1 x2 Mr MT = some res) : MG cy yX7_detOf cX7_detOf 5 (some .long) 1 30 [.ref 0, .int x1, .int x2] (wMo cy Ms Mb Mq MB My ML Mg MF MW MI MA Mr Ma Mp Mf Mt Ml Mo Mn Mm MT MP Mv Mx Mz) (some (.long res.1)) (wMo cy Ms Mb Mq MB My ML Mg MF MW MI MA Mr Ma Mp Mf Mt Ml Mo Mn Mm res.2 MP Mv Mx Mz) := by
  refine MG_of (o := 7) (lv := [(0, .ref 0), (1, .int x1), (2, .int x2)]) ⟨by decide +kernel, rfl⟩ (Nat.le_of_ble_eq_true rfl) rfl (fun k C hR => ?_)
  rw [f_X7_detOf] at h
  refine G_r C [(.iconst 0, 1, 0, 0, .int (0 : Int32)), (.istore_n 3, 1, 0, 0, .null)] 2 [(3, .int (0 : Int32)), (0, .ref 0), (1, .int x1), (2, .int x2)] [] (wMo cy Ms Mb Mq MB My ML Mg MF MW MI MA Mr Ma Mp Mf Mt Ml Mo Mn Mm MT MP Mv Mx Mz) (by decide +kernel) rfl rfl ?_
  obtain ⟨q2, hq2, h⟩ := obd h
  refine G_lv [1, 2, 3, 0] (lv' := [(0, .ref 0), (1, .int x1), (2, .int x2), (3, .int (0 : Int32))]) rfl ?_
  refine g_X7_detOf_L2 C 200 x1 x2 (0 : Int32) Ms Mb Mq MB My ML Mg MF MW MI MA Mr Ma Mp Mf Mt Ml Mo Mn Mm MT MP Mv Mx Mz q2 hq2 ?_
  refine G_r C [(.aload_n 0, 1, 0, 0, .null), (.iload_n 2, 1, 0, 0, .null)] 53 [(0, .ref 0), (2, .int x2)] [.int x2, .ref 0] (wMo cy Ms Mb Mq MB My ML Mg MF MW MI MA Mr Ma Mp Mf Mt Ml Mo Mn Mm q2 MP Mv Mx Mz) (by decide +kernel) rfl rfl ?_
  obtain ⟨q3, hq3, h⟩ := obd h
  refine G_c0 C lk_7_135 ⟨Nat.le_of_ble_eq_true rfl, Nat.le_of_ble_eq_true rfl⟩ (by decide +kernel) [.long q3.1] (c_X7_clearTable cy Ms Mb Mq MB My ML Mg MF MW MI MA Mr Ma Mp Mf Mt Ml Mo Mn Mm q2 MP Mv Mx Mz x2 q3 hq3) rfl rfl (Nat.le_of_ble_eq_true rfl) ⟨rfl, rfl⟩ rfl ?_
  have h := Option.some.inj h
  subst h
  exact G_lret C hR (by decide +kernel)
