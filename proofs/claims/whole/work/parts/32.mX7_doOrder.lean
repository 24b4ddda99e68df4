def f_X7_doOrder (x1 : Int32) (Mr : Nat → Int32) (Ml : Nat → Int32) (Mo : Nat → Int32) (Mn : Nat → Int32) (Mm : Nat → Int64) : Option (Bool × (Nat → Int32) × (Nat → Int64)) := if x1 < 0 ∨ 101 ≤ x1.toNatClampNeg then none else if (x1 + (1 : Int32)) < 0 ∨ 101 ≤ (x1 + (1 : Int32)).toNatClampNeg then none else if ((Mo (x1 + (1 : Int32)).toNatClampNeg) - (Mo x1.toNatClampNeg)) ≤ 0 then (if x1 < 0 ∨ 100 ≤ x1.toNatClampNeg then none else if (Ml x1.toNatClampNeg) = (107 : Int32) then ((f_X7_in ((0 : Int32).toInt64) (-500 : Int64) (500 : Int64)).bind fun q1 => if (bI q1) = 0 then (some (false, Mr, Mm)) else (if (7 : Int32) < 0 ∨ 8 ≤ (7 : Int32).toNatClampNeg then none else if (7 : Int32) ≤ (Mr (7 : Int32).toNatClampNeg) then (some (false, Mr, Mm)) else ((f_X7_put (0 : Int32) Mr).bind fun q2 => some (true, q2, Mm)))) else if (Ml x1.toNatClampNeg) = (109 : Int32) then ((f_X7_becomeRow (Mo x1.toNatClampNeg) ((Mo (x1 + (1 : Int32)).toNatClampNeg) - (Mo x1.toNatClampNeg)) Mr Mn Mm).bind fun q3 => some (q3.1, q3.2.1, q3.2.2)) else if (Ml x1.toNatClampNeg) = (112 : Int32) then ((f_X7_isPlace (0 : Int32)).bind fun q4 => if (bI q4) = 0 then (some (false, Mr, Mm)) else (if ((Mo x1.toNatClampNeg) + (1 : Int32)) < 0 ∨ 100 ≤ ((Mo x1.toNatClampNeg) + (1 : Int32)).toNatClampNeg then none else (f_X7_isWeight (Mn ((Mo x1.toNatClampNeg) + (1 : Int32)).toNatClampNeg)).bind fun q5 => if (bI q5) = 0 then (some (false, Mr, Mm)) else (if ((Mo x1.toNatClampNeg) + (1 : Int32)) < 0 ∨ 100 ≤ ((Mo x1.toNatClampNeg) + (1 : Int32)).toNatClampNeg then none else (f_X7_addPlace (0 : Int32) (Mn ((Mo x1.toNatClampNeg) + (1 : Int32)).toNatClampNeg) Mr Mm).bind fun q6 => if (bI q6.1) = 0 then (some (false, q6.2.1, q6.2.2)) else (some (true, q6.2.1, q6.2.2))))) else if (Ml x1.toNatClampNeg) = (115 : Int32) then ((f_X7_isPlace (0 : Int32)).bind fun q7 => if (bI q7) = 0 then (some (false, Mr, Mm)) else ((f_X7_stretch (0 : Int32) Mr Mm).bind fun q8 => if (bI q8.1) = 0 then (some (false, q8.2.1, q8.2.2)) else (some (true, q8.2.1, q8.2.2)))) else if (Ml x1.toNatClampNeg) = (118 : Int32) then ((f_X7_isPlace (0 : Int32)).bind fun q9 => if (bI q9) = 0 then (some (false, Mr, Mm)) else ((f_X7_move (0 : Int32) Mr Mm).bind fun q10 => if (bI q10.1) = 0 then (some (false, q10.2.1, q10.2.2)) else (some (true, q10.2.1, q10.2.2)))) else if (Ml x1.toNatClampNeg) = (119 : Int32) then ((f_X7_isPlace (0 : Int32)).bind fun q11 => if (bI q11) = 0 then (some (false, Mr, Mm)) else ((f_X7_weigh (0 : Int32) Mr Mm).bind fun q12 => if (bI q12.1) = 0 then (some (false, q12.2.1, q12.2.2)) else (some (true, q12.2.1, q12.2.2)))) else (if (7 : Int32) < 0 ∨ 8 ≤ (7 : Int32).toNatClampNeg then none else if (Mr (7 : Int32).toNatClampNeg) ≤ (1 : Int32) then (some (false, Mr, Mm)) else ((f_X7_cut Mr).bind fun q13 => some (true, q13, Mm)))) else (if (Mo x1.toNatClampNeg) < 0 ∨ 100 ≤ (Mo x1.toNatClampNeg).toNatClampNeg then none else if x1 < 0 ∨ 100 ≤ x1.toNatClampNeg then none else if (Ml x1.toNatClampNeg) = (107 : Int32) then ((f_X7_in ((Mn (Mo x1.toNatClampNeg).toNatClampNeg).toInt64) (-500 : Int64) (500 : Int64)).bind fun q14 => if (bI q14) = 0 then (some (false, Mr, Mm)) else (if (7 : Int32) < 0 ∨ 8 ≤ (7 : Int32).toNatClampNeg then none else if (7 : Int32) ≤ (Mr (7 : Int32).toNatClampNeg) then (some (false, Mr, Mm)) else ((f_X7_put (Mn (Mo x1.toNatClampNeg).toNatClampNeg) Mr).bind fun q15 => some (true, q15, Mm)))) else if (Ml x1.toNatClampNeg) = (109 : Int32) then ((f_X7_becomeRow (Mo x1.toNatClampNeg) ((Mo (x1 + (1 : Int32)).toNatClampNeg) - (Mo x1.toNatClampNeg)) Mr Mn Mm).bind fun q16 => some (q16.1, q16.2.1, q16.2.2)) else if (Ml x1.toNatClampNeg) = (112 : Int32) then ((f_X7_isPlace (Mn (Mo x1.toNatClampNeg).toNatClampNeg)).bind fun q17 => if (bI q17) = 0 then (some (false, Mr, Mm)) else (if ((Mo x1.toNatClampNeg) + (1 : Int32)) < 0 ∨ 100 ≤ ((Mo x1.toNatClampNeg) + (1 : Int32)).toNatClampNeg then none else (f_X7_isWeight (Mn ((Mo x1.toNatClampNeg) + (1 : Int32)).toNatClampNeg)).bind fun q18 => if (bI q18) = 0 then (some (false, Mr, Mm)) else (if ((Mo x1.toNatClampNeg) + (1 : Int32)) < 0 ∨ 100 ≤ ((Mo x1.toNatClampNeg) + (1 : Int32)).toNatClampNeg then none else (f_X7_addPlace (Mn (Mo x1.toNatClampNeg).toNatClampNeg) (Mn ((Mo x1.toNatClampNeg) + (1 : Int32)).toNatClampNeg) Mr Mm).bind fun q19 => if (bI q19.1) = 0 then (some (false, q19.2.1, q19.2.2)) else (some (true, q19.2.1, q19.2.2))))) else if (Ml x1.toNatClampNeg) = (115 : Int32) then ((f_X7_isPlace (Mn (Mo x1.toNatClampNeg).toNatClampNeg)).bind fun q20 => if (bI q20) = 0 then (some (false, Mr, Mm)) else ((f_X7_stretch (Mn (Mo x1.toNatClampNeg).toNatClampNeg) Mr Mm).bind fun q21 => if (bI q21.1) = 0 then (some (false, q21.2.1, q21.2.2)) else (some (true, q21.2.1, q21.2.2)))) else if (Ml x1.toNatClampNeg) = (118 : Int32) then ((f_X7_isPlace (Mn (Mo x1.toNatClampNeg).toNatClampNeg)).bind fun q22 => if (bI q22) = 0 then (some (false, Mr, Mm)) else ((f_X7_move (Mn (Mo x1.toNatClampNeg).toNatClampNeg) Mr Mm).bind fun q23 => if (bI q23.1) = 0 then (some (false, q23.2.1, q23.2.2)) else (some (true, q23.2.1, q23.2.2)))) else if (Ml x1.toNatClampNeg) = (119 : Int32) then ((f_X7_isPlace (Mn (Mo x1.toNatClampNeg).toNatClampNeg)).bind fun q24 => if (bI q24) = 0 then (some (false, Mr, Mm)) else ((f_X7_weigh (Mn (Mo x1.toNatClampNeg).toNatClampNeg) Mr Mm).bind fun q25 => if (bI q25.1) = 0 then (some (false, q25.2.1, q25.2.2)) else (some (true, q25.2.1, q25.2.2)))) else (if (7 : Int32) < 0 ∨ 8 ≤ (7 : Int32).toNatClampNeg then none else if (Mr (7 : Int32).toNatClampNeg) ≤ (1 : Int32) then (some (false, Mr, Mm)) else ((f_X7_cut Mr).bind fun q26 => some (true, q26, Mm))))
theorem sw_X7_doOrder_40 (z : Int) (h107 : ¬ z = 107) (h109 : ¬ z = 109) (h112 : ¬ z = 112) (h115 : ¬ z = 115) (h118 : ¬ z = 118) (h119 : ¬ z = 119) : ((40 : Nat) : Int) + tabOff 237 107 119 #[189, 237, 68, 237, 237, 75, 237, 237, 143, 237, 237, 120, 166] z = ((277 : Nat) : Int) := by
  unfold tabOff
  by_cases c : z < 107 ∨ 119 < z
  · rw [if_pos c]; rfl
  · rcases (by omega : z = 108 ∨ z = 110 ∨ z = 111 ∨ z = 113 ∨ z = 114 ∨ z = 116 ∨ z = 117) with rfl | rfl | rfl | rfl | rfl | rfl | rfl
    · rfl
    · rfl
    · rfl
    · rfl
    · rfl
    · rfl
    · rfl
set_option maxHeartbeats 4000000 in
set_option maxRecDepth 100000 in
theorem c_X7_doOrder (cy : Nat → ClassId) (Ms : Int32) (Mb : Int32) (Mq : Int32) (MB : Int64) (My : Int32) (ML : Int32) (Mg : Int32) (MF : Int32) (MW : Bool) (MI : Bool) (MA : Int32) (Mr : Nat → Int32) (Ma : Nat → Int32) (Mp : Nat → Int32) (Mf : Nat → Int32) (Mt : Nat → Int32) (Ml : Nat → Int32) (Mo : Nat → Int32) (Mn : Nat → Int32) (Mm : Nat → Int64) (MT : Nat → Int64) (MP : Nat → Int64) (Mv : Nat → Int32) (Mx : Nat → Int64) (Mz : Nat → Int64) (x1 : Int32) (res : (Bool × (Nat → Int32) × (Nat → Int64))) (h : f_X7_doOrder x1 Mr Ml Mo Mn Mm = some res) : MG cy yX7_doOrder cX7_doOrder 7 (some .boolean) 3 73 [.ref 0, .int x1] (wMo cy Ms Mb Mq MB My ML Mg MF MW MI MA Mr Ma Mp Mf Mt Ml Mo Mn Mm MT MP Mv Mx Mz) (some (.int (bI res.1))) (wMo cy Ms Mb Mq MB My ML Mg MF MW MI MA res.2.1 Ma Mp Mf Mt Ml Mo Mn res.2.2 MT MP Mv Mx Mz) := by
  refine MG_of (o := 7) (lv := [(0, .ref 0), (1, .int x1)]) ⟨by decide +kernel, rfl⟩ (Nat.le_of_ble_eq_true rfl) rfl (fun k C hR => ?_)
  rw [f_X7_doOrder] at h
  refine G_r C [(.aload_n 0, 1, 0, 0, .null), (.getfield 28, 3, 7, 8, .null), (.iload_n 1, 1, 0, 0, .null)] 5 [(0, .ref 0), (1, .int x1)] [.int x1, .ref 7] (wMo cy Ms Mb Mq MB My ML Mg MF MW MI MA Mr Ma Mp Mf Mt Ml Mo Mn Mm MT MP Mv Mx Mz) (by decide +kernel) rfl rfl ?_
  obtain ⟨cg, h⟩ := oob h
  refine G_iald C (a := 7) rfl cg (by decide +kernel) ?_
  refine G_r C [(.istore_n 2, 1, 0, 0, .null), (.aload_n 0, 1, 0, 0, .null), (.getfield 28, 3, 7, 8, .null), (.iload_n 1, 1, 0, 0, .null), (.iconst 1, 1, 0, 0, .int (1 : Int32)), (.iadd, 1, 0, 0, .null)] 14 [(2, .int (Mo x1.toNatClampNeg)), (0, .ref 0), (1, .int x1)] [.int (x1 + (1 : Int32)), .ref 7] (wMo cy Ms Mb Mq MB My ML Mg MF MW MI MA Mr Ma Mp Mf Mt Ml Mo Mn Mm MT MP Mv Mx Mz) (by decide +kernel) rfl rfl ?_
  obtain ⟨cg, h⟩ := oob h
  refine G_iald C (a := 7) rfl cg (by decide +kernel) ?_
  refine G_r C [(.iload_n 2, 1, 0, 0, .null), (.isub, 1, 0, 0, .null), (.istore_n 3, 1, 0, 0, .null), (.iload_n 3, 1, 0, 0, .null)] 19 [(3, .int ((Mo (x1 + (1 : Int32)).toNatClampNeg) - (Mo x1.toNatClampNeg))), (2, .int (Mo x1.toNatClampNeg)), (0, .ref 0), (1, .int x1)] [.int ((Mo (x1 + (1 : Int32)).toNatClampNeg) - (Mo x1.toNatClampNeg))] (wMo cy Ms Mb Mq MB My ML Mg MF MW MI MA Mr Ma Mp Mf Mt Ml Mo Mn Mm MT MP Mv Mx Mz) (by decide +kernel) rfl rfl ?_
  refine G_if_le C (off := 12) (tgt := 31) (by decide +kernel) rfl (fun c => ?_) (fun c => ?_)
  · rw [if_pos c] at h
    refine G_r C [(.iconst 0, 1, 0, 0, .int (0 : Int32)), (.istore 4, 2, 0, 0, .null), (.aload_n 0, 1, 0, 0, .null), (.getfield 25, 3, 7, 7, .null), (.iload_n 1, 1, 0, 0, .null)] 39 [(4, .int (0 : Int32)), (3, .int ((Mo (x1 + (1 : Int32)).toNatClampNeg) - (Mo x1.toNatClampNeg))), (2, .int (Mo x1.toNatClampNeg)), (0, .ref 0), (1, .int x1)] [.int x1, .ref 6] (wMo cy Ms Mb Mq MB My ML Mg MF MW MI MA Mr Ma Mp Mf Mt Ml Mo Mn Mm MT MP Mv Mx Mz) (by decide +kernel) rfl rfl ?_
    obtain ⟨cg, h⟩ := oob h
    refine G_iald C (a := 6) rfl cg (by decide +kernel) ?_
    by_cases c107 : (Ml x1.toNatClampNeg) = (107 : Int32)
    · rw [if_pos c107] at h
      refine G_tab C (dflt := 237) (lo1 := 107) (hi := 119) (offs := #[189, 237, 68, 237, 237, 75, 237, 237, 143, 237, 237, 120, 166]) (len := 68) (tgt := 229) (by decide +kernel) rfl (by rw [c107]; rfl) ?_
      refine G_r C [(.iload 4, 2, 0, 0, .null), (.i2l, 1, 0, 0, .null)] 232 [(4, .int (0 : Int32)), (3, .int ((Mo (x1 + (1 : Int32)).toNatClampNeg) - (Mo x1.toNatClampNeg))), (2, .int (Mo x1.toNatClampNeg)), (0, .ref 0), (1, .int x1)] [.long ((0 : Int32).toInt64)] (wMo cy Ms Mb Mq MB My ML Mg MF MW MI MA Mr Ma Mp Mf Mt Ml Mo Mn Mm MT MP Mv Mx Mz) (by decide +kernel) rfl rfl ?_
      refine G_ldc2 C co_7_68 (by decide +kernel) ?_
      refine G_ldc2 C co_7_70 (by decide +kernel) ?_
      obtain ⟨q1, hq1, h⟩ := obd h
      refine G_cS C lk_7_64 ⟨Nat.le_of_ble_eq_true rfl, Nat.le_of_ble_eq_true rfl⟩ (by decide +kernel) [.int (bI q1)] (c_X7_in cy ((0 : Int32).toInt64) (-500 : Int64) (500 : Int64) q1 hq1) rfl rfl (Nat.le_of_ble_eq_true rfl) rfl ?_
      refine G_if_eq C (off := 19) (tgt := 260) (by decide +kernel) rfl (fun c => ?_) (fun c => ?_)
      · rw [if_pos c] at h
        refine G_r C [(.iconst 0, 1, 0, 0, .int (0 : Int32)), (.istore 5, 2, 0, 0, .null), (.iload 5, 2, 0, 0, .null)] 265 [(5, .int (0 : Int32)), (4, .int (0 : Int32)), (3, .int ((Mo (x1 + (1 : Int32)).toNatClampNeg) - (Mo x1.toNatClampNeg))), (2, .int (Mo x1.toNatClampNeg)), (0, .ref 0), (1, .int x1)] [.int (0 : Int32)] (wMo cy Ms Mb Mq MB My ML Mg MF MW MI MA Mr Ma Mp Mf Mt Ml Mo Mn Mm MT MP Mv Mx Mz) (by decide +kernel) rfl rfl ?_
        refine G_if_eq C (off := 9) (tgt := 274) (by decide +kernel) rfl (fun _ => ?_) (fun c => absurd (by decide) c)
        refine G_r C [(.iload 5, 2, 0, 0, .null)] 276 [(5, .int (0 : Int32)), (4, .int (0 : Int32)), (3, .int ((Mo (x1 + (1 : Int32)).toNatClampNeg) - (Mo x1.toNatClampNeg))), (2, .int (Mo x1.toNatClampNeg)), (0, .ref 0), (1, .int x1)] [.int (0 : Int32)] (wMo cy Ms Mb Mq MB My ML Mg MF MW MI MA Mr Ma Mp Mf Mt Ml Mo Mn Mm MT MP Mv Mx Mz) (by decide +kernel) rfl rfl ?_
        have h := Option.some.inj h
        subst h
        exact G_zret C (v := false) hR (by decide +kernel)
      · rw [if_neg c] at h
        refine G_r C [(.aload_n 0, 1, 0, 0, .null), (.getfield 7, 3, 7, 0, .null), (.bipush 7, 2, 0, 0, .int (7 : Int32))] 250 [(4, .int (0 : Int32)), (3, .int ((Mo (x1 + (1 : Int32)).toNatClampNeg) - (Mo x1.toNatClampNeg))), (2, .int (Mo x1.toNatClampNeg)), (0, .ref 0), (1, .int x1)] [.int (7 : Int32), .ref 1] (wMo cy Ms Mb Mq MB My ML Mg MF MW MI MA Mr Ma Mp Mf Mt Ml Mo Mn Mm MT MP Mv Mx Mz) (by decide +kernel) rfl rfl ?_
        obtain ⟨cg, h⟩ := oob h
        refine G_iald C (a := 1) rfl cg (by decide +kernel) ?_
        refine G_r C [(.bipush 7, 2, 0, 0, .int (7 : Int32))] 253 [(4, .int (0 : Int32)), (3, .int ((Mo (x1 + (1 : Int32)).toNatClampNeg) - (Mo x1.toNatClampNeg))), (2, .int (Mo x1.toNatClampNeg)), (0, .ref 0), (1, .int x1)] [.int (7 : Int32), .int (Mr (7 : Int32).toNatClampNeg)] (wMo cy Ms Mb Mq MB My ML Mg MF MW MI MA Mr Ma Mp Mf Mt Ml Mo Mn Mm MT MP Mv Mx Mz) (by decide +kernel) rfl rfl ?_
        refine G_icmp_ge C (off := 7) (tgt := 260) (by decide +kernel) rfl (fun c => ?_) (fun c => ?_)
        · rw [if_pos c] at h
          refine G_r C [(.iconst 0, 1, 0, 0, .int (0 : Int32)), (.istore 5, 2, 0, 0, .null), (.iload 5, 2, 0, 0, .null)] 265 [(5, .int (0 : Int32)), (4, .int (0 : Int32)), (3, .int ((Mo (x1 + (1 : Int32)).toNatClampNeg) - (Mo x1.toNatClampNeg))), (2, .int (Mo x1.toNatClampNeg)), (0, .ref 0), (1, .int x1)] [.int (0 : Int32)] (wMo cy Ms Mb Mq MB My ML Mg MF MW MI MA Mr Ma Mp Mf Mt Ml Mo Mn Mm MT MP Mv Mx Mz) (by decide +kernel) rfl rfl ?_
          refine G_if_eq C (off := 9) (tgt := 274) (by decide +kernel) rfl (fun _ => ?_) (fun c => absurd (by decide) c)
          refine G_r C [(.iload 5, 2, 0, 0, .null)] 276 [(5, .int (0 : Int32)), (4, .int (0 : Int32)), (3, .int ((Mo (x1 + (1 : Int32)).toNatClampNeg) - (Mo x1.toNatClampNeg))), (2, .int (Mo x1.toNatClampNeg)), (0, .ref 0), (1, .int x1)] [.int (0 : Int32)] (wMo cy Ms Mb Mq MB My ML Mg MF MW MI MA Mr Ma Mp Mf Mt Ml Mo Mn Mm MT MP Mv Mx Mz) (by decide +kernel) rfl rfl ?_
          have h := Option.some.inj h
          subst h
          exact G_zret C (v := false) hR (by decide +kernel)
        · rw [if_neg c] at h
          refine G_r C [(.iconst 1, 1, 0, 0, .int (1 : Int32))] 257 [(4, .int (0 : Int32)), (3, .int ((Mo (x1 + (1 : Int32)).toNatClampNeg) - (Mo x1.toNatClampNeg))), (2, .int (Mo x1.toNatClampNeg)), (0, .ref 0), (1, .int x1)] [.int (1 : Int32)] (wMo cy Ms Mb Mq MB My ML Mg MF MW MI MA Mr Ma Mp Mf Mt Ml Mo Mn Mm MT MP Mv Mx Mz) (by decide +kernel) rfl rfl ?_
          refine G_goto C (off := 4) (tgt := 261) (by decide +kernel) rfl ?_
          refine G_r C [(.istore 5, 2, 0, 0, .null), (.iload 5, 2, 0, 0, .null)] 265 [(5, .int (1 : Int32)), (4, .int (0 : Int32)), (3, .int ((Mo (x1 + (1 : Int32)).toNatClampNeg) - (Mo x1.toNatClampNeg))), (2, .int (Mo x1.toNatClampNeg)), (0, .ref 0), (1, .int x1)] [.int (1 : Int32)] (wMo cy Ms Mb Mq MB My ML Mg MF MW MI MA Mr Ma Mp Mf Mt Ml Mo Mn Mm MT MP Mv Mx Mz) (by decide +kernel) rfl rfl ?_
          refine G_if_eq C (off := 9) (tgt := 274) (by decide +kernel) rfl (fun c => absurd c (by decide)) (fun _ => ?_)
          refine G_r C [(.aload_n 0, 1, 0, 0, .null), (.iload 4, 2, 0, 0, .null)] 271 [(5, .int (1 : Int32)), (4, .int (0 : Int32)), (3, .int ((Mo (x1 + (1 : Int32)).toNatClampNeg) - (Mo x1.toNatClampNeg))), (2, .int (Mo x1.toNatClampNeg)), (0, .ref 0), (1, .int x1)] [.int (0 : Int32), .ref 0] (wMo cy Ms Mb Mq MB My ML Mg MF MW MI MA Mr Ma Mp Mf Mt Ml Mo Mn Mm MT MP Mv Mx Mz) (by decide +kernel) rfl rfl ?_
          obtain ⟨q2, hq2, h⟩ := obd h
          refine G_c0 C lk_7_83 ⟨Nat.le_of_ble_eq_true rfl, Nat.le_of_ble_eq_true rfl⟩ (by decide +kernel) [] (c_X7_put cy Ms Mb Mq MB My ML Mg MF MW MI MA Mr Ma Mp Mf Mt Ml Mo Mn Mm MT MP Mv Mx Mz (0 : Int32) q2 hq2) rfl rfl (Nat.le_of_ble_eq_true rfl) ⟨rfl, rfl⟩ rfl ?_
          refine G_r C [(.iload 5, 2, 0, 0, .null)] 276 [(5, .int (1 : Int32)), (4, .int (0 : Int32)), (3, .int ((Mo (x1 + (1 : Int32)).toNatClampNeg) - (Mo x1.toNatClampNeg))), (2, .int (Mo x1.toNatClampNeg)), (0, .ref 0), (1, .int x1)] [.int (1 : Int32)] (wMo cy Ms Mb Mq MB My ML Mg MF MW MI MA q2 Ma Mp Mf Mt Ml Mo Mn Mm MT MP Mv Mx Mz) (by decide +kernel) rfl rfl ?_
          have h := Option.some.inj h
          subst h
          exact G_zret C (v := true) hR (by decide +kernel)
    · rw [if_neg c107] at h
      by_cases c109 : (Ml x1.toNatClampNeg) = (109 : Int32)
      · rw [if_pos c109] at h
        refine G_tab C (dflt := 237) (lo1 := 107) (hi := 119) (offs := #[189, 237, 68, 237, 237, 75, 237, 237, 143, 237, 237, 120, 166]) (len := 68) (tgt := 108) (by decide +kernel) rfl (by rw [c109]; rfl) ?_
        refine G_r C [(.aload_n 0, 1, 0, 0, .null), (.iload_n 2, 1, 0, 0, .null), (.iload_n 3, 1, 0, 0, .null)] 111 [(4, .int (0 : Int32)), (3, .int ((Mo (x1 + (1 : Int32)).toNatClampNeg) - (Mo x1.toNatClampNeg))), (2, .int (Mo x1.toNatClampNeg)), (0, .ref 0), (1, .int x1)] [.int ((Mo (x1 + (1 : Int32)).toNatClampNeg) - (Mo x1.toNatClampNeg)), .int (Mo x1.toNatClampNeg), .ref 0] (wMo cy Ms Mb Mq MB My ML Mg MF MW MI MA Mr Ma Mp Mf Mt Ml Mo Mn Mm MT MP Mv Mx Mz) (by decide +kernel) rfl rfl ?_
        obtain ⟨q3, hq3, h⟩ := obd h
        refine G_c0 C lk_7_265 ⟨Nat.le_of_ble_eq_true rfl, Nat.le_of_ble_eq_true rfl⟩ (by decide +kernel) [.int (bI q3.1)] (c_X7_becomeRow cy Ms Mb Mq MB My ML Mg MF MW MI MA Mr Ma Mp Mf Mt Ml Mo Mn Mm MT MP Mv Mx Mz (Mo x1.toNatClampNeg) ((Mo (x1 + (1 : Int32)).toNatClampNeg) - (Mo x1.toNatClampNeg)) q3 hq3) rfl rfl (Nat.le_of_ble_eq_true rfl) ⟨rfl, rfl⟩ rfl ?_
        have h := Option.some.inj h
        subst h
        exact G_zret C (v := q3.1) hR (by decide +kernel)
      · rw [if_neg c109] at h
        by_cases c112 : (Ml x1.toNatClampNeg) = (112 : Int32)
        · rw [if_pos c112] at h
          refine G_tab C (dflt := 237) (lo1 := 107) (hi := 119) (offs := #[189, 237, 68, 237, 237, 75, 237, 237, 143, 237, 237, 120, 166]) (len := 68) (tgt := 115) (by decide +kernel) rfl (by rw [c112]; rfl) ?_
          refine G_r C [(.iload 4, 2, 0, 0, .null)] 117 [(4, .int (0 : Int32)), (3, .int ((Mo (x1 + (1 : Int32)).toNatClampNeg) - (Mo x1.toNatClampNeg))), (2, .int (Mo x1.toNatClampNeg)), (0, .ref 0), (1, .int x1)] [.int (0 : Int32)] (wMo cy Ms Mb Mq MB My ML Mg MF MW MI MA Mr Ma Mp Mf Mt Ml Mo Mn Mm MT MP Mv Mx Mz) (by decide +kernel) rfl rfl ?_
          obtain ⟨q4, hq4, h⟩ := obd h
          refine G_cS C lk_7_113 ⟨Nat.le_of_ble_eq_true rfl, Nat.le_of_ble_eq_true rfl⟩ (by decide +kernel) [.int (bI q4)] (c_X7_isPlace cy (0 : Int32) q4 hq4) rfl rfl (Nat.le_of_ble_eq_true rfl) rfl ?_
          refine G_if_eq C (off := 38) (tgt := 158) (by decide +kernel) rfl (fun c => ?_) (fun c => ?_)
          · rw [if_pos c] at h
            refine G_r C [(.iconst 0, 1, 0, 0, .int (0 : Int32))] 159 [(4, .int (0 : Int32)), (3, .int ((Mo (x1 + (1 : Int32)).toNatClampNeg) - (Mo x1.toNatClampNeg))), (2, .int (Mo x1.toNatClampNeg)), (0, .ref 0), (1, .int x1)] [.int (0 : Int32)] (wMo cy Ms Mb Mq MB My ML Mg MF MW MI MA Mr Ma Mp Mf Mt Ml Mo Mn Mm MT MP Mv Mx Mz) (by decide +kernel) rfl rfl ?_
            have h := Option.some.inj h
            subst h
            exact G_zret C (v := false) hR (by decide +kernel)
          · rw [if_neg c] at h
            refine G_r C [(.aload_n 0, 1, 0, 0, .null), (.getfield 31, 3, 7, 9, .null), (.iload_n 2, 1, 0, 0, .null), (.iconst 1, 1, 0, 0, .int (1 : Int32)), (.iadd, 1, 0, 0, .null)] 130 [(4, .int (0 : Int32)), (3, .int ((Mo (x1 + (1 : Int32)).toNatClampNeg) - (Mo x1.toNatClampNeg))), (2, .int (Mo x1.toNatClampNeg)), (0, .ref 0), (1, .int x1)] [.int ((Mo x1.toNatClampNeg) + (1 : Int32)), .ref 8] (wMo cy Ms Mb Mq MB My ML Mg MF MW MI MA Mr Ma Mp Mf Mt Ml Mo Mn Mm MT MP Mv Mx Mz) (by decide +kernel) rfl rfl ?_
            obtain ⟨cg, h⟩ := oob h
            refine G_iald C (a := 8) rfl cg (by decide +kernel) ?_
            obtain ⟨q5, hq5, h⟩ := obd h
            refine G_cS C lk_7_116 ⟨Nat.le_of_ble_eq_true rfl, Nat.le_of_ble_eq_true rfl⟩ (by decide +kernel) [.int (bI q5)] (c_X7_isWeight cy (Mn ((Mo x1.toNatClampNeg) + (1 : Int32)).toNatClampNeg) q5 hq5) rfl rfl (Nat.le_of_ble_eq_true rfl) rfl ?_
            refine G_if_eq C (off := 24) (tgt := 158) (by decide +kernel) rfl (fun c => ?_) (fun c => ?_)
            · rw [if_pos c] at h
              refine G_r C [(.iconst 0, 1, 0, 0, .int (0 : Int32))] 159 [(4, .int (0 : Int32)), (3, .int ((Mo (x1 + (1 : Int32)).toNatClampNeg) - (Mo x1.toNatClampNeg))), (2, .int (Mo x1.toNatClampNeg)), (0, .ref 0), (1, .int x1)] [.int (0 : Int32)] (wMo cy Ms Mb Mq MB My ML Mg MF MW MI MA Mr Ma Mp Mf Mt Ml Mo Mn Mm MT MP Mv Mx Mz) (by decide +kernel) rfl rfl ?_
              have h := Option.some.inj h
              subst h
              exact G_zret C (v := false) hR (by decide +kernel)
            · rw [if_neg c] at h
              refine G_r C [(.aload_n 0, 1, 0, 0, .null), (.iload 4, 2, 0, 0, .null), (.aload_n 0, 1, 0, 0, .null), (.getfield 31, 3, 7, 9, .null), (.iload_n 2, 1, 0, 0, .null), (.iconst 1, 1, 0, 0, .int (1 : Int32)), (.iadd, 1, 0, 0, .null)] 147 [(4, .int (0 : Int32)), (3, .int ((Mo (x1 + (1 : Int32)).toNatClampNeg) - (Mo x1.toNatClampNeg))), (2, .int (Mo x1.toNatClampNeg)), (0, .ref 0), (1, .int x1)] [.int ((Mo x1.toNatClampNeg) + (1 : Int32)), .ref 8, .int (0 : Int32), .ref 0] (wMo cy Ms Mb Mq MB My ML Mg MF MW MI MA Mr Ma Mp Mf Mt Ml Mo Mn Mm MT MP Mv Mx Mz) (by decide +kernel) rfl rfl ?_
              obtain ⟨cg, h⟩ := oob h
              refine G_iald C (a := 8) rfl cg (by decide +kernel) ?_
              obtain ⟨q6, hq6, h⟩ := obd h
              refine G_c0 C lk_7_119 ⟨Nat.le_of_ble_eq_true rfl, Nat.le_of_ble_eq_true rfl⟩ (by decide +kernel) [.int (bI q6.1)] (c_X7_addPlace cy Ms Mb Mq MB My ML Mg MF MW MI MA Mr Ma Mp Mf Mt Ml Mo Mn Mm MT MP Mv Mx Mz (0 : Int32) (Mn ((Mo x1.toNatClampNeg) + (1 : Int32)).toNatClampNeg) q6 hq6) rfl rfl (Nat.le_of_ble_eq_true rfl) ⟨rfl, rfl⟩ rfl ?_
              refine G_if_eq C (off := 7) (tgt := 158) (by decide +kernel) rfl (fun c => ?_) (fun c => ?_)
              · rw [if_pos c] at h
                refine G_r C [(.iconst 0, 1, 0, 0, .int (0 : Int32))] 159 [(4, .int (0 : Int32)), (3, .int ((Mo (x1 + (1 : Int32)).toNatClampNeg) - (Mo x1.toNatClampNeg))), (2, .int (Mo x1.toNatClampNeg)), (0, .ref 0), (1, .int x1)] [.int (0 : Int32)] (wMo cy Ms Mb Mq MB My ML Mg MF MW MI MA q6.2.1 Ma Mp Mf Mt Ml Mo Mn q6.2.2 MT MP Mv Mx Mz) (by decide +kernel) rfl rfl ?_
                have h := Option.some.inj h
                subst h
                exact G_zret C (v := false) hR (by decide +kernel)
              · rw [if_neg c] at h
                refine G_r C [(.iconst 1, 1, 0, 0, .int (1 : Int32))] 155 [(4, .int (0 : Int32)), (3, .int ((Mo (x1 + (1 : Int32)).toNatClampNeg) - (Mo x1.toNatClampNeg))), (2, .int (Mo x1.toNatClampNeg)), (0, .ref 0), (1, .int x1)] [.int (1 : Int32)] (wMo cy Ms Mb Mq MB My ML Mg MF MW MI MA q6.2.1 Ma Mp Mf Mt Ml Mo Mn q6.2.2 MT MP Mv Mx Mz) (by decide +kernel) rfl rfl ?_
                refine G_goto C (off := 4) (tgt := 159) (by decide +kernel) rfl ?_
                have h := Option.some.inj h
                subst h
                exact G_zret C (v := true) hR (by decide +kernel)
        · rw [if_neg c112] at h
          by_cases c115 : (Ml x1.toNatClampNeg) = (115 : Int32)
          · rw [if_pos c115] at h
            refine G_tab C (dflt := 237) (lo1 := 107) (hi := 119) (offs := #[189, 237, 68, 237, 237, 75, 237, 237, 143, 237, 237, 120, 166]) (len := 68) (tgt := 183) (by decide +kernel) rfl (by rw [c115]; rfl) ?_
            refine G_r C [(.iload 4, 2, 0, 0, .null)] 185 [(4, .int (0 : Int32)), (3, .int ((Mo (x1 + (1 : Int32)).toNatClampNeg) - (Mo x1.toNatClampNeg))), (2, .int (Mo x1.toNatClampNeg)), (0, .ref 0), (1, .int x1)] [.int (0 : Int32)] (wMo cy Ms Mb Mq MB My ML Mg MF MW MI MA Mr Ma Mp Mf Mt Ml Mo Mn Mm MT MP Mv Mx Mz) (by decide +kernel) rfl rfl ?_
            obtain ⟨q7, hq7, h⟩ := obd h
            refine G_cS C lk_7_113 ⟨Nat.le_of_ble_eq_true rfl, Nat.le_of_ble_eq_true rfl⟩ (by decide +kernel) [.int (bI q7)] (c_X7_isPlace cy (0 : Int32) q7 hq7) rfl rfl (Nat.le_of_ble_eq_true rfl) rfl ?_
            refine G_if_eq C (off := 16) (tgt := 204) (by decide +kernel) rfl (fun c => ?_) (fun c => ?_)
            · rw [if_pos c] at h
              refine G_r C [(.iconst 0, 1, 0, 0, .int (0 : Int32))] 205 [(4, .int (0 : Int32)), (3, .int ((Mo (x1 + (1 : Int32)).toNatClampNeg) - (Mo x1.toNatClampNeg))), (2, .int (Mo x1.toNatClampNeg)), (0, .ref 0), (1, .int x1)] [.int (0 : Int32)] (wMo cy Ms Mb Mq MB My ML Mg MF MW MI MA Mr Ma Mp Mf Mt Ml Mo Mn Mm MT MP Mv Mx Mz) (by decide +kernel) rfl rfl ?_
              have h := Option.some.inj h
              subst h
              exact G_zret C (v := false) hR (by decide +kernel)
            · rw [if_neg c] at h
              refine G_r C [(.aload_n 0, 1, 0, 0, .null), (.iload 4, 2, 0, 0, .null)] 194 [(4, .int (0 : Int32)), (3, .int ((Mo (x1 + (1 : Int32)).toNatClampNeg) - (Mo x1.toNatClampNeg))), (2, .int (Mo x1.toNatClampNeg)), (0, .ref 0), (1, .int x1)] [.int (0 : Int32), .ref 0] (wMo cy Ms Mb Mq MB My ML Mg MF MW MI MA Mr Ma Mp Mf Mt Ml Mo Mn Mm MT MP Mv Mx Mz) (by decide +kernel) rfl rfl ?_
              obtain ⟨q8, hq8, h⟩ := obd h
              refine G_c0 C lk_7_129 ⟨Nat.le_of_ble_eq_true rfl, Nat.le_of_ble_eq_true rfl⟩ (by decide +kernel) [.int (bI q8.1)] (c_X7_stretch cy Ms Mb Mq MB My ML Mg MF MW MI MA Mr Ma Mp Mf Mt Ml Mo Mn Mm MT MP Mv Mx Mz (0 : Int32) q8 hq8) rfl rfl (Nat.le_of_ble_eq_true rfl) ⟨rfl, rfl⟩ rfl ?_
              refine G_if_eq C (off := 7) (tgt := 204) (by decide +kernel) rfl (fun c => ?_) (fun c => ?_)
              · rw [if_pos c] at h
                refine G_r C [(.iconst 0, 1, 0, 0, .int (0 : Int32))] 205 [(4, .int (0 : Int32)), (3, .int ((Mo (x1 + (1 : Int32)).toNatClampNeg) - (Mo x1.toNatClampNeg))), (2, .int (Mo x1.toNatClampNeg)), (0, .ref 0), (1, .int x1)] [.int (0 : Int32)] (wMo cy Ms Mb Mq MB My ML Mg MF MW MI MA q8.2.1 Ma Mp Mf Mt Ml Mo Mn q8.2.2 MT MP Mv Mx Mz) (by decide +kernel) rfl rfl ?_
                have h := Option.some.inj h
                subst h
                exact G_zret C (v := false) hR (by decide +kernel)
              · rw [if_neg c] at h
                refine G_r C [(.iconst 1, 1, 0, 0, .int (1 : Int32))] 201 [(4, .int (0 : Int32)), (3, .int ((Mo (x1 + (1 : Int32)).toNatClampNeg) - (Mo x1.toNatClampNeg))), (2, .int (Mo x1.toNatClampNeg)), (0, .ref 0), (1, .int x1)] [.int (1 : Int32)] (wMo cy Ms Mb Mq MB My ML Mg MF MW MI MA q8.2.1 Ma Mp Mf Mt Ml Mo Mn q8.2.2 MT MP Mv Mx Mz) (by decide +kernel) rfl rfl ?_
                refine G_goto C (off := 4) (tgt := 205) (by decide +kernel) rfl ?_
                have h := Option.some.inj h
                subst h
                exact G_zret C (v := true) hR (by decide +kernel)
          · rw [if_neg c115] at h
            by_cases c118 : (Ml x1.toNatClampNeg) = (118 : Int32)
            · rw [if_pos c118] at h
              refine G_tab C (dflt := 237) (lo1 := 107) (hi := 119) (offs := #[189, 237, 68, 237, 237, 75, 237, 237, 143, 237, 237, 120, 166]) (len := 68) (tgt := 160) (by decide +kernel) rfl (by rw [c118]; rfl) ?_
              refine G_r C [(.iload 4, 2, 0, 0, .null)] 162 [(4, .int (0 : Int32)), (3, .int ((Mo (x1 + (1 : Int32)).toNatClampNeg) - (Mo x1.toNatClampNeg))), (2, .int (Mo x1.toNatClampNeg)), (0, .ref 0), (1, .int x1)] [.int (0 : Int32)] (wMo cy Ms Mb Mq MB My ML Mg MF MW MI MA Mr Ma Mp Mf Mt Ml Mo Mn Mm MT MP Mv Mx Mz) (by decide +kernel) rfl rfl ?_
              obtain ⟨q9, hq9, h⟩ := obd h
              refine G_cS C lk_7_113 ⟨Nat.le_of_ble_eq_true rfl, Nat.le_of_ble_eq_true rfl⟩ (by decide +kernel) [.int (bI q9)] (c_X7_isPlace cy (0 : Int32) q9 hq9) rfl rfl (Nat.le_of_ble_eq_true rfl) rfl ?_
              refine G_if_eq C (off := 16) (tgt := 181) (by decide +kernel) rfl (fun c => ?_) (fun c => ?_)
              · rw [if_pos c] at h
                refine G_r C [(.iconst 0, 1, 0, 0, .int (0 : Int32))] 182 [(4, .int (0 : Int32)), (3, .int ((Mo (x1 + (1 : Int32)).toNatClampNeg) - (Mo x1.toNatClampNeg))), (2, .int (Mo x1.toNatClampNeg)), (0, .ref 0), (1, .int x1)] [.int (0 : Int32)] (wMo cy Ms Mb Mq MB My ML Mg MF MW MI MA Mr Ma Mp Mf Mt Ml Mo Mn Mm MT MP Mv Mx Mz) (by decide +kernel) rfl rfl ?_
                have h := Option.some.inj h
                subst h
                exact G_zret C (v := false) hR (by decide +kernel)
              · rw [if_neg c] at h
                refine G_r C [(.aload_n 0, 1, 0, 0, .null), (.iload 4, 2, 0, 0, .null)] 171 [(4, .int (0 : Int32)), (3, .int ((Mo (x1 + (1 : Int32)).toNatClampNeg) - (Mo x1.toNatClampNeg))), (2, .int (Mo x1.toNatClampNeg)), (0, .ref 0), (1, .int x1)] [.int (0 : Int32), .ref 0] (wMo cy Ms Mb Mq MB My ML Mg MF MW MI MA Mr Ma Mp Mf Mt Ml Mo Mn Mm MT MP Mv Mx Mz) (by decide +kernel) rfl rfl ?_
                obtain ⟨q10, hq10, h⟩ := obd h
                refine G_c0 C lk_7_123 ⟨Nat.le_of_ble_eq_true rfl, Nat.le_of_ble_eq_true rfl⟩ (by decide +kernel) [.int (bI q10.1)] (c_X7_move cy Ms Mb Mq MB My ML Mg MF MW MI MA Mr Ma Mp Mf Mt Ml Mo Mn Mm MT MP Mv Mx Mz (0 : Int32) q10 hq10) rfl rfl (Nat.le_of_ble_eq_true rfl) ⟨rfl, rfl⟩ rfl ?_
                refine G_if_eq C (off := 7) (tgt := 181) (by decide +kernel) rfl (fun c => ?_) (fun c => ?_)
                · rw [if_pos c] at h
                  refine G_r C [(.iconst 0, 1, 0, 0, .int (0 : Int32))] 182 [(4, .int (0 : Int32)), (3, .int ((Mo (x1 + (1 : Int32)).toNatClampNeg) - (Mo x1.toNatClampNeg))), (2, .int (Mo x1.toNatClampNeg)), (0, .ref 0), (1, .int x1)] [.int (0 : Int32)] (wMo cy Ms Mb Mq MB My ML Mg MF MW MI MA q10.2.1 Ma Mp Mf Mt Ml Mo Mn q10.2.2 MT MP Mv Mx Mz) (by decide +kernel) rfl rfl ?_
                  have h := Option.some.inj h
                  subst h
                  exact G_zret C (v := false) hR (by decide +kernel)
                · rw [if_neg c] at h
                  refine G_r C [(.iconst 1, 1, 0, 0, .int (1 : Int32))] 178 [(4, .int (0 : Int32)), (3, .int ((Mo (x1 + (1 : Int32)).toNatClampNeg) - (Mo x1.toNatClampNeg))), (2, .int (Mo x1.toNatClampNeg)), (0, .ref 0), (1, .int x1)] [.int (1 : Int32)] (wMo cy Ms Mb Mq MB My ML Mg MF MW MI MA q10.2.1 Ma Mp Mf Mt Ml Mo Mn q10.2.2 MT MP Mv Mx Mz) (by decide +kernel) rfl rfl ?_
                  refine G_goto C (off := 4) (tgt := 182) (by decide +kernel) rfl ?_
                  have h := Option.some.inj h
                  subst h
                  exact G_zret C (v := true) hR (by decide +kernel)
            · rw [if_neg c118] at h
              by_cases c119 : (Ml x1.toNatClampNeg) = (119 : Int32)
              · rw [if_pos c119] at h
                refine G_tab C (dflt := 237) (lo1 := 107) (hi := 119) (offs := #[189, 237, 68, 237, 237, 75, 237, 237, 143, 237, 237, 120, 166]) (len := 68) (tgt := 206) (by decide +kernel) rfl (by rw [c119]; rfl) ?_
                refine G_r C [(.iload 4, 2, 0, 0, .null)] 208 [(4, .int (0 : Int32)), (3, .int ((Mo (x1 + (1 : Int32)).toNatClampNeg) - (Mo x1.toNatClampNeg))), (2, .int (Mo x1.toNatClampNeg)), (0, .ref 0), (1, .int x1)] [.int (0 : Int32)] (wMo cy Ms Mb Mq MB My ML Mg MF MW MI MA Mr Ma Mp Mf Mt Ml Mo Mn Mm MT MP Mv Mx Mz) (by decide +kernel) rfl rfl ?_
                obtain ⟨q11, hq11, h⟩ := obd h
                refine G_cS C lk_7_113 ⟨Nat.le_of_ble_eq_true rfl, Nat.le_of_ble_eq_true rfl⟩ (by decide +kernel) [.int (bI q11)] (c_X7_isPlace cy (0 : Int32) q11 hq11) rfl rfl (Nat.le_of_ble_eq_true rfl) rfl ?_
                refine G_if_eq C (off := 16) (tgt := 227) (by decide +kernel) rfl (fun c => ?_) (fun c => ?_)
                · rw [if_pos c] at h
                  refine G_r C [(.iconst 0, 1, 0, 0, .int (0 : Int32))] 228 [(4, .int (0 : Int32)), (3, .int ((Mo (x1 + (1 : Int32)).toNatClampNeg) - (Mo x1.toNatClampNeg))), (2, .int (Mo x1.toNatClampNeg)), (0, .ref 0), (1, .int x1)] [.int (0 : Int32)] (wMo cy Ms Mb Mq MB My ML Mg MF MW MI MA Mr Ma Mp Mf Mt Ml Mo Mn Mm MT MP Mv Mx Mz) (by decide +kernel) rfl rfl ?_
                  have h := Option.some.inj h
                  subst h
                  exact G_zret C (v := false) hR (by decide +kernel)
                · rw [if_neg c] at h
                  refine G_r C [(.aload_n 0, 1, 0, 0, .null), (.iload 4, 2, 0, 0, .null)] 217 [(4, .int (0 : Int32)), (3, .int ((Mo (x1 + (1 : Int32)).toNatClampNeg) - (Mo x1.toNatClampNeg))), (2, .int (Mo x1.toNatClampNeg)), (0, .ref 0), (1, .int x1)] [.int (0 : Int32), .ref 0] (wMo cy Ms Mb Mq MB My ML Mg MF MW MI MA Mr Ma Mp Mf Mt Ml Mo Mn Mm MT MP Mv Mx Mz) (by decide +kernel) rfl rfl ?_
                  obtain ⟨q12, hq12, h⟩ := obd h
                  refine G_c0 C lk_7_132 ⟨Nat.le_of_ble_eq_true rfl, Nat.le_of_ble_eq_true rfl⟩ (by decide +kernel) [.int (bI q12.1)] (c_X7_weigh cy Ms Mb Mq MB My ML Mg MF MW MI MA Mr Ma Mp Mf Mt Ml Mo Mn Mm MT MP Mv Mx Mz (0 : Int32) q12 hq12) rfl rfl (Nat.le_of_ble_eq_true rfl) ⟨rfl, rfl⟩ rfl ?_
                  refine G_if_eq C (off := 7) (tgt := 227) (by decide +kernel) rfl (fun c => ?_) (fun c => ?_)
                  · rw [if_pos c] at h
                    refine G_r C [(.iconst 0, 1, 0, 0, .int (0 : Int32))] 228 [(4, .int (0 : Int32)), (3, .int ((Mo (x1 + (1 : Int32)).toNatClampNeg) - (Mo x1.toNatClampNeg))), (2, .int (Mo x1.toNatClampNeg)), (0, .ref 0), (1, .int x1)] [.int (0 : Int32)] (wMo cy Ms Mb Mq MB My ML Mg MF MW MI MA q12.2.1 Ma Mp Mf Mt Ml Mo Mn q12.2.2 MT MP Mv Mx Mz) (by decide +kernel) rfl rfl ?_
                    have h := Option.some.inj h
                    subst h
                    exact G_zret C (v := false) hR (by decide +kernel)
                  · rw [if_neg c] at h
                    refine G_r C [(.iconst 1, 1, 0, 0, .int (1 : Int32))] 224 [(4, .int (0 : Int32)), (3, .int ((Mo (x1 + (1 : Int32)).toNatClampNeg) - (Mo x1.toNatClampNeg))), (2, .int (Mo x1.toNatClampNeg)), (0, .ref 0), (1, .int x1)] [.int (1 : Int32)] (wMo cy Ms Mb Mq MB My ML Mg MF MW MI MA q12.2.1 Ma Mp Mf Mt Ml Mo Mn q12.2.2 MT MP Mv Mx Mz) (by decide +kernel) rfl rfl ?_
                    refine G_goto C (off := 4) (tgt := 228) (by decide +kernel) rfl ?_
                    have h := Option.some.inj h
                    subst h
                    exact G_zret C (v := true) hR (by decide +kernel)
              · rw [if_neg c119] at h
                refine G_tab C (dflt := 237) (lo1 := 107) (hi := 119) (offs := #[189, 237, 68, 237, 237, 75, 237, 237, 143, 237, 237, 120, 166]) (len := 68) (tgt := 277) (by decide +kernel) rfl (sw_X7_doOrder_40 _ (neT c107) (neT c109) (neT c112) (neT c115) (neT c118) (neT c119)) ?_
                refine G_r C [(.aload_n 0, 1, 0, 0, .null), (.getfield 7, 3, 7, 0, .null), (.bipush 7, 2, 0, 0, .int (7 : Int32))] 283 [(4, .int (0 : Int32)), (3, .int ((Mo (x1 + (1 : Int32)).toNatClampNeg) - (Mo x1.toNatClampNeg))), (2, .int (Mo x1.toNatClampNeg)), (0, .ref 0), (1, .int x1)] [.int (7 : Int32), .ref 1] (wMo cy Ms Mb Mq MB My ML Mg MF MW MI MA Mr Ma Mp Mf Mt Ml Mo Mn Mm MT MP Mv Mx Mz) (by decide +kernel) rfl rfl ?_
                obtain ⟨cg, h⟩ := oob h
                refine G_iald C (a := 1) rfl cg (by decide +kernel) ?_
                refine G_r C [(.iconst 1, 1, 0, 0, .int (1 : Int32))] 285 [(4, .int (0 : Int32)), (3, .int ((Mo (x1 + (1 : Int32)).toNatClampNeg) - (Mo x1.toNatClampNeg))), (2, .int (Mo x1.toNatClampNeg)), (0, .ref 0), (1, .int x1)] [.int (1 : Int32), .int (Mr (7 : Int32).toNatClampNeg)] (wMo cy Ms Mb Mq MB My ML Mg MF MW MI MA Mr Ma Mp Mf Mt Ml Mo Mn Mm MT MP Mv Mx Mz) (by decide +kernel) rfl rfl ?_
                refine G_icmp_le C (off := 7) (tgt := 292) (by decide +kernel) rfl (fun c => ?_) (fun c => ?_)
                · rw [if_pos c] at h
                  refine G_r C [(.iconst 0, 1, 0, 0, .int (0 : Int32)), (.istore 6, 2, 0, 0, .null), (.iload 6, 2, 0, 0, .null)] 297 [(6, .int (0 : Int32)), (4, .int (0 : Int32)), (3, .int ((Mo (x1 + (1 : Int32)).toNatClampNeg) - (Mo x1.toNatClampNeg))), (2, .int (Mo x1.toNatClampNeg)), (0, .ref 0), (1, .int x1)] [.int (0 : Int32)] (wMo cy Ms Mb Mq MB My ML Mg MF MW MI MA Mr Ma Mp Mf Mt Ml Mo Mn Mm MT MP Mv Mx Mz) (by decide +kernel) rfl rfl ?_
                  refine G_if_eq C (off := 7) (tgt := 304) (by decide +kernel) rfl (fun _ => ?_) (fun c => absurd (by decide) c)
                  refine G_r C [(.iload 6, 2, 0, 0, .null)] 306 [(6, .int (0 : Int32)), (4, .int (0 : Int32)), (3, .int ((Mo (x1 + (1 : Int32)).toNatClampNeg) - (Mo x1.toNatClampNeg))), (2, .int (Mo x1.toNatClampNeg)), (0, .ref 0), (1, .int x1)] [.int (0 : Int32)] (wMo cy Ms Mb Mq MB My ML Mg MF MW MI MA Mr Ma Mp Mf Mt Ml Mo Mn Mm MT MP Mv Mx Mz) (by decide +kernel) rfl rfl ?_
                  have h := Option.some.inj h
                  subst h
                  exact G_zret C (v := false) hR (by decide +kernel)
                · rw [if_neg c] at h
                  refine G_r C [(.iconst 1, 1, 0, 0, .int (1 : Int32))] 289 [(4, .int (0 : Int32)), (3, .int ((Mo (x1 + (1 : Int32)).toNatClampNeg) - (Mo x1.toNatClampNeg))), (2, .int (Mo x1.toNatClampNeg)), (0, .ref 0), (1, .int x1)] [.int (1 : Int32)] (wMo cy Ms Mb Mq MB My ML Mg MF MW MI MA Mr Ma Mp Mf Mt Ml Mo Mn Mm MT MP Mv Mx Mz) (by decide +kernel) rfl rfl ?_
                  refine G_goto C (off := 4) (tgt := 293) (by decide +kernel) rfl ?_
                  refine G_r C [(.istore 6, 2, 0, 0, .null), (.iload 6, 2, 0, 0, .null)] 297 [(6, .int (1 : Int32)), (4, .int (0 : Int32)), (3, .int ((Mo (x1 + (1 : Int32)).toNatClampNeg) - (Mo x1.toNatClampNeg))), (2, .int (Mo x1.toNatClampNeg)), (0, .ref 0), (1, .int x1)] [.int (1 : Int32)] (wMo cy Ms Mb Mq MB My ML Mg MF MW MI MA Mr Ma Mp Mf Mt Ml Mo Mn Mm MT MP Mv Mx Mz) (by decide +kernel) rfl rfl ?_
                  refine G_if_eq C (off := 7) (tgt := 304) (by decide +kernel) rfl (fun c => absurd c (by decide)) (fun _ => ?_)
                  refine G_r C [(.aload_n 0, 1, 0, 0, .null)] 301 [(6, .int (1 : Int32)), (4, .int (0 : Int32)), (3, .int ((Mo (x1 + (1 : Int32)).toNatClampNeg) - (Mo x1.toNatClampNeg))), (2, .int (Mo x1.toNatClampNeg)), (0, .ref 0), (1, .int x1)] [.ref 0] (wMo cy Ms Mb Mq MB My ML Mg MF MW MI MA Mr Ma Mp Mf Mt Ml Mo Mn Mm MT MP Mv Mx Mz) (by decide +kernel) rfl rfl ?_
                  obtain ⟨q13, hq13, h⟩ := obd h
                  refine G_c0 C lk_7_90 ⟨Nat.le_of_ble_eq_true rfl, Nat.le_of_ble_eq_true rfl⟩ (by decide +kernel) [] (c_X7_cut cy Ms Mb Mq MB My ML Mg MF MW MI MA Mr Ma Mp Mf Mt Ml Mo Mn Mm MT MP Mv Mx Mz q13 hq13) rfl rfl (Nat.le_of_ble_eq_true rfl) ⟨rfl, rfl⟩ rfl ?_
                  refine G_r C [(.iload 6, 2, 0, 0, .null)] 306 [(6, .int (1 : Int32)), (4, .int (0 : Int32)), (3, .int ((Mo (x1 + (1 : Int32)).toNatClampNeg) - (Mo x1.toNatClampNeg))), (2, .int (Mo x1.toNatClampNeg)), (0, .ref 0), (1, .int x1)] [.int (1 : Int32)] (wMo cy Ms Mb Mq MB My ML Mg MF MW MI MA q13 Ma Mp Mf Mt Ml Mo Mn Mm MT MP Mv Mx Mz) (by decide +kernel) rfl rfl ?_
                  have h := Option.some.inj h
                  subst h
                  exact G_zret C (v := true) hR (by decide +kernel)
  · rw [if_neg c] at h
    refine G_r C [(.aload_n 0, 1, 0, 0, .null), (.getfield 31, 3, 7, 9, .null), (.iload_n 2, 1, 0, 0, .null)] 27 [(3, .int ((Mo (x1 + (1 : Int32)).toNatClampNeg) - (Mo x1.toNatClampNeg))), (2, .int (Mo x1.toNatClampNeg)), (0, .ref 0), (1, .int x1)] [.int (Mo x1.toNatClampNeg), .ref 8] (wMo cy Ms Mb Mq MB My ML Mg MF MW MI MA Mr Ma Mp Mf Mt Ml Mo Mn Mm MT MP Mv Mx Mz) (by decide +kernel) rfl rfl ?_
    obtain ⟨cg, h⟩ := oob h
    refine G_iald C (a := 8) rfl cg (by decide +kernel) ?_
    refine G_goto C (off := 4) (tgt := 32) (by decide +kernel) rfl ?_
    refine G_r C [(.istore 4, 2, 0, 0, .null), (.aload_n 0, 1, 0, 0, .null), (.getfield 25, 3, 7, 7, .null), (.iload_n 1, 1, 0, 0, .null)] 39 [(4, .int (Mn (Mo x1.toNatClampNeg).toNatClampNeg)), (3, .int ((Mo (x1 + (1 : Int32)).toNatClampNeg) - (Mo x1.toNatClampNeg))), (2, .int (Mo x1.toNatClampNeg)), (0, .ref 0), (1, .int x1)] [.int x1, .ref 6] (wMo cy Ms Mb Mq MB My ML Mg MF MW MI MA Mr Ma Mp Mf Mt Ml Mo Mn Mm MT MP Mv Mx Mz) (by decide +kernel) rfl rfl ?_
    obtain ⟨cg, h⟩ := oob h
    refine G_iald C (a := 6) rfl cg (by decide +kernel) ?_
    by_cases c107 : (Ml x1.toNatClampNeg) = (107 : Int32)
    · rw [if_pos c107] at h
      refine G_tab C (dflt := 237) (lo1 := 107) (hi := 119) (offs := #[189, 237, 68, 237, 237, 75, 237, 237, 143, 237, 237, 120, 166]) (len := 68) (tgt := 229) (by decide +kernel) rfl (by rw [c107]; rfl) ?_
      refine G_r C [(.iload 4, 2, 0, 0, .null), (.i2l, 1, 0, 0, .null)] 232 [(4, .int (Mn (Mo x1.toNatClampNeg).toNatClampNeg)), (3, .int ((Mo (x1 + (1 : Int32)).toNatClampNeg) - (Mo x1.toNatClampNeg))), (2, .int (Mo x1.toNatClampNeg)), (0, .ref 0), (1, .int x1)] [.long ((Mn (Mo x1.toNatClampNeg).toNatClampNeg).toInt64)] (wMo cy Ms Mb Mq MB My ML Mg MF MW MI MA Mr Ma Mp Mf Mt Ml Mo Mn Mm MT MP Mv Mx Mz) (by decide +kernel) rfl rfl ?_
      refine G_ldc2 C co_7_68 (by decide +kernel) ?_
      refine G_ldc2 C co_7_70 (by decide +kernel) ?_
      obtain ⟨q14, hq14, h⟩ := obd h
      refine G_cS C lk_7_64 ⟨Nat.le_of_ble_eq_true rfl, Nat.le_of_ble_eq_true rfl⟩ (by decide +kernel) [.int (bI q14)] (c_X7_in cy ((Mn (Mo x1.toNatClampNeg).toNatClampNeg).toInt64) (-500 : Int64) (500 : Int64) q14 hq14) rfl rfl (Nat.le_of_ble_eq_true rfl) rfl ?_
      refine G_if_eq C (off := 19) (tgt := 260) (by decide +kernel) rfl (fun c => ?_) (fun c => ?_)
      · rw [if_pos c] at h
        refine G_r C [(.iconst 0, 1, 0, 0, .int (0 : Int32)), (.istore 5, 2, 0, 0, .null), (.iload 5, 2, 0, 0, .null)] 265 [(5, .int (0 : Int32)), (4, .int (Mn (Mo x1.toNatClampNeg).toNatClampNeg)), (3, .int ((Mo (x1 + (1 : Int32)).toNatClampNeg) - (Mo x1.toNatClampNeg))), (2, .int (Mo x1.toNatClampNeg)), (0, .ref 0), (1, .int x1)] [.int (0 : Int32)] (wMo cy Ms Mb Mq MB My ML Mg MF MW MI MA Mr Ma Mp Mf Mt Ml Mo Mn Mm MT MP Mv Mx Mz) (by decide +kernel) rfl rfl ?_
        refine G_if_eq C (off := 9) (tgt := 274) (by decide +kernel) rfl (fun _ => ?_) (fun c => absurd (by decide) c)
        refine G_r C [(.iload 5, 2, 0, 0, .null)] 276 [(5, .int (0 : Int32)), (4, .int (Mn (Mo x1.toNatClampNeg).toNatClampNeg)), (3, .int ((Mo (x1 + (1 : Int32)).toNatClampNeg) - (Mo x1.toNatClampNeg))), (2, .int (Mo x1.toNatClampNeg)), (0, .ref 0), (1, .int x1)] [.int (0 : Int32)] (wMo cy Ms Mb Mq MB My ML Mg MF MW MI MA Mr Ma Mp Mf Mt Ml Mo Mn Mm MT MP Mv Mx Mz) (by decide +kernel) rfl rfl ?_
        have h := Option.some.inj h
        subst h
        exact G_zret C (v := false) hR (by decide +kernel)
      · rw [if_neg c] at h
        refine G_r C [(.aload_n 0, 1, 0, 0, .null), (.getfield 7, 3, 7, 0, .null), (.bipush 7, 2, 0, 0, .int (7 : Int32))] 250 [(4, .int (Mn (Mo x1.toNatClampNeg).toNatClampNeg)), (3, .int ((Mo (x1 + (1 : Int32)).toNatClampNeg) - (Mo x1.toNatClampNeg))), (2, .int (Mo x1.toNatClampNeg)), (0, .ref 0), (1, .int x1)] [.int (7 : Int32), .ref 1] (wMo cy Ms Mb Mq MB My ML Mg MF MW MI MA Mr Ma Mp Mf Mt Ml Mo Mn Mm MT MP Mv Mx Mz) (by decide +kernel) rfl rfl ?_
        obtain ⟨cg, h⟩ := oob h
        refine G_iald C (a := 1) rfl cg (by decide +kernel) ?_
        refine G_r C [(.bipush 7, 2, 0, 0, .int (7 : Int32))] 253 [(4, .int (Mn (Mo x1.toNatClampNeg).toNatClampNeg)), (3, .int ((Mo (x1 + (1 : Int32)).toNatClampNeg) - (Mo x1.toNatClampNeg))), (2, .int (Mo x1.toNatClampNeg)), (0, .ref 0), (1, .int x1)] [.int (7 : Int32), .int (Mr (7 : Int32).toNatClampNeg)] (wMo cy Ms Mb Mq MB My ML Mg MF MW MI MA Mr Ma Mp Mf Mt Ml Mo Mn Mm MT MP Mv Mx Mz) (by decide +kernel) rfl rfl ?_
        refine G_icmp_ge C (off := 7) (tgt := 260) (by decide +kernel) rfl (fun c => ?_) (fun c => ?_)
        · rw [if_pos c] at h
          refine G_r C [(.iconst 0, 1, 0, 0, .int (0 : Int32)), (.istore 5, 2, 0, 0, .null), (.iload 5, 2, 0, 0, .null)] 265 [(5, .int (0 : Int32)), (4, .int (Mn (Mo x1.toNatClampNeg).toNatClampNeg)), (3, .int ((Mo (x1 + (1 : Int32)).toNatClampNeg) - (Mo x1.toNatClampNeg))), (2, .int (Mo x1.toNatClampNeg)), (0, .ref 0), (1, .int x1)] [.int (0 : Int32)] (wMo cy Ms Mb Mq MB My ML Mg MF MW MI MA Mr Ma Mp Mf Mt Ml Mo Mn Mm MT MP Mv Mx Mz) (by decide +kernel) rfl rfl ?_
          refine G_if_eq C (off := 9) (tgt := 274) (by decide +kernel) rfl (fun _ => ?_) (fun c => absurd (by decide) c)
          refine G_r C [(.iload 5, 2, 0, 0, .null)] 276 [(5, .int (0 : Int32)), (4, .int (Mn (Mo x1.toNatClampNeg).toNatClampNeg)), (3, .int ((Mo (x1 + (1 : Int32)).toNatClampNeg) - (Mo x1.toNatClampNeg))), (2, .int (Mo x1.toNatClampNeg)), (0, .ref 0), (1, .int x1)] [.int (0 : Int32)] (wMo cy Ms Mb Mq MB My ML Mg MF MW MI MA Mr Ma Mp Mf Mt Ml Mo Mn Mm MT MP Mv Mx Mz) (by decide +kernel) rfl rfl ?_
          have h := Option.some.inj h
          subst h
          exact G_zret C (v := false) hR (by decide +kernel)
        · rw [if_neg c] at h
          refine G_r C [(.iconst 1, 1, 0, 0, .int (1 : Int32))] 257 [(4, .int (Mn (Mo x1.toNatClampNeg).toNatClampNeg)), (3, .int ((Mo (x1 + (1 : Int32)).toNatClampNeg) - (Mo x1.toNatClampNeg))), (2, .int (Mo x1.toNatClampNeg)), (0, .ref 0), (1, .int x1)] [.int (1 : Int32)] (wMo cy Ms Mb Mq MB My ML Mg MF MW MI MA Mr Ma Mp Mf Mt Ml Mo Mn Mm MT MP Mv Mx Mz) (by decide +kernel) rfl rfl ?_
          refine G_goto C (off := 4) (tgt := 261) (by decide +kernel) rfl ?_
          refine G_r C [(.istore 5, 2, 0, 0, .null), (.iload 5, 2, 0, 0, .null)] 265 [(5, .int (1 : Int32)), (4, .int (Mn (Mo x1.toNatClampNeg).toNatClampNeg)), (3, .int ((Mo (x1 + (1 : Int32)).toNatClampNeg) - (Mo x1.toNatClampNeg))), (2, .int (Mo x1.toNatClampNeg)), (0, .ref 0), (1, .int x1)] [.int (1 : Int32)] (wMo cy Ms Mb Mq MB My ML Mg MF MW MI MA Mr Ma Mp Mf Mt Ml Mo Mn Mm MT MP Mv Mx Mz) (by decide +kernel) rfl rfl ?_
          refine G_if_eq C (off := 9) (tgt := 274) (by decide +kernel) rfl (fun c => absurd c (by decide)) (fun _ => ?_)
          refine G_r C [(.aload_n 0, 1, 0, 0, .null), (.iload 4, 2, 0, 0, .null)] 271 [(5, .int (1 : Int32)), (4, .int (Mn (Mo x1.toNatClampNeg).toNatClampNeg)), (3, .int ((Mo (x1 + (1 : Int32)).toNatClampNeg) - (Mo x1.toNatClampNeg))), (2, .int (Mo x1.toNatClampNeg)), (0, .ref 0), (1, .int x1)] [.int (Mn (Mo x1.toNatClampNeg).toNatClampNeg), .ref 0] (wMo cy Ms Mb Mq MB My ML Mg MF MW MI MA Mr Ma Mp Mf Mt Ml Mo Mn Mm MT MP Mv Mx Mz) (by decide +kernel) rfl rfl ?_
          obtain ⟨q15, hq15, h⟩ := obd h
          refine G_c0 C lk_7_83 ⟨Nat.le_of_ble_eq_true rfl, Nat.le_of_ble_eq_true rfl⟩ (by decide +kernel) [] (c_X7_put cy Ms Mb Mq MB My ML Mg MF MW MI MA Mr Ma Mp Mf Mt Ml Mo Mn Mm MT MP Mv Mx Mz (Mn (Mo x1.toNatClampNeg).toNatClampNeg) q15 hq15) rfl rfl (Nat.le_of_ble_eq_true rfl) ⟨rfl, rfl⟩ rfl ?_
          refine G_r C [(.iload 5, 2, 0, 0, .null)] 276 [(5, .int (1 : Int32)), (4, .int (Mn (Mo x1.toNatClampNeg).toNatClampNeg)), (3, .int ((Mo (x1 + (1 : Int32)).toNatClampNeg) - (Mo x1.toNatClampNeg))), (2, .int (Mo x1.toNatClampNeg)), (0, .ref 0), (1, .int x1)] [.int (1 : Int32)] (wMo cy Ms Mb Mq MB My ML Mg MF MW MI MA q15 Ma Mp Mf Mt Ml Mo Mn Mm MT MP Mv Mx Mz) (by decide +kernel) rfl rfl ?_
          have h := Option.some.inj h
          subst h
          exact G_zret C (v := true) hR (by decide +kernel)
    · rw [if_neg c107] at h
      by_cases c109 : (Ml x1.toNatClampNeg) = (109 : Int32)
      · rw [if_pos c109] at h
        refine G_tab C (dflt := 237) (lo1 := 107) (hi := 119) (offs := #[189, 237, 68, 237, 237, 75, 237, 237, 143, 237, 237, 120, 166]) (len := 68) (tgt := 108) (by decide +kernel) rfl (by rw [c109]; rfl) ?_
        refine G_r C [(.aload_n 0, 1, 0, 0, .null), (.iload_n 2, 1, 0, 0, .null), (.iload_n 3, 1, 0, 0, .null)] 111 [(4, .int (Mn (Mo x1.toNatClampNeg).toNatClampNeg)), (3, .int ((Mo (x1 + (1 : Int32)).toNatClampNeg) - (Mo x1.toNatClampNeg))), (2, .int (Mo x1.toNatClampNeg)), (0, .ref 0), (1, .int x1)] [.int ((Mo (x1 + (1 : Int32)).toNatClampNeg) - (Mo x1.toNatClampNeg)), .int (Mo x1.toNatClampNeg), .ref 0] (wMo cy Ms Mb Mq MB My ML Mg MF MW MI MA Mr Ma Mp Mf Mt Ml Mo Mn Mm MT MP Mv Mx Mz) (by decide +kernel) rfl rfl ?_
        obtain ⟨q16, hq16, h⟩ := obd h
        refine G_c0 C lk_7_265 ⟨Nat.le_of_ble_eq_true rfl, Nat.le_of_ble_eq_true rfl⟩ (by decide +kernel) [.int (bI q16.1)] (c_X7_becomeRow cy Ms Mb Mq MB My ML Mg MF MW MI MA Mr Ma Mp Mf Mt Ml Mo Mn Mm MT MP Mv Mx Mz (Mo x1.toNatClampNeg) ((Mo (x1 + (1 : Int32)).toNatClampNeg) - (Mo x1.toNatClampNeg)) q16 hq16) rfl rfl (Nat.le_of_ble_eq_true rfl) ⟨rfl, rfl⟩ rfl ?_
        have h := Option.some.inj h
        subst h
        exact G_zret C (v := q16.1) hR (by decide +kernel)
      · rw [if_neg c109] at h
        by_cases c112 : (Ml x1.toNatClampNeg) = (112 : Int32)
        · rw [if_pos c112] at h
          refine G_tab C (dflt := 237) (lo1 := 107) (hi := 119) (offs := #[189, 237, 68, 237, 237, 75, 237, 237, 143, 237, 237, 120, 166]) (len := 68) (tgt := 115) (by decide +kernel) rfl (by rw [c112]; rfl) ?_
          refine G_r C [(.iload 4, 2, 0, 0, .null)] 117 [(4, .int (Mn (Mo x1.toNatClampNeg).toNatClampNeg)), (3, .int ((Mo (x1 + (1 : Int32)).toNatClampNeg) - (Mo x1.toNatClampNeg))), (2, .int (Mo x1.toNatClampNeg)), (0, .ref 0), (1, .int x1)] [.int (Mn (Mo x1.toNatClampNeg).toNatClampNeg)] (wMo cy Ms Mb Mq MB My ML Mg MF MW MI MA Mr Ma Mp Mf Mt Ml Mo Mn Mm MT MP Mv Mx Mz) (by decide +kernel) rfl rfl ?_
          obtain ⟨q17, hq17, h⟩ := obd h
          refine G_cS C lk_7_113 ⟨Nat.le_of_ble_eq_true rfl, Nat.le_of_ble_eq_true rfl⟩ (by decide +kernel) [.int (bI q17)] (c_X7_isPlace cy (Mn (Mo x1.toNatClampNeg).toNatClampNeg) q17 hq17) rfl rfl (Nat.le_of_ble_eq_true rfl) rfl ?_
          refine G_if_eq C (off := 38) (tgt := 158) (by decide +kernel) rfl (fun c => ?_) (fun c => ?_)
          · rw [if_pos c] at h
            refine G_r C [(.iconst 0, 1, 0, 0, .int (0 : Int32))] 159 [(4, .int (Mn (Mo x1.toNatClampNeg).toNatClampNeg)), (3, .int ((Mo (x1 + (1 : Int32)).toNatClampNeg) - (Mo x1.toNatClampNeg))), (2, .int (Mo x1.toNatClampNeg)), (0, .ref 0), (1, .int x1)] [.int (0 : Int32)] (wMo cy Ms Mb Mq MB My ML Mg MF MW MI MA Mr Ma Mp Mf Mt Ml Mo Mn Mm MT MP Mv Mx Mz) (by decide +kernel) rfl rfl ?_
            have h := Option.some.inj h
            subst h
            exact G_zret C (v := false) hR (by decide +kernel)
          · rw [if_neg c] at h
            refine G_r C [(.aload_n 0, 1, 0, 0, .null), (.getfield 31, 3, 7, 9, .null), (.iload_n 2, 1, 0, 0, .null), (.iconst 1, 1, 0, 0, .int (1 : Int32)), (.iadd, 1, 0, 0, .null)] 130 [(4, .int (Mn (Mo x1.toNatClampNeg).toNatClampNeg)), (3, .int ((Mo (x1 + (1 : Int32)).toNatClampNeg) - (Mo x1.toNatClampNeg))), (2, .int (Mo x1.toNatClampNeg)), (0, .ref 0), (1, .int x1)] [.int ((Mo x1.toNatClampNeg) + (1 : Int32)), .ref 8] (wMo cy Ms Mb Mq MB My ML Mg MF MW MI MA Mr Ma Mp Mf Mt Ml Mo Mn Mm MT MP Mv Mx Mz) (by decide +kernel) rfl rfl ?_
            obtain ⟨cg, h⟩ := oob h
            refine G_iald C (a := 8) rfl cg (by decide +kernel) ?_
            obtain ⟨q18, hq18, h⟩ := obd h
            refine G_cS C lk_7_116 ⟨Nat.le_of_ble_eq_true rfl, Nat.le_of_ble_eq_true rfl⟩ (by decide +kernel) [.int (bI q18)] (c_X7_isWeight cy (Mn ((Mo x1.toNatClampNeg) + (1 : Int32)).toNatClampNeg) q18 hq18) rfl rfl (Nat.le_of_ble_eq_true rfl) rfl ?_
            refine G_if_eq C (off := 24) (tgt := 158) (by decide +kernel) rfl (fun c => ?_) (fun c => ?_)
            · rw [if_pos c] at h
              refine G_r C [(.iconst 0, 1, 0, 0, .int (0 : Int32))] 159 [(4, .int (Mn (Mo x1.toNatClampNeg).toNatClampNeg)), (3, .int ((Mo (x1 + (1 : Int32)).toNatClampNeg) - (Mo x1.toNatClampNeg))), (2, .int (Mo x1.toNatClampNeg)), (0, .ref 0), (1, .int x1)] [.int (0 : Int32)] (wMo cy Ms Mb Mq MB My ML Mg MF MW MI MA Mr Ma Mp Mf Mt Ml Mo Mn Mm MT MP Mv Mx Mz) (by decide +kernel) rfl rfl ?_
              have h := Option.some.inj h
              subst h
              exact G_zret C (v := false) hR (by decide +kernel)
            · rw [if_neg c] at h
              refine G_r C [(.aload_n 0, 1, 0, 0, .null), (.iload 4, 2, 0, 0, .null), (.aload_n 0, 1, 0, 0, .null), (.getfield 31, 3, 7, 9, .null), (.iload_n 2, 1, 0, 0, .null), (.iconst 1, 1, 0, 0, .int (1 : Int32)), (.iadd, 1, 0, 0, .null)] 147 [(4, .int (Mn (Mo x1.toNatClampNeg).toNatClampNeg)), (3, .int ((Mo (x1 + (1 : Int32)).toNatClampNeg) - (Mo x1.toNatClampNeg))), (2, .int (Mo x1.toNatClampNeg)), (0, .ref 0), (1, .int x1)] [.int ((Mo x1.toNatClampNeg) + (1 : Int32)), .ref 8, .int (Mn (Mo x1.toNatClampNeg).toNatClampNeg), .ref 0] (wMo cy Ms Mb Mq MB My ML Mg MF MW MI MA Mr Ma Mp Mf Mt Ml Mo Mn Mm MT MP Mv Mx Mz) (by decide +kernel) rfl rfl ?_
              obtain ⟨cg, h⟩ := oob h
              refine G_iald C (a := 8) rfl cg (by decide +kernel) ?_
              obtain ⟨q19, hq19, h⟩ := obd h
              refine G_c0 C lk_7_119 ⟨Nat.le_of_ble_eq_true rfl, Nat.le_of_ble_eq_true rfl⟩ (by decide +kernel) [.int (bI q19.1)] (c_X7_addPlace cy Ms Mb Mq MB My ML Mg MF MW MI MA Mr Ma Mp Mf Mt Ml Mo Mn Mm MT MP Mv Mx Mz (Mn (Mo x1.toNatClampNeg).toNatClampNeg) (Mn ((Mo x1.toNatClampNeg) + (1 : Int32)).toNatClampNeg) q19 hq19) rfl rfl (Nat.le_of_ble_eq_true rfl) ⟨rfl, rfl⟩ rfl ?_
              refine G_if_eq C (off := 7) (tgt := 158) (by decide +kernel) rfl (fun c => ?_) (fun c => ?_)
              · rw [if_pos c] at h
                refine G_r C [(.iconst 0, 1, 0, 0, .int (0 : Int32))] 159 [(4, .int (Mn (Mo x1.toNatClampNeg).toNatClampNeg)), (3, .int ((Mo (x1 + (1 : Int32)).toNatClampNeg) - (Mo x1.toNatClampNeg))), (2, .int (Mo x1.toNatClampNeg)), (0, .ref 0), (1, .int x1)] [.int (0 : Int32)] (wMo cy Ms Mb Mq MB My ML Mg MF MW MI MA q19.2.1 Ma Mp Mf Mt Ml Mo Mn q19.2.2 MT MP Mv Mx Mz) (by decide +kernel) rfl rfl ?_
                have h := Option.some.inj h
                subst h
                exact G_zret C (v := false) hR (by decide +kernel)
              · rw [if_neg c] at h
                refine G_r C [(.iconst 1, 1, 0, 0, .int (1 : Int32))] 155 [(4, .int (Mn (Mo x1.toNatClampNeg).toNatClampNeg)), (3, .int ((Mo (x1 + (1 : Int32)).toNatClampNeg) - (Mo x1.toNatClampNeg))), (2, .int (Mo x1.toNatClampNeg)), (0, .ref 0), (1, .int x1)] [.int (1 : Int32)] (wMo cy Ms Mb Mq MB My ML Mg MF MW MI MA q19.2.1 Ma Mp Mf Mt Ml Mo Mn q19.2.2 MT MP Mv Mx Mz) (by decide +kernel) rfl rfl ?_
                refine G_goto C (off := 4) (tgt := 159) (by decide +kernel) rfl ?_
                have h := Option.some.inj h
                subst h
                exact G_zret C (v := true) hR (by decide +kernel)
        · rw [if_neg c112] at h
          by_cases c115 : (Ml x1.toNatClampNeg) = (115 : Int32)
          · rw [if_pos c115] at h
            refine G_tab C (dflt := 237) (lo1 := 107) (hi := 119) (offs := #[189, 237, 68, 237, 237, 75, 237, 237, 143, 237, 237, 120, 166]) (len := 68) (tgt := 183) (by decide +kernel) rfl (by rw [c115]; rfl) ?_
            refine G_r C [(.iload 4, 2, 0, 0, .null)] 185 [(4, .int (Mn (Mo x1.toNatClampNeg).toNatClampNeg)), (3, .int ((Mo (x1 + (1 : Int32)).toNatClampNeg) - (Mo x1.toNatClampNeg))), (2, .int (Mo x1.toNatClampNeg)), (0, .ref 0), (1, .int x1)] [.int (Mn (Mo x1.toNatClampNeg).toNatClampNeg)] (wMo cy Ms Mb Mq MB My ML Mg MF MW MI MA Mr Ma Mp Mf Mt Ml Mo Mn Mm MT MP Mv Mx Mz) (by decide +kernel) rfl rfl ?_
            obtain ⟨q20, hq20, h⟩ := obd h
            refine G_cS C lk_7_113 ⟨Nat.le_of_ble_eq_true rfl, Nat.le_of_ble_eq_true rfl⟩ (by decide +kernel) [.int (bI q20)] (c_X7_isPlace cy (Mn (Mo x1.toNatClampNeg).toNatClampNeg) q20 hq20) rfl rfl (Nat.le_of_ble_eq_true rfl) rfl ?_
            refine G_if_eq C (off := 16) (tgt := 204) (by decide +kernel) rfl (fun c => ?_) (fun c => ?_)
            · rw [if_pos c] at h
              refine G_r C [(.iconst 0, 1, 0, 0, .int (0 : Int32))] 205 [(4, .int (Mn (Mo x1.toNatClampNeg).toNatClampNeg)), (3, .int ((Mo (x1 + (1 : Int32)).toNatClampNeg) - (Mo x1.toNatClampNeg))), (2, .int (Mo x1.toNatClampNeg)), (0, .ref 0), (1, .int x1)] [.int (0 : Int32)] (wMo cy Ms Mb Mq MB My ML Mg MF MW MI MA Mr Ma Mp Mf Mt Ml Mo Mn Mm MT MP Mv Mx Mz) (by decide +kernel) rfl rfl ?_
              have h := Option.some.inj h
              subst h
              exact G_zret C (v := false) hR (by decide +kernel)
            · rw [if_neg c] at h
              refine G_r C [(.aload_n 0, 1, 0, 0, .null), (.iload 4, 2, 0, 0, .null)] 194 [(4, .int (Mn (Mo x1.toNatClampNeg).toNatClampNeg)), (3, .int ((Mo (x1 + (1 : Int32)).toNatClampNeg) - (Mo x1.toNatClampNeg))), (2, .int (Mo x1.toNatClampNeg)), (0, .ref 0), (1, .int x1)] [.int (Mn (Mo x1.toNatClampNeg).toNatClampNeg), .ref 0] (wMo cy Ms Mb Mq MB My ML Mg MF MW MI MA Mr Ma Mp Mf Mt Ml Mo Mn Mm MT MP Mv Mx Mz) (by decide +kernel) rfl rfl ?_
              obtain ⟨q21, hq21, h⟩ := obd h
              refine G_c0 C lk_7_129 ⟨Nat.le_of_ble_eq_true rfl, Nat.le_of_ble_eq_true rfl⟩ (by decide +kernel) [.int (bI q21.1)] (c_X7_stretch cy Ms Mb Mq MB My ML Mg MF MW MI MA Mr Ma Mp Mf Mt Ml Mo Mn Mm MT MP Mv Mx Mz (Mn (Mo x1.toNatClampNeg).toNatClampNeg) q21 hq21) rfl rfl (Nat.le_of_ble_eq_true rfl) ⟨rfl, rfl⟩ rfl ?_
              refine G_if_eq C (off := 7) (tgt := 204) (by decide +kernel) rfl (fun c => ?_) (fun c => ?_)
              · rw [if_pos c] at h
                refine G_r C [(.iconst 0, 1, 0, 0, .int (0 : Int32))] 205 [(4, .int (Mn (Mo x1.toNatClampNeg).toNatClampNeg)), (3, .int ((Mo (x1 + (1 : Int32)).toNatClampNeg) - (Mo x1.toNatClampNeg))), (2, .int (Mo x1.toNatClampNeg)), (0, .ref 0), (1, .int x1)] [.int (0 : Int32)] (wMo cy Ms Mb Mq MB My ML Mg MF MW MI MA q21.2.1 Ma Mp Mf Mt Ml Mo Mn q21.2.2 MT MP Mv Mx Mz) (by decide +kernel) rfl rfl ?_
                have h := Option.some.inj h
                subst h
                exact G_zret C (v := false) hR (by decide +kernel)
              · rw [if_neg c] at h
                refine G_r C [(.iconst 1, 1, 0, 0, .int (1 : Int32))] 201 [(4, .int (Mn (Mo x1.toNatClampNeg).toNatClampNeg)), (3, .int ((Mo (x1 + (1 : Int32)).toNatClampNeg) - (Mo x1.toNatClampNeg))), (2, .int (Mo x1.toNatClampNeg)), (0, .ref 0), (1, .int x1)] [.int (1 : Int32)] (wMo cy Ms Mb Mq MB My ML Mg MF MW MI MA q21.2.1 Ma Mp Mf Mt Ml Mo Mn q21.2.2 MT MP Mv Mx Mz) (by decide +kernel) rfl rfl ?_
                refine G_goto C (off := 4) (tgt := 205) (by decide +kernel) rfl ?_
                have h := Option.some.inj h
                subst h
                exact G_zret C (v := true) hR (by decide +kernel)
          · rw [if_neg c115] at h
            by_cases c118 : (Ml x1.toNatClampNeg) = (118 : Int32)
            · rw [if_pos c118] at h
              refine G_tab C (dflt := 237) (lo1 := 107) (hi := 119) (offs := #[189, 237, 68, 237, 237, 75, 237, 237, 143, 237, 237, 120, 166]) (len := 68) (tgt := 160) (by decide +kernel) rfl (by rw [c118]; rfl) ?_
              refine G_r C [(.iload 4, 2, 0, 0, .null)] 162 [(4, .int (Mn (Mo x1.toNatClampNeg).toNatClampNeg)), (3, .int ((Mo (x1 + (1 : Int32)).toNatClampNeg) - (Mo x1.toNatClampNeg))), (2, .int (Mo x1.toNatClampNeg)), (0, .ref 0), (1, .int x1)] [.int (Mn (Mo x1.toNatClampNeg).toNatClampNeg)] (wMo cy Ms Mb Mq MB My ML Mg MF MW MI MA Mr Ma Mp Mf Mt Ml Mo Mn Mm MT MP Mv Mx Mz) (by decide +kernel) rfl rfl ?_
              obtain ⟨q22, hq22, h⟩ := obd h
              refine G_cS C lk_7_113 ⟨Nat.le_of_ble_eq_true rfl, Nat.le_of_ble_eq_true rfl⟩ (by decide +kernel) [.int (bI q22)] (c_X7_isPlace cy (Mn (Mo x1.toNatClampNeg).toNatClampNeg) q22 hq22) rfl rfl (Nat.le_of_ble_eq_true rfl) rfl ?_
              refine G_if_eq C (off := 16) (tgt := 181) (by decide +kernel) rfl (fun c => ?_) (fun c => ?_)
              · rw [if_pos c] at h
                refine G_r C [(.iconst 0, 1, 0, 0, .int (0 : Int32))] 182 [(4, .int (Mn (Mo x1.toNatClampNeg).toNatClampNeg)), (3, .int ((Mo (x1 + (1 : Int32)).toNatClampNeg) - (Mo x1.toNatClampNeg))), (2, .int (Mo x1.toNatClampNeg)), (0, .ref 0), (1, .int x1)] [.int (0 : Int32)] (wMo cy Ms Mb Mq MB My ML Mg MF MW MI MA Mr Ma Mp Mf Mt Ml Mo Mn Mm MT MP Mv Mx Mz) (by decide +kernel) rfl rfl ?_
                have h := Option.some.inj h
                subst h
                exact G_zret C (v := false) hR (by decide +kernel)
              · rw [if_neg c] at h
                refine G_r C [(.aload_n 0, 1, 0, 0, .null), (.iload 4, 2, 0, 0, .null)] 171 [(4, .int (Mn (Mo x1.toNatClampNeg).toNatClampNeg)), (3, .int ((Mo (x1 + (1 : Int32)).toNatClampNeg) - (Mo x1.toNatClampNeg))), (2, .int (Mo x1.toNatClampNeg)), (0, .ref 0), (1, .int x1)] [.int (Mn (Mo x1.toNatClampNeg).toNatClampNeg), .ref 0] (wMo cy Ms Mb Mq MB My ML Mg MF MW MI MA Mr Ma Mp Mf Mt Ml Mo Mn Mm MT MP Mv Mx Mz) (by decide +kernel) rfl rfl ?_
                obtain ⟨q23, hq23, h⟩ := obd h
                refine G_c0 C lk_7_123 ⟨Nat.le_of_ble_eq_true rfl, Nat.le_of_ble_eq_true rfl⟩ (by decide +kernel) [.int (bI q23.1)] (c_X7_move cy Ms Mb Mq MB My ML Mg MF MW MI MA Mr Ma Mp Mf Mt Ml Mo Mn Mm MT MP Mv Mx Mz (Mn (Mo x1.toNatClampNeg).toNatClampNeg) q23 hq23) rfl rfl (Nat.le_of_ble_eq_true rfl) ⟨rfl, rfl⟩ rfl ?_
                refine G_if_eq C (off := 7) (tgt := 181) (by decide +kernel) rfl (fun c => ?_) (fun c => ?_)
                · rw [if_pos c] at h
                  refine G_r C [(.iconst 0, 1, 0, 0, .int (0 : Int32))] 182 [(4, .int (Mn (Mo x1.toNatClampNeg).toNatClampNeg)), (3, .int ((Mo (x1 + (1 : Int32)).toNatClampNeg) - (Mo x1.toNatClampNeg))), (2, .int (Mo x1.toNatClampNeg)), (0, .ref 0), (1, .int x1)] [.int (0 : Int32)] (wMo cy Ms Mb Mq MB My ML Mg MF MW MI MA q23.2.1 Ma Mp Mf Mt Ml Mo Mn q23.2.2 MT MP Mv Mx Mz) (by decide +kernel) rfl rfl ?_
                  have h := Option.some.inj h
                  subst h
                  exact G_zret C (v := false) hR (by decide +kernel)
                · rw [if_neg c] at h
                  refine G_r C [(.iconst 1, 1, 0, 0, .int (1 : Int32))] 178 [(4, .int (Mn (Mo x1.toNatClampNeg).toNatClampNeg)), (3, .int ((Mo (x1 + (1 : Int32)).toNatClampNeg) - (Mo x1.toNatClampNeg))), (2, .int (Mo x1.toNatClampNeg)), (0, .ref 0), (1, .int x1)] [.int (1 : Int32)] (wMo cy Ms Mb Mq MB My ML Mg MF MW MI MA q23.2.1 Ma Mp Mf Mt Ml Mo Mn q23.2.2 MT MP Mv Mx Mz) (by decide +kernel) rfl rfl ?_
                  refine G_goto C (off := 4) (tgt := 182) (by decide +kernel) rfl ?_
                  have h := Option.some.inj h
                  subst h
                  exact G_zret C (v := true) hR (by decide +kernel)
            · rw [if_neg c118] at h
              by_cases c119 : (Ml x1.toNatClampNeg) = (119 : Int32)
              · rw [if_pos c119] at h
                refine G_tab C (dflt := 237) (lo1 := 107) (hi := 119) (offs := #[189, 237, 68, 237, 237, 75, 237, 237, 143, 237, 237, 120, 166]) (len := 68) (tgt := 206) (by decide +kernel) rfl (by rw [c119]; rfl) ?_
                refine G_r C [(.iload 4, 2, 0, 0, .null)] 208 [(4, .int (Mn (Mo x1.toNatClampNeg).toNatClampNeg)), (3, .int ((Mo (x1 + (1 : Int32)).toNatClampNeg) - (Mo x1.toNatClampNeg))), (2, .int (Mo x1.toNatClampNeg)), (0, .ref 0), (1, .int x1)] [.int (Mn (Mo x1.toNatClampNeg).toNatClampNeg)] (wMo cy Ms Mb Mq MB My ML Mg MF MW MI MA Mr Ma Mp Mf Mt Ml Mo Mn Mm MT MP Mv Mx Mz) (by decide +kernel) rfl rfl ?_
                obtain ⟨q24, hq24, h⟩ := obd h
                refine G_cS C lk_7_113 ⟨Nat.le_of_ble_eq_true rfl, Nat.le_of_ble_eq_true rfl⟩ (by decide +kernel) [.int (bI q24)] (c_X7_isPlace cy (Mn (Mo x1.toNatClampNeg).toNatClampNeg) q24 hq24) rfl rfl (Nat.le_of_ble_eq_true rfl) rfl ?_
                refine G_if_eq C (off := 16) (tgt := 227) (by decide +kernel) rfl (fun c => ?_) (fun c => ?_)
                · rw [if_pos c] at h
                  refine G_r C [(.iconst 0, 1, 0, 0, .int (0 : Int32))] 228 [(4, .int (Mn (Mo x1.toNatClampNeg).toNatClampNeg)), (3, .int ((Mo (x1 + (1 : Int32)).toNatClampNeg) - (Mo x1.toNatClampNeg))), (2, .int (Mo x1.toNatClampNeg)), (0, .ref 0), (1, .int x1)] [.int (0 : Int32)] (wMo cy Ms Mb Mq MB My ML Mg MF MW MI MA Mr Ma Mp Mf Mt Ml Mo Mn Mm MT MP Mv Mx Mz) (by decide +kernel) rfl rfl ?_
                  have h := Option.some.inj h
                  subst h
                  exact G_zret C (v := false) hR (by decide +kernel)
                · rw [if_neg c] at h
                  refine G_r C [(.aload_n 0, 1, 0, 0, .null), (.iload 4, 2, 0, 0, .null)] 217 [(4, .int (Mn (Mo x1.toNatClampNeg).toNatClampNeg)), (3, .int ((Mo (x1 + (1 : Int32)).toNatClampNeg) - (Mo x1.toNatClampNeg))), (2, .int (Mo x1.toNatClampNeg)), (0, .ref 0), (1, .int x1)] [.int (Mn (Mo x1.toNatClampNeg).toNatClampNeg), .ref 0] (wMo cy Ms Mb Mq MB My ML Mg MF MW MI MA Mr Ma Mp Mf Mt Ml Mo Mn Mm MT MP Mv Mx Mz) (by decide +kernel) rfl rfl ?_
                  obtain ⟨q25, hq25, h⟩ := obd h
                  refine G_c0 C lk_7_132 ⟨Nat.le_of_ble_eq_true rfl, Nat.le_of_ble_eq_true rfl⟩ (by decide +kernel) [.int (bI q25.1)] (c_X7_weigh cy Ms Mb Mq MB My ML Mg MF MW MI MA Mr Ma Mp Mf Mt Ml Mo Mn Mm MT MP Mv Mx Mz (Mn (Mo x1.toNatClampNeg).toNatClampNeg) q25 hq25) rfl rfl (Nat.le_of_ble_eq_true rfl) ⟨rfl, rfl⟩ rfl ?_
                  refine G_if_eq C (off := 7) (tgt := 227) (by decide +kernel) rfl (fun c => ?_) (fun c => ?_)
                  · rw [if_pos c] at h
                    refine G_r C [(.iconst 0, 1, 0, 0, .int (0 : Int32))] 228 [(4, .int (Mn (Mo x1.toNatClampNeg).toNatClampNeg)), (3, .int ((Mo (x1 + (1 : Int32)).toNatClampNeg) - (Mo x1.toNatClampNeg))), (2, .int (Mo x1.toNatClampNeg)), (0, .ref 0), (1, .int x1)] [.int (0 : Int32)] (wMo cy Ms Mb Mq MB My ML Mg MF MW MI MA q25.2.1 Ma Mp Mf Mt Ml Mo Mn q25.2.2 MT MP Mv Mx Mz) (by decide +kernel) rfl rfl ?_
                    have h := Option.some.inj h
                    subst h
                    exact G_zret C (v := false) hR (by decide +kernel)
                  · rw [if_neg c] at h
                    refine G_r C [(.iconst 1, 1, 0, 0, .int (1 : Int32))] 224 [(4, .int (Mn (Mo x1.toNatClampNeg).toNatClampNeg)), (3, .int ((Mo (x1 + (1 : Int32)).toNatClampNeg) - (Mo x1.toNatClampNeg))), (2, .int (Mo x1.toNatClampNeg)), (0, .ref 0), (1, .int x1)] [.int (1 : Int32)] (wMo cy Ms Mb Mq MB My ML Mg MF MW MI MA q25.2.1 Ma Mp Mf Mt Ml Mo Mn q25.2.2 MT MP Mv Mx Mz) (by decide +kernel) rfl rfl ?_
                    refine G_goto C (off := 4) (tgt := 228) (by decide +kernel) rfl ?_
                    have h := Option.some.inj h
                    subst h
                    exact G_zret C (v := true) hR (by decide +kernel)
              · rw [if_neg c119] at h
                refine G_tab C (dflt := 237) (lo1 := 107) (hi := 119) (offs := #[189, 237, 68, 237, 237, 75, 237, 237, 143, 237, 237, 120, 166]) (len := 68) (tgt := 277) (by decide +kernel) rfl (sw_X7_doOrder_40 _ (neT c107) (neT c109) (neT c112) (neT c115) (neT c118) (neT c119)) ?_
                refine G_r C [(.aload_n 0, 1, 0, 0, .null), (.getfield 7, 3, 7, 0, .null), (.bipush 7, 2, 0, 0, .int (7 : Int32))] 283 [(4, .int (Mn (Mo x1.toNatClampNeg).toNatClampNeg)), (3, .int ((Mo (x1 + (1 : Int32)).toNatClampNeg) - (Mo x1.toNatClampNeg))), (2, .int (Mo x1.toNatClampNeg)), (0, .ref 0), (1, .int x1)] [.int (7 : Int32), .ref 1] (wMo cy Ms Mb Mq MB My ML Mg MF MW MI MA Mr Ma Mp Mf Mt Ml Mo Mn Mm MT MP Mv Mx Mz) (by decide +kernel) rfl rfl ?_
                obtain ⟨cg, h⟩ := oob h
                refine G_iald C (a := 1) rfl cg (by decide +kernel) ?_
                refine G_r C [(.iconst 1, 1, 0, 0, .int (1 : Int32))] 285 [(4, .int (Mn (Mo x1.toNatClampNeg).toNatClampNeg)), (3, .int ((Mo (x1 + (1 : Int32)).toNatClampNeg) - (Mo x1.toNatClampNeg))), (2, .int (Mo x1.toNatClampNeg)), (0, .ref 0), (1, .int x1)] [.int (1 : Int32), .int (Mr (7 : Int32).toNatClampNeg)] (wMo cy Ms Mb Mq MB My ML Mg MF MW MI MA Mr Ma Mp Mf Mt Ml Mo Mn Mm MT MP Mv Mx Mz) (by decide +kernel) rfl rfl ?_
                refine G_icmp_le C (off := 7) (tgt := 292) (by decide +kernel) rfl (fun c => ?_) (fun c => ?_)
                · rw [if_pos c] at h
                  refine G_r C [(.iconst 0, 1, 0, 0, .int (0 : Int32)), (.istore 6, 2, 0, 0, .null), (.iload 6, 2, 0, 0, .null)] 297 [(6, .int (0 : Int32)), (4, .int (Mn (Mo x1.toNatClampNeg).toNatClampNeg)), (3, .int ((Mo (x1 + (1 : Int32)).toNatClampNeg) - (Mo x1.toNatClampNeg))), (2, .int (Mo x1.toNatClampNeg)), (0, .ref 0), (1, .int x1)] [.int (0 : Int32)] (wMo cy Ms Mb Mq MB My ML Mg MF MW MI MA Mr Ma Mp Mf Mt Ml Mo Mn Mm MT MP Mv Mx Mz) (by decide +kernel) rfl rfl ?_
                  refine G_if_eq C (off := 7) (tgt := 304) (by decide +kernel) rfl (fun _ => ?_) (fun c => absurd (by decide) c)
                  refine G_r C [(.iload 6, 2, 0, 0, .null)] 306 [(6, .int (0 : Int32)), (4, .int (Mn (Mo x1.toNatClampNeg).toNatClampNeg)), (3, .int ((Mo (x1 + (1 : Int32)).toNatClampNeg) - (Mo x1.toNatClampNeg))), (2, .int (Mo x1.toNatClampNeg)), (0, .ref 0), (1, .int x1)] [.int (0 : Int32)] (wMo cy Ms Mb Mq MB My ML Mg MF MW MI MA Mr Ma Mp Mf Mt Ml Mo Mn Mm MT MP Mv Mx Mz) (by decide +kernel) rfl rfl ?_
                  have h := Option.some.inj h
                  subst h
                  exact G_zret C (v := false) hR (by decide +kernel)
                · rw [if_neg c] at h
                  refine G_r C [(.iconst 1, 1, 0, 0, .int (1 : Int32))] 289 [(4, .int (Mn (Mo x1.toNatClampNeg).toNatClampNeg)), (3, .int ((Mo (x1 + (1 : Int32)).toNatClampNeg) - (Mo x1.toNatClampNeg))), (2, .int (Mo x1.toNatClampNeg)), (0, .ref 0), (1, .int x1)] [.int (1 : Int32)] (wMo cy Ms Mb Mq MB My ML Mg MF MW MI MA Mr Ma Mp Mf Mt Ml Mo Mn Mm MT MP Mv Mx Mz) (by decide +kernel) rfl rfl ?_
                  refine G_goto C (off := 4) (tgt := 293) (by decide +kernel) rfl ?_
                  refine G_r C [(.istore 6, 2, 0, 0, .null), (.iload 6, 2, 0, 0, .null)] 297 [(6, .int (1 : Int32)), (4, .int (Mn (Mo x1.toNatClampNeg).toNatClampNeg)), (3, .int ((Mo (x1 + (1 : Int32)).toNatClampNeg) - (Mo x1.toNatClampNeg))), (2, .int (Mo x1.toNatClampNeg)), (0, .ref 0), (1, .int x1)] [.int (1 : Int32)] (wMo cy Ms Mb Mq MB My ML Mg MF MW MI MA Mr Ma Mp Mf Mt Ml Mo Mn Mm MT MP Mv Mx Mz) (by decide +kernel) rfl rfl ?_
                  refine G_if_eq C (off := 7) (tgt := 304) (by decide +kernel) rfl (fun c => absurd c (by decide)) (fun _ => ?_)
                  refine G_r C [(.aload_n 0, 1, 0, 0, .null)] 301 [(6, .int (1 : Int32)), (4, .int (Mn (Mo x1.toNatClampNeg).toNatClampNeg)), (3, .int ((Mo (x1 + (1 : Int32)).toNatClampNeg) - (Mo x1.toNatClampNeg))), (2, .int (Mo x1.toNatClampNeg)), (0, .ref 0), (1, .int x1)] [.ref 0] (wMo cy Ms Mb Mq MB My ML Mg MF MW MI MA Mr Ma Mp Mf Mt Ml Mo Mn Mm MT MP Mv Mx Mz) (by decide +kernel) rfl rfl ?_
                  obtain ⟨q26, hq26, h⟩ := obd h
                  refine G_c0 C lk_7_90 ⟨Nat.le_of_ble_eq_true rfl, Nat.le_of_ble_eq_true rfl⟩ (by decide +kernel) [] (c_X7_cut cy Ms Mb Mq MB My ML Mg MF MW MI MA Mr Ma Mp Mf Mt Ml Mo Mn Mm MT MP Mv Mx Mz q26 hq26) rfl rfl (Nat.le_of_ble_eq_true rfl) ⟨rfl, rfl⟩ rfl ?_
                  refine G_r C [(.iload 6, 2, 0, 0, .null)] 306 [(6, .int (1 : Int32)), (4, .int (Mn (Mo x1.toNatClampNeg).toNatClampNeg)), (3, .int ((Mo (x1 + (1 : Int32)).toNatClampNeg) - (Mo x1.toNatClampNeg))), (2, .int (Mo x1.toNatClampNeg)), (0, .ref 0), (1, .int x1)] [.int (1 : Int32)] (wMo cy Ms Mb Mq MB My ML Mg MF MW MI MA q26 Ma Mp Mf Mt Ml Mo Mn Mm MT MP Mv Mx Mz) (by decide +kernel) rfl rfl ?_
                  have h := Option.some.inj h
                  subst h
                  exact G_zret C (v := true) hR (by decide +kernel)
