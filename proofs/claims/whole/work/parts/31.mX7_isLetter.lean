def f_X7_isLetter (x0 : Int32) : Option Bool := if x0 = (109 : Int32) then (some true) else (if x0 = (112 : Int32) then (some true) else (if x0 = (118 : Int32) then (some true) else (if x0 = (115 : Int32) then (some true) else (if x0 = (119 : Int32) then (some true) else (if x0 = (107 : Int32) then (some true) else (if x0 = (108 : Int32) then (some true) else (some false)))))))
set_option maxHeartbeats 4000000 in
set_option maxRecDepth 100000 in
theorem c_X7_isLetter (cy : Nat → ClassId)  (x0 : Int32) (res : Bool) (h : f_X7_isLetter x0 = some res) : MG cy yX7_isLetter cX7_isLetter 1 (some .boolean) 0 0 [.int x0] [] (some (.int (bI res))) [] := by
  refine MG_of (o := 7) (lv := [(0, .int x0)]) ⟨by decide +kernel, rfl⟩ (Nat.le_of_ble_eq_true rfl) rfl (fun k C hR => ?_)
  rw [f_X7_isLetter] at h
  refine G_r C [(.iload_n 0, 1, 0, 0, .null), (.bipush 109, 2, 0, 0, .int (109 : Int32))] 3 [(0, .int x0)] [.int (109 : Int32), .int x0] [] (by decide +kernel) rfl rfl ?_
  refine G_icmp_eq C (off := 39) (tgt := 42) (by decide +kernel) rfl (fun c => ?_) (fun c => ?_)
  · rw [if_pos c] at h
    refine G_r C [(.iconst 1, 1, 0, 0, .int (1 : Int32))] 43 [(0, .int x0)] [.int (1 : Int32)] [] (by decide +kernel) rfl rfl ?_
    refine G_goto C (off := 4) (tgt := 47) (by decide +kernel) rfl ?_
    have h := Option.some.inj h
    subst h
    exact G_zret C (v := true) hR (by decide +kernel)
  · rw [if_neg c] at h
    refine G_r C [(.iload_n 0, 1, 0, 0, .null), (.bipush 112, 2, 0, 0, .int (112 : Int32))] 9 [(0, .int x0)] [.int (112 : Int32), .int x0] [] (by decide +kernel) rfl rfl ?_
    refine G_icmp_eq C (off := 33) (tgt := 42) (by decide +kernel) rfl (fun c => ?_) (fun c => ?_)
    · rw [if_pos c] at h
      refine G_r C [(.iconst 1, 1, 0, 0, .int (1 : Int32))] 43 [(0, .int x0)] [.int (1 : Int32)] [] (by decide +kernel) rfl rfl ?_
      refine G_goto C (off := 4) (tgt := 47) (by decide +kernel) rfl ?_
      have h := Option.some.inj h
      subst h
      exact G_zret C (v := true) hR (by decide +kernel)
    · rw [if_neg c] at h
      refine G_r C [(.iload_n 0, 1, 0, 0, .null), (.bipush 118, 2, 0, 0, .int (118 : Int32))] 15 [(0, .int x0)] [.int (118 : Int32), .int x0] [] (by decide +kernel) rfl rfl ?_
      refine G_icmp_eq C (off := 27) (tgt := 42) (by decide +kernel) rfl (fun c => ?_) (fun c => ?_)
      · rw [if_pos c] at h
        refine G_r C [(.iconst 1, 1, 0, 0, .int (1 : Int32))] 43 [(0, .int x0)] [.int (1 : Int32)] [] (by decide +kernel) rfl rfl ?_
        refine G_goto C (off := 4) (tgt := 47) (by decide +kernel) rfl ?_
        have h := Option.some.inj h
        subst h
        exact G_zret C (v := true) hR (by decide +kernel)
      · rw [if_neg c] at h
        refine G_r C [(.iload_n 0, 1, 0, 0, .null), (.bipush 115, 2, 0, 0, .int (115 : Int32))] 21 [(0, .int x0)] [.int (115 : Int32), .int x0] [] (by decide +kernel) rfl rfl ?_
        refine G_icmp_eq C (off := 21) (tgt := 42) (by decide +kernel) rfl (fun c => ?_) (fun c => ?_)
        · rw [if_pos c] at h
          refine G_r C [(.iconst 1, 1, 0, 0, .int (1 : Int32))] 43 [(0, .int x0)] [.int (1 : Int32)] [] (by decide +kernel) rfl rfl ?_
          refine G_goto C (off := 4) (tgt := 47) (by decide +kernel) rfl ?_
          have h := Option.some.inj h
          subst h
          exact G_zret C (v := true) hR (by decide +kernel)
        · rw [if_neg c] at h
          refine G_r C [(.iload_n 0, 1, 0, 0, .null), (.bipush 119, 2, 0, 0, .int (119 : Int32))] 27 [(0, .int x0)] [.int (119 : Int32), .int x0] [] (by decide +kernel) rfl rfl ?_
          refine G_icmp_eq C (off := 15) (tgt := 42) (by decide +kernel) rfl (fun c => ?_) (fun c => ?_)
          · rw [if_pos c] at h
            refine G_r C [(.iconst 1, 1, 0, 0, .int (1 : Int32))] 43 [(0, .int x0)] [.int (1 : Int32)] [] (by decide +kernel) rfl rfl ?_
            refine G_goto C (off := 4) (tgt := 47) (by decide +kernel) rfl ?_
            have h := Option.some.inj h
            subst h
            exact G_zret C (v := true) hR (by decide +kernel)
          · rw [if_neg c] at h
            refine G_r C [(.iload_n 0, 1, 0, 0, .null), (.bipush 107, 2, 0, 0, .int (107 : Int32))] 33 [(0, .int x0)] [.int (107 : Int32), .int x0] [] (by decide +kernel) rfl rfl ?_
            refine G_icmp_eq C (off := 9) (tgt := 42) (by decide +kernel) rfl (fun c => ?_) (fun c => ?_)
            · rw [if_pos c] at h
              refine G_r C [(.iconst 1, 1, 0, 0, .int (1 : Int32))] 43 [(0, .int x0)] [.int (1 : Int32)] [] (by decide +kernel) rfl rfl ?_
              refine G_goto C (off := 4) (tgt := 47) (by decide +kernel) rfl ?_
              have h := Option.some.inj h
              subst h
              exact G_zret C (v := true) hR (by decide +kernel)
            · rw [if_neg c] at h
              refine G_r C [(.iload_n 0, 1, 0, 0, .null), (.bipush 108, 2, 0, 0, .int (108 : Int32))] 39 [(0, .int x0)] [.int (108 : Int32), .int x0] [] (by decide +kernel) rfl rfl ?_
              refine G_icmp_ne C (off := 7) (tgt := 46) (by decide +kernel) rfl (fun c => ?_) (fun c => ?_)
              · rw [if_neg c] at h
                refine G_r C [(.iconst 0, 1, 0, 0, .int (0 : Int32))] 47 [(0, .int x0)] [.int (0 : Int32)] [] (by decide +kernel) rfl rfl ?_
                have h := Option.some.inj h
                subst h
                exact G_zret C (v := false) hR (by decide +kernel)
              · rw [if_pos c] at h
                refine G_r C [(.iconst 1, 1, 0, 0, .int (1 : Int32))] 43 [(0, .int x0)] [.int (1 : Int32)] [] (by decide +kernel) rfl rfl ?_
                refine G_goto C (off := 4) (tgt := 47) (by decide +kernel) rfl ?_
                have h := Option.some.inj h
                subst h
                exact G_zret C (v := true) hR (by decide +kernel)
def f_X7_readByte (x1 : Int32) (Mq : Int32) (ML : Int32) (Mg : Int32) (MF : Int32) (MW : Bool) (MI : Bool) (MA : Int32) (Ml : Nat → Int32) (Mo : Nat → Int32) (Mn : Nat → Int32) : Option (Bool × Int32 × Int32 × Int32 × Int32 × Bool × Bool × Int32 × (Nat → Int32) × (Nat → Int32) × (Nat → Int32)) := if ML = 0 then (if x1 = (32 : Int32) then (if Mq < 0 ∨ 100 ≤ Mq.toNatClampNeg then none else if Mq < 0 ∨ 101 ≤ Mq.toNatClampNeg then none else if x1 = (32 : Int32) then (some (true, Mq, (0 : Int32), (0 : Int32), (0 : Int32), MW, MI, MA, (upd Ml Mq.toNatClampNeg x1), (upd Mo Mq.toNatClampNeg MA), Mn)) else ((f_X7_isLetter x1).bind fun q6 => if (bI q6) = 0 then (some (false, Mq, (0 : Int32), (0 : Int32), (0 : Int32), MW, MI, MA, (upd Ml Mq.toNatClampNeg x1), (upd Mo Mq.toNatClampNeg MA), Mn)) else (some (true, Mq, (0 : Int32), (0 : Int32), (0 : Int32), MW, MI, MA, (upd Ml Mq.toNatClampNeg x1), (upd Mo Mq.toNatClampNeg MA), Mn)))) else (if Mq < 0 ∨ 100 ≤ Mq.toNatClampNeg then none else if Mq < 0 ∨ 101 ≤ Mq.toNatClampNeg then none else if x1 = (32 : Int32) then (some (true, Mq, x1, (0 : Int32), (0 : Int32), MW, MI, MA, (upd Ml Mq.toNatClampNeg x1), (upd Mo Mq.toNatClampNeg MA), Mn)) else ((f_X7_isLetter x1).bind fun q5 => if (bI q5) = 0 then (some (false, Mq, x1, (0 : Int32), (0 : Int32), MW, MI, MA, (upd Ml Mq.toNatClampNeg x1), (upd Mo Mq.toNatClampNeg MA), Mn)) else (some (true, Mq, x1, (0 : Int32), (0 : Int32), MW, MI, MA, (upd Ml Mq.toNatClampNeg x1), (upd Mo Mq.toNatClampNeg MA), Mn))))) else ((f_X7_in x1.toInt64 (48 : Int64) (57 : Int64)).bind fun q1 => if (bI q1) = 0 then (if (bI MW) = 0 then (if x1 = (32 : Int32) then (some (true, Mq, ML, Mg, (0 : Int32), MW, MI, MA, Ml, Mo, Mn)) else (if x1 = (45 : Int32) then ((f_X7_beginNumber true ML Mg MF MI MA Mn).bind fun q3 => some (q3.1, Mq, ML, q3.2.1, q3.2.2.1, q3.1, q3.2.2.2.1, q3.2.2.2.2.1, Ml, Mo, q3.2.2.2.2.2)) else (if x1 = (59 : Int32) then ((f_X7_leastNumbers ML).bind fun q2 => if q2 ≤ Mg then (if (Mq + (1 : Int32)) < 0 ∨ 101 ≤ (Mq + (1 : Int32)).toNatClampNeg then none else some (true, (Mq + (1 : Int32)), (0 : Int32), Mg, MF, MW, MI, MA, Ml, (upd Mo (Mq + (1 : Int32)).toNatClampNeg MA), Mn)) else (some (false, Mq, ML, Mg, MF, MW, MI, MA, Ml, Mo, Mn))) else (some (false, Mq, ML, Mg, MF, MW, MI, MA, Ml, Mo, Mn))))) else (some (false, Mq, ML, Mg, MF, MW, MI, MA, Ml, Mo, Mn))) else (if (bI MW) = 0 then (if MF ≤ 0 then ((f_X7_beginNumber false ML Mg MF MI MA Mn).bind fun q4 => if (bI q4.1) = 0 then (some (false, Mq, ML, q4.2.1, q4.2.2.1, MW, q4.2.2.2.1, q4.2.2.2.2.1, Ml, Mo, q4.2.2.2.2.2)) else (if (q4.2.2.2.2.1 - (1 : Int32)) < 0 ∨ 100 ≤ (q4.2.2.2.2.1 - (1 : Int32)).toNatClampNeg then none else if (bI q4.2.2.2.1) = 0 then (if (q4.2.2.2.2.1 - (1 : Int32)) < 0 ∨ 100 ≤ (q4.2.2.2.2.1 - (1 : Int32)).toNatClampNeg then none else some (true, Mq, ML, q4.2.1, (q4.2.2.1 + (1 : Int32)), false, q4.2.2.2.1, q4.2.2.2.2.1, Ml, Mo, (upd q4.2.2.2.2.2 (q4.2.2.2.2.1 - (1 : Int32)).toNatClampNeg (((10 : Int32) * (q4.2.2.2.2.2 (q4.2.2.2.2.1 - (1 : Int32)).toNatClampNeg)) + (x1 - (48 : Int32)))))) else (if (q4.2.2.2.2.1 - (1 : Int32)) < 0 ∨ 100 ≤ (q4.2.2.2.2.1 - (1 : Int32)).toNatClampNeg then none else some (true, Mq, ML, q4.2.1, (q4.2.2.1 + (1 : Int32)), false, q4.2.2.2.1, q4.2.2.2.2.1, Ml, Mo, (upd q4.2.2.2.2.2 (q4.2.2.2.2.1 - (1 : Int32)).toNatClampNeg (((10 : Int32) * (q4.2.2.2.2.2 (q4.2.2.2.2.1 - (1 : Int32)).toNatClampNeg)) + ((48 : Int32) - x1))))))) else (if (3 : Int32) ≤ MF then (some (false, Mq, ML, Mg, MF, MW, MI, MA, Ml, Mo, Mn)) else (if (MA - (1 : Int32)) < 0 ∨ 100 ≤ (MA - (1 : Int32)).toNatClampNeg then none else if (bI MI) = 0 then (if (MA - (1 : Int32)) < 0 ∨ 100 ≤ (MA - (1 : Int32)).toNatClampNeg then none else some (true, Mq, ML, Mg, (MF + (1 : Int32)), false, MI, MA, Ml, Mo, (upd Mn (MA - (1 : Int32)).toNatClampNeg (((10 : Int32) * (Mn (MA - (1 : Int32)).toNatClampNeg)) + (x1 - (48 : Int32)))))) else (if (MA - (1 : Int32)) < 0 ∨ 100 ≤ (MA - (1 : Int32)).toNatClampNeg then none else some (true, Mq, ML, Mg, (MF + (1 : Int32)), false, MI, MA, Ml, Mo, (upd Mn (MA - (1 : Int32)).toNatClampNeg (((10 : Int32) * (Mn (MA - (1 : Int32)).toNatClampNeg)) + ((48 : Int32) - x1)))))))) else (if (MA - (1 : Int32)) < 0 ∨ 100 ≤ (MA - (1 : Int32)).toNatClampNeg then none else if (bI MI) = 0 then (if (MA - (1 : Int32)) < 0 ∨ 100 ≤ (MA - (1 : Int32)).toNatClampNeg then none else some (true, Mq, ML, Mg, (MF + (1 : Int32)), false, MI, MA, Ml, Mo, (upd Mn (MA - (1 : Int32)).toNatClampNeg (((10 : Int32) * (Mn (MA - (1 : Int32)).toNatClampNeg)) + (x1 - (48 : Int32)))))) else (if (MA - (1 : Int32)) < 0 ∨ 100 ≤ (MA - (1 : Int32)).toNatClampNeg then none else some (true, Mq, ML, Mg, (MF + (1 : Int32)), false, MI, MA, Ml, Mo, (upd Mn (MA - (1 : Int32)).toNatClampNeg (((10 : Int32) * (Mn (MA - (1 : Int32)).toNatClampNeg)) + ((48 : Int32) - x1))))))))
set_option maxHeartbeats 4000000 in
set_option maxRecDepth 100000 in
theorem c_X7_readByte (cy : Nat → ClassId) (Ms : Int32) (Mb : Int32) (Mq : Int32) (MB : Int64) (My : Int32) (ML : Int32) (Mg : Int32) (MF : Int32) (MW : Bool) (MI : Bool) (MA : Int32) (Mr : Nat → Int32) (Ma : Nat → Int32) (Mp : Nat → Int32) (Mf : Nat → Int32) (Mt : Nat → Int32) (Ml : Nat → Int32) (Mo : Nat → Int32) (Mn : Nat → Int32) (Mm : Nat → Int64) (MT : Nat → Int64) (MP : Nat → Int64) (Mv : Nat → Int32) (Mx : Nat → Int64) (Mz : Nat → Int64) (x1 : Int32) (res : (Bool × Int32 × Int32 × Int32 × Int32 × Bool × Bool × Int32 × (Nat → Int32) × (Nat → Int32) × (Nat → Int32))) (h : f_X7_readByte x1 Mq ML Mg MF MW MI MA Ml Mo Mn = some res) : MG cy yX7_readByte cX7_readByte 4 (some .boolean) 2 41 [.ref 0, .int x1] (wMo cy Ms Mb Mq MB My ML Mg MF MW MI MA Mr Ma Mp Mf Mt Ml Mo Mn Mm MT MP Mv Mx Mz) (some (.int (bI res.1))) (wMo cy Ms Mb res.2.1 MB My res.2.2.1 res.2.2.2.1 res.2.2.2.2.1 res.2.2.2.2.2.1 res.2.2.2.2.2.2.1 res.2.2.2.2.2.2.2.1 Mr Ma Mp Mf Mt res.2.2.2.2.2.2.2.2.1 res.2.2.2.2.2.2.2.2.2.1 res.2.2.2.2.2.2.2.2.2.2 Mm MT MP Mv Mx Mz) := by
  refine MG_of (o := 7) (lv := [(0, .ref 0), (1, .int x1)]) ⟨by decide +kernel, rfl⟩ (Nat.le_of_ble_eq_true rfl) rfl (fun k C hR => ?_)
  rw [f_X7_readByte] at h
  refine G_r C [(.aload_n 0, 1, 0, 0, .null), (.getfield 229, 3, 7, 19, .null)] 4 [(0, .ref 0), (1, .int x1)] [.int ML] (wMo cy Ms Mb Mq MB My ML Mg MF MW MI MA Mr Ma Mp Mf Mt Ml Mo Mn Mm MT MP Mv Mx Mz) (by decide +kernel) rfl rfl ?_
  refine G_if_ne C (off := 70) (tgt := 74) (by decide +kernel) rfl (fun c => ?_) (fun c => ?_)
  · rw [if_neg c] at h
    refine G_r C [(.iload_n 1, 1, 0, 0, .null), (.i2l, 1, 0, 0, .null)] 76 [(0, .ref 0), (1, .int x1)] [.long x1.toInt64] (wMo cy Ms Mb Mq MB My ML Mg MF MW MI MA Mr Ma Mp Mf Mt Ml Mo Mn Mm MT MP Mv Mx Mz) (by decide +kernel) rfl rfl ?_
    refine G_ldc2 C co_7_248 (by decide +kernel) ?_
    refine G_ldc2 C co_7_250 (by decide +kernel) ?_
    obtain ⟨q1, hq1, h⟩ := obd h
    refine G_cS C lk_7_64 ⟨Nat.le_of_ble_eq_true rfl, Nat.le_of_ble_eq_true rfl⟩ (by decide +kernel) [.int (bI q1)] (c_X7_in cy x1.toInt64 (48 : Int64) (57 : Int64) q1 hq1) rfl rfl (Nat.le_of_ble_eq_true rfl) rfl ?_
    refine G_if_eq C (off := 111) (tgt := 196) (by decide +kernel) rfl (fun c => ?_) (fun c => ?_)
    · rw [if_pos c] at h
      refine G_r C [(.aload_n 0, 1, 0, 0, .null), (.getfield 252, 3, 7, 22, .null)] 200 [(0, .ref 0), (1, .int x1)] [.int (bI MW)] (wMo cy Ms Mb Mq MB My ML Mg MF MW MI MA Mr Ma Mp Mf Mt Ml Mo Mn Mm MT MP Mv Mx Mz) (by decide +kernel) rfl rfl ?_
      refine G_if_eq C (off := 5) (tgt := 205) (by decide +kernel) rfl (fun c => ?_) (fun c => ?_)
      · rw [if_pos c] at h
        refine G_r C [(.iload_n 1, 1, 0, 0, .null), (.bipush 32, 2, 0, 0, .int (32 : Int32))] 208 [(0, .ref 0), (1, .int x1)] [.int (32 : Int32), .int x1] (wMo cy Ms Mb Mq MB My ML Mg MF MW MI MA Mr Ma Mp Mf Mt Ml Mo Mn Mm MT MP Mv Mx Mz) (by decide +kernel) rfl rfl ?_
        refine G_icmp_ne C (off := 10) (tgt := 218) (by decide +kernel) rfl (fun c => ?_) (fun c => ?_)
        · rw [if_neg c] at h
          refine G_r C [(.iload_n 1, 1, 0, 0, .null), (.bipush 45, 2, 0, 0, .int (45 : Int32))] 221 [(0, .ref 0), (1, .int x1)] [.int (45 : Int32), .int x1] (wMo cy Ms Mb Mq MB My ML Mg MF MW MI MA Mr Ma Mp Mf Mt Ml Mo Mn Mm MT MP Mv Mx Mz) (by decide +kernel) rfl rfl ?_
          refine G_icmp_ne C (off := 17) (tgt := 238) (by decide +kernel) rfl (fun c => ?_) (fun c => ?_)
          · rw [if_neg c] at h
            refine G_r C [(.iload_n 1, 1, 0, 0, .null), (.bipush 59, 2, 0, 0, .int (59 : Int32))] 241 [(0, .ref 0), (1, .int x1)] [.int (59 : Int32), .int x1] (wMo cy Ms Mb Mq MB My ML Mg MF MW MI MA Mr Ma Mp Mf Mt Ml Mo Mn Mm MT MP Mv Mx Mz) (by decide +kernel) rfl rfl ?_
            refine G_icmp_ne C (off := 17) (tgt := 258) (by decide +kernel) rfl (fun c => ?_) (fun c => ?_)
            · rw [if_neg c] at h
              refine G_r C [(.iconst 0, 1, 0, 0, .int (0 : Int32))] 259 [(0, .ref 0), (1, .int x1)] [.int (0 : Int32)] (wMo cy Ms Mb Mq MB My ML Mg MF MW MI MA Mr Ma Mp Mf Mt Ml Mo Mn Mm MT MP Mv Mx Mz) (by decide +kernel) rfl rfl ?_
              have h := Option.some.inj h
              subst h
              exact G_zret C (v := false) hR (by decide +kernel)
            · rw [if_pos c] at h
              refine G_r C [(.aload_n 0, 1, 0, 0, .null), (.getfield 226, 3, 7, 20, .null), (.aload_n 0, 1, 0, 0, .null), (.getfield 229, 3, 7, 19, .null)] 252 [(0, .ref 0), (1, .int x1)] [.int ML, .int Mg] (wMo cy Ms Mb Mq MB My ML Mg MF MW MI MA Mr Ma Mp Mf Mt Ml Mo Mn Mm MT MP Mv Mx Mz) (by decide +kernel) rfl rfl ?_
              obtain ⟨q2, hq2, h⟩ := obd h
              refine G_cS C lk_7_259 ⟨Nat.le_of_ble_eq_true rfl, Nat.le_of_ble_eq_true rfl⟩ (by decide +kernel) [.int q2, .int Mg] (c_X7_leastNumbers cy ML q2 hq2) rfl rfl (Nat.le_of_ble_eq_true rfl) rfl ?_
              refine G_icmp_ge C (off := 5) (tgt := 260) (by decide +kernel) rfl (fun c => ?_) (fun c => ?_)
              · rw [if_pos c] at h
                refine G_r C [(.aload_n 0, 1, 0, 0, .null), (.iconst 0, 1, 0, 0, .int (0 : Int32)), (.putfield 229, 3, 7, 19, .null), (.aload_n 0, 1, 0, 0, .null), (.dup, 1, 0, 0, .null), (.getfield 242, 3, 7, 10, .null), (.iconst 1, 1, 0, 0, .int (1 : Int32)), (.iadd, 1, 0, 0, .null), (.putfield 242, 3, 7, 10, .null), (.aload_n 0, 1, 0, 0, .null), (.getfield 28, 3, 7, 8, .null), (.aload_n 0, 1, 0, 0, .null), (.getfield 242, 3, 7, 10, .null), (.aload_n 0, 1, 0, 0, .null), (.getfield 239, 3, 7, 24, .null)] 287 [(0, .ref 0), (1, .int x1)] [.int MA, .int (Mq + (1 : Int32)), .ref 7] (wMo cy Ms Mb (Mq + (1 : Int32)) MB My (0 : Int32) Mg MF MW MI MA Mr Ma Mp Mf Mt Ml Mo Mn Mm MT MP Mv Mx Mz) (by decide +kernel) rfl rfl ?_
                obtain ⟨cg, h⟩ := oob h
                refine G_iast C (a := 7) (w' := (wMo cy Ms Mb (Mq + (1 : Int32)) MB My (0 : Int32) Mg MF MW MI MA Mr Ma Mp Mf Mt Ml (upd Mo (Mq + (1 : Int32)).toNatClampNeg MA) Mn Mm MT MP Mv Mx Mz)) rfl cg (by decide +kernel) rfl ?_
                refine G_r C [(.iconst 1, 1, 0, 0, .int (1 : Int32))] 289 [(0, .ref 0), (1, .int x1)] [.int (1 : Int32)] (wMo cy Ms Mb (Mq + (1 : Int32)) MB My (0 : Int32) Mg MF MW MI MA Mr Ma Mp Mf Mt Ml (upd Mo (Mq + (1 : Int32)).toNatClampNeg MA) Mn Mm MT MP Mv Mx Mz) (by decide +kernel) rfl rfl ?_
                have h := Option.some.inj h
                subst h
                exact G_zret C (v := true) hR (by decide +kernel)
              · rw [if_neg c] at h
                refine G_r C [(.iconst 0, 1, 0, 0, .int (0 : Int32))] 259 [(0, .ref 0), (1, .int x1)] [.int (0 : Int32)] (wMo cy Ms Mb Mq MB My ML Mg MF MW MI MA Mr Ma Mp Mf Mt Ml Mo Mn Mm MT MP Mv Mx Mz) (by decide +kernel) rfl rfl ?_
                have h := Option.some.inj h
                subst h
                exact G_zret C (v := false) hR (by decide +kernel)
          · rw [if_pos c] at h
            refine G_r C [(.aload_n 0, 1, 0, 0, .null), (.aload_n 0, 1, 0, 0, .null), (.iconst 1, 1, 0, 0, .int (1 : Int32))] 227 [(0, .ref 0), (1, .int x1)] [.int (1 : Int32), .ref 0, .ref 0] (wMo cy Ms Mb Mq MB My ML Mg MF MW MI MA Mr Ma Mp Mf Mt Ml Mo Mn Mm MT MP Mv Mx Mz) (by decide +kernel) rfl rfl ?_
            obtain ⟨q3, hq3, h⟩ := obd h
            refine G_c0 C lk_7_255 ⟨Nat.le_of_ble_eq_true rfl, Nat.le_of_ble_eq_true rfl⟩ (by decide +kernel) [.int (bI q3.1), .ref 0] (c_X7_beginNumber cy Ms Mb Mq MB My ML Mg MF MW MI MA Mr Ma Mp Mf Mt Ml Mo Mn Mm MT MP Mv Mx Mz true q3 hq3) rfl rfl (Nat.le_of_ble_eq_true rfl) ⟨rfl, rfl⟩ rfl ?_
            refine G_putZ C (idx := 252) (ci := 7) (kf := 22) (b := q3.1) (w' := (wMo cy Ms Mb Mq MB My ML q3.2.1 q3.2.2.1 q3.1 q3.2.2.2.1 q3.2.2.2.2.1 Mr Ma Mp Mf Mt Ml Mo q3.2.2.2.2.2 Mm MT MP Mv Mx Mz)) (by decide +kernel) rfl (Nat.le_of_ble_eq_true rfl) rfl rfl (by decide +kernel) rfl ?_
            refine G_r C [(.aload_n 0, 1, 0, 0, .null), (.getfield 252, 3, 7, 22, .null)] 237 [(0, .ref 0), (1, .int x1)] [.int (bI q3.1)] (wMo cy Ms Mb Mq MB My ML q3.2.1 q3.2.2.1 q3.1 q3.2.2.2.1 q3.2.2.2.2.1 Mr Ma Mp Mf Mt Ml Mo q3.2.2.2.2.2 Mm MT MP Mv Mx Mz) (by decide +kernel) rfl rfl ?_
            have h := Option.some.inj h
            subst h
            exact G_zret C (v := q3.1) hR (by decide +kernel)
        · rw [if_pos c] at h
          refine G_r C [(.aload_n 0, 1, 0, 0, .null), (.iconst 0, 1, 0, 0, .int (0 : Int32)), (.putfield 232, 3, 7, 21, .null), (.iconst 1, 1, 0, 0, .int (1 : Int32))] 217 [(0, .ref 0), (1, .int x1)] [.int (1 : Int32)] (wMo cy Ms Mb Mq MB My ML Mg (0 : Int32) MW MI MA Mr Ma Mp Mf Mt Ml Mo Mn Mm MT MP Mv Mx Mz) (by decide +kernel) rfl rfl ?_
          have h := Option.some.inj h
          subst h
          exact G_zret C (v := true) hR (by decide +kernel)
      · rw [if_neg c] at h
        refine G_r C [(.iconst 0, 1, 0, 0, .int (0 : Int32))] 204 [(0, .ref 0), (1, .int x1)] [.int (0 : Int32)] (wMo cy Ms Mb Mq MB My ML Mg MF MW MI MA Mr Ma Mp Mf Mt Ml Mo Mn Mm MT MP Mv Mx Mz) (by decide +kernel) rfl rfl ?_
        have h := Option.some.inj h
        subst h
        exact G_zret C (v := false) hR (by decide +kernel)
    · rw [if_neg c] at h
      refine G_r C [(.aload_n 0, 1, 0, 0, .null), (.getfield 252, 3, 7, 22, .null)] 92 [(0, .ref 0), (1, .int x1)] [.int (bI MW)] (wMo cy Ms Mb Mq MB My ML Mg MF MW MI MA Mr Ma Mp Mf Mt Ml Mo Mn Mm MT MP Mv Mx Mz) (by decide +kernel) rfl rfl ?_
      refine G_if_ne C (off := 29) (tgt := 121) (by decide +kernel) rfl (fun c => ?_) (fun c => ?_)
      · rw [if_neg c] at h
        refine G_r C [(.iconst 1, 1, 0, 0, .int (1 : Int32))] 122 [(0, .ref 0), (1, .int x1)] [.int (1 : Int32)] (wMo cy Ms Mb Mq MB My ML Mg MF MW MI MA Mr Ma Mp Mf Mt Ml Mo Mn Mm MT MP Mv Mx Mz) (by decide +kernel) rfl rfl ?_
        refine G_goto C (off := 4) (tgt := 126) (by decide +kernel) rfl ?_
        refine G_r C [(.istore_n 2, 1, 0, 0, .null), (.iload_n 2, 1, 0, 0, .null)] 128 [(2, .int (1 : Int32)), (0, .ref 0), (1, .int x1)] [.int (1 : Int32)] (wMo cy Ms Mb Mq MB My ML Mg MF MW MI MA Mr Ma Mp Mf Mt Ml Mo Mn Mm MT MP Mv Mx Mz) (by decide +kernel) rfl rfl ?_
        refine G_if_ne C (off := 5) (tgt := 133) (by decide +kernel) rfl (fun _ => ?_) (fun c => absurd c (by decide))
        refine G_r C [(.aload_n 0, 1, 0, 0, .null), (.iconst 0, 1, 0, 0, .int (0 : Int32))] 135 [(2, .int (1 : Int32)), (0, .ref 0), (1, .int x1)] [.int (0 : Int32), .ref 0] (wMo cy Ms Mb Mq MB My ML Mg MF MW MI MA Mr Ma Mp Mf Mt Ml Mo Mn Mm MT MP Mv Mx Mz) (by decide +kernel) rfl rfl ?_
        refine G_putZ C (idx := 252) (ci := 7) (kf := 22) (b := false) (w' := (wMo cy Ms Mb Mq MB My ML Mg MF false MI MA Mr Ma Mp Mf Mt Ml Mo Mn Mm MT MP Mv Mx Mz)) (by decide +kernel) rfl (Nat.le_of_ble_eq_true rfl) rfl rfl (by decide +kernel) rfl ?_
        refine G_r C [(.aload_n 0, 1, 0, 0, .null), (.getfield 31, 3, 7, 9, .null), (.aload_n 0, 1, 0, 0, .null), (.getfield 239, 3, 7, 24, .null), (.iconst 1, 1, 0, 0, .int (1 : Int32)), (.isub, 1, 0, 0, .null)] 148 [(2, .int (1 : Int32)), (0, .ref 0), (1, .int x1)] [.int (MA - (1 : Int32)), .ref 8] (wMo cy Ms Mb Mq MB My ML Mg MF false MI MA Mr Ma Mp Mf Mt Ml Mo Mn Mm MT MP Mv Mx Mz) (by decide +kernel) rfl rfl ?_
        obtain ⟨cg, h⟩ := oob h
        refine G_iald C (a := 8) rfl cg (by decide +kernel) ?_
        refine G_r C [(.istore_n 3, 1, 0, 0, .null), (.aload_n 0, 1, 0, 0, .null), (.getfield 31, 3, 7, 9, .null), (.aload_n 0, 1, 0, 0, .null), (.getfield 239, 3, 7, 24, .null), (.iconst 1, 1, 0, 0, .int (1 : Int32)), (.isub, 1, 0, 0, .null), (.bipush 10, 2, 0, 0, .int (10 : Int32)), (.iload_n 3, 1, 0, 0, .null), (.imul, 1, 0, 0, .null), (.aload_n 0, 1, 0, 0, .null), (.getfield 235, 3, 7, 23, .null)] 168 [(3, .int (Mn (MA - (1 : Int32)).toNatClampNeg)), (2, .int (1 : Int32)), (0, .ref 0), (1, .int x1)] [.int (bI MI), .int ((10 : Int32) * (Mn (MA - (1 : Int32)).toNatClampNeg)), .int (MA - (1 : Int32)), .ref 8] (wMo cy Ms Mb Mq MB My ML Mg MF false MI MA Mr Ma Mp Mf Mt Ml Mo Mn Mm MT MP Mv Mx Mz) (by decide +kernel) rfl rfl ?_
        refine G_if_eq C (off := 10) (tgt := 178) (by decide +kernel) rfl (fun c => ?_) (fun c => ?_)
        · rw [if_pos c] at h
          refine G_r C [(.iload_n 1, 1, 0, 0, .null), (.bipush 48, 2, 0, 0, .int (48 : Int32)), (.isub, 1, 0, 0, .null), (.iadd, 1, 0, 0, .null)] 183 [(3, .int (Mn (MA - (1 : Int32)).toNatClampNeg)), (2, .int (1 : Int32)), (0, .ref 0), (1, .int x1)] [.int (((10 : Int32) * (Mn (MA - (1 : Int32)).toNatClampNeg)) + (x1 - (48 : Int32))), .int (MA - (1 : Int32)), .ref 8] (wMo cy Ms Mb Mq MB My ML Mg MF false MI MA Mr Ma Mp Mf Mt Ml Mo Mn Mm MT MP Mv Mx Mz) (by decide +kernel) rfl rfl ?_
          obtain ⟨cg, h⟩ := oob h
          refine G_iast C (a := 8) (w' := (wMo cy Ms Mb Mq MB My ML Mg MF false MI MA Mr Ma Mp Mf Mt Ml Mo (upd Mn (MA - (1 : Int32)).toNatClampNeg (((10 : Int32) * (Mn (MA - (1 : Int32)).toNatClampNeg)) + (x1 - (48 : Int32)))) Mm MT MP Mv Mx Mz)) rfl cg (by decide +kernel) rfl ?_
          refine G_r C [(.aload_n 0, 1, 0, 0, .null), (.dup, 1, 0, 0, .null), (.getfield 232, 3, 7, 21, .null), (.iconst 1, 1, 0, 0, .int (1 : Int32)), (.iadd, 1, 0, 0, .null), (.putfield 232, 3, 7, 21, .null), (.iconst 1, 1, 0, 0, .int (1 : Int32))] 195 [(3, .int (Mn (MA - (1 : Int32)).toNatClampNeg)), (2, .int (1 : Int32)), (0, .ref 0), (1, .int x1)] [.int (1 : Int32)] (wMo cy Ms Mb Mq MB My ML Mg (MF + (1 : Int32)) false MI MA Mr Ma Mp Mf Mt Ml Mo (upd Mn (MA - (1 : Int32)).toNatClampNeg (((10 : Int32) * (Mn (MA - (1 : Int32)).toNatClampNeg)) + (x1 - (48 : Int32)))) Mm MT MP Mv Mx Mz) (by decide +kernel) rfl rfl ?_
          have h := Option.some.inj h
          subst h
          exact G_zret C (v := true) hR (by decide +kernel)
        · rw [if_neg c] at h
          refine G_r C [(.bipush 48, 2, 0, 0, .int (48 : Int32)), (.iload_n 1, 1, 0, 0, .null), (.isub, 1, 0, 0, .null)] 175 [(3, .int (Mn (MA - (1 : Int32)).toNatClampNeg)), (2, .int (1 : Int32)), (0, .ref 0), (1, .int x1)] [.int ((48 : Int32) - x1), .int ((10 : Int32) * (Mn (MA - (1 : Int32)).toNatClampNeg)), .int (MA - (1 : Int32)), .ref 8] (wMo cy Ms Mb Mq MB My ML Mg MF false MI MA Mr Ma Mp Mf Mt Ml Mo Mn Mm MT MP Mv Mx Mz) (by decide +kernel) rfl rfl ?_
          refine G_goto C (off := 7) (tgt := 182) (by decide +kernel) rfl ?_
          refine G_r C [(.iadd, 1, 0, 0, .null)] 183 [(3, .int (Mn (MA - (1 : Int32)).toNatClampNeg)), (2, .int (1 : Int32)), (0, .ref 0), (1, .int x1)] [.int (((10 : Int32) * (Mn (MA - (1 : Int32)).toNatClampNeg)) + ((48 : Int32) - x1)), .int (MA - (1 : Int32)), .ref 8] (wMo cy Ms Mb Mq MB My ML Mg MF false MI MA Mr Ma Mp Mf Mt Ml Mo Mn Mm MT MP Mv Mx Mz) (by decide +kernel) rfl rfl ?_
          obtain ⟨cg, h⟩ := oob h
          refine G_iast C (a := 8) (w' := (wMo cy Ms Mb Mq MB My ML Mg MF false MI MA Mr Ma Mp Mf Mt Ml Mo (upd Mn (MA - (1 : Int32)).toNatClampNeg (((10 : Int32) * (Mn (MA - (1 : Int32)).toNatClampNeg)) + ((48 : Int32) - x1))) Mm MT MP Mv Mx Mz)) rfl cg (by decide +kernel) rfl ?_
          refine G_r C [(.aload_n 0, 1, 0, 0, .null), (.dup, 1, 0, 0, .null), (.getfield 232, 3, 7, 21, .null), (.iconst 1, 1, 0, 0, .int (1 : Int32)), (.iadd, 1, 0, 0, .null), (.putfield 232, 3, 7, 21, .null), (.iconst 1, 1, 0, 0, .int (1 : Int32))] 195 [(3, .int (Mn (MA - (1 : Int32)).toNatClampNeg)), (2, .int (1 : Int32)), (0, .ref 0), (1, .int x1)] [.int (1 : Int32)] (wMo cy Ms Mb Mq MB My ML Mg (MF + (1 : Int32)) false MI MA Mr Ma Mp Mf Mt Ml Mo (upd Mn (MA - (1 : Int32)).toNatClampNeg (((10 : Int32) * (Mn (MA - (1 : Int32)).toNatClampNeg)) + ((48 : Int32) - x1))) Mm MT MP Mv Mx Mz) (by decide +kernel) rfl rfl ?_
          have h := Option.some.inj h
          subst h
          exact G_zret C (v := true) hR (by decide +kernel)
      · rw [if_pos c] at h
        refine G_r C [(.aload_n 0, 1, 0, 0, .null), (.getfield 232, 3, 7, 21, .null)] 99 [(0, .ref 0), (1, .int x1)] [.int MF] (wMo cy Ms Mb Mq MB My ML Mg MF MW MI MA Mr Ma Mp Mf Mt Ml Mo Mn Mm MT MP Mv Mx Mz) (by decide +kernel) rfl rfl ?_
        refine G_if_le C (off := 14) (tgt := 113) (by decide +kernel) rfl (fun c => ?_) (fun c => ?_)
        · rw [if_pos c] at h
          refine G_r C [(.aload_n 0, 1, 0, 0, .null), (.iconst 0, 1, 0, 0, .int (0 : Int32))] 115 [(0, .ref 0), (1, .int x1)] [.int (0 : Int32), .ref 0] (wMo cy Ms Mb Mq MB My ML Mg MF MW MI MA Mr Ma Mp Mf Mt Ml Mo Mn Mm MT MP Mv Mx Mz) (by decide +kernel) rfl rfl ?_
          obtain ⟨q4, hq4, h⟩ := obd h
          refine G_c0 C lk_7_255 ⟨Nat.le_of_ble_eq_true rfl, Nat.le_of_ble_eq_true rfl⟩ (by decide +kernel) [.int (bI q4.1)] (c_X7_beginNumber cy Ms Mb Mq MB My ML Mg MF MW MI MA Mr Ma Mp Mf Mt Ml Mo Mn Mm MT MP Mv Mx Mz false q4 hq4) rfl rfl (Nat.le_of_ble_eq_true rfl) ⟨rfl, rfl⟩ rfl ?_
          refine G_if_eq C (off := 7) (tgt := 125) (by decide +kernel) rfl (fun c => ?_) (fun c => ?_)
          · rw [if_pos c] at h
            refine G_r C [(.iconst 0, 1, 0, 0, .int (0 : Int32)), (.istore_n 2, 1, 0, 0, .null), (.iload_n 2, 1, 0, 0, .null)] 128 [(2, .int (0 : Int32)), (0, .ref 0), (1, .int x1)] [.int (0 : Int32)] (wMo cy Ms Mb Mq MB My ML q4.2.1 q4.2.2.1 MW q4.2.2.2.1 q4.2.2.2.2.1 Mr Ma Mp Mf Mt Ml Mo q4.2.2.2.2.2 Mm MT MP Mv Mx Mz) (by decide +kernel) rfl rfl ?_
            refine G_if_ne C (off := 5) (tgt := 133) (by decide +kernel) rfl (fun c => absurd (by decide) c) (fun _ => ?_)
            refine G_r C [(.iconst 0, 1, 0, 0, .int (0 : Int32))] 132 [(2, .int (0 : Int32)), (0, .ref 0), (1, .int x1)] [.int (0 : Int32)] (wMo cy Ms Mb Mq MB My ML q4.2.1 q4.2.2.1 MW q4.2.2.2.1 q4.2.2.2.2.1 Mr Ma Mp Mf Mt Ml Mo q4.2.2.2.2.2 Mm MT MP Mv Mx Mz) (by decide +kernel) rfl rfl ?_
            have h := Option.some.inj h
            subst h
            exact G_zret C (v := false) hR (by decide +kernel)
          · rw [if_neg c] at h
            refine G_r C [(.iconst 1, 1, 0, 0, .int (1 : Int32))] 122 [(0, .ref 0), (1, .int x1)] [.int (1 : Int32)] (wMo cy Ms Mb Mq MB My ML q4.2.1 q4.2.2.1 MW q4.2.2.2.1 q4.2.2.2.2.1 Mr Ma Mp Mf Mt Ml Mo q4.2.2.2.2.2 Mm MT MP Mv Mx Mz) (by decide +kernel) rfl rfl ?_
            refine G_goto C (off := 4) (tgt := 126) (by decide +kernel) rfl ?_
            refine G_r C [(.istore_n 2, 1, 0, 0, .null), (.iload_n 2, 1, 0, 0, .null)] 128 [(2, .int (1 : Int32)), (0, .ref 0), (1, .int x1)] [.int (1 : Int32)] (wMo cy Ms Mb Mq MB My ML q4.2.1 q4.2.2.1 MW q4.2.2.2.1 q4.2.2.2.2.1 Mr Ma Mp Mf Mt Ml Mo q4.2.2.2.2.2 Mm MT MP Mv Mx Mz) (by decide +kernel) rfl rfl ?_
            refine G_if_ne C (off := 5) (tgt := 133) (by decide +kernel) rfl (fun _ => ?_) (fun c => absurd c (by decide))
            refine G_r C [(.aload_n 0, 1, 0, 0, .null), (.iconst 0, 1, 0, 0, .int (0 : Int32))] 135 [(2, .int (1 : Int32)), (0, .ref 0), (1, .int x1)] [.int (0 : Int32), .ref 0] (wMo cy Ms Mb Mq MB My ML q4.2.1 q4.2.2.1 MW q4.2.2.2.1 q4.2.2.2.2.1 Mr Ma Mp Mf Mt Ml Mo q4.2.2.2.2.2 Mm MT MP Mv Mx Mz) (by decide +kernel) rfl rfl ?_
            refine G_putZ C (idx := 252) (ci := 7) (kf := 22) (b := false) (w' := (wMo cy Ms Mb Mq MB My ML q4.2.1 q4.2.2.1 false q4.2.2.2.1 q4.2.2.2.2.1 Mr Ma Mp Mf Mt Ml Mo q4.2.2.2.2.2 Mm MT MP Mv Mx Mz)) (by decide +kernel) rfl (Nat.le_of_ble_eq_true rfl) rfl rfl (by decide +kernel) rfl ?_
            refine G_r C [(.aload_n 0, 1, 0, 0, .null), (.getfield 31, 3, 7, 9, .null), (.aload_n 0, 1, 0, 0, .null), (.getfield 239, 3, 7, 24, .null), (.iconst 1, 1, 0, 0, .int (1 : Int32)), (.isub, 1, 0, 0, .null)] 148 [(2, .int (1 : Int32)), (0, .ref 0), (1, .int x1)] [.int (q4.2.2.2.2.1 - (1 : Int32)), .ref 8] (wMo cy Ms Mb Mq MB My ML q4.2.1 q4.2.2.1 false q4.2.2.2.1 q4.2.2.2.2.1 Mr Ma Mp Mf Mt Ml Mo q4.2.2.2.2.2 Mm MT MP Mv Mx Mz) (by decide +kernel) rfl rfl ?_
            obtain ⟨cg, h⟩ := oob h
            refine G_iald C (a := 8) rfl cg (by decide +kernel) ?_
            refine G_r C [(.istore_n 3, 1, 0, 0, .null), (.aload_n 0, 1, 0, 0, .null), (.getfield 31, 3, 7, 9, .null), (.aload_n 0, 1, 0, 0, .null), (.getfield 239, 3, 7, 24, .null), (.iconst 1, 1, 0, 0, .int (1 : Int32)), (.isub, 1, 0, 0, .null), (.bipush 10, 2, 0, 0, .int (10 : Int32)), (.iload_n 3, 1, 0, 0, .null), (.imul, 1, 0, 0, .null), (.aload_n 0, 1, 0, 0, .null), (.getfield 235, 3, 7, 23, .null)] 168 [(3, .int (q4.2.2.2.2.2 (q4.2.2.2.2.1 - (1 : Int32)).toNatClampNeg)), (2, .int (1 : Int32)), (0, .ref 0), (1, .int x1)] [.int (bI q4.2.2.2.1), .int ((10 : Int32) * (q4.2.2.2.2.2 (q4.2.2.2.2.1 - (1 : Int32)).toNatClampNeg)), .int (q4.2.2.2.2.1 - (1 : Int32)), .ref 8] (wMo cy Ms Mb Mq MB My ML q4.2.1 q4.2.2.1 false q4.2.2.2.1 q4.2.2.2.2.1 Mr Ma Mp Mf Mt Ml Mo q4.2.2.2.2.2 Mm MT MP Mv Mx Mz) (by decide +kernel) rfl rfl ?_
            refine G_if_eq C (off := 10) (tgt := 178) (by decide +kernel) rfl (fun c => ?_) (fun c => ?_)
            · rw [if_pos c] at h
              refine G_r C [(.iload_n 1, 1, 0, 0, .null), (.bipush 48, 2, 0, 0, .int (48 : Int32)), (.isub, 1, 0, 0, .null), (.iadd, 1, 0, 0, .null)] 183 [(3, .int (q4.2.2.2.2.2 (q4.2.2.2.2.1 - (1 : Int32)).toNatClampNeg)), (2, .int (1 : Int32)), (0, .ref 0), (1, .int x1)] [.int (((10 : Int32) * (q4.2.2.2.2.2 (q4.2.2.2.2.1 - (1 : Int32)).toNatClampNeg)) + (x1 - (48 : Int32))), .int (q4.2.2.2.2.1 - (1 : Int32)), .ref 8] (wMo cy Ms Mb Mq MB My ML q4.2.1 q4.2.2.1 false q4.2.2.2.1 q4.2.2.2.2.1 Mr Ma Mp Mf Mt Ml Mo q4.2.2.2.2.2 Mm MT MP Mv Mx Mz) (by decide +kernel) rfl rfl ?_
              obtain ⟨cg, h⟩ := oob h
              refine G_iast C (a := 8) (w' := (wMo cy Ms Mb Mq MB My ML q4.2.1 q4.2.2.1 false q4.2.2.2.1 q4.2.2.2.2.1 Mr Ma Mp Mf Mt Ml Mo (upd q4.2.2.2.2.2 (q4.2.2.2.2.1 - (1 : Int32)).toNatClampNeg (((10 : Int32) * (q4.2.2.2.2.2 (q4.2.2.2.2.1 - (1 : Int32)).toNatClampNeg)) + (x1 - (48 : Int32)))) Mm MT MP Mv Mx Mz)) rfl cg (by decide +kernel) rfl ?_
              refine G_r C [(.aload_n 0, 1, 0, 0, .null), (.dup, 1, 0, 0, .null), (.getfield 232, 3, 7, 21, .null), (.iconst 1, 1, 0, 0, .int (1 : Int32)), (.iadd, 1, 0, 0, .null), (.putfield 232, 3, 7, 21, .null), (.iconst 1, 1, 0, 0, .int (1 : Int32))] 195 [(3, .int (q4.2.2.2.2.2 (q4.2.2.2.2.1 - (1 : Int32)).toNatClampNeg)), (2, .int (1 : Int32)), (0, .ref 0), (1, .int x1)] [.int (1 : Int32)] (wMo cy Ms Mb Mq MB My ML q4.2.1 (q4.2.2.1 + (1 : Int32)) false q4.2.2.2.1 q4.2.2.2.2.1 Mr Ma Mp Mf Mt Ml Mo (upd q4.2.2.2.2.2 (q4.2.2.2.2.1 - (1 : Int32)).toNatClampNeg (((10 : Int32) * (q4.2.2.2.2.2 (q4.2.2.2.2.1 - (1 : Int32)).toNatClampNeg)) + (x1 - (48 : Int32)))) Mm MT MP Mv Mx Mz) (by decide +kernel) rfl rfl ?_
              have h := Option.some.inj h
              subst h
              exact G_zret C (v := true) hR (by decide +kernel)
            · rw [if_neg c] at h
              refine G_r C [(.bipush 48, 2, 0, 0, .int (48 : Int32)), (.iload_n 1, 1, 0, 0, .null), (.isub, 1, 0, 0, .null)] 175 [(3, .int (q4.2.2.2.2.2 (q4.2.2.2.2.1 - (1 : Int32)).toNatClampNeg)), (2, .int (1 : Int32)), (0, .ref 0), (1, .int x1)] [.int ((48 : Int32) - x1), .int ((10 : Int32) * (q4.2.2.2.2.2 (q4.2.2.2.2.1 - (1 : Int32)).toNatClampNeg)), .int (q4.2.2.2.2.1 - (1 : Int32)), .ref 8] (wMo cy Ms Mb Mq MB My ML q4.2.1 q4.2.2.1 false q4.2.2.2.1 q4.2.2.2.2.1 Mr Ma Mp Mf Mt Ml Mo q4.2.2.2.2.2 Mm MT MP Mv Mx Mz) (by decide +kernel) rfl rfl ?_
              refine G_goto C (off := 7) (tgt := 182) (by decide +kernel) rfl ?_
              refine G_r C [(.iadd, 1, 0, 0, .null)] 183 [(3, .int (q4.2.2.2.2.2 (q4.2.2.2.2.1 - (1 : Int32)).toNatClampNeg)), (2, .int (1 : Int32)), (0, .ref 0), (1, .int x1)] [.int (((10 : Int32) * (q4.2.2.2.2.2 (q4.2.2.2.2.1 - (1 : Int32)).toNatClampNeg)) + ((48 : Int32) - x1)), .int (q4.2.2.2.2.1 - (1 : Int32)), .ref 8] (wMo cy Ms Mb Mq MB My ML q4.2.1 q4.2.2.1 false q4.2.2.2.1 q4.2.2.2.2.1 Mr Ma Mp Mf Mt Ml Mo q4.2.2.2.2.2 Mm MT MP Mv Mx Mz) (by decide +kernel) rfl rfl ?_
              obtain ⟨cg, h⟩ := oob h
              refine G_iast C (a := 8) (w' := (wMo cy Ms Mb Mq MB My ML q4.2.1 q4.2.2.1 false q4.2.2.2.1 q4.2.2.2.2.1 Mr Ma Mp Mf Mt Ml Mo (upd q4.2.2.2.2.2 (q4.2.2.2.2.1 - (1 : Int32)).toNatClampNeg (((10 : Int32) * (q4.2.2.2.2.2 (q4.2.2.2.2.1 - (1 : Int32)).toNatClampNeg)) + ((48 : Int32) - x1))) Mm MT MP Mv Mx Mz)) rfl cg (by decide +kernel) rfl ?_
              refine G_r C [(.aload_n 0, 1, 0, 0, .null), (.dup, 1, 0, 0, .null), (.getfield 232, 3, 7, 21, .null), (.iconst 1, 1, 0, 0, .int (1 : Int32)), (.iadd, 1, 0, 0, .null), (.putfield 232, 3, 7, 21, .null), (.iconst 1, 1, 0, 0, .int (1 : Int32))] 195 [(3, .int (q4.2.2.2.2.2 (q4.2.2.2.2.1 - (1 : Int32)).toNatClampNeg)), (2, .int (1 : Int32)), (0, .ref 0), (1, .int x1)] [.int (1 : Int32)] (wMo cy Ms Mb Mq MB My ML q4.2.1 (q4.2.2.1 + (1 : Int32)) false q4.2.2.2.1 q4.2.2.2.2.1 Mr Ma Mp Mf Mt Ml Mo (upd q4.2.2.2.2.2 (q4.2.2.2.2.1 - (1 : Int32)).toNatClampNeg (((10 : Int32) * (q4.2.2.2.2.2 (q4.2.2.2.2.1 - (1 : Int32)).toNatClampNeg)) + ((48 : Int32) - x1))) Mm MT MP Mv Mx Mz) (by decide +kernel) rfl rfl ?_
              have h := Option.some.inj h
              subst h
              exact G_zret C (v := true) hR (by decide +kernel)
        · rw [if_neg c] at h
          refine G_r C [(.aload_n 0, 1, 0, 0, .null), (.getfield 232, 3, 7, 21, .null), (.iconst 3, 1, 0, 0, .int (3 : Int32))] 107 [(0, .ref 0), (1, .int x1)] [.int (3 : Int32), .int MF] (wMo cy Ms Mb Mq MB My ML Mg MF MW MI MA Mr Ma Mp Mf Mt Ml Mo Mn Mm MT MP Mv Mx Mz) (by decide +kernel) rfl rfl ?_
          refine G_icmp_ge C (off := 18) (tgt := 125) (by decide +kernel) rfl (fun c => ?_) (fun c => ?_)
          · rw [if_pos c] at h
            refine G_r C [(.iconst 0, 1, 0, 0, .int (0 : Int32)), (.istore_n 2, 1, 0, 0, .null), (.iload_n 2, 1, 0, 0, .null)] 128 [(2, .int (0 : Int32)), (0, .ref 0), (1, .int x1)] [.int (0 : Int32)] (wMo cy Ms Mb Mq MB My ML Mg MF MW MI MA Mr Ma Mp Mf Mt Ml Mo Mn Mm MT MP Mv Mx Mz) (by decide +kernel) rfl rfl ?_
            refine G_if_ne C (off := 5) (tgt := 133) (by decide +kernel) rfl (fun c => absurd (by decide) c) (fun _ => ?_)
            refine G_r C [(.iconst 0, 1, 0, 0, .int (0 : Int32))] 132 [(2, .int (0 : Int32)), (0, .ref 0), (1, .int x1)] [.int (0 : Int32)] (wMo cy Ms Mb Mq MB My ML Mg MF MW MI MA Mr Ma Mp Mf Mt Ml Mo Mn Mm MT MP Mv Mx Mz) (by decide +kernel) rfl rfl ?_
            have h := Option.some.inj h
            subst h
            exact G_zret C (v := false) hR (by decide +kernel)
          · rw [if_neg c] at h
            refine G_goto C (off := 11) (tgt := 121) (by decide +kernel) rfl ?_
            refine G_r C [(.iconst 1, 1, 0, 0, .int (1 : Int32))] 122 [(0, .ref 0), (1, .int x1)] [.int (1 : Int32)] (wMo cy Ms Mb Mq MB My ML Mg MF MW MI MA Mr Ma Mp Mf Mt Ml Mo Mn Mm MT MP Mv Mx Mz) (by decide +kernel) rfl rfl ?_
            refine G_goto C (off := 4) (tgt := 126) (by decide +kernel) rfl ?_
            refine G_r C [(.istore_n 2, 1, 0, 0, .null), (.iload_n 2, 1, 0, 0, .null)] 128 [(2, .int (1 : Int32)), (0, .ref 0), (1, .int x1)] [.int (1 : Int32)] (wMo cy Ms Mb Mq MB My ML Mg MF MW MI MA Mr Ma Mp Mf Mt Ml Mo Mn Mm MT MP Mv Mx Mz) (by decide +kernel) rfl rfl ?_
            refine G_if_ne C (off := 5) (tgt := 133) (by decide +kernel) rfl (fun _ => ?_) (fun c => absurd c (by decide))
            refine G_r C [(.aload_n 0, 1, 0, 0, .null), (.iconst 0, 1, 0, 0, .int (0 : Int32))] 135 [(2, .int (1 : Int32)), (0, .ref 0), (1, .int x1)] [.int (0 : Int32), .ref 0] (wMo cy Ms Mb Mq MB My ML Mg MF MW MI MA Mr Ma Mp Mf Mt Ml Mo Mn Mm MT MP Mv Mx Mz) (by decide +kernel) rfl rfl ?_
            refine G_putZ C (idx := 252) (ci := 7) (kf := 22) (b := false) (w' := (wMo cy Ms Mb Mq MB My ML Mg MF false MI MA Mr Ma Mp Mf Mt Ml Mo Mn Mm MT MP Mv Mx Mz)) (by decide +kernel) rfl (Nat.le_of_ble_eq_true rfl) rfl rfl (by decide +kernel) rfl ?_
            refine G_r C [(.aload_n 0, 1, 0, 0, .null), (.getfield 31, 3, 7, 9, .null), (.aload_n 0, 1, 0, 0, .null), (.getfield 239, 3, 7, 24, .null), (.iconst 1, 1, 0, 0, .int (1 : Int32)), (.isub, 1, 0, 0, .null)] 148 [(2, .int (1 : Int32)), (0, .ref 0), (1, .int x1)] [.int (MA - (1 : Int32)), .ref 8] (wMo cy Ms Mb Mq MB My ML Mg MF false MI MA Mr Ma Mp Mf Mt Ml Mo Mn Mm MT MP Mv Mx Mz) (by decide +kernel) rfl rfl ?_
            obtain ⟨cg, h⟩ := oob h
            refine G_iald C (a := 8) rfl cg (by decide +kernel) ?_
            refine G_r C [(.istore_n 3, 1, 0, 0, .null), (.aload_n 0, 1, 0, 0, .null), (.getfield 31, 3, 7, 9, .null), (.aload_n 0, 1, 0, 0, .null), (.getfield 239, 3, 7, 24, .null), (.iconst 1, 1, 0, 0, .int (1 : Int32)), (.isub, 1, 0, 0, .null), (.bipush 10, 2, 0, 0, .int (10 : Int32)), (.iload_n 3, 1, 0, 0, .null), (.imul, 1, 0, 0, .null), (.aload_n 0, 1, 0, 0, .null), (.getfield 235, 3, 7, 23, .null)] 168 [(3, .int (Mn (MA - (1 : Int32)).toNatClampNeg)), (2, .int (1 : Int32)), (0, .ref 0), (1, .int x1)] [.int (bI MI), .int ((10 : Int32) * (Mn (MA - (1 : Int32)).toNatClampNeg)), .int (MA - (1 : Int32)), .ref 8] (wMo cy Ms Mb Mq MB My ML Mg MF false MI MA Mr Ma Mp Mf Mt Ml Mo Mn Mm MT MP Mv Mx Mz) (by decide +kernel) rfl rfl ?_
            refine G_if_eq C (off := 10) (tgt := 178) (by decide +kernel) rfl (fun c => ?_) (fun c => ?_)
            · rw [if_pos c] at h
              refine G_r C [(.iload_n 1, 1, 0, 0, .null), (.bipush 48, 2, 0, 0, .int (48 : Int32)), (.isub, 1, 0, 0, .null), (.iadd, 1, 0, 0, .null)] 183 [(3, .int (Mn (MA - (1 : Int32)).toNatClampNeg)), (2, .int (1 : Int32)), (0, .ref 0), (1, .int x1)] [.int (((10 : Int32) * (Mn (MA - (1 : Int32)).toNatClampNeg)) + (x1 - (48 : Int32))), .int (MA - (1 : Int32)), .ref 8] (wMo cy Ms Mb Mq MB My ML Mg MF false MI MA Mr Ma Mp Mf Mt Ml Mo Mn Mm MT MP Mv Mx Mz) (by decide +kernel) rfl rfl ?_
              obtain ⟨cg, h⟩ := oob h
              refine G_iast C (a := 8) (w' := (wMo cy Ms Mb Mq MB My ML Mg MF false MI MA Mr Ma Mp Mf Mt Ml Mo (upd Mn (MA - (1 : Int32)).toNatClampNeg (((10 : Int32) * (Mn (MA - (1 : Int32)).toNatClampNeg)) + (x1 - (48 : Int32)))) Mm MT MP Mv Mx Mz)) rfl cg (by decide +kernel) rfl ?_
              refine G_r C [(.aload_n 0, 1, 0, 0, .null), (.dup, 1, 0, 0, .null), (.getfield 232, 3, 7, 21, .null), (.iconst 1, 1, 0, 0, .int (1 : Int32)), (.iadd, 1, 0, 0, .null), (.putfield 232, 3, 7, 21, .null), (.iconst 1, 1, 0, 0, .int (1 : Int32))] 195 [(3, .int (Mn (MA - (1 : Int32)).toNatClampNeg)), (2, .int (1 : Int32)), (0, .ref 0), (1, .int x1)] [.int (1 : Int32)] (wMo cy Ms Mb Mq MB My ML Mg (MF + (1 : Int32)) false MI MA Mr Ma Mp Mf Mt Ml Mo (upd Mn (MA - (1 : Int32)).toNatClampNeg (((10 : Int32) * (Mn (MA - (1 : Int32)).toNatClampNeg)) + (x1 - (48 : Int32)))) Mm MT MP Mv Mx Mz) (by decide +kernel) rfl rfl ?_
              have h := Option.some.inj h
              subst h
              exact G_zret C (v := true) hR (by decide +kernel)
            · rw [if_neg c] at h
              refine G_r C [(.bipush 48, 2, 0, 0, .int (48 : Int32)), (.iload_n 1, 1, 0, 0, .null), (.isub, 1, 0, 0, .null)] 175 [(3, .int (Mn (MA - (1 : Int32)).toNatClampNeg)), (2, .int (1 : Int32)), (0, .ref 0), (1, .int x1)] [.int ((48 : Int32) - x1), .int ((10 : Int32) * (Mn (MA - (1 : Int32)).toNatClampNeg)), .int (MA - (1 : Int32)), .ref 8] (wMo cy Ms Mb Mq MB My ML Mg MF false MI MA Mr Ma Mp Mf Mt Ml Mo Mn Mm MT MP Mv Mx Mz) (by decide +kernel) rfl rfl ?_
              refine G_goto C (off := 7) (tgt := 182) (by decide +kernel) rfl ?_
              refine G_r C [(.iadd, 1, 0, 0, .null)] 183 [(3, .int (Mn (MA - (1 : Int32)).toNatClampNeg)), (2, .int (1 : Int32)), (0, .ref 0), (1, .int x1)] [.int (((10 : Int32) * (Mn (MA - (1 : Int32)).toNatClampNeg)) + ((48 : Int32) - x1)), .int (MA - (1 : Int32)), .ref 8] (wMo cy Ms Mb Mq MB My ML Mg MF false MI MA Mr Ma Mp Mf Mt Ml Mo Mn Mm MT MP Mv Mx Mz) (by decide +kernel) rfl rfl ?_
              obtain ⟨cg, h⟩ := oob h
              refine G_iast C (a := 8) (w' := (wMo cy Ms Mb Mq MB My ML Mg MF false MI MA Mr Ma Mp Mf Mt Ml Mo (upd Mn (MA - (1 : Int32)).toNatClampNeg (((10 : Int32) * (Mn (MA - (1 : Int32)).toNatClampNeg)) + ((48 : Int32) - x1))) Mm MT MP Mv Mx Mz)) rfl cg (by decide +kernel) rfl ?_
              refine G_r C [(.aload_n 0, 1, 0, 0, .null), (.dup, 1, 0, 0, .null), (.getfield 232, 3, 7, 21, .null), (.iconst 1, 1, 0, 0, .int (1 : Int32)), (.iadd, 1, 0, 0, .null), (.putfield 232, 3, 7, 21, .null), (.iconst 1, 1, 0, 0, .int (1 : Int32))] 195 [(3, .int (Mn (MA - (1 : Int32)).toNatClampNeg)), (2, .int (1 : Int32)), (0, .ref 0), (1, .int x1)] [.int (1 : Int32)] (wMo cy Ms Mb Mq MB My ML Mg (MF + (1 : Int32)) false MI MA Mr Ma Mp Mf Mt Ml Mo (upd Mn (MA - (1 : Int32)).toNatClampNeg (((10 : Int32) * (Mn (MA - (1 : Int32)).toNatClampNeg)) + ((48 : Int32) - x1))) Mm MT MP Mv Mx Mz) (by decide +kernel) rfl rfl ?_
              have h := Option.some.inj h
              subst h
              exact G_zret C (v := true) hR (by decide +kernel)
  · rw [if_pos c] at h
    refine G_r C [(.aload_n 0, 1, 0, 0, .null), (.iload_n 1, 1, 0, 0, .null), (.bipush 32, 2, 0, 0, .int (32 : Int32))] 11 [(0, .ref 0), (1, .int x1)] [.int (32 : Int32), .int x1, .ref 0] (wMo cy Ms Mb Mq MB My ML Mg MF MW MI MA Mr Ma Mp Mf Mt Ml Mo Mn Mm MT MP Mv Mx Mz) (by decide +kernel) rfl rfl ?_
    refine G_icmp_ne C (off := 7) (tgt := 18) (by decide +kernel) rfl (fun c => ?_) (fun c => ?_)
    · rw [if_neg c] at h
      refine G_r C [(.iload_n 1, 1, 0, 0, .null), (.putfield 229, 3, 7, 19, .null), (.aload_n 0, 1, 0, 0, .null), (.iconst 0, 1, 0, 0, .int (0 : Int32)), (.putfield 226, 3, 7, 20, .null), (.aload_n 0, 1, 0, 0, .null), (.iconst 0, 1, 0, 0, .int (0 : Int32)), (.putfield 232, 3, 7, 21, .null), (.aload_n 0, 1, 0, 0, .null), (.getfield 25, 3, 7, 7, .null), (.aload_n 0, 1, 0, 0, .null), (.getfield 242, 3, 7, 10, .null), (.iload_n 1, 1, 0, 0, .null)] 41 [(0, .ref 0), (1, .int x1)] [.int x1, .int Mq, .ref 6] (wMo cy Ms Mb Mq MB My x1 (0 : Int32) (0 : Int32) MW MI MA Mr Ma Mp Mf Mt Ml Mo Mn Mm MT MP Mv Mx Mz) (by decide +kernel) rfl rfl ?_
      obtain ⟨cg, h⟩ := oob h
      refine G_iast C (a := 6) (w' := (wMo cy Ms Mb Mq MB My x1 (0 : Int32) (0 : Int32) MW MI MA Mr Ma Mp Mf Mt (upd Ml Mq.toNatClampNeg x1) Mo Mn Mm MT MP Mv Mx Mz)) rfl cg (by decide +kernel) rfl ?_
      refine G_r C [(.aload_n 0, 1, 0, 0, .null), (.getfield 28, 3, 7, 8, .null), (.aload_n 0, 1, 0, 0, .null), (.getfield 242, 3, 7, 10, .null), (.aload_n 0, 1, 0, 0, .null), (.getfield 239, 3, 7, 24, .null)] 54 [(0, .ref 0), (1, .int x1)] [.int MA, .int Mq, .ref 7] (wMo cy Ms Mb Mq MB My x1 (0 : Int32) (0 : Int32) MW MI MA Mr Ma Mp Mf Mt (upd Ml Mq.toNatClampNeg x1) Mo Mn Mm MT MP Mv Mx Mz) (by decide +kernel) rfl rfl ?_
      obtain ⟨cg, h⟩ := oob h
      refine G_iast C (a := 7) (w' := (wMo cy Ms Mb Mq MB My x1 (0 : Int32) (0 : Int32) MW MI MA Mr Ma Mp Mf Mt (upd Ml Mq.toNatClampNeg x1) (upd Mo Mq.toNatClampNeg MA) Mn Mm MT MP Mv Mx Mz)) rfl cg (by decide +kernel) rfl ?_
      refine G_r C [(.iload_n 1, 1, 0, 0, .null), (.bipush 32, 2, 0, 0, .int (32 : Int32))] 58 [(0, .ref 0), (1, .int x1)] [.int (32 : Int32), .int x1] (wMo cy Ms Mb Mq MB My x1 (0 : Int32) (0 : Int32) MW MI MA Mr Ma Mp Mf Mt (upd Ml Mq.toNatClampNeg x1) (upd Mo Mq.toNatClampNeg MA) Mn Mm MT MP Mv Mx Mz) (by decide +kernel) rfl rfl ?_
      refine G_icmp_eq C (off := 10) (tgt := 68) (by decide +kernel) rfl (fun c => ?_) (fun c => ?_)
      · rw [if_pos c] at h
        refine G_r C [(.iconst 1, 1, 0, 0, .int (1 : Int32))] 69 [(0, .ref 0), (1, .int x1)] [.int (1 : Int32)] (wMo cy Ms Mb Mq MB My x1 (0 : Int32) (0 : Int32) MW MI MA Mr Ma Mp Mf Mt (upd Ml Mq.toNatClampNeg x1) (upd Mo Mq.toNatClampNeg MA) Mn Mm MT MP Mv Mx Mz) (by decide +kernel) rfl rfl ?_
        refine G_goto C (off := 4) (tgt := 73) (by decide +kernel) rfl ?_
        have h := Option.some.inj h
        subst h
        exact G_zret C (v := true) hR (by decide +kernel)
      · rw [if_neg c] at h
        refine G_r C [(.iload_n 1, 1, 0, 0, .null)] 62 [(0, .ref 0), (1, .int x1)] [.int x1] (wMo cy Ms Mb Mq MB My x1 (0 : Int32) (0 : Int32) MW MI MA Mr Ma Mp Mf Mt (upd Ml Mq.toNatClampNeg x1) (upd Mo Mq.toNatClampNeg MA) Mn Mm MT MP Mv Mx Mz) (by decide +kernel) rfl rfl ?_
        obtain ⟨q5, hq5, h⟩ := obd h
        refine G_cS C lk_7_245 ⟨Nat.le_of_ble_eq_true rfl, Nat.le_of_ble_eq_true rfl⟩ (by decide +kernel) [.int (bI q5)] (c_X7_isLetter cy x1 q5 hq5) rfl rfl (Nat.le_of_ble_eq_true rfl) rfl ?_
        refine G_if_eq C (off := 7) (tgt := 72) (by decide +kernel) rfl (fun c => ?_) (fun c => ?_)
        · rw [if_pos c] at h
          refine G_r C [(.iconst 0, 1, 0, 0, .int (0 : Int32))] 73 [(0, .ref 0), (1, .int x1)] [.int (0 : Int32)] (wMo cy Ms Mb Mq MB My x1 (0 : Int32) (0 : Int32) MW MI MA Mr Ma Mp Mf Mt (upd Ml Mq.toNatClampNeg x1) (upd Mo Mq.toNatClampNeg MA) Mn Mm MT MP Mv Mx Mz) (by decide +kernel) rfl rfl ?_
          have h := Option.some.inj h
          subst h
          exact G_zret C (v := false) hR (by decide +kernel)
        · rw [if_neg c] at h
          refine G_r C [(.iconst 1, 1, 0, 0, .int (1 : Int32))] 69 [(0, .ref 0), (1, .int x1)] [.int (1 : Int32)] (wMo cy Ms Mb Mq MB My x1 (0 : Int32) (0 : Int32) MW MI MA Mr Ma Mp Mf Mt (upd Ml Mq.toNatClampNeg x1) (upd Mo Mq.toNatClampNeg MA) Mn Mm MT MP Mv Mx Mz) (by decide +kernel) rfl rfl ?_
          refine G_goto C (off := 4) (tgt := 73) (by decide +kernel) rfl ?_
          have h := Option.some.inj h
          subst h
          exact G_zret C (v := true) hR (by decide +kernel)
    · rw [if_pos c] at h
      refine G_r C [(.iconst 0, 1, 0, 0, .int (0 : Int32))] 15 [(0, .ref 0), (1, .int x1)] [.int (0 : Int32), .ref 0] (wMo cy Ms Mb Mq MB My ML Mg MF MW MI MA Mr Ma Mp Mf Mt Ml Mo Mn Mm MT MP Mv Mx Mz) (by decide +kernel) rfl rfl ?_
      refine G_goto C (off := 4) (tgt := 19) (by decide +kernel) rfl ?_
      refine G_r C [(.putfield 229, 3, 7, 19, .null), (.aload_n 0, 1, 0, 0, .null), (.iconst 0, 1, 0, 0, .int (0 : Int32)), (.putfield 226, 3, 7, 20, .null), (.aload_n 0, 1, 0, 0, .null), (.iconst 0, 1, 0, 0, .int (0 : Int32)), (.putfield 232, 3, 7, 21, .null), (.aload_n 0, 1, 0, 0, .null), (.getfield 25, 3, 7, 7, .null), (.aload_n 0, 1, 0, 0, .null), (.getfield 242, 3, 7, 10, .null), (.iload_n 1, 1, 0, 0, .null)] 41 [(0, .ref 0), (1, .int x1)] [.int x1, .int Mq, .ref 6] (wMo cy Ms Mb Mq MB My (0 : Int32) (0 : Int32) (0 : Int32) MW MI MA Mr Ma Mp Mf Mt Ml Mo Mn Mm MT MP Mv Mx Mz) (by decide +kernel) rfl rfl ?_
      obtain ⟨cg, h⟩ := oob h
      refine G_iast C (a := 6) (w' := (wMo cy Ms Mb Mq MB My (0 : Int32) (0 : Int32) (0 : Int32) MW MI MA Mr Ma Mp Mf Mt (upd Ml Mq.toNatClampNeg x1) Mo Mn Mm MT MP Mv Mx Mz)) rfl cg (by decide +kernel) rfl ?_
      refine G_r C [(.aload_n 0, 1, 0, 0, .null), (.getfield 28, 3, 7, 8, .null), (.aload_n 0, 1, 0, 0, .null), (.getfield 242, 3, 7, 10, .null), (.aload_n 0, 1, 0, 0, .null), (.getfield 239, 3, 7, 24, .null)] 54 [(0, .ref 0), (1, .int x1)] [.int MA, .int Mq, .ref 7] (wMo cy Ms Mb Mq MB My (0 : Int32) (0 : Int32) (0 : Int32) MW MI MA Mr Ma Mp Mf Mt (upd Ml Mq.toNatClampNeg x1) Mo Mn Mm MT MP Mv Mx Mz) (by decide +kernel) rfl rfl ?_
      obtain ⟨cg, h⟩ := oob h
      refine G_iast C (a := 7) (w' := (wMo cy Ms Mb Mq MB My (0 : Int32) (0 : Int32) (0 : Int32) MW MI MA Mr Ma Mp Mf Mt (upd Ml Mq.toNatClampNeg x1) (upd Mo Mq.toNatClampNeg MA) Mn Mm MT MP Mv Mx Mz)) rfl cg (by decide +kernel) rfl ?_
      refine G_r C [(.iload_n 1, 1, 0, 0, .null), (.bipush 32, 2, 0, 0, .int (32 : Int32))] 58 [(0, .ref 0), (1, .int x1)] [.int (32 : Int32), .int x1] (wMo cy Ms Mb Mq MB My (0 : Int32) (0 : Int32) (0 : Int32) MW MI MA Mr Ma Mp Mf Mt (upd Ml Mq.toNatClampNeg x1) (upd Mo Mq.toNatClampNeg MA) Mn Mm MT MP Mv Mx Mz) (by decide +kernel) rfl rfl ?_
      refine G_icmp_eq C (off := 10) (tgt := 68) (by decide +kernel) rfl (fun c => ?_) (fun c => ?_)
      · rw [if_pos c] at h
        refine G_r C [(.iconst 1, 1, 0, 0, .int (1 : Int32))] 69 [(0, .ref 0), (1, .int x1)] [.int (1 : Int32)] (wMo cy Ms Mb Mq MB My (0 : Int32) (0 : Int32) (0 : Int32) MW MI MA Mr Ma Mp Mf Mt (upd Ml Mq.toNatClampNeg x1) (upd Mo Mq.toNatClampNeg MA) Mn Mm MT MP Mv Mx Mz) (by decide +kernel) rfl rfl ?_
        refine G_goto C (off := 4) (tgt := 73) (by decide +kernel) rfl ?_
        have h := Option.some.inj h
        subst h
        exact G_zret C (v := true) hR (by decide +kernel)
      · rw [if_neg c] at h
        refine G_r C [(.iload_n 1, 1, 0, 0, .null)] 62 [(0, .ref 0), (1, .int x1)] [.int x1] (wMo cy Ms Mb Mq MB My (0 : Int32) (0 : Int32) (0 : Int32) MW MI MA Mr Ma Mp Mf Mt (upd Ml Mq.toNatClampNeg x1) (upd Mo Mq.toNatClampNeg MA) Mn Mm MT MP Mv Mx Mz) (by decide +kernel) rfl rfl ?_
        obtain ⟨q6, hq6, h⟩ := obd h
        refine G_cS C lk_7_245 ⟨Nat.le_of_ble_eq_true rfl, Nat.le_of_ble_eq_true rfl⟩ (by decide +kernel) [.int (bI q6)] (c_X7_isLetter cy x1 q6 hq6) rfl rfl (Nat.le_of_ble_eq_true rfl) rfl ?_
        refine G_if_eq C (off := 7) (tgt := 72) (by decide +kernel) rfl (fun c => ?_) (fun c => ?_)
        · rw [if_pos c] at h
          refine G_r C [(.iconst 0, 1, 0, 0, .int (0 : Int32))] 73 [(0, .ref 0), (1, .int x1)] [.int (0 : Int32)] (wMo cy Ms Mb Mq MB My (0 : Int32) (0 : Int32) (0 : Int32) MW MI MA Mr Ma Mp Mf Mt (upd Ml Mq.toNatClampNeg x1) (upd Mo Mq.toNatClampNeg MA) Mn Mm MT MP Mv Mx Mz) (by decide +kernel) rfl rfl ?_
          have h := Option.some.inj h
          subst h
          exact G_zret C (v := false) hR (by decide +kernel)
        · rw [if_neg c] at h
          refine G_r C [(.iconst 1, 1, 0, 0, .int (1 : Int32))] 69 [(0, .ref 0), (1, .int x1)] [.int (1 : Int32)] (wMo cy Ms Mb Mq MB My (0 : Int32) (0 : Int32) (0 : Int32) MW MI MA Mr Ma Mp Mf Mt (upd Ml Mq.toNatClampNeg x1) (upd Mo Mq.toNatClampNeg MA) Mn Mm MT MP Mv Mx Mz) (by decide +kernel) rfl rfl ?_
          refine G_goto C (off := 4) (tgt := 73) (by decide +kernel) rfl ?_
          have h := Option.some.inj h
          subst h
          exact G_zret C (v := true) hR (by decide +kernel)
def f_X7_readText_L22 : Nat → Int32 → Int32 → Int32 → Int32 → Int32 → Int32 → Bool → Bool → Int32 → (Nat → Int32) → (Nat → Int32) → (Nat → Int32) → (Nat → Int32) → Option (Int32 × Int32 × Int32 × Int32 × Int32 × Bool × Bool × Int32 × (Nat → Int32) × (Nat → Int32) × (Nat → Int32))
  | 0, _, _, _, _, _, _, _, _, _, _, _, _, _ => none
  | fu + 1, x1, Mb, Mq, ML, Mg, MF, MW, MI, MA, Mt, Ml, Mo, Mn => if Mb ≤ x1 then (if ML = 0 then (if Mq = 0 then (some (Mb, Mq, ML, Mg, MF, MW, MI, MA, Ml, Mo, Mn)) else (some ((-1000000 : Int32), Mq, ML, Mg, MF, MW, MI, MA, Ml, Mo, Mn))) else (some (Mb, Mq, ML, Mg, MF, MW, MI, MA, Ml, Mo, Mn))) else (if x1 < 0 ∨ 100 ≤ x1.toNatClampNeg then none else (f_X7_readByte (Mt x1.toNatClampNeg) Mq ML Mg MF MW MI MA Ml Mo Mn).bind fun q1 => if (bI q1.1) = 0 then (some (x1, q1.2.1, q1.2.2.1, q1.2.2.2.1, q1.2.2.2.2.1, q1.2.2.2.2.2.1, q1.2.2.2.2.2.2.1, q1.2.2.2.2.2.2.2.1, q1.2.2.2.2.2.2.2.2.1, q1.2.2.2.2.2.2.2.2.2.1, q1.2.2.2.2.2.2.2.2.2.2)) else (f_X7_readText_L22 fu (x1 + (1 : Int32)) Mb q1.2.1 q1.2.2.1 q1.2.2.2.1 q1.2.2.2.2.1 q1.2.2.2.2.2.1 q1.2.2.2.2.2.2.1 q1.2.2.2.2.2.2.2.1 Mt q1.2.2.2.2.2.2.2.2.1 q1.2.2.2.2.2.2.2.2.2.1 q1.2.2.2.2.2.2.2.2.2.2))
def f_X7_readText (Mb : Int32) (Mg : Int32) (MF : Int32) (MI : Bool) (Mt : Nat → Int32) (Ml : Nat → Int32) (Mo : Nat → Int32) (Mn : Nat → Int32) : Option (Int32 × Int32 × Int32 × Int32 × Int32 × Bool × Bool × Int32 × (Nat → Int32) × (Nat → Int32) × (Nat → Int32)) := f_X7_readText_L22 200 (0 : Int32) Mb (0 : Int32) (0 : Int32) Mg MF false MI (0 : Int32) Mt Ml Mo Mn
set_option maxHeartbeats 4000000 in
set_option maxRecDepth 100000 in
theorem g_X7_readText_L22 {k : KX} {cy : Nat → ClassId} (C : OK k cX7_readText 7 2 cy 3 64) : ∀ (fu : Nat) (x1 : Int32) (Ms : Int32) (Mb : Int32) (Mq : Int32) (MB : Int64) (My : Int32) (ML : Int32) (Mg : Int32) (MF : Int32) (MW : Bool) (MI : Bool) (MA : Int32) (Mr : Nat → Int32) (Ma : Nat → Int32) (Mp : Nat → Int32) (Mf : Nat → Int32) (Mt : Nat → Int32) (Ml : Nat → Int32) (Mo : Nat → Int32) (Mn : Nat → Int32) (Mm : Nat → Int64) (MT : Nat → Int64) (MP : Nat → Int64) (Mv : Nat → Int32) (Mx : Nat → Int64) (Mz : Nat → Int64) (res : (Int32 × Int32 × Int32 × Int32 × Int32 × Bool × Bool × Int32 × (Nat → Int32) × (Nat → Int32) × (Nat → Int32))), RT k cy (some .int) (some (.int res.1)) (wMo cy Ms Mb res.2.1 MB My res.2.2.1 res.2.2.2.1 res.2.2.2.2.1 res.2.2.2.2.2.1 res.2.2.2.2.2.2.1 res.2.2.2.2.2.2.2.1 Mr Ma Mp Mf Mt res.2.2.2.2.2.2.2.2.1 res.2.2.2.2.2.2.2.2.2.1 res.2.2.2.2.2.2.2.2.2.2 Mm MT MP Mv Mx Mz) → (f_X7_readText_L22 fu x1 Mb Mq ML Mg MF MW MI MA Mt Ml Mo Mn = some res) → G k 2 22 [(0, .ref 0), (1, .int x1)] [] (wMo cy Ms Mb Mq MB My ML Mg MF MW MI MA Mr Ma Mp Mf Mt Ml Mo Mn Mm MT MP Mv Mx Mz) := by
  intro fu
  induction fu with
  | zero =>
    intro x1 Ms Mb Mq MB My ML Mg MF MW MI MA Mr Ma Mp Mf Mt Ml Mo Mn Mm MT MP Mv Mx Mz res hR h
    rw [f_X7_readText_L22] at h
    cases h
  | succ fu ih =>
    intro x1 Ms Mb Mq MB My ML Mg MF MW MI MA Mr Ma Mp Mf Mt Ml Mo Mn Mm MT MP Mv Mx Mz res hR h
    rw [f_X7_readText_L22] at h
    refine G_r C [(.iload_n 1, 1, 0, 0, .null), (.aload_n 0, 1, 0, 0, .null), (.getfield 220, 3, 7, 6, .null)] 27 [(0, .ref 0), (1, .int x1)] [.int Mb, .int x1] (wMo cy Ms Mb Mq MB My ML Mg MF MW MI MA Mr Ma Mp Mf Mt Ml Mo Mn Mm MT MP Mv Mx Mz) (by decide +kernel) rfl rfl ?_
    refine G_icmp_ge C (off := 24) (tgt := 51) (by decide +kernel) rfl (fun c => ?_) (fun c => ?_)
    · rw [if_pos c] at h
      refine G_r C [(.aload_n 0, 1, 0, 0, .null), (.getfield 229, 3, 7, 19, .null)] 55 [(0, .ref 0), (1, .int x1)] [.int ML] (wMo cy Ms Mb Mq MB My ML Mg MF MW MI MA Mr Ma Mp Mf Mt Ml Mo Mn Mm MT MP Mv Mx Mz) (by decide +kernel) rfl rfl ?_
      refine G_if_ne C (off := 10) (tgt := 65) (by decide +kernel) rfl (fun c => ?_) (fun c => ?_)
      · rw [if_neg c] at h
        refine G_r C [(.aload_n 0, 1, 0, 0, .null), (.getfield 220, 3, 7, 6, .null)] 69 [(0, .ref 0), (1, .int x1)] [.int Mb] (wMo cy Ms Mb Mq MB My ML Mg MF MW MI MA Mr Ma Mp Mf Mt Ml Mo Mn Mm MT MP Mv Mx Mz) (by decide +kernel) rfl rfl ?_
        refine G_goto C (off := 5) (tgt := 74) (by decide +kernel) rfl ?_
        have h := Option.some.inj h
        subst h
        exact G_iret C hR (by decide +kernel)
      · rw [if_pos c] at h
        refine G_r C [(.aload_n 0, 1, 0, 0, .null), (.getfield 242, 3, 7, 10, .null)] 62 [(0, .ref 0), (1, .int x1)] [.int Mq] (wMo cy Ms Mb Mq MB My ML Mg MF MW MI MA Mr Ma Mp Mf Mt Ml Mo Mn Mm MT MP Mv Mx Mz) (by decide +kernel) rfl rfl ?_
        refine G_if_ne C (off := 10) (tgt := 72) (by decide +kernel) rfl (fun c => ?_) (fun c => ?_)
        · rw [if_neg c] at h
          refine G_ldc C co_7_177 (by decide +kernel) ?_
          have h := Option.some.inj h
          subst h
          exact G_iret C hR (by decide +kernel)
        · rw [if_pos c] at h
          refine G_r C [(.aload_n 0, 1, 0, 0, .null), (.getfield 220, 3, 7, 6, .null)] 69 [(0, .ref 0), (1, .int x1)] [.int Mb] (wMo cy Ms Mb Mq MB My ML Mg MF MW MI MA Mr Ma Mp Mf Mt Ml Mo Mn Mm MT MP Mv Mx Mz) (by decide +kernel) rfl rfl ?_
          refine G_goto C (off := 5) (tgt := 74) (by decide +kernel) rfl ?_
          have h := Option.some.inj h
          subst h
          exact G_iret C hR (by decide +kernel)
    · rw [if_neg c] at h
      refine G_r C [(.aload_n 0, 1, 0, 0, .null), (.aload_n 0, 1, 0, 0, .null), (.getfield 22, 3, 7, 5, .null), (.iload_n 1, 1, 0, 0, .null)] 36 [(0, .ref 0), (1, .int x1)] [.int x1, .ref 5, .ref 0] (wMo cy Ms Mb Mq MB My ML Mg MF MW MI MA Mr Ma Mp Mf Mt Ml Mo Mn Mm MT MP Mv Mx Mz) (by decide +kernel) rfl rfl ?_
      obtain ⟨cg, h⟩ := oob h
      refine G_iald C (a := 5) rfl cg (by decide +kernel) ?_
      obtain ⟨q1, hq1, h⟩ := obd h
      refine G_c0 C lk_7_262 ⟨Nat.le_of_ble_eq_true rfl, Nat.le_of_ble_eq_true rfl⟩ (by decide +kernel) [.int (bI q1.1)] (c_X7_readByte cy Ms Mb Mq MB My ML Mg MF MW MI MA Mr Ma Mp Mf Mt Ml Mo Mn Mm MT MP Mv Mx Mz (Mt x1.toNatClampNeg) q1 hq1) rfl rfl (Nat.le_of_ble_eq_true rfl) ⟨rfl, rfl⟩ rfl ?_
      refine G_if_ne C (off := 5) (tgt := 45) (by decide +kernel) rfl (fun c => ?_) (fun c => ?_)
      · rw [if_neg c] at h
        refine G_r C [(.iinc 1 1, 3, 0, 0, .int (1 : Int32))] 48 [(1, .int (x1 + (1 : Int32))), (0, .ref 0)] [] (wMo cy Ms Mb q1.2.1 MB My q1.2.2.1 q1.2.2.2.1 q1.2.2.2.2.1 q1.2.2.2.2.2.1 q1.2.2.2.2.2.2.1 q1.2.2.2.2.2.2.2.1 Mr Ma Mp Mf Mt q1.2.2.2.2.2.2.2.2.1 q1.2.2.2.2.2.2.2.2.2.1 q1.2.2.2.2.2.2.2.2.2.2 Mm MT MP Mv Mx Mz) (by decide +kernel) rfl rfl ?_
        refine G_goto C (off := -26) (tgt := 22) (by decide +kernel) rfl ?_
        refine G_lv [1, 0] (lv' := [(0, .ref 0), (1, .int (x1 + (1 : Int32)))]) rfl ?_
        exact ih (x1 + (1 : Int32)) Ms Mb q1.2.1 MB My q1.2.2.1 q1.2.2.2.1 q1.2.2.2.2.1 q1.2.2.2.2.2.1 q1.2.2.2.2.2.2.1 q1.2.2.2.2.2.2.2.1 Mr Ma Mp Mf Mt q1.2.2.2.2.2.2.2.2.1 q1.2.2.2.2.2.2.2.2.2.1 q1.2.2.2.2.2.2.2.2.2.2 Mm MT MP Mv Mx Mz res hR h
      · rw [if_pos c] at h
        refine G_r C [(.iload_n 1, 1, 0, 0, .null)] 44 [(0, .ref 0), (1, .int x1)] [.int x1] (wMo cy Ms Mb q1.2.1 MB My q1.2.2.1 q1.2.2.2.1 q1.2.2.2.2.1 q1.2.2.2.2.2.1 q1.2.2.2.2.2.2.1 q1.2.2.2.2.2.2.2.1 Mr Ma Mp Mf Mt q1.2.2.2.2.2.2.2.2.1 q1.2.2.2.2.2.2.2.2.2.1 q1.2.2.2.2.2.2.2.2.2.2 Mm MT MP Mv Mx Mz) (by decide +kernel) rfl rfl ?_
        have h := Option.some.inj h
        subst h
        exact G_iret C hR (by decide +kernel)
set_option maxHeartbeats 4000000 in
set_option maxRecDepth 100000 in
theorem c_X7_readText (cy : Nat → ClassId) (Ms : Int32) (Mb : Int32) (Mq : Int32) (MB : Int64) (My : Int32) (ML : Int32) (Mg : Int32) (MF : Int32) (MW : Bool) (MI : Bool) (MA : Int32) (Mr : Nat → Int32) (Ma : Nat → Int32) (Mp : Nat → Int32) (Mf : Nat → Int32) (Mt : Nat → Int32) (Ml : Nat → Int32) (Mo : Nat → Int32) (Mn : Nat → Int32) (Mm : Nat → Int64) (MT : Nat → Int64) (MP : Nat → Int64) (Mv : Nat → Int32) (Mx : Nat → Int64) (Mz : Nat → Int64)  (res : (Int32 × Int32 × Int32 × Int32 × Int32 × Bool × Bool × Int32 × (Nat → Int32) × (Nat → Int32) × (Nat → Int32))) (h : f_X7_readText Mb Mg MF MI Mt Ml Mo Mn = some res) : MG cy yX7_readText cX7_readText 2 (some .int) 3 64 [.ref 0] (wMo cy Ms Mb Mq MB My ML Mg MF MW MI MA Mr Ma Mp Mf Mt Ml Mo Mn Mm MT MP Mv Mx Mz) (some (.int res.1)) (wMo cy Ms Mb res.2.1 MB My res.2.2.1 res.2.2.2.1 res.2.2.2.2.1 res.2.2.2.2.2.1 res.2.2.2.2.2.2.1 res.2.2.2.2.2.2.2.1 Mr Ma Mp Mf Mt res.2.2.2.2.2.2.2.2.1 res.2.2.2.2.2.2.2.2.2.1 res.2.2.2.2.2.2.2.2.2.2 Mm MT MP Mv Mx Mz) := by
  refine MG_of (o := 7) (lv := [(0, .ref 0)]) ⟨by decide +kernel, rfl⟩ (Nat.le_of_ble_eq_true rfl) rfl (fun k C hR => ?_)
  rw [f_X7_readText] at h
  refine G_r C [(.aload_n 0, 1, 0, 0, .null), (.iconst 0, 1, 0, 0, .int (0 : Int32)), (.putfield 242, 3, 7, 10, .null), (.aload_n 0, 1, 0, 0, .null), (.iconst 0, 1, 0, 0, .int (0 : Int32)), (.putfield 239, 3, 7, 24, .null), (.aload_n 0, 1, 0, 0, .null), (.iconst 0, 1, 0, 0, .int (0 : Int32)), (.putfield 229, 3, 7, 19, .null), (.aload_n 0, 1, 0, 0, .null), (.iconst 0, 1, 0, 0, .int (0 : Int32))] 17 [(0, .ref 0)] [.int (0 : Int32), .ref 0] (wMo cy Ms Mb (0 : Int32) MB My (0 : Int32) Mg MF MW MI (0 : Int32) Mr Ma Mp Mf Mt Ml Mo Mn Mm MT MP Mv Mx Mz) (by decide +kernel) rfl rfl ?_
  refine G_putZ C (idx := 252) (ci := 7) (kf := 22) (b := false) (w' := (wMo cy Ms Mb (0 : Int32) MB My (0 : Int32) Mg MF false MI (0 : Int32) Mr Ma Mp Mf Mt Ml Mo Mn Mm MT MP Mv Mx Mz)) (by decide +kernel) rfl (Nat.le_of_ble_eq_true rfl) rfl rfl (by decide +kernel) rfl ?_
  refine G_r C [(.iconst 0, 1, 0, 0, .int (0 : Int32)), (.istore_n 1, 1, 0, 0, .null)] 22 [(1, .int (0 : Int32)), (0, .ref 0)] [] (wMo cy Ms Mb (0 : Int32) MB My (0 : Int32) Mg MF false MI (0 : Int32) Mr Ma Mp Mf Mt Ml Mo Mn Mm MT MP Mv Mx Mz) (by decide +kernel) rfl rfl ?_
  refine G_lv [1, 0] (lv' := [(0, .ref 0), (1, .int (0 : Int32))]) rfl ?_
  exact g_X7_readText_L22 C 200 (0 : Int32) Ms Mb (0 : Int32) MB My (0 : Int32) Mg MF false MI (0 : Int32) Mr Ma Mp Mf Mt Ml Mo Mn Mm MT MP Mv Mx Mz res hR h
def f_X7_becomeRow_L2 : Nat → Int32 → Int32 → Int32 → (Nat → Int32) → (Nat → Int64) → Option (Nat → Int64)
  | 0, _, _, _, _, _ => none
  | fu + 1, x1, x2, x3, Mn, Mm => if x2 ≤ x3 then (some Mm) else (if (x1 + x3) < 0 ∨ 100 ≤ (x1 + x3).toNatClampNeg then none else if x3 < 0 ∨ 7 ≤ x3.toNatClampNeg then none else f_X7_becomeRow_L2 fu x1 x2 (x3 + (1 : Int32)) Mn (vp_updL Mm x3.toNatClampNeg ((Mn (x1 + x3).toNatClampNeg).toInt64)))
def f_X7_becomeRow (x1 : Int32) (x2 : Int32) (Mr : Nat → Int32) (Mn : Nat → Int32) (Mm : Nat → Int64) : Option (Bool × (Nat → Int32) × (Nat → Int64)) := (f_X7_becomeRow_L2 200 x1 x2 (0 : Int32) Mn Mm).bind fun q1 => (f_X7_takeMade x2 Mr q1).bind fun q2 => some (q2.1, q2.2, q1)
set_option maxHeartbeats 4000000 in
set_option maxRecDepth 100000 in
theorem g_X7_becomeRow_L2 {k : KX} {cy : Nat → ClassId} (C : OK k cX7_becomeRow 7 4 cy 2 48) : ∀ (fu : Nat) (x1 : Int32) (x2 : Int32) (x3 : Int32) (Ms : Int32) (Mb : Int32) (Mq : Int32) (MB : Int64) (My : Int32) (ML : Int32) (Mg : Int32) (MF : Int32) (MW : Bool) (MI : Bool) (MA : Int32) (Mr : Nat → Int32) (Ma : Nat → Int32) (Mp : Nat → Int32) (Mf : Nat → Int32) (Mt : Nat → Int32) (Ml : Nat → Int32) (Mo : Nat → Int32) (Mn : Nat → Int32) (Mm : Nat → Int64) (MT : Nat → Int64) (MP : Nat → Int64) (Mv : Nat → Int32) (Mx : Nat → Int64) (Mz : Nat → Int64) (res : (Nat → Int64)), (f_X7_becomeRow_L2 fu x1 x2 x3 Mn Mm = some res) → G k 4 28 [(0, .ref 0), (2, .int x2)] [] (wMo cy Ms Mb Mq MB My ML Mg MF MW MI MA Mr Ma Mp Mf Mt Ml Mo Mn res MT MP Mv Mx Mz) → G k 4 2 [(0, .ref 0), (1, .int x1), (2, .int x2), (3, .int x3)] [] (wMo cy Ms Mb Mq MB My ML Mg MF MW MI MA Mr Ma Mp Mf Mt Ml Mo Mn Mm MT MP Mv Mx Mz) := by
  intro fu
  induction fu with
  | zero =>
    intro x1 x2 x3 Ms Mb Mq MB My ML Mg MF MW MI MA Mr Ma Mp Mf Mt Ml Mo Mn Mm MT MP Mv Mx Mz res h hex
    rw [f_X7_becomeRow_L2] at h
    cases h
  | succ fu ih =>
    intro x1 x2 x3 Ms Mb Mq MB My ML Mg MF MW MI MA Mr Ma Mp Mf Mt Ml Mo Mn Mm MT MP Mv Mx Mz res h hex
    rw [f_X7_becomeRow_L2] at h
    refine G_r C [(.iload_n 3, 1, 0, 0, .null), (.iload_n 2, 1, 0, 0, .null)] 4 [(0, .ref 0), (1, .int x1), (2, .int x2), (3, .int x3)] [.int x2, .int x3] (wMo cy Ms Mb Mq MB My ML Mg MF MW MI MA Mr Ma Mp Mf Mt Ml Mo Mn Mm MT MP Mv Mx Mz) (by decide +kernel) rfl rfl ?_
    refine G_icmp_ge C (off := 24) (tgt := 28) (by decide +kernel) rfl (fun c => ?_) (fun c => ?_)
    · rw [if_pos c] at h
      have h := Option.some.inj h
      subst h
      refine G_lv [0, 2] (lv' := [(0, .ref 0), (2, .int x2)]) rfl ?_
      exact hex
    · rw [if_neg c] at h
      refine G_r C [(.aload_n 0, 1, 0, 0, .null), (.getfield 34, 3, 7, 11, .null), (.iload_n 3, 1, 0, 0, .null), (.aload_n 0, 1, 0, 0, .null), (.getfield 31, 3, 7, 9, .null), (.iload_n 1, 1, 0, 0, .null), (.iload_n 3, 1, 0, 0, .null), (.iadd, 1, 0, 0, .null)] 19 [(0, .ref 0), (1, .int x1), (2, .int x2), (3, .int x3)] [.int (x1 + x3), .ref 8, .int x3, .ref 9] (wMo cy Ms Mb Mq MB My ML Mg MF MW MI MA Mr Ma Mp Mf Mt Ml Mo Mn Mm MT MP Mv Mx Mz) (by decide +kernel) rfl rfl ?_
      obtain ⟨cg, h⟩ := oob h
      refine G_iald C (a := 8) rfl cg (by decide +kernel) ?_
      refine G_r C [(.i2l, 1, 0, 0, .null)] 21 [(0, .ref 0), (1, .int x1), (2, .int x2), (3, .int x3)] [.long ((Mn (x1 + x3).toNatClampNeg).toInt64), .int x3, .ref 9] (wMo cy Ms Mb Mq MB My ML Mg MF MW MI MA Mr Ma Mp Mf Mt Ml Mo Mn Mm MT MP Mv Mx Mz) (by decide +kernel) rfl rfl ?_
      obtain ⟨cg, h⟩ := oob h
      refine G_last C (a := 9) (w' := (wMo cy Ms Mb Mq MB My ML Mg MF MW MI MA Mr Ma Mp Mf Mt Ml Mo Mn (vp_updL Mm x3.toNatClampNeg ((Mn (x1 + x3).toNatClampNeg).toInt64)) MT MP Mv Mx Mz)) rfl cg (by decide +kernel) rfl ?_
      refine G_r C [(.iinc 3 1, 3, 0, 0, .int (1 : Int32))] 25 [(3, .int (x3 + (1 : Int32))), (0, .ref 0), (1, .int x1), (2, .int x2)] [] (wMo cy Ms Mb Mq MB My ML Mg MF MW MI MA Mr Ma Mp Mf Mt Ml Mo Mn (vp_updL Mm x3.toNatClampNeg ((Mn (x1 + x3).toNatClampNeg).toInt64)) MT MP Mv Mx Mz) (by decide +kernel) rfl rfl ?_
      refine G_goto C (off := -23) (tgt := 2) (by decide +kernel) rfl ?_
      refine G_lv [1, 2, 3, 0] (lv' := [(0, .ref 0), (1, .int x1), (2, .int x2), (3, .int (x3 + (1 : Int32)))]) rfl ?_
      exact ih x1 x2 (x3 + (1 : Int32)) Ms Mb Mq MB My ML Mg MF MW MI MA Mr Ma Mp Mf Mt Ml Mo Mn (vp_updL Mm x3.toNatClampNeg ((Mn (x1 + x3).toNatClampNeg).toInt64)) MT MP Mv Mx Mz res h hex
set_option maxHeartbeats 4000000 in
set_option maxRecDepth 100000 in
theorem c_X7_becomeRow (cy : Nat → ClassId) (Ms : Int32) (Mb : Int32) (Mq : Int32) (MB : Int64) (My : Int32) (ML : Int32) (Mg : Int32) (MF : Int32) (MW : Bool) (MI : Bool) (MA : Int32) (Mr : Nat → Int32) (Ma : Nat → Int32) (Mp : Nat → Int32) (Mf : Nat → Int32) (Mt : Nat → Int32) (Ml : Nat → Int32) (Mo : Nat → Int32) (Mn : Nat → Int32) (Mm : Nat → Int64) (MT : Nat → Int64) (MP : Nat → Int64) (Mv : Nat → Int32) (Mx : Nat → Int64) (Mz : Nat → Int64) (x1 : Int32) (x2 : Int32) (res : (Bool × (Nat → Int32) × (Nat → Int64))) (h : f_X7_becomeRow x1 x2 Mr Mn Mm = some res) : MG cy yX7_becomeRow cX7_becomeRow 4 (some .boolean) 2 48 [.ref 0, .int x1, .int x2] (wMo cy Ms Mb Mq MB My ML Mg MF MW MI MA Mr Ma Mp Mf Mt Ml Mo Mn Mm MT MP Mv Mx Mz) (some (.int (bI res.1))) (wMo cy Ms Mb Mq MB My ML Mg MF MW MI MA res.2.1 Ma Mp Mf Mt Ml Mo Mn res.2.2 MT MP Mv Mx Mz) := by
  refine MG_of (o := 7) (lv := [(0, .ref 0), (1, .int x1), (2, .int x2)]) ⟨by decide +kernel, rfl⟩ (Nat.le_of_ble_eq_true rfl) rfl (fun k C hR => ?_)
  rw [f_X7_becomeRow] at h
  refine G_r C [(.iconst 0, 1, 0, 0, .int (0 : Int32)), (.istore_n 3, 1, 0, 0, .null)] 2 [(3, .int (0 : Int32)), (0, .ref 0), (1, .int x1), (2, .int x2)] [] (wMo cy Ms Mb Mq MB My ML Mg MF MW MI MA Mr Ma Mp Mf Mt Ml Mo Mn Mm MT MP Mv Mx Mz) (by decide +kernel) rfl rfl ?_
  obtain ⟨q1, hq1, h⟩ := obd h
  refine G_lv [1, 2, 3, 0] (lv' := [(0, .ref 0), (1, .int x1), (2, .int x2), (3, .int (0 : Int32))]) rfl ?_
  refine g_X7_becomeRow_L2 C 200 x1 x2 (0 : Int32) Ms Mb Mq MB My ML Mg MF MW MI MA Mr Ma Mp Mf Mt Ml Mo Mn Mm MT MP Mv Mx Mz q1 hq1 ?_
  refine G_r C [(.aload_n 0, 1, 0, 0, .null), (.iload_n 2, 1, 0, 0, .null)] 30 [(0, .ref 0), (2, .int x2)] [.int x2, .ref 0] (wMo cy Ms Mb Mq MB My ML Mg MF MW MI MA Mr Ma Mp Mf Mt Ml Mo Mn q1 MT MP Mv Mx Mz) (by decide +kernel) rfl rfl ?_
  obtain ⟨q2, hq2, h⟩ := obd h
  refine G_c0 C lk_7_97 ⟨Nat.le_of_ble_eq_true rfl, Nat.le_of_ble_eq_true rfl⟩ (by decide +kernel) [.int (bI q2.1)] (c_X7_takeMade cy Ms Mb Mq MB My ML Mg MF MW MI MA Mr Ma Mp Mf Mt Ml Mo Mn q1 MT MP Mv Mx Mz x2 q2 hq2) rfl rfl (Nat.le_of_ble_eq_true rfl) ⟨rfl, rfl⟩ rfl ?_
  have h := Option.some.inj h
  subst h
  exact G_zret C (v := q2.1) hR (by decide +kernel)
