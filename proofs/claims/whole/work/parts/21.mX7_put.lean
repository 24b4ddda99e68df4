def f_X7_put (x1 : Int32) (Mr : Nat → Int32) : Option (Nat → Int32) := if (7 : Int32) < 0 ∨ 8 ≤ (7 : Int32).toNatClampNeg then none else if (Mr (7 : Int32).toNatClampNeg) < 0 ∨ 8 ≤ (Mr (7 : Int32).toNatClampNeg).toNatClampNeg then none else if (7 : Int32) < 0 ∨ 8 ≤ (7 : Int32).toNatClampNeg then none else if (7 : Int32) < 0 ∨ 8 ≤ (7 : Int32).toNatClampNeg then none else some (upd (upd Mr (Mr (7 : Int32).toNatClampNeg).toNatClampNeg x1) (7 : Int32).toNatClampNeg (((upd Mr (Mr (7 : Int32).toNatClampNeg).toNatClampNeg x1) (7 : Int32).toNatClampNeg) + (1 : Int32)))
set_option maxHeartbeats 4000000 in
set_option maxRecDepth 100000 in
theorem c_X7_put (cy : Nat → ClassId) (Ms : Int32) (Mb : Int32) (Mq : Int32) (MB : Int64) (My : Int32) (ML : Int32) (Mg : Int32) (MF : Int32) (MW : Bool) (MI : Bool) (MA : Int32) (Mr : Nat → Int32) (Ma : Nat → Int32) (Mp : Nat → Int32) (Mf : Nat → Int32) (Mt : Nat → Int32) (Ml : Nat → Int32) (Mo : Nat → Int32) (Mn : Nat → Int32) (Mm : Nat → Int64) (MT : Nat → Int64) (MP : Nat → Int64) (Mv : Nat → Int32) (Mx : Nat → Int64) (Mz : Nat → Int64) (x1 : Int32) (res : (Nat → Int32)) (h : f_X7_put x1 Mr = some res) : MG cy yX7_put cX7_put 2 none 0 0 [.ref 0, .int x1] (wMo cy Ms Mb Mq MB My ML Mg MF MW MI MA Mr Ma Mp Mf Mt Ml Mo Mn Mm MT MP Mv Mx Mz) none (wMo cy Ms Mb Mq MB My ML Mg MF MW MI MA res Ma Mp Mf Mt Ml Mo Mn Mm MT MP Mv Mx Mz) := by
  refine MG_of (o := 7) (lv := [(0, .ref 0), (1, .int x1)]) ⟨by decide +kernel, rfl⟩ (Nat.le_of_ble_eq_true rfl) rfl (fun k C hR => ?_)
  rw [f_X7_put] at h
  refine G_r C [(.aload_n 0, 1, 0, 0, .null), (.getfield 7, 3, 7, 0, .null), (.aload_n 0, 1, 0, 0, .null), (.getfield 7, 3, 7, 0, .null), (.bipush 7, 2, 0, 0, .int (7 : Int32))] 10 [(0, .ref 0), (1, .int x1)] [.int (7 : Int32), .ref 1, .ref 1] (wMo cy Ms Mb Mq MB My ML Mg MF MW MI MA Mr Ma Mp Mf Mt Ml Mo Mn Mm MT MP Mv Mx Mz) (by decide +kernel) rfl rfl ?_
  obtain ⟨cg, h⟩ := oob h
  refine G_iald C (a := 1) rfl cg (by decide +kernel) ?_
  refine G_r C [(.iload_n 1, 1, 0, 0, .null)] 12 [(0, .ref 0), (1, .int x1)] [.int x1, .int (Mr (7 : Int32).toNatClampNeg), .ref 1] (wMo cy Ms Mb Mq MB My ML Mg MF MW MI MA Mr Ma Mp Mf Mt Ml Mo Mn Mm MT MP Mv Mx Mz) (by decide +kernel) rfl rfl ?_
  obtain ⟨cg, h⟩ := oob h
  refine G_iast C (a := 1) (w' := (wMo cy Ms Mb Mq MB My ML Mg MF MW MI MA (upd Mr (Mr (7 : Int32).toNatClampNeg).toNatClampNeg x1) Ma Mp Mf Mt Ml Mo Mn Mm MT MP Mv Mx Mz)) rfl cg (by decide +kernel) rfl ?_
  refine G_r C [(.aload_n 0, 1, 0, 0, .null), (.getfield 7, 3, 7, 0, .null), (.bipush 7, 2, 0, 0, .int (7 : Int32)), (.dup2, 1, 0, 0, .null)] 20 [(0, .ref 0), (1, .int x1)] [.int (7 : Int32), .ref 1, .int (7 : Int32), .ref 1] (wMo cy Ms Mb Mq MB My ML Mg MF MW MI MA (upd Mr (Mr (7 : Int32).toNatClampNeg).toNatClampNeg x1) Ma Mp Mf Mt Ml Mo Mn Mm MT MP Mv Mx Mz) (by decide +kernel) rfl rfl ?_
  obtain ⟨cg, h⟩ := oob h
  refine G_iald C (a := 1) rfl cg (by decide +kernel) ?_
  refine G_r C [(.iconst 1, 1, 0, 0, .int (1 : Int32)), (.iadd, 1, 0, 0, .null)] 23 [(0, .ref 0), (1, .int x1)] [.int (((upd Mr (Mr (7 : Int32).toNatClampNeg).toNatClampNeg x1) (7 : Int32).toNatClampNeg) + (1 : Int32)), .int (7 : Int32), .ref 1] (wMo cy Ms Mb Mq MB My ML Mg MF MW MI MA (upd Mr (Mr (7 : Int32).toNatClampNeg).toNatClampNeg x1) Ma Mp Mf Mt Ml Mo Mn Mm MT MP Mv Mx Mz) (by decide +kernel) rfl rfl ?_
  obtain ⟨cg, h⟩ := oob h
  refine G_iast C (a := 1) (w' := (wMo cy Ms Mb Mq MB My ML Mg MF MW MI MA (upd (upd Mr (Mr (7 : Int32).toNatClampNeg).toNatClampNeg x1) (7 : Int32).toNatClampNeg (((upd Mr (Mr (7 : Int32).toNatClampNeg).toNatClampNeg x1) (7 : Int32).toNatClampNeg) + (1 : Int32))) Ma Mp Mf Mt Ml Mo Mn Mm MT MP Mv Mx Mz)) rfl cg (by decide +kernel) rfl ?_
  have h := Option.some.inj h
  subst h
  exact G_vret C hR (by decide +kernel)
def f_X7_full (Mf : Nat → Int32) : Option (Int32 × (Nat → Int32)) := if (2 : Int32) < 0 ∨ 3 ≤ (2 : Int32).toNatClampNeg then none else if (2 : Int32) < 0 ∨ 3 ≤ (2 : Int32).toNatClampNeg then none else some ((-1000003 : Int32), (upd Mf (2 : Int32).toNatClampNeg ((Mf (2 : Int32).toNatClampNeg) + (1 : Int32))))
set_option maxHeartbeats 4000000 in
set_option maxRecDepth 100000 in
theorem c_X7_full (cy : Nat → ClassId) (Ms : Int32) (Mb : Int32) (Mq : Int32) (MB : Int64) (My : Int32) (ML : Int32) (Mg : Int32) (MF : Int32) (MW : Bool) (MI : Bool) (MA : Int32) (Mr : Nat → Int32) (Ma : Nat → Int32) (Mp : Nat → Int32) (Mf : Nat → Int32) (Mt : Nat → Int32) (Ml : Nat → Int32) (Mo : Nat → Int32) (Mn : Nat → Int32) (Mm : Nat → Int64) (MT : Nat → Int64) (MP : Nat → Int64) (Mv : Nat → Int32) (Mx : Nat → Int64) (Mz : Nat → Int64)  (res : (Int32 × (Nat → Int32))) (h : f_X7_full Mf = some res) : MG cy yX7_full cX7_full 1 (some .int) 0 0 [.ref 0] (wMo cy Ms Mb Mq MB My ML Mg MF MW MI MA Mr Ma Mp Mf Mt Ml Mo Mn Mm MT MP Mv Mx Mz) (some (.int res.1)) (wMo cy Ms Mb Mq MB My ML Mg MF MW MI MA Mr Ma Mp res.2 Mt Ml Mo Mn Mm MT MP Mv Mx Mz) := by
  refine MG_of (o := 7) (lv := [(0, .ref 0)]) ⟨by decide +kernel, rfl⟩ (Nat.le_of_ble_eq_true rfl) rfl (fun k C hR => ?_)
  rw [f_X7_full] at h
  refine G_r C [(.aload_n 0, 1, 0, 0, .null), (.getfield 19, 3, 7, 4, .null), (.iconst 2, 1, 0, 0, .int (2 : Int32)), (.dup2, 1, 0, 0, .null)] 6 [(0, .ref 0)] [.int (2 : Int32), .ref 4, .int (2 : Int32), .ref 4] (wMo cy Ms Mb Mq MB My ML Mg MF MW MI MA Mr Ma Mp Mf Mt Ml Mo Mn Mm MT MP Mv Mx Mz) (by decide +kernel) rfl rfl ?_
  obtain ⟨cg, h⟩ := oob h
  refine G_iald C (a := 4) rfl cg (by decide +kernel) ?_
  refine G_r C [(.iconst 1, 1, 0, 0, .int (1 : Int32)), (.iadd, 1, 0, 0, .null)] 9 [(0, .ref 0)] [.int ((Mf (2 : Int32).toNatClampNeg) + (1 : Int32)), .int (2 : Int32), .ref 4] (wMo cy Ms Mb Mq MB My ML Mg MF MW MI MA Mr Ma Mp Mf Mt Ml Mo Mn Mm MT MP Mv Mx Mz) (by decide +kernel) rfl rfl ?_
  obtain ⟨cg, h⟩ := oob h
  refine G_iast C (a := 4) (w' := (wMo cy Ms Mb Mq MB My ML Mg MF MW MI MA Mr Ma Mp (upd Mf (2 : Int32).toNatClampNeg ((Mf (2 : Int32).toNatClampNeg) + (1 : Int32))) Mt Ml Mo Mn Mm MT MP Mv Mx Mz)) rfl cg (by decide +kernel) rfl ?_
  refine G_ldc C co_7_55 (by decide +kernel) ?_
  have h := Option.some.inj h
  subst h
  exact G_iret C hR (by decide +kernel)
def f_X7_more (x1 : Int32) (Ms : Int32) (Mr : Nat → Int32) (Mp : Nat → Int32) (Mf : Nat → Int32) : Option (Int32 × Int32 × (Nat → Int32) × (Nat → Int32) × (Nat → Int32)) := (f_X7_in x1.toInt64 (-500 : Int64) (500 : Int64)).bind fun q1 => if (bI q1) = 0 then ((f_X7_bad Mf).bind fun q5 => some (q5.1, Ms, Mr, Mp, q5.2)) else (if (7 : Int32) < 0 ∨ 8 ≤ (7 : Int32).toNatClampNeg then none else if (Mr (7 : Int32).toNatClampNeg) = (7 : Int32) then ((f_X7_full Mf).bind fun q4 => some (q4.1, Ms, Mr, Mp, q4.2)) else ((f_X7_note Ms Mr Mp).bind fun q2 => (f_X7_put x1 Mr).bind fun q3 => if (7 : Int32) < 0 ∨ 8 ≤ (7 : Int32).toNatClampNeg then none else some ((q3 (7 : Int32).toNatClampNeg), q2.1, q3, q2.2, Mf)))
set_option maxHeartbeats 4000000 in
set_option maxRecDepth 100000 in
theorem c_X7_more (cy : Nat → ClassId) (Ms : Int32) (Mb : Int32) (Mq : Int32) (MB : Int64) (My : Int32) (ML : Int32) (Mg : Int32) (MF : Int32) (MW : Bool) (MI : Bool) (MA : Int32) (Mr : Nat → Int32) (Ma : Nat → Int32) (Mp : Nat → Int32) (Mf : Nat → Int32) (Mt : Nat → Int32) (Ml : Nat → Int32) (Mo : Nat → Int32) (Mn : Nat → Int32) (Mm : Nat → Int64) (MT : Nat → Int64) (MP : Nat → Int64) (Mv : Nat → Int32) (Mx : Nat → Int64) (Mz : Nat → Int64) (x1 : Int32) (res : (Int32 × Int32 × (Nat → Int32) × (Nat → Int32) × (Nat → Int32))) (h : f_X7_more x1 Ms Mr Mp Mf = some res) : MG cy yX7_more cX7_more 2 (some .int) 2 47 [.ref 0, .int x1] (wMo cy Ms Mb Mq MB My ML Mg MF MW MI MA Mr Ma Mp Mf Mt Ml Mo Mn Mm MT MP Mv Mx Mz) (some (.int res.1)) (wMo cy res.2.1 Mb Mq MB My ML Mg MF MW MI MA res.2.2.1 Ma res.2.2.2.1 res.2.2.2.2 Mt Ml Mo Mn Mm MT MP Mv Mx Mz) := by
  refine MG_of (o := 7) (lv := [(0, .ref 0), (1, .int x1)]) ⟨by decide +kernel, rfl⟩ (Nat.le_of_ble_eq_true rfl) rfl (fun k C hR => ?_)
  rw [f_X7_more] at h
  refine G_r C [(.iload_n 1, 1, 0, 0, .null), (.i2l, 1, 0, 0, .null)] 2 [(0, .ref 0), (1, .int x1)] [.long x1.toInt64] (wMo cy Ms Mb Mq MB My ML Mg MF MW MI MA Mr Ma Mp Mf Mt Ml Mo Mn Mm MT MP Mv Mx Mz) (by decide +kernel) rfl rfl ?_
  refine G_ldc2 C co_7_68 (by decide +kernel) ?_
  refine G_ldc2 C co_7_70 (by decide +kernel) ?_
  obtain ⟨q1, hq1, h⟩ := obd h
  refine G_cS C lk_7_64 ⟨Nat.le_of_ble_eq_true rfl, Nat.le_of_ble_eq_true rfl⟩ (by decide +kernel) [.int (bI q1)] (c_X7_in cy x1.toInt64 (-500 : Int64) (500 : Int64) q1 hq1) rfl rfl (Nat.le_of_ble_eq_true rfl) rfl ?_
  refine G_if_ne C (off := 8) (tgt := 19) (by decide +kernel) rfl (fun c => ?_) (fun c => ?_)
  · rw [if_neg c] at h
    refine G_r C [(.aload_n 0, 1, 0, 0, .null), (.getfield 7, 3, 7, 0, .null), (.bipush 7, 2, 0, 0, .int (7 : Int32))] 25 [(0, .ref 0), (1, .int x1)] [.int (7 : Int32), .ref 1] (wMo cy Ms Mb Mq MB My ML Mg MF MW MI MA Mr Ma Mp Mf Mt Ml Mo Mn Mm MT MP Mv Mx Mz) (by decide +kernel) rfl rfl ?_
    obtain ⟨cg, h⟩ := oob h
    refine G_iald C (a := 1) rfl cg (by decide +kernel) ?_
    refine G_r C [(.bipush 7, 2, 0, 0, .int (7 : Int32))] 28 [(0, .ref 0), (1, .int x1)] [.int (7 : Int32), .int (Mr (7 : Int32).toNatClampNeg)] (wMo cy Ms Mb Mq MB My ML Mg MF MW MI MA Mr Ma Mp Mf Mt Ml Mo Mn Mm MT MP Mv Mx Mz) (by decide +kernel) rfl rfl ?_
    refine G_icmp_ne C (off := 8) (tgt := 36) (by decide +kernel) rfl (fun c => ?_) (fun c => ?_)
    · rw [if_neg c] at h
      refine G_r C [(.aload_n 0, 1, 0, 0, .null), (.aload_n 0, 1, 0, 0, .null), (.getfield 7, 3, 7, 0, .null)] 41 [(0, .ref 0), (1, .int x1)] [.ref 1, .ref 0] (wMo cy Ms Mb Mq MB My ML Mg MF MW MI MA Mr Ma Mp Mf Mt Ml Mo Mn Mm MT MP Mv Mx Mz) (by decide +kernel) rfl rfl ?_
      obtain ⟨q2, hq2, h⟩ := obd h
      refine G_c0 C lk_7_76 ⟨Nat.le_of_ble_eq_true rfl, Nat.le_of_ble_eq_true rfl⟩ (by decide +kernel) [] (c_X7_note cy Ms Mb Mq MB My ML Mg MF MW MI MA Mr Ma Mp Mf Mt Ml Mo Mn Mm MT MP Mv Mx Mz q2 hq2) rfl rfl (Nat.le_of_ble_eq_true rfl) ⟨rfl, rfl⟩ rfl ?_
      refine G_r C [(.aload_n 0, 1, 0, 0, .null), (.iload_n 1, 1, 0, 0, .null)] 46 [(0, .ref 0), (1, .int x1)] [.int x1, .ref 0] (wMo cy q2.1 Mb Mq MB My ML Mg MF MW MI MA Mr Ma q2.2 Mf Mt Ml Mo Mn Mm MT MP Mv Mx Mz) (by decide +kernel) rfl rfl ?_
      obtain ⟨q3, hq3, h⟩ := obd h
      refine G_c0 C lk_7_83 ⟨Nat.le_of_ble_eq_true rfl, Nat.le_of_ble_eq_true rfl⟩ (by decide +kernel) [] (c_X7_put cy q2.1 Mb Mq MB My ML Mg MF MW MI MA Mr Ma q2.2 Mf Mt Ml Mo Mn Mm MT MP Mv Mx Mz x1 q3 hq3) rfl rfl (Nat.le_of_ble_eq_true rfl) ⟨rfl, rfl⟩ rfl ?_
      refine G_r C [(.aload_n 0, 1, 0, 0, .null), (.getfield 7, 3, 7, 0, .null), (.bipush 7, 2, 0, 0, .int (7 : Int32))] 55 [(0, .ref 0), (1, .int x1)] [.int (7 : Int32), .ref 1] (wMo cy q2.1 Mb Mq MB My ML Mg MF MW MI MA q3 Ma q2.2 Mf Mt Ml Mo Mn Mm MT MP Mv Mx Mz) (by decide +kernel) rfl rfl ?_
      obtain ⟨cg, h⟩ := oob h
      refine G_iald C (a := 1) rfl cg (by decide +kernel) ?_
      have h := Option.some.inj h
      subst h
      exact G_iret C hR (by decide +kernel)
    · rw [if_pos c] at h
      refine G_r C [(.aload_n 0, 1, 0, 0, .null)] 32 [(0, .ref 0), (1, .int x1)] [.ref 0] (wMo cy Ms Mb Mq MB My ML Mg MF MW MI MA Mr Ma Mp Mf Mt Ml Mo Mn Mm MT MP Mv Mx Mz) (by decide +kernel) rfl rfl ?_
      obtain ⟨q4, hq4, h⟩ := obd h
      refine G_c0 C lk_7_80 ⟨Nat.le_of_ble_eq_true rfl, Nat.le_of_ble_eq_true rfl⟩ (by decide +kernel) [.int q4.1] (c_X7_full cy Ms Mb Mq MB My ML Mg MF MW MI MA Mr Ma Mp Mf Mt Ml Mo Mn Mm MT MP Mv Mx Mz q4 hq4) rfl rfl (Nat.le_of_ble_eq_true rfl) ⟨rfl, rfl⟩ rfl ?_
      have h := Option.some.inj h
      subst h
      exact G_iret C hR (by decide +kernel)
  · rw [if_pos c] at h
    refine G_r C [(.aload_n 0, 1, 0, 0, .null)] 15 [(0, .ref 0), (1, .int x1)] [.ref 0] (wMo cy Ms Mb Mq MB My ML Mg MF MW MI MA Mr Ma Mp Mf Mt Ml Mo Mn Mm MT MP Mv Mx Mz) (by decide +kernel) rfl rfl ?_
    obtain ⟨q5, hq5, h⟩ := obd h
    refine G_c0 C lk_7_72 ⟨Nat.le_of_ble_eq_true rfl, Nat.le_of_ble_eq_true rfl⟩ (by decide +kernel) [.int q5.1] (c_X7_bad cy Ms Mb Mq MB My ML Mg MF MW MI MA Mr Ma Mp Mf Mt Ml Mo Mn Mm MT MP Mv Mx Mz q5 hq5) rfl rfl (Nat.le_of_ble_eq_true rfl) ⟨rfl, rfl⟩ rfl ?_
    have h := Option.some.inj h
    subst h
    exact G_iret C hR (by decide +kernel)
def f_X7_cut (Mr : Nat → Int32) : Option (Nat → Int32) := if (7 : Int32) < 0 ∨ 8 ≤ (7 : Int32).toNatClampNeg then none else if (7 : Int32) < 0 ∨ 8 ≤ (7 : Int32).toNatClampNeg then none else if (7 : Int32) < 0 ∨ 8 ≤ (7 : Int32).toNatClampNeg then none else if ((upd Mr (7 : Int32).toNatClampNeg ((Mr (7 : Int32).toNatClampNeg) - (1 : Int32))) (7 : Int32).toNatClampNeg) < 0 ∨ 8 ≤ ((upd Mr (7 : Int32).toNatClampNeg ((Mr (7 : Int32).toNatClampNeg) - (1 : Int32))) (7 : Int32).toNatClampNeg).toNatClampNeg then none else some (upd (upd Mr (7 : Int32).toNatClampNeg ((Mr (7 : Int32).toNatClampNeg) - (1 : Int32))) ((upd Mr (7 : Int32).toNatClampNeg ((Mr (7 : Int32).toNatClampNeg) - (1 : Int32))) (7 : Int32).toNatClampNeg).toNatClampNeg (0 : Int32))
set_option maxHeartbeats 4000000 in
set_option maxRecDepth 100000 in
theorem c_X7_cut (cy : Nat → ClassId) (Ms : Int32) (Mb : Int32) (Mq : Int32) (MB : Int64) (My : Int32) (ML : Int32) (Mg : Int32) (MF : Int32) (MW : Bool) (MI : Bool) (MA : Int32) (Mr : Nat → Int32) (Ma : Nat → Int32) (Mp : Nat → Int32) (Mf : Nat → Int32) (Mt : Nat → Int32) (Ml : Nat → Int32) (Mo : Nat → Int32) (Mn : Nat → Int32) (Mm : Nat → Int64) (MT : Nat → Int64) (MP : Nat → Int64) (Mv : Nat → Int32) (Mx : Nat → Int64) (Mz : Nat → Int64)  (res : (Nat → Int32)) (h : f_X7_cut Mr = some res) : MG cy yX7_cut cX7_cut 1 none 0 0 [.ref 0] (wMo cy Ms Mb Mq MB My ML Mg MF MW MI MA Mr Ma Mp Mf Mt Ml Mo Mn Mm MT MP Mv Mx Mz) none (wMo cy Ms Mb Mq MB My ML Mg MF MW MI MA res Ma Mp Mf Mt Ml Mo Mn Mm MT MP Mv Mx Mz) := by
  refine MG_of (o := 7) (lv := [(0, .ref 0)]) ⟨by decide +kernel, rfl⟩ (Nat.le_of_ble_eq_true rfl) rfl (fun k C hR => ?_)
  rw [f_X7_cut] at h
  refine G_r C [(.aload_n 0, 1, 0, 0, .null), (.getfield 7, 3, 7, 0, .null), (.bipush 7, 2, 0, 0, .int (7 : Int32)), (.dup2, 1, 0, 0, .null)] 7 [(0, .ref 0)] [.int (7 : Int32), .ref 1, .int (7 : Int32), .ref 1] (wMo cy Ms Mb Mq MB My ML Mg MF MW MI MA Mr Ma Mp Mf Mt Ml Mo Mn Mm MT MP Mv Mx Mz) (by decide +kernel) rfl rfl ?_
  obtain ⟨cg, h⟩ := oob h
  refine G_iald C (a := 1) rfl cg (by decide +kernel) ?_
  refine G_r C [(.iconst 1, 1, 0, 0, .int (1 : Int32)), (.isub, 1, 0, 0, .null)] 10 [(0, .ref 0)] [.int ((Mr (7 : Int32).toNatClampNeg) - (1 : Int32)), .int (7 : Int32), .ref 1] (wMo cy Ms Mb Mq MB My ML Mg MF MW MI MA Mr Ma Mp Mf Mt Ml Mo Mn Mm MT MP Mv Mx Mz) (by decide +kernel) rfl rfl ?_
  obtain ⟨cg, h⟩ := oob h
  refine G_iast C (a := 1) (w' := (wMo cy Ms Mb Mq MB My ML Mg MF MW MI MA (upd Mr (7 : Int32).toNatClampNeg ((Mr (7 : Int32).toNatClampNeg) - (1 : Int32))) Ma Mp Mf Mt Ml Mo Mn Mm MT MP Mv Mx Mz)) rfl cg (by decide +kernel) rfl ?_
  refine G_r C [(.aload_n 0, 1, 0, 0, .null), (.getfield 7, 3, 7, 0, .null), (.aload_n 0, 1, 0, 0, .null), (.getfield 7, 3, 7, 0, .null), (.bipush 7, 2, 0, 0, .int (7 : Int32))] 21 [(0, .ref 0)] [.int (7 : Int32), .ref 1, .ref 1] (wMo cy Ms Mb Mq MB My ML Mg MF MW MI MA (upd Mr (7 : Int32).toNatClampNeg ((Mr (7 : Int32).toNatClampNeg) - (1 : Int32))) Ma Mp Mf Mt Ml Mo Mn Mm MT MP Mv Mx Mz) (by decide +kernel) rfl rfl ?_
  obtain ⟨cg, h⟩ := oob h
  refine G_iald C (a := 1) rfl cg (by decide +kernel) ?_
  refine G_r C [(.iconst 0, 1, 0, 0, .int (0 : Int32))] 23 [(0, .ref 0)] [.int (0 : Int32), .int ((upd Mr (7 : Int32).toNatClampNeg ((Mr (7 : Int32).toNatClampNeg) - (1 : Int32))) (7 : Int32).toNatClampNeg), .ref 1] (wMo cy Ms Mb Mq MB My ML Mg MF MW MI MA (upd Mr (7 : Int32).toNatClampNeg ((Mr (7 : Int32).toNatClampNeg) - (1 : Int32))) Ma Mp Mf Mt Ml Mo Mn Mm MT MP Mv Mx Mz) (by decide +kernel) rfl rfl ?_
  obtain ⟨cg, h⟩ := oob h
  refine G_iast C (a := 1) (w' := (wMo cy Ms Mb Mq MB My ML Mg MF MW MI MA (upd (upd Mr (7 : Int32).toNatClampNeg ((Mr (7 : Int32).toNatClampNeg) - (1 : Int32))) ((upd Mr (7 : Int32).toNatClampNeg ((Mr (7 : Int32).toNatClampNeg) - (1 : Int32))) (7 : Int32).toNatClampNeg).toNatClampNeg (0 : Int32)) Ma Mp Mf Mt Ml Mo Mn Mm MT MP Mv Mx Mz)) rfl cg (by decide +kernel) rfl ?_
  have h := Option.some.inj h
  subst h
  exact G_vret C hR (by decide +kernel)
def f_X7_no (Mf : Nat → Int32) : Option (Int32 × (Nat → Int32)) := if (1 : Int32) < 0 ∨ 3 ≤ (1 : Int32).toNatClampNeg then none else if (1 : Int32) < 0 ∨ 3 ≤ (1 : Int32).toNatClampNeg then none else some ((-1000002 : Int32), (upd Mf (1 : Int32).toNatClampNeg ((Mf (1 : Int32).toNatClampNeg) + (1 : Int32))))
set_option maxHeartbeats 4000000 in
set_option maxRecDepth 100000 in
theorem c_X7_no (cy : Nat → ClassId) (Ms : Int32) (Mb : Int32) (Mq : Int32) (MB : Int64) (My : Int32) (ML : Int32) (Mg : Int32) (MF : Int32) (MW : Bool) (MI : Bool) (MA : Int32) (Mr : Nat → Int32) (Ma : Nat → Int32) (Mp : Nat → Int32) (Mf : Nat → Int32) (Mt : Nat → Int32) (Ml : Nat → Int32) (Mo : Nat → Int32) (Mn : Nat → Int32) (Mm : Nat → Int64) (MT : Nat → Int64) (MP : Nat → Int64) (Mv : Nat → Int32) (Mx : Nat → Int64) (Mz : Nat → Int64)  (res : (Int32 × (Nat → Int32))) (h : f_X7_no Mf = some res) : MG cy yX7_no cX7_no 1 (some .int) 0 0 [.ref 0] (wMo cy Ms Mb Mq MB My ML Mg MF MW MI MA Mr Ma Mp Mf Mt Ml Mo Mn Mm MT MP Mv Mx Mz) (some (.int res.1)) (wMo cy Ms Mb Mq MB My ML Mg MF MW MI MA Mr Ma Mp res.2 Mt Ml Mo Mn Mm MT MP Mv Mx Mz) := by
  refine MG_of (o := 7) (lv := [(0, .ref 0)]) ⟨by decide +kernel, rfl⟩ (Nat.le_of_ble_eq_true rfl) rfl (fun k C hR => ?_)
  rw [f_X7_no] at h
  refine G_r C [(.aload_n 0, 1, 0, 0, .null), (.getfield 19, 3, 7, 4, .null), (.iconst 1, 1, 0, 0, .int (1 : Int32)), (.dup2, 1, 0, 0, .null)] 6 [(0, .ref 0)] [.int (1 : Int32), .ref 4, .int (1 : Int32), .ref 4] (wMo cy Ms Mb Mq MB My ML Mg MF MW MI MA Mr Ma Mp Mf Mt Ml Mo Mn Mm MT MP Mv Mx Mz) (by decide +kernel) rfl rfl ?_
  obtain ⟨cg, h⟩ := oob h
  refine G_iald C (a := 4) rfl cg (by decide +kernel) ?_
  refine G_r C [(.iconst 1, 1, 0, 0, .int (1 : Int32)), (.iadd, 1, 0, 0, .null)] 9 [(0, .ref 0)] [.int ((Mf (1 : Int32).toNatClampNeg) + (1 : Int32)), .int (1 : Int32), .ref 4] (wMo cy Ms Mb Mq MB My ML Mg MF MW MI MA Mr Ma Mp Mf Mt Ml Mo Mn Mm MT MP Mv Mx Mz) (by decide +kernel) rfl rfl ?_
  obtain ⟨cg, h⟩ := oob h
  refine G_iast C (a := 4) (w' := (wMo cy Ms Mb Mq MB My ML Mg MF MW MI MA Mr Ma Mp (upd Mf (1 : Int32).toNatClampNeg ((Mf (1 : Int32).toNatClampNeg) + (1 : Int32))) Mt Ml Mo Mn Mm MT MP Mv Mx Mz)) rfl cg (by decide +kernel) rfl ?_
  refine G_ldc C co_7_54 (by decide +kernel) ?_
  have h := Option.some.inj h
  subst h
  exact G_iret C hR (by decide +kernel)
def f_X7_less (Ms : Int32) (Mr : Nat → Int32) (Mp : Nat → Int32) (Mf : Nat → Int32) : Option (Int32 × Int32 × (Nat → Int32) × (Nat → Int32) × (Nat → Int32)) := if (7 : Int32) < 0 ∨ 8 ≤ (7 : Int32).toNatClampNeg then none else if (Mr (7 : Int32).toNatClampNeg) = (1 : Int32) then ((f_X7_no Mf).bind fun q3 => some (q3.1, Ms, Mr, Mp, q3.2)) else ((f_X7_note Ms Mr Mp).bind fun q1 => (f_X7_cut Mr).bind fun q2 => if (7 : Int32) < 0 ∨ 8 ≤ (7 : Int32).toNatClampNeg then none else some ((q2 (7 : Int32).toNatClampNeg), q1.1, q2, q1.2, Mf))
set_option maxHeartbeats 4000000 in
set_option maxRecDepth 100000 in
theorem c_X7_less (cy : Nat → ClassId) (Ms : Int32) (Mb : Int32) (Mq : Int32) (MB : Int64) (My : Int32) (ML : Int32) (Mg : Int32) (MF : Int32) (MW : Bool) (MI : Bool) (MA : Int32) (Mr : Nat → Int32) (Ma : Nat → Int32) (Mp : Nat → Int32) (Mf : Nat → Int32) (Mt : Nat → Int32) (Ml : Nat → Int32) (Mo : Nat → Int32) (Mn : Nat → Int32) (Mm : Nat → Int64) (MT : Nat → Int64) (MP : Nat → Int64) (Mv : Nat → Int32) (Mx : Nat → Int64) (Mz : Nat → Int64)  (res : (Int32 × Int32 × (Nat → Int32) × (Nat → Int32) × (Nat → Int32))) (h : f_X7_less Ms Mr Mp Mf = some res) : MG cy yX7_less cX7_less 1 (some .int) 2 47 [.ref 0] (wMo cy Ms Mb Mq MB My ML Mg MF MW MI MA Mr Ma Mp Mf Mt Ml Mo Mn Mm MT MP Mv Mx Mz) (some (.int res.1)) (wMo cy res.2.1 Mb Mq MB My ML Mg MF MW MI MA res.2.2.1 Ma res.2.2.2.1 res.2.2.2.2 Mt Ml Mo Mn Mm MT MP Mv Mx Mz) := by
  refine MG_of (o := 7) (lv := [(0, .ref 0)]) ⟨by decide +kernel, rfl⟩ (Nat.le_of_ble_eq_true rfl) rfl (fun k C hR => ?_)
  rw [f_X7_less] at h
  refine G_r C [(.aload_n 0, 1, 0, 0, .null), (.getfield 7, 3, 7, 0, .null), (.bipush 7, 2, 0, 0, .int (7 : Int32))] 6 [(0, .ref 0)] [.int (7 : Int32), .ref 1] (wMo cy Ms Mb Mq MB My ML Mg MF MW MI MA Mr Ma Mp Mf Mt Ml Mo Mn Mm MT MP Mv Mx Mz) (by decide +kernel) rfl rfl ?_
  obtain ⟨cg, h⟩ := oob h
  refine G_iald C (a := 1) rfl cg (by decide +kernel) ?_
  refine G_r C [(.iconst 1, 1, 0, 0, .int (1 : Int32))] 8 [(0, .ref 0)] [.int (1 : Int32), .int (Mr (7 : Int32).toNatClampNeg)] (wMo cy Ms Mb Mq MB My ML Mg MF MW MI MA Mr Ma Mp Mf Mt Ml Mo Mn Mm MT MP Mv Mx Mz) (by decide +kernel) rfl rfl ?_
  refine G_icmp_ne C (off := 8) (tgt := 16) (by decide +kernel) rfl (fun c => ?_) (fun c => ?_)
  · rw [if_neg c] at h
    refine G_r C [(.aload_n 0, 1, 0, 0, .null), (.aload_n 0, 1, 0, 0, .null), (.getfield 7, 3, 7, 0, .null)] 21 [(0, .ref 0)] [.ref 1, .ref 0] (wMo cy Ms Mb Mq MB My ML Mg MF MW MI MA Mr Ma Mp Mf Mt Ml Mo Mn Mm MT MP Mv Mx Mz) (by decide +kernel) rfl rfl ?_
    obtain ⟨q1, hq1, h⟩ := obd h
    refine G_c0 C lk_7_76 ⟨Nat.le_of_ble_eq_true rfl, Nat.le_of_ble_eq_true rfl⟩ (by decide +kernel) [] (c_X7_note cy Ms Mb Mq MB My ML Mg MF MW MI MA Mr Ma Mp Mf Mt Ml Mo Mn Mm MT MP Mv Mx Mz q1 hq1) rfl rfl (Nat.le_of_ble_eq_true rfl) ⟨rfl, rfl⟩ rfl ?_
    refine G_r C [(.aload_n 0, 1, 0, 0, .null)] 25 [(0, .ref 0)] [.ref 0] (wMo cy q1.1 Mb Mq MB My ML Mg MF MW MI MA Mr Ma q1.2 Mf Mt Ml Mo Mn Mm MT MP Mv Mx Mz) (by decide +kernel) rfl rfl ?_
    obtain ⟨q2, hq2, h⟩ := obd h
    refine G_c0 C lk_7_90 ⟨Nat.le_of_ble_eq_true rfl, Nat.le_of_ble_eq_true rfl⟩ (by decide +kernel) [] (c_X7_cut cy q1.1 Mb Mq MB My ML Mg MF MW MI MA Mr Ma q1.2 Mf Mt Ml Mo Mn Mm MT MP Mv Mx Mz q2 hq2) rfl rfl (Nat.le_of_ble_eq_true rfl) ⟨rfl, rfl⟩ rfl ?_
    refine G_r C [(.aload_n 0, 1, 0, 0, .null), (.getfield 7, 3, 7, 0, .null), (.bipush 7, 2, 0, 0, .int (7 : Int32))] 34 [(0, .ref 0)] [.int (7 : Int32), .ref 1] (wMo cy q1.1 Mb Mq MB My ML Mg MF MW MI MA q2 Ma q1.2 Mf Mt Ml Mo Mn Mm MT MP Mv Mx Mz) (by decide +kernel) rfl rfl ?_
    obtain ⟨cg, h⟩ := oob h
    refine G_iald C (a := 1) rfl cg (by decide +kernel) ?_
    have h := Option.some.inj h
    subst h
    exact G_iret C hR (by decide +kernel)
  · rw [if_pos c] at h
    refine G_r C [(.aload_n 0, 1, 0, 0, .null)] 12 [(0, .ref 0)] [.ref 0] (wMo cy Ms Mb Mq MB My ML Mg MF MW MI MA Mr Ma Mp Mf Mt Ml Mo Mn Mm MT MP Mv Mx Mz) (by decide +kernel) rfl rfl ?_
    obtain ⟨q3, hq3, h⟩ := obd h
    refine G_c0 C lk_7_87 ⟨Nat.le_of_ble_eq_true rfl, Nat.le_of_ble_eq_true rfl⟩ (by decide +kernel) [.int q3.1] (c_X7_no cy Ms Mb Mq MB My ML Mg MF MW MI MA Mr Ma Mp Mf Mt Ml Mo Mn Mm MT MP Mv Mx Mz q3 hq3) rfl rfl (Nat.le_of_ble_eq_true rfl) ⟨rfl, rfl⟩ rfl ?_
    have h := Option.some.inj h
    subst h
    exact G_iret C hR (by decide +kernel)
def f_X7_isPlace (x0 : Int32) : Option Bool := (f_X7_in x0.toInt64 (-9 : Int64) (9 : Int64)).bind fun q1 => some q1
set_option maxHeartbeats 4000000 in
set_option maxRecDepth 100000 in
theorem c_X7_isPlace (cy : Nat → ClassId)  (x0 : Int32) (res : Bool) (h : f_X7_isPlace x0 = some res) : MG cy yX7_isPlace cX7_isPlace 1 (some .boolean) 1 25 [.int x0] [] (some (.int (bI res))) [] := by
  refine MG_of (o := 7) (lv := [(0, .int x0)]) ⟨by decide +kernel, rfl⟩ (Nat.le_of_ble_eq_true rfl) rfl (fun k C hR => ?_)
  rw [f_X7_isPlace] at h
  refine G_r C [(.iload_n 0, 1, 0, 0, .null), (.i2l, 1, 0, 0, .null)] 2 [(0, .int x0)] [.long x0.toInt64] [] (by decide +kernel) rfl rfl ?_
  refine G_ldc2 C co_7_105 (by decide +kernel) ?_
  refine G_ldc2 C co_7_107 (by decide +kernel) ?_
  obtain ⟨q1, hq1, h⟩ := obd h
  refine G_cS C lk_7_64 ⟨Nat.le_of_ble_eq_true rfl, Nat.le_of_ble_eq_true rfl⟩ (by decide +kernel) [.int (bI q1)] (c_X7_in cy x0.toInt64 (-9 : Int64) (9 : Int64) q1 hq1) rfl rfl (Nat.le_of_ble_eq_true rfl) rfl ?_
  have h := Option.some.inj h
  subst h
  exact G_zret C (v := q1) hR (by decide +kernel)
def f_X7_isWeight (x0 : Int32) : Option Bool := (f_X7_in x0.toInt64 (-99 : Int64) (99 : Int64)).bind fun q1 => some q1
set_option maxHeartbeats 4000000 in
set_option maxRecDepth 100000 in
theorem c_X7_isWeight (cy : Nat → ClassId)  (x0 : Int32) (res : Bool) (h : f_X7_isWeight x0 = some res) : MG cy yX7_isWeight cX7_isWeight 1 (some .boolean) 1 25 [.int x0] [] (some (.int (bI res))) [] := by
  refine MG_of (o := 7) (lv := [(0, .int x0)]) ⟨by decide +kernel, rfl⟩ (Nat.le_of_ble_eq_true rfl) rfl (fun k C hR => ?_)
  rw [f_X7_isWeight] at h
  refine G_r C [(.iload_n 0, 1, 0, 0, .null), (.i2l, 1, 0, 0, .null)] 2 [(0, .int x0)] [.long x0.toInt64] [] (by decide +kernel) rfl rfl ?_
  refine G_ldc2 C co_7_109 (by decide +kernel) ?_
  refine G_ldc2 C co_7_111 (by decide +kernel) ?_
  obtain ⟨q1, hq1, h⟩ := obd h
  refine G_cS C lk_7_64 ⟨Nat.le_of_ble_eq_true rfl, Nat.le_of_ble_eq_true rfl⟩ (by decide +kernel) [.int (bI q1)] (c_X7_in cy x0.toInt64 (-99 : Int64) (99 : Int64) q1 hq1) rfl rfl (Nat.le_of_ble_eq_true rfl) rfl ?_
  have h := Option.some.inj h
  subst h
  exact G_zret C (v := q1) hR (by decide +kernel)
def f_X7_bring_v1_L3 : Nat → Int32 → Int32 → Int32 → (Nat → Int32) → (Nat → Int32) → Option (Nat → Int32)
  | 0, _, _, _, _, _ => none
  | fu + 1, x2, x4, x5, Mr, Ma => if (8 : Int32) ≤ x5 then (some Ma) else (if (x2 + x5) < 0 ∨ 8 ≤ (x2 + x5).toNatClampNeg then none else if (x4 + x5) < 0 ∨ 8 ≤ (x4 + x5).toNatClampNeg then none else f_X7_bring_v1_L3 fu x2 x4 (x5 + (1 : Int32)) Mr (upd Ma (x4 + x5).toNatClampNeg (Mr (x2 + x5).toNatClampNeg)))
def f_X7_bring_v1 (x2 : Int32) (x4 : Int32) (Mr : Nat → Int32) (Ma : Nat → Int32) : Option (Nat → Int32) := (f_X7_bring_v1_L3 200 x2 x4 (0 : Int32) Mr Ma).bind fun q1 => some q1
set_option maxHeartbeats 4000000 in
set_option maxRecDepth 100000 in
theorem g_X7_bring_v1_L3 {k : KX} {cy : Nat → ClassId} (C : OK k cX7_bring 7 6 cy 0 0) : ∀ (fu : Nat) (x2 : Int32) (x4 : Int32) (x5 : Int32) (Ms : Int32) (Mb : Int32) (Mq : Int32) (MB : Int64) (My : Int32) (ML : Int32) (Mg : Int32) (MF : Int32) (MW : Bool) (MI : Bool) (MA : Int32) (Mr : Nat → Int32) (Ma : Nat → Int32) (Mp : Nat → Int32) (Mf : Nat → Int32) (Mt : Nat → Int32) (Ml : Nat → Int32) (Mo : Nat → Int32) (Mn : Nat → Int32) (Mm : Nat → Int64) (MT : Nat → Int64) (MP : Nat → Int64) (Mv : Nat → Int32) (Mx : Nat → Int64) (Mz : Nat → Int64) (res : (Nat → Int32)), (f_X7_bring_v1_L3 fu x2 x4 x5 Mr Ma = some res) → G k 6 29 [] [] (wMo cy Ms Mb Mq MB My ML Mg MF MW MI MA Mr res Mp Mf Mt Ml Mo Mn Mm MT MP Mv Mx Mz) → G k 6 3 [(1, .ref 1), (2, .int x2), (3, .ref 2), (4, .int x4), (5, .int x5)] [] (wMo cy Ms Mb Mq MB My ML Mg MF MW MI MA Mr Ma Mp Mf Mt Ml Mo Mn Mm MT MP Mv Mx Mz) := by
  intro fu
  induction fu with
  | zero =>
    intro x2 x4 x5 Ms Mb Mq MB My ML Mg MF MW MI MA Mr Ma Mp Mf Mt Ml Mo Mn Mm MT MP Mv Mx Mz res h hex
    rw [f_X7_bring_v1_L3] at h
    cases h
  | succ fu ih =>
    intro x2 x4 x5 Ms Mb Mq MB My ML Mg MF MW MI MA Mr Ma Mp Mf Mt Ml Mo Mn Mm MT MP Mv Mx Mz res h hex
    rw [f_X7_bring_v1_L3] at h
    refine G_r C [(.iload 5, 2, 0, 0, .null), (.bipush 8, 2, 0, 0, .int (8 : Int32))] 7 [(1, .ref 1), (2, .int x2), (3, .ref 2), (4, .int x4), (5, .int x5)] [.int (8 : Int32), .int x5] (wMo cy Ms Mb Mq MB My ML Mg MF MW MI MA Mr Ma Mp Mf Mt Ml Mo Mn Mm MT MP Mv Mx Mz) (by decide +kernel) rfl rfl ?_
    refine G_icmp_ge C (off := 22) (tgt := 29) (by decide +kernel) rfl (fun c => ?_) (fun c => ?_)
    · rw [if_pos c] at h
      have h := Option.some.inj h
      subst h
      refine G_lv [] (lv' := []) rfl ?_
      exact hex
    · rw [if_neg c] at h
      refine G_r C [(.aload_n 3, 1, 0, 0, .null), (.iload 4, 2, 0, 0, .null), (.iload 5, 2, 0, 0, .null), (.iadd, 1, 0, 0, .null), (.aload_n 1, 1, 0, 0, .null), (.iload_n 2, 1, 0, 0, .null), (.iload 5, 2, 0, 0, .null), (.iadd, 1, 0, 0, .null)] 21 [(1, .ref 1), (2, .int x2), (3, .ref 2), (4, .int x4), (5, .int x5)] [.int (x2 + x5), .ref 1, .int (x4 + x5), .ref 2] (wMo cy Ms Mb Mq MB My ML Mg MF MW MI MA Mr Ma Mp Mf Mt Ml Mo Mn Mm MT MP Mv Mx Mz) (by decide +kernel) rfl rfl ?_
      obtain ⟨cg, h⟩ := oob h
      refine G_iald C (a := 1) rfl cg (by decide +kernel) ?_
      obtain ⟨cg, h⟩ := oob h
      refine G_iast C (a := 2) (w' := (wMo cy Ms Mb Mq MB My ML Mg MF MW MI MA Mr (upd Ma (x4 + x5).toNatClampNeg (Mr (x2 + x5).toNatClampNeg)) Mp Mf Mt Ml Mo Mn Mm MT MP Mv Mx Mz)) rfl cg (by decide +kernel) rfl ?_
      refine G_r C [(.iinc 5 1, 3, 0, 0, .int (1 : Int32))] 26 [(5, .int (x5 + (1 : Int32))), (1, .ref 1), (2, .int x2), (3, .ref 2), (4, .int x4)] [] (wMo cy Ms Mb Mq MB My ML Mg MF MW MI MA Mr (upd Ma (x4 + x5).toNatClampNeg (Mr (x2 + x5).toNatClampNeg)) Mp Mf Mt Ml Mo Mn Mm MT MP Mv Mx Mz) (by decide +kernel) rfl rfl ?_
      refine G_goto C (off := -23) (tgt := 3) (by decide +kernel) rfl ?_
      refine G_lv [1, 2, 3, 4, 0] (lv' := [(1, .ref 1), (2, .int x2), (3, .ref 2), (4, .int x4), (5, .int (x5 + (1 : Int32)))]) rfl ?_
      exact ih x2 x4 (x5 + (1 : Int32)) Ms Mb Mq MB My ML Mg MF MW MI MA Mr (upd Ma (x4 + x5).toNatClampNeg (Mr (x2 + x5).toNatClampNeg)) Mp Mf Mt Ml Mo Mn Mm MT MP Mv Mx Mz res h hex
set_option maxHeartbeats 4000000 in
set_option maxRecDepth 100000 in
theorem c_X7_bring_v1 (cy : Nat → ClassId) (Ms : Int32) (Mb : Int32) (Mq : Int32) (MB : Int64) (My : Int32) (ML : Int32) (Mg : Int32) (MF : Int32) (MW : Bool) (MI : Bool) (MA : Int32) (Mr : Nat → Int32) (Ma : Nat → Int32) (Mp : Nat → Int32) (Mf : Nat → Int32) (Mt : Nat → Int32) (Ml : Nat → Int32) (Mo : Nat → Int32) (Mn : Nat → Int32) (Mm : Nat → Int64) (MT : Nat → Int64) (MP : Nat → Int64) (Mv : Nat → Int32) (Mx : Nat → Int64) (Mz : Nat → Int64) (x2 : Int32) (x4 : Int32) (res : (Nat → Int32)) (h : f_X7_bring_v1 x2 x4 Mr Ma = some res) : MG cy yX7_bring cX7_bring 6 none 0 0 [.ref 0, .ref 1, .int x2, .ref 2, .int x4] (wMo cy Ms Mb Mq MB My ML Mg MF MW MI MA Mr Ma Mp Mf Mt Ml Mo Mn Mm MT MP Mv Mx Mz) none (wMo cy Ms Mb Mq MB My ML Mg MF MW MI MA Mr res Mp Mf Mt Ml Mo Mn Mm MT MP Mv Mx Mz) := by
  refine MG_of (o := 7) (lv := [(0, .ref 0), (1, .ref 1), (2, .int x2), (3, .ref 2), (4, .int x4)]) ⟨by decide +kernel, rfl⟩ (Nat.le_of_ble_eq_true rfl) rfl (fun k C hR => ?_)
  rw [f_X7_bring_v1] at h
  refine G_r C [(.iconst 0, 1, 0, 0, .int (0 : Int32)), (.istore 5, 2, 0, 0, .null)] 3 [(5, .int (0 : Int32)), (0, .ref 0), (1, .ref 1), (2, .int x2), (3, .ref 2), (4, .int x4)] [] (wMo cy Ms Mb Mq MB My ML Mg MF MW MI MA Mr Ma Mp Mf Mt Ml Mo Mn Mm MT MP Mv Mx Mz) (by decide +kernel) rfl rfl ?_
  obtain ⟨q1, hq1, h⟩ := obd h
  refine G_lv [2, 3, 4, 5, 0] (lv' := [(1, .ref 1), (2, .int x2), (3, .ref 2), (4, .int x4), (5, .int (0 : Int32))]) rfl ?_
  refine g_X7_bring_v1_L3 C 200 x2 x4 (0 : Int32) Ms Mb Mq MB My ML Mg MF MW MI MA Mr Ma Mp Mf Mt Ml Mo Mn Mm MT MP Mv Mx Mz q1 hq1 ?_
  have h := Option.some.inj h
  subst h
  exact G_vret C hR (by decide +kernel)
def f_X7_power_L5 : Nat → Int64 → Int32 → Int64 → Int32 → Option Int64
  | 0, _, _, _, _ => none
  | fu + 1, x0, x2, x3, x5 => if x2 ≤ x5 then (some x3) else (f_X7_power_L5 fu x0 x2 (x3 * x0) (x5 + (1 : Int32)))
def f_X7_power (x0 : Int64) (x2 : Int32) : Option Int64 := (f_X7_power_L5 200 x0 x2 (1 : Int64) (0 : Int32)).bind fun q1 => some q1
set_option maxHeartbeats 4000000 in
set_option maxRecDepth 100000 in
theorem g_X7_power_L5 {k : KX} {cy : Nat → ClassId} (C : OK k cX7_power 7 6 cy 0 0) : ∀ (fu : Nat) (x0 : Int64) (x2 : Int32) (x3 : Int64) (x5 : Int32) (res : Int64), (f_X7_power_L5 fu x0 x2 x3 x5 = some res) → G k 6 21 [(3, .long res)] [] [] → G k 6 5 [(0, .long x0), (2, .int x2), (3, .long x3), (5, .int x5)] [] [] := by
  intro fu
  induction fu with
  | zero =>
    intro x0 x2 x3 x5 res h hex
    rw [f_X7_power_L5] at h
    cases h
  | succ fu ih =>
    intro x0 x2 x3 x5 res h hex
    rw [f_X7_power_L5] at h
    refine G_r C [(.iload 5, 2, 0, 0, .null), (.iload_n 2, 1, 0, 0, .null)] 8 [(0, .long x0), (2, .int x2), (3, .long x3), (5, .int x5)] [.int x2, .int x5] [] (by decide +kernel) rfl rfl ?_
    refine G_icmp_ge C (off := 13) (tgt := 21) (by decide +kernel) rfl (fun c => ?_) (fun c => ?_)
    · rw [if_pos c] at h
      have h := Option.some.inj h
      subst h
      refine G_lv [2] (lv' := [(3, .long x3)]) rfl ?_
      exact hex
    · rw [if_neg c] at h
      refine G_r C [(.lload_n 3, 1, 0, 0, .null), (.lload_n 0, 1, 0, 0, .null), (.lmul, 1, 0, 0, .null), (.lstore_n 3, 1, 0, 0, .null), (.iinc 5 1, 3, 0, 0, .int (1 : Int32))] 18 [(5, .int (x5 + (1 : Int32))), (3, .long (x3 * x0)), (0, .long x0), (2, .int x2)] [] [] (by decide +kernel) rfl rfl ?_
      refine G_goto C (off := -13) (tgt := 5) (by decide +kernel) rfl ?_
      refine G_lv [2, 3, 1, 0] (lv' := [(0, .long x0), (2, .int x2), (3, .long (x3 * x0)), (5, .int (x5 + (1 : Int32)))]) rfl ?_
      exact ih x0 x2 (x3 * x0) (x5 + (1 : Int32))  res h hex
set_option maxHeartbeats 4000000 in
set_option maxRecDepth 100000 in
theorem c_X7_power (cy : Nat → ClassId)  (x0 : Int64) (x2 : Int32) (res : Int64) (h : f_X7_power x0 x2 = some res) : MG cy yX7_power cX7_power 6 (some .long) 0 0 [.long x0, .int x2] [] (some (.long res)) [] := by
  refine MG_of (o := 7) (lv := [(0, .long x0), (2, .int x2)]) ⟨by decide +kernel, rfl⟩ (Nat.le_of_ble_eq_true rfl) rfl (fun k C hR => ?_)
  rw [f_X7_power] at h
  refine G_r C [(.lconst 1, 1, 0, 0, .long (1 : Int64)), (.lstore_n 3, 1, 0, 0, .null), (.iconst 0, 1, 0, 0, .int (0 : Int32)), (.istore 5, 2, 0, 0, .null)] 5 [(5, .int (0 : Int32)), (3, .long (1 : Int64)), (0, .long x0), (2, .int x2)] [] [] (by decide +kernel) rfl rfl ?_
  obtain ⟨q1, hq1, h⟩ := obd h
  refine G_lv [2, 3, 1, 0] (lv' := [(0, .long x0), (2, .int x2), (3, .long (1 : Int64)), (5, .int (0 : Int32))]) rfl ?_
  refine g_X7_power_L5 C 200 x0 x2 (1 : Int64) (0 : Int32)  q1 hq1 ?_
  refine G_r C [(.lload_n 3, 1, 0, 0, .null)] 22 [(3, .long q1)] [.long q1] [] (by decide +kernel) rfl rfl ?_
  have h := Option.some.inj h
  subst h
  exact G_lret C hR (by decide +kernel)
def f_X7_takeMade_L4 : Nat → Int32 → Bool → Int32 → (Nat → Int64) → Option Bool
  | 0, _, _, _, _ => none
  | fu + 1, x1, x2, x3, Mm => if x1 ≤ x3 then (some x2) else (if (bI x2) = 0 then (f_X7_takeMade_L4 fu x1 false (x3 + (1 : Int32)) Mm) else (if x3 < 0 ∨ 7 ≤ x3.toNatClampNeg then none else (f_X7_in (Mm x3.toNatClampNeg) (-500 : Int64) (500 : Int64)).bind fun q1 => if (bI q1) = 0 then (f_X7_takeMade_L4 fu x1 false (x3 + (1 : Int32)) Mm) else (f_X7_takeMade_L4 fu x1 true (x3 + (1 : Int32)) Mm)))
def f_X7_takeMade_L45 : Nat → Int32 → Bool → Int32 → (Nat → Int32) → (Nat → Int64) → Option (Nat → Int32)
  | 0, _, _, _, _, _ => none
  | fu + 1, x1, x2, x3, Mr, Mm => if (7 : Int32) ≤ x3 then (some Mr) else (if (bI x2) = 0 then (some Mr) else (if x1 ≤ x3 then (if x3 < 0 ∨ 8 ≤ x3.toNatClampNeg then none else f_X7_takeMade_L45 fu x1 x2 (x3 + (1 : Int32)) (upd Mr x3.toNatClampNeg (0 : Int32)) Mm) else (if x3 < 0 ∨ 7 ≤ x3.toNatClampNeg then none else if x3 < 0 ∨ 8 ≤ x3.toNatClampNeg then none else f_X7_takeMade_L45 fu x1 x2 (x3 + (1 : Int32)) (upd Mr x3.toNatClampNeg ((Mm x3.toNatClampNeg).toInt32)) Mm)))
def f_X7_takeMade (x1 : Int32) (Mr : Nat → Int32) (Mm : Nat → Int64) : Option (Bool × (Nat → Int32)) := (f_X7_takeMade_L4 200 x1 true (0 : Int32) Mm).bind fun q2 => (f_X7_takeMade_L45 200 x1 q2 (0 : Int32) Mr Mm).bind fun q3 => if (bI q2) = 0 then (if (7 : Int32) < 0 ∨ 8 ≤ (7 : Int32).toNatClampNeg then none else if (7 : Int32) < 0 ∨ 8 ≤ (7 : Int32).toNatClampNeg then none else some (q2, (upd q3 (7 : Int32).toNatClampNeg (q3 (7 : Int32).toNatClampNeg)))) else (if (7 : Int32) < 0 ∨ 8 ≤ (7 : Int32).toNatClampNeg then none else some (q2, (upd q3 (7 : Int32).toNatClampNeg x1)))
set_option maxHeartbeats 4000000 in
set_option maxRecDepth 100000 in
theorem g_X7_takeMade_L4 {k : KX} {cy : Nat → ClassId} (C : OK k cX7_takeMade 7 4 cy 1 25) : ∀ (fu : Nat) (x1 : Int32) (x2 : Bool) (x3 : Int32) (Ms : Int32) (Mb : Int32) (Mq : Int32) (MB : Int64) (My : Int32) (ML : Int32) (Mg : Int32) (MF : Int32) (MW : Bool) (MI : Bool) (MA : Int32) (Mr : Nat → Int32) (Ma : Nat → Int32) (Mp : Nat → Int32) (Mf : Nat → Int32) (Mt : Nat → Int32) (Ml : Nat → Int32) (Mo : Nat → Int32) (Mn : Nat → Int32) (Mm : Nat → Int64) (MT : Nat → Int64) (MP : Nat → Int64) (Mv : Nat → Int32) (Mx : Nat → Int64) (Mz : Nat → Int64) (res : Bool), (f_X7_takeMade_L4 fu x1 x2 x3 Mm = some res) → G k 4 43 [(0, .ref 0), (1, .int x1), (2, .int (bI res))] [] (wMo cy Ms Mb Mq MB My ML Mg MF MW MI MA Mr Ma Mp Mf Mt Ml Mo Mn Mm MT MP Mv Mx Mz) → G k 4 4 [(0, .ref 0), (1, .int x1), (2, .int (bI x2)), (3, .int x3)] [] (wMo cy Ms Mb Mq MB My ML Mg MF MW MI MA Mr Ma Mp Mf Mt Ml Mo Mn Mm MT MP Mv Mx Mz) := by
  intro fu
  induction fu with
  | zero =>
    intro x1 x2 x3 Ms Mb Mq MB My ML Mg MF MW MI MA Mr Ma Mp Mf Mt Ml Mo Mn Mm MT MP Mv Mx Mz res h hex
    rw [f_X7_takeMade_L4] at h
    cases h
  | succ fu ih =>
    intro x1 x2 x3 Ms Mb Mq MB My ML Mg MF MW MI MA Mr Ma Mp Mf Mt Ml Mo Mn Mm MT MP Mv Mx Mz res h hex
    rw [f_X7_takeMade_L4] at h
    refine G_r C [(.iload_n 3, 1, 0, 0, .null), (.iload_n 1, 1, 0, 0, .null)] 6 [(0, .ref 0), (1, .int x1), (2, .int (bI x2)), (3, .int x3)] [.int x1, .int x3] (wMo cy Ms Mb Mq MB My ML Mg MF MW MI MA Mr Ma Mp Mf Mt Ml Mo Mn Mm MT MP Mv Mx Mz) (by decide +kernel) rfl rfl ?_
    refine G_icmp_ge C (off := 37) (tgt := 43) (by decide +kernel) rfl (fun c => ?_) (fun c => ?_)
    · rw [if_pos c] at h
      have h := Option.some.inj h
      subst h
      refine G_lv [0, 1, 2] (lv' := [(0, .ref 0), (1, .int x1), (2, .int (bI x2))]) rfl ?_
      exact hex
    · rw [if_neg c] at h
      refine G_r C [(.iload_n 2, 1, 0, 0, .null)] 10 [(0, .ref 0), (1, .int x1), (2, .int (bI x2)), (3, .int x3)] [.int (bI x2)] (wMo cy Ms Mb Mq MB My ML Mg MF MW MI MA Mr Ma Mp Mf Mt Ml Mo Mn Mm MT MP Mv Mx Mz) (by decide +kernel) rfl rfl ?_
      refine G_if_eq C (off := 25) (tgt := 35) (by decide +kernel) rfl (fun c => ?_) (fun c => ?_)
      · rw [if_pos c] at h
        refine G_r C [(.iconst 0, 1, 0, 0, .int (0 : Int32)), (.istore_n 2, 1, 0, 0, .null), (.iinc 3 1, 3, 0, 0, .int (1 : Int32))] 40 [(3, .int (x3 + (1 : Int32))), (2, .int (0 : Int32)), (0, .ref 0), (1, .int x1)] [] (wMo cy Ms Mb Mq MB My ML Mg MF MW MI MA Mr Ma Mp Mf Mt Ml Mo Mn Mm MT MP Mv Mx Mz) (by decide +kernel) rfl rfl ?_
        refine G_goto C (off := -36) (tgt := 4) (by decide +kernel) rfl ?_
        refine G_lv [2, 3, 1, 0] (lv' := [(0, .ref 0), (1, .int x1), (2, .int (bI false)), (3, .int (x3 + (1 : Int32)))]) rfl ?_
        exact ih x1 false (x3 + (1 : Int32)) Ms Mb Mq MB My ML Mg MF MW MI MA Mr Ma Mp Mf Mt Ml Mo Mn Mm MT MP Mv Mx Mz res h hex
      · rw [if_neg c] at h
        refine G_r C [(.aload_n 0, 1, 0, 0, .null), (.getfield 34, 3, 7, 11, .null), (.iload_n 3, 1, 0, 0, .null)] 18 [(0, .ref 0), (1, .int x1), (2, .int (bI x2)), (3, .int x3)] [.int x3, .ref 9] (wMo cy Ms Mb Mq MB My ML Mg MF MW MI MA Mr Ma Mp Mf Mt Ml Mo Mn Mm MT MP Mv Mx Mz) (by decide +kernel) rfl rfl ?_
        obtain ⟨cg, h⟩ := oob h
        refine G_lald C (a := 9) rfl cg (by decide +kernel) ?_
        refine G_ldc2 C co_7_68 (by decide +kernel) ?_
        refine G_ldc2 C co_7_70 (by decide +kernel) ?_
        obtain ⟨q1, hq1, h⟩ := obd h
        refine G_cS C lk_7_64 ⟨Nat.le_of_ble_eq_true rfl, Nat.le_of_ble_eq_true rfl⟩ (by decide +kernel) [.int (bI q1)] (c_X7_in cy (Mm x3.toNatClampNeg) (-500 : Int64) (500 : Int64) q1 hq1) rfl rfl (Nat.le_of_ble_eq_true rfl) rfl ?_
        refine G_if_eq C (off := 7) (tgt := 35) (by decide +kernel) rfl (fun c => ?_) (fun c => ?_)
        · rw [if_pos c] at h
          refine G_r C [(.iconst 0, 1, 0, 0, .int (0 : Int32)), (.istore_n 2, 1, 0, 0, .null), (.iinc 3 1, 3, 0, 0, .int (1 : Int32))] 40 [(3, .int (x3 + (1 : Int32))), (2, .int (0 : Int32)), (0, .ref 0), (1, .int x1)] [] (wMo cy Ms Mb Mq MB My ML Mg MF MW MI MA Mr Ma Mp Mf Mt Ml Mo Mn Mm MT MP Mv Mx Mz) (by decide +kernel) rfl rfl ?_
          refine G_goto C (off := -36) (tgt := 4) (by decide +kernel) rfl ?_
          refine G_lv [2, 3, 1, 0] (lv' := [(0, .ref 0), (1, .int x1), (2, .int (bI false)), (3, .int (x3 + (1 : Int32)))]) rfl ?_
          exact ih x1 false (x3 + (1 : Int32)) Ms Mb Mq MB My ML Mg MF MW MI MA Mr Ma Mp Mf Mt Ml Mo Mn Mm MT MP Mv Mx Mz res h hex
        · rw [if_neg c] at h
          refine G_r C [(.iconst 1, 1, 0, 0, .int (1 : Int32))] 32 [(0, .ref 0), (1, .int x1), (2, .int (bI x2)), (3, .int x3)] [.int (1 : Int32)] (wMo cy Ms Mb Mq MB My ML Mg MF MW MI MA Mr Ma Mp Mf Mt Ml Mo Mn Mm MT MP Mv Mx Mz) (by decide +kernel) rfl rfl ?_
          refine G_goto C (off := 4) (tgt := 36) (by decide +kernel) rfl ?_
          refine G_r C [(.istore_n 2, 1, 0, 0, .null), (.iinc 3 1, 3, 0, 0, .int (1 : Int32))] 40 [(3, .int (x3 + (1 : Int32))), (2, .int (1 : Int32)), (0, .ref 0), (1, .int x1)] [] (wMo cy Ms Mb Mq MB My ML Mg MF MW MI MA Mr Ma Mp Mf Mt Ml Mo Mn Mm MT MP Mv Mx Mz) (by decide +kernel) rfl rfl ?_
          refine G_goto C (off := -36) (tgt := 4) (by decide +kernel) rfl ?_
          refine G_lv [2, 3, 1, 0] (lv' := [(0, .ref 0), (1, .int x1), (2, .int (bI true)), (3, .int (x3 + (1 : Int32)))]) rfl ?_
          exact ih x1 true (x3 + (1 : Int32)) Ms Mb Mq MB My ML Mg MF MW MI MA Mr Ma Mp Mf Mt Ml Mo Mn Mm MT MP Mv Mx Mz res h hex
set_option maxHeartbeats 4000000 in
set_option maxRecDepth 100000 in
theorem g_X7_takeMade_L45 {k : KX} {cy : Nat → ClassId} (C : OK k cX7_takeMade 7 4 cy 1 25) : ∀ (fu : Nat) (x1 : Int32) (x2 : Bool) (x3 : Int32) (Ms : Int32) (Mb : Int32) (Mq : Int32) (MB : Int64) (My : Int32) (ML : Int32) (Mg : Int32) (MF : Int32) (MW : Bool) (MI : Bool) (MA : Int32) (Mr : Nat → Int32) (Ma : Nat → Int32) (Mp : Nat → Int32) (Mf : Nat → Int32) (Mt : Nat → Int32) (Ml : Nat → Int32) (Mo : Nat → Int32) (Mn : Nat → Int32) (Mm : Nat → Int64) (MT : Nat → Int64) (MP : Nat → Int64) (Mv : Nat → Int32) (Mx : Nat → Int64) (Mz : Nat → Int64) (res : (Nat → Int32)), (f_X7_takeMade_L45 fu x1 x2 x3 Mr Mm = some res) → G k 4 83 [(0, .ref 0), (1, .int x1), (2, .int (bI x2))] [] (wMo cy Ms Mb Mq MB My ML Mg MF MW MI MA res Ma Mp Mf Mt Ml Mo Mn Mm MT MP Mv Mx Mz) → G k 4 45 [(0, .ref 0), (1, .int x1), (2, .int (bI x2)), (3, .int x3)] [] (wMo cy Ms Mb Mq MB My ML Mg MF MW MI MA Mr Ma Mp Mf Mt Ml Mo Mn Mm MT MP Mv Mx Mz) := by
  intro fu
  induction fu with
  | zero =>
    intro x1 x2 x3 Ms Mb Mq MB My ML Mg MF MW MI MA Mr Ma Mp Mf Mt Ml Mo Mn Mm MT MP Mv Mx Mz res h hex
    rw [f_X7_takeMade_L45] at h
    cases h
  | succ fu ih =>
    intro x1 x2 x3 Ms Mb Mq MB My ML Mg MF MW MI MA Mr Ma Mp Mf Mt Ml Mo Mn Mm MT MP Mv Mx Mz res h hex
    rw [f_X7_takeMade_L45] at h
    refine G_r C [(.iload_n 3, 1, 0, 0, .null), (.bipush 7, 2, 0, 0, .int (7 : Int32))] 48 [(0, .ref 0), (1, .int x1), (2, .int (bI x2)), (3, .int x3)] [.int (7 : Int32), .int x3] (wMo cy Ms Mb Mq MB My ML Mg MF MW MI MA Mr Ma Mp Mf Mt Ml Mo Mn Mm MT MP Mv Mx Mz) (by decide +kernel) rfl rfl ?_
    refine G_icmp_ge C (off := 35) (tgt := 83) (by decide +kernel) rfl (fun c => ?_) (fun c => ?_)
    · rw [if_pos c] at h
      have h := Option.some.inj h
      subst h
      refine G_lv [0, 1, 2] (lv' := [(0, .ref 0), (1, .int x1), (2, .int (bI x2))]) rfl ?_
      exact hex
    · rw [if_neg c] at h
      refine G_r C [(.iload_n 2, 1, 0, 0, .null)] 52 [(0, .ref 0), (1, .int x1), (2, .int (bI x2)), (3, .int x3)] [.int (bI x2)] (wMo cy Ms Mb Mq MB My ML Mg MF MW MI MA Mr Ma Mp Mf Mt Ml Mo Mn Mm MT MP Mv Mx Mz) (by decide +kernel) rfl rfl ?_
      refine G_if_eq C (off := 31) (tgt := 83) (by decide +kernel) rfl (fun c => ?_) (fun c => ?_)
      · rw [if_pos c] at h
        have h := Option.some.inj h
        subst h
        refine G_lv [0, 1, 2] (lv' := [(0, .ref 0), (1, .int x1), (2, .int (bI x2))]) rfl ?_
        exact hex
      · rw [if_neg c] at h
        refine G_r C [(.aload_n 0, 1, 0, 0, .null), (.getfield 7, 3, 7, 0, .null), (.iload_n 3, 1, 0, 0, .null), (.iload_n 3, 1, 0, 0, .null), (.iload_n 1, 1, 0, 0, .null)] 62 [(0, .ref 0), (1, .int x1), (2, .int (bI x2)), (3, .int x3)] [.int x1, .int x3, .int x3, .ref 1] (wMo cy Ms Mb Mq MB My ML Mg MF MW MI MA Mr Ma Mp Mf Mt Ml Mo Mn Mm MT MP Mv Mx Mz) (by decide +kernel) rfl rfl ?_
        refine G_icmp_ge C (off := 13) (tgt := 75) (by decide +kernel) rfl (fun c => ?_) (fun c => ?_)
        · rw [if_pos c] at h
          refine G_r C [(.iconst 0, 1, 0, 0, .int (0 : Int32))] 76 [(0, .ref 0), (1, .int x1), (2, .int (bI x2)), (3, .int x3)] [.int (0 : Int32), .int x3, .ref 1] (wMo cy Ms Mb Mq MB My ML Mg MF MW MI MA Mr Ma Mp Mf Mt Ml Mo Mn Mm MT MP Mv Mx Mz) (by decide +kernel) rfl rfl ?_
          obtain ⟨cg, h⟩ := oob h
          refine G_iast C (a := 1) (w' := (wMo cy Ms Mb Mq MB My ML Mg MF MW MI MA (upd Mr x3.toNatClampNeg (0 : Int32)) Ma Mp Mf Mt Ml Mo Mn Mm MT MP Mv Mx Mz)) rfl cg (by decide +kernel) rfl ?_
          refine G_r C [(.iinc 3 1, 3, 0, 0, .int (1 : Int32))] 80 [(3, .int (x3 + (1 : Int32))), (0, .ref 0), (1, .int x1), (2, .int (bI x2))] [] (wMo cy Ms Mb Mq MB My ML Mg MF MW MI MA (upd Mr x3.toNatClampNeg (0 : Int32)) Ma Mp Mf Mt Ml Mo Mn Mm MT MP Mv Mx Mz) (by decide +kernel) rfl rfl ?_
          refine G_goto C (off := -35) (tgt := 45) (by decide +kernel) rfl ?_
          refine G_lv [1, 2, 3, 0] (lv' := [(0, .ref 0), (1, .int x1), (2, .int (bI x2)), (3, .int (x3 + (1 : Int32)))]) rfl ?_
          exact ih x1 x2 (x3 + (1 : Int32)) Ms Mb Mq MB My ML Mg MF MW MI MA (upd Mr x3.toNatClampNeg (0 : Int32)) Ma Mp Mf Mt Ml Mo Mn Mm MT MP Mv Mx Mz res h hex
        · rw [if_neg c] at h
          refine G_r C [(.aload_n 0, 1, 0, 0, .null), (.getfield 34, 3, 7, 11, .null), (.iload_n 3, 1, 0, 0, .null)] 70 [(0, .ref 0), (1, .int x1), (2, .int (bI x2)), (3, .int x3)] [.int x3, .ref 9, .int x3, .ref 1] (wMo cy Ms Mb Mq MB My ML Mg MF MW MI MA Mr Ma Mp Mf Mt Ml Mo Mn Mm MT MP Mv Mx Mz) (by decide +kernel) rfl rfl ?_
          obtain ⟨cg, h⟩ := oob h
          refine G_lald C (a := 9) rfl cg (by decide +kernel) ?_
          refine G_r C [(.l2i, 1, 0, 0, .null)] 72 [(0, .ref 0), (1, .int x1), (2, .int (bI x2)), (3, .int x3)] [.int ((Mm x3.toNatClampNeg).toInt32), .int x3, .ref 1] (wMo cy Ms Mb Mq MB My ML Mg MF MW MI MA Mr Ma Mp Mf Mt Ml Mo Mn Mm MT MP Mv Mx Mz) (by decide +kernel) rfl rfl ?_
          refine G_goto C (off := 4) (tgt := 76) (by decide +kernel) rfl ?_
          obtain ⟨cg, h⟩ := oob h
          refine G_iast C (a := 1) (w' := (wMo cy Ms Mb Mq MB My ML Mg MF MW MI MA (upd Mr x3.toNatClampNeg ((Mm x3.toNatClampNeg).toInt32)) Ma Mp Mf Mt Ml Mo Mn Mm MT MP Mv Mx Mz)) rfl cg (by decide +kernel) rfl ?_
          refine G_r C [(.iinc 3 1, 3, 0, 0, .int (1 : Int32))] 80 [(3, .int (x3 + (1 : Int32))), (0, .ref 0), (1, .int x1), (2, .int (bI x2))] [] (wMo cy Ms Mb Mq MB My ML Mg MF MW MI MA (upd Mr x3.toNatClampNeg ((Mm x3.toNatClampNeg).toInt32)) Ma Mp Mf Mt Ml Mo Mn Mm MT MP Mv Mx Mz) (by decide +kernel) rfl rfl ?_
          refine G_goto C (off := -35) (tgt := 45) (by decide +kernel) rfl ?_
          refine G_lv [1, 2, 3, 0] (lv' := [(0, .ref 0), (1, .int x1), (2, .int (bI x2)), (3, .int (x3 + (1 : Int32)))]) rfl ?_
          exact ih x1 x2 (x3 + (1 : Int32)) Ms Mb Mq MB My ML Mg MF MW MI MA (upd Mr x3.toNatClampNeg ((Mm x3.toNatClampNeg).toInt32)) Ma Mp Mf Mt Ml Mo Mn Mm MT MP Mv Mx Mz res h hex
set_option maxHeartbeats 4000000 in
set_option maxRecDepth 100000 in
theorem c_X7_takeMade (cy : Nat → ClassId) (Ms : Int32) (Mb : Int32) (Mq : Int32) (MB : Int64) (My : Int32) (ML : Int32) (Mg : Int32) (MF : Int32) (MW : Bool) (MI : Bool) (MA : Int32) (Mr : Nat → Int32) (Ma : Nat → Int32) (Mp : Nat → Int32) (Mf : Nat → Int32) (Mt : Nat → Int32) (Ml : Nat → Int32) (Mo : Nat → Int32) (Mn : Nat → Int32) (Mm : Nat → Int64) (MT : Nat → Int64) (MP : Nat → Int64) (Mv : Nat → Int32) (Mx : Nat → Int64) (Mz : Nat → Int64) (x1 : Int32) (res : (Bool × (Nat → Int32))) (h : f_X7_takeMade x1 Mr Mm = some res) : MG cy yX7_takeMade cX7_takeMade 4 (some .boolean) 1 25 [.ref 0, .int x1] (wMo cy Ms Mb Mq MB My ML Mg MF MW MI MA Mr Ma Mp Mf Mt Ml Mo Mn Mm MT MP Mv Mx Mz) (some (.int (bI res.1))) (wMo cy Ms Mb Mq MB My ML Mg MF MW MI MA res.2 Ma Mp Mf Mt Ml Mo Mn Mm MT MP Mv Mx Mz) := by
  refine MG_of (o := 7) (lv := [(0, .ref 0), (1, .int x1)]) ⟨by decide +kernel, rfl⟩ (Nat.le_of_ble_eq_true rfl) rfl (fun k C hR => ?_)
  rw [f_X7_takeMade] at h
  refine G_r C [(.iconst 1, 1, 0, 0, .int (1 : Int32)), (.istore_n 2, 1, 0, 0, .null), (.iconst 0, 1, 0, 0, .int (0 : Int32)), (.istore_n 3, 1, 0, 0, .null)] 4 [(3, .int (0 : Int32)), (2, .int (1 : Int32)), (0, .ref 0), (1, .int x1)] [] (wMo cy Ms Mb Mq MB My ML Mg MF MW MI MA Mr Ma Mp Mf Mt Ml Mo Mn Mm MT MP Mv Mx Mz) (by decide +kernel) rfl rfl ?_
  obtain ⟨q2, hq2, h⟩ := obd h
  refine G_lv [2, 3, 1, 0] (lv' := [(0, .ref 0), (1, .int x1), (2, .int (bI true)), (3, .int (0 : Int32))]) rfl ?_
  refine g_X7_takeMade_L4 C 200 x1 true (0 : Int32) Ms Mb Mq MB My ML Mg MF MW MI MA Mr Ma Mp Mf Mt Ml Mo Mn Mm MT MP Mv Mx Mz q2 hq2 ?_
  refine G_r C [(.iconst 0, 1, 0, 0, .int (0 : Int32)), (.istore_n 3, 1, 0, 0, .null)] 45 [(3, .int (0 : Int32)), (0, .ref 0), (1, .int x1), (2, .int (bI q2))] [] (wMo cy Ms Mb Mq MB My ML Mg MF MW MI MA Mr Ma Mp Mf Mt Ml Mo Mn Mm MT MP Mv Mx Mz) (by decide +kernel) rfl rfl ?_
  obtain ⟨q3, hq3, h⟩ := obd h
  refine G_lv [1, 2, 3, 0] (lv' := [(0, .ref 0), (1, .int x1), (2, .int (bI q2)), (3, .int (0 : Int32))]) rfl ?_
  refine g_X7_takeMade_L45 C 200 x1 q2 (0 : Int32) Ms Mb Mq MB My ML Mg MF MW MI MA Mr Ma Mp Mf Mt Ml Mo Mn Mm MT MP Mv Mx Mz q3 hq3 ?_
  refine G_r C [(.aload_n 0, 1, 0, 0, .null), (.getfield 7, 3, 7, 0, .null), (.bipush 7, 2, 0, 0, .int (7 : Int32)), (.iload_n 2, 1, 0, 0, .null)] 90 [(0, .ref 0), (1, .int x1), (2, .int (bI q2))] [.int (bI q2), .int (7 : Int32), .ref 1] (wMo cy Ms Mb Mq MB My ML Mg MF MW MI MA q3 Ma Mp Mf Mt Ml Mo Mn Mm MT MP Mv Mx Mz) (by decide +kernel) rfl rfl ?_
  refine G_if_eq C (off := 7) (tgt := 97) (by decide +kernel) rfl (fun c => ?_) (fun c => ?_)
  · rw [if_pos c] at h
    refine G_r C [(.aload_n 0, 1, 0, 0, .null), (.getfield 7, 3, 7, 0, .null), (.bipush 7, 2, 0, 0, .int (7 : Int32))] 103 [(0, .ref 0), (1, .int x1), (2, .int (bI q2))] [.int (7 : Int32), .ref 1, .int (7 : Int32), .ref 1] (wMo cy Ms Mb Mq MB My ML Mg MF MW MI MA q3 Ma Mp Mf Mt Ml Mo Mn Mm MT MP Mv Mx Mz) (by decide +kernel) rfl rfl ?_
    obtain ⟨cg, h⟩ := oob h
    refine G_iald C (a := 1) rfl cg (by decide +kernel) ?_
    obtain ⟨cg, h⟩ := oob h
    refine G_iast C (a := 1) (w' := (wMo cy Ms Mb Mq MB My ML Mg MF MW MI MA (upd q3 (7 : Int32).toNatClampNeg (q3 (7 : Int32).toNatClampNeg)) Ma Mp Mf Mt Ml Mo Mn Mm MT MP Mv Mx Mz)) rfl cg (by decide +kernel) rfl ?_
    refine G_r C [(.iload_n 2, 1, 0, 0, .null)] 106 [(0, .ref 0), (1, .int x1), (2, .int (bI q2))] [.int (bI q2)] (wMo cy Ms Mb Mq MB My ML Mg MF MW MI MA (upd q3 (7 : Int32).toNatClampNeg (q3 (7 : Int32).toNatClampNeg)) Ma Mp Mf Mt Ml Mo Mn Mm MT MP Mv Mx Mz) (by decide +kernel) rfl rfl ?_
    have h := Option.some.inj h
    subst h
    exact G_zret C (v := q2) hR (by decide +kernel)
  · rw [if_neg c] at h
    refine G_r C [(.iload_n 1, 1, 0, 0, .null)] 94 [(0, .ref 0), (1, .int x1), (2, .int (bI q2))] [.int x1, .int (7 : Int32), .ref 1] (wMo cy Ms Mb Mq MB My ML Mg MF MW MI MA q3 Ma Mp Mf Mt Ml Mo Mn Mm MT MP Mv Mx Mz) (by decide +kernel) rfl rfl ?_
    refine G_goto C (off := 10) (tgt := 104) (by decide +kernel) rfl ?_
    obtain ⟨cg, h⟩ := oob h
    refine G_iast C (a := 1) (w' := (wMo cy Ms Mb Mq MB My ML Mg MF MW MI MA (upd q3 (7 : Int32).toNatClampNeg x1) Ma Mp Mf Mt Ml Mo Mn Mm MT MP Mv Mx Mz)) rfl cg (by decide +kernel) rfl ?_
    refine G_r C [(.iload_n 2, 1, 0, 0, .null)] 106 [(0, .ref 0), (1, .int x1), (2, .int (bI q2))] [.int (bI q2)] (wMo cy Ms Mb Mq MB My ML Mg MF MW MI MA (upd q3 (7 : Int32).toNatClampNeg x1) Ma Mp Mf Mt Ml Mo Mn Mm MT MP Mv Mx Mz) (by decide +kernel) rfl rfl ?_
    have h := Option.some.inj h
    subst h
    exact G_zret C (v := q2) hR (by decide +kernel)
def f_X7_addPlace_L2 : Nat → Int32 → Int32 → Int32 → (Nat → Int32) → (Nat → Int64) → Option (Nat → Int64)
  | 0, _, _, _, _, _ => none
  | fu + 1, x1, x2, x3, Mr, Mm => if (7 : Int32) < 0 ∨ 8 ≤ (7 : Int32).toNatClampNeg then none else if (Mr (7 : Int32).toNatClampNeg) ≤ x3 then (some Mm) else (if x3 < 0 ∨ 8 ≤ x3.toNatClampNeg then none else (f_X7_power x1.toInt64 x3).bind fun q1 => if x3 < 0 ∨ 7 ≤ x3.toNatClampNeg then none else f_X7_addPlace_L2 fu x1 x2 (x3 + (1 : Int32)) Mr (vp_updL Mm x3.toNatClampNeg (((Mr x3.toNatClampNeg).toInt64) + (x2.toInt64 * q1))))
def f_X7_addPlace (x1 : Int32) (x2 : Int32) (Mr : Nat → Int32) (Mm : Nat → Int64) : Option (Bool × (Nat → Int32) × (Nat → Int64)) := (f_X7_addPlace_L2 200 x1 x2 (0 : Int32) Mr Mm).bind fun q2 => if (7 : Int32) < 0 ∨ 8 ≤ (7 : Int32).toNatClampNeg then none else (f_X7_takeMade (Mr (7 : Int32).toNatClampNeg) Mr q2).bind fun q3 => some (q3.1, q3.2, q2)
set_option maxHeartbeats 4000000 in
set_option maxRecDepth 100000 in
theorem g_X7_addPlace_L2 {k : KX} {cy : Nat → ClassId} (C : OK k cX7_addPlace 7 4 cy 2 48) : ∀ (fu : Nat) (x1 : Int32) (x2 : Int32) (x3 : Int32) (Ms : Int32) (Mb : Int32) (Mq : Int32) (MB : Int64) (My : Int32) (ML : Int32) (Mg : Int32) (MF : Int32) (MW : Bool) (MI : Bool) (MA : Int32) (Mr : Nat → Int32) (Ma : Nat → Int32) (Mp : Nat → Int32) (Mf : Nat → Int32) (Mt : Nat → Int32) (Ml : Nat → Int32) (Mo : Nat → Int32) (Mn : Nat → Int32) (Mm : Nat → Int64) (MT : Nat → Int64) (MP : Nat → Int64) (Mv : Nat → Int32) (Mx : Nat → Int64) (Mz : Nat → Int64) (res : (Nat → Int64)), (f_X7_addPlace_L2 fu x1 x2 x3 Mr Mm = some res) → G k 4 42 [(0, .ref 0)] [] (wMo cy Ms Mb Mq MB My ML Mg MF MW MI MA Mr Ma Mp Mf Mt Ml Mo Mn res MT MP Mv Mx Mz) → G k 4 2 [(0, .ref 0), (1, .int x1), (2, .int x2), (3, .int x3)] [] (wMo cy Ms Mb Mq MB My ML Mg MF MW MI MA Mr Ma Mp Mf Mt Ml Mo Mn Mm MT MP Mv Mx Mz) := by
  intro fu
  induction fu with
  | zero =>
    intro x1 x2 x3 Ms Mb Mq MB My ML Mg MF MW MI MA Mr Ma Mp Mf Mt Ml Mo Mn Mm MT MP Mv Mx Mz res h hex
    rw [f_X7_addPlace_L2] at h
    cases h
  | succ fu ih =>
    intro x1 x2 x3 Ms Mb Mq MB My ML Mg MF MW MI MA Mr Ma Mp Mf Mt Ml Mo Mn Mm MT MP Mv Mx Mz res h hex
    rw [f_X7_addPlace_L2] at h
    refine G_r C [(.iload_n 3, 1, 0, 0, .null), (.aload_n 0, 1, 0, 0, .null), (.getfield 7, 3, 7, 0, .null), (.bipush 7, 2, 0, 0, .int (7 : Int32))] 9 [(0, .ref 0), (1, .int x1), (2, .int x2), (3, .int x3)] [.int (7 : Int32), .ref 1, .int x3] (wMo cy Ms Mb Mq MB My ML Mg MF MW MI MA Mr Ma Mp Mf Mt Ml Mo Mn Mm MT MP Mv Mx Mz) (by decide +kernel) rfl rfl ?_
    obtain ⟨cg, h⟩ := oob h
    refine G_iald C (a := 1) rfl cg (by decide +kernel) ?_
    refine G_icmp_ge C (off := 32) (tgt := 42) (by decide +kernel) rfl (fun c => ?_) (fun c => ?_)
    · rw [if_pos c] at h
      have h := Option.some.inj h
      subst h
      refine G_lv [0] (lv' := [(0, .ref 0)]) rfl ?_
      exact hex
    · rw [if_neg c] at h
      refine G_r C [(.aload_n 0, 1, 0, 0, .null), (.getfield 34, 3, 7, 11, .null), (.iload_n 3, 1, 0, 0, .null), (.aload_n 0, 1, 0, 0, .null), (.getfield 7, 3, 7, 0, .null), (.iload_n 3, 1, 0, 0, .null)] 23 [(0, .ref 0), (1, .int x1), (2, .int x2), (3, .int x3)] [.int x3, .ref 1, .int x3, .ref 9] (wMo cy Ms Mb Mq MB My ML Mg MF MW MI MA Mr Ma Mp Mf Mt Ml Mo Mn Mm MT MP Mv Mx Mz) (by decide +kernel) rfl rfl ?_
      obtain ⟨cg, h⟩ := oob h
      refine G_iald C (a := 1) rfl cg (by decide +kernel) ?_
      refine G_r C [(.i2l, 1, 0, 0, .null), (.iload_n 2, 1, 0, 0, .null), (.i2l, 1, 0, 0, .null), (.iload_n 1, 1, 0, 0, .null), (.i2l, 1, 0, 0, .null), (.iload_n 3, 1, 0, 0, .null)] 30 [(0, .ref 0), (1, .int x1), (2, .int x2), (3, .int x3)] [.int x3, .long x1.toInt64, .long x2.toInt64, .long ((Mr x3.toNatClampNeg).toInt64), .int x3, .ref 9] (wMo cy Ms Mb Mq MB My ML Mg MF MW MI MA Mr Ma Mp Mf Mt Ml Mo Mn Mm MT MP Mv Mx Mz) (by decide +kernel) rfl rfl ?_
      obtain ⟨q1, hq1, h⟩ := obd h
      refine G_cS C lk_7_93 ⟨Nat.le_of_ble_eq_true rfl, Nat.le_of_ble_eq_true rfl⟩ (by decide +kernel) [.long q1, .long x2.toInt64, .long ((Mr x3.toNatClampNeg).toInt64), .int x3, .ref 9] (c_X7_power cy x1.toInt64 x3 q1 hq1) rfl rfl (Nat.le_of_ble_eq_true rfl) rfl ?_
      refine G_r C [(.lmul, 1, 0, 0, .null), (.ladd, 1, 0, 0, .null)] 35 [(0, .ref 0), (1, .int x1), (2, .int x2), (3, .int x3)] [.long (((Mr x3.toNatClampNeg).toInt64) + (x2.toInt64 * q1)), .int x3, .ref 9] (wMo cy Ms Mb Mq MB My ML Mg MF MW MI MA Mr Ma Mp Mf Mt Ml Mo Mn Mm MT MP Mv Mx Mz) (by decide +kernel) rfl rfl ?_
      obtain ⟨cg, h⟩ := oob h
      refine G_last C (a := 9) (w' := (wMo cy Ms Mb Mq MB My ML Mg MF MW MI MA Mr Ma Mp Mf Mt Ml Mo Mn (vp_updL Mm x3.toNatClampNeg (((Mr x3.toNatClampNeg).toInt64) + (x2.toInt64 * q1))) MT MP Mv Mx Mz)) rfl cg (by decide +kernel) rfl ?_
      refine G_r C [(.iinc 3 1, 3, 0, 0, .int (1 : Int32))] 39 [(3, .int (x3 + (1 : Int32))), (0, .ref 0), (1, .int x1), (2, .int x2)] [] (wMo cy Ms Mb Mq MB My ML Mg MF MW MI MA Mr Ma Mp Mf Mt Ml Mo Mn (vp_updL Mm x3.toNatClampNeg (((Mr x3.toNatClampNeg).toInt64) + (x2.toInt64 * q1))) MT MP Mv Mx Mz) (by decide +kernel) rfl rfl ?_
      refine G_goto C (off := -37) (tgt := 2) (by decide +kernel) rfl ?_
      refine G_lv [1, 2, 3, 0] (lv' := [(0, .ref 0), (1, .int x1), (2, .int x2), (3, .int (x3 + (1 : Int32)))]) rfl ?_
      exact ih x1 x2 (x3 + (1 : Int32)) Ms Mb Mq MB My ML Mg MF MW MI MA Mr Ma Mp Mf Mt Ml Mo Mn (vp_updL Mm x3.toNatClampNeg (((Mr x3.toNatClampNeg).toInt64) + (x2.toInt64 * q1))) MT MP Mv Mx Mz res h hex
set_option maxHeartbeats 4000000 in
set_option maxRecDepth 100000 in
theorem c_X7_addPlace (cy : Nat → ClassId) (Ms : Int32) (Mb : Int32) (Mq : Int32) (MB : Int64) (My : Int32) (ML : Int32) (Mg : Int32) (MF : Int32) (MW : Bool) (MI : Bool) (MA : Int32) (Mr : Nat → Int32) (Ma : Nat → Int32) (Mp : Nat → Int32) (Mf : Nat → Int32) (Mt : Nat → Int32) (Ml : Nat → Int32) (Mo : Nat → Int32) (Mn : Nat → Int32) (Mm : Nat → Int64) (MT : Nat → Int64) (MP : Nat → Int64) (Mv : Nat → Int32) (Mx : Nat → Int64) (Mz : Nat → Int64) (x1 : Int32) (x2 : Int32) (res : (Bool × (Nat → Int32) × (Nat → Int64))) (h : f_X7_addPlace x1 x2 Mr Mm = some res) : MG cy yX7_addPlace cX7_addPlace 4 (some .boolean) 2 48 [.ref 0, .int x1, .int x2] (wMo cy Ms Mb Mq MB My ML Mg MF MW MI MA Mr Ma Mp Mf Mt Ml Mo Mn Mm MT MP Mv Mx Mz) (some (.int (bI res.1))) (wMo cy Ms Mb Mq MB My ML Mg MF MW MI MA res.2.1 Ma Mp Mf Mt Ml Mo Mn res.2.2 MT MP Mv Mx Mz) := by
  refine MG_of (o := 7) (lv := [(0, .ref 0), (1, .int x1), (2, .int x2)]) ⟨by decide +kernel, rfl⟩ (Nat.le_of_ble_eq_true rfl) rfl (fun k C hR => ?_)
  rw [f_X7_addPlace] at h
  refine G_r C [(.iconst 0, 1, 0, 0, .int (0 : Int32)), (.istore_n 3, 1, 0, 0, .null)] 2 [(3, .int (0 : Int32)), (0, .ref 0), (1, .int x1), (2, .int x2)] [] (wMo cy Ms Mb Mq MB My ML Mg MF MW MI MA Mr Ma Mp Mf Mt Ml Mo Mn Mm MT MP Mv Mx Mz) (by decide +kernel) rfl rfl ?_
  obtain ⟨q2, hq2, h⟩ := obd h
  refine G_lv [1, 2, 3, 0] (lv' := [(0, .ref 0), (1, .int x1), (2, .int x2), (3, .int (0 : Int32))]) rfl ?_
  refine g_X7_addPlace_L2 C 200 x1 x2 (0 : Int32) Ms Mb Mq MB My ML Mg MF MW MI MA Mr Ma Mp Mf Mt Ml Mo Mn Mm MT MP Mv Mx Mz q2 hq2 ?_
  refine G_r C [(.aload_n 0, 1, 0, 0, .null), (.aload_n 0, 1, 0, 0, .null), (.getfield 7, 3, 7, 0, .null), (.bipush 7, 2, 0, 0, .int (7 : Int32))] 49 [(0, .ref 0)] [.int (7 : Int32), .ref 1, .ref 0] (wMo cy Ms Mb Mq MB My ML Mg MF MW MI MA Mr Ma Mp Mf Mt Ml Mo Mn q2 MT MP Mv Mx Mz) (by decide +kernel) rfl rfl ?_
  obtain ⟨cg, h⟩ := oob h
  refine G_iald C (a := 1) rfl cg (by decide +kernel) ?_
  obtain ⟨q3, hq3, h⟩ := obd h
  refine G_c0 C lk_7_97 ⟨Nat.le_of_ble_eq_true rfl, Nat.le_of_ble_eq_true rfl⟩ (by decide +kernel) [.int (bI q3.1)] (c_X7_takeMade cy Ms Mb Mq MB My ML Mg MF MW MI MA Mr Ma Mp Mf Mt Ml Mo Mn q2 MT MP Mv Mx Mz (Mr (7 : Int32).toNatClampNeg) q3 hq3) rfl rfl (Nat.le_of_ble_eq_true rfl) ⟨rfl, rfl⟩ rfl ?_
  have h := Option.some.inj h
  subst h
  exact G_zret C (v := q3.1) hR (by decide +kernel)
def f_X7_bring_v2_L3 : Nat → Int32 → Int32 → Int32 → (Nat → Int32) → (Nat → Int32) → Option (Nat → Int32)
  | 0, _, _, _, _, _ => none
  | fu + 1, x2, x4, x5, Ma, Mp => if (8 : Int32) ≤ x5 then (some Mp) else (if (x2 + x5) < 0 ∨ 8 ≤ (x2 + x5).toNatClampNeg then none else if (x4 + x5) < 0 ∨ 48 ≤ (x4 + x5).toNatClampNeg then none else f_X7_bring_v2_L3 fu x2 x4 (x5 + (1 : Int32)) Ma (upd Mp (x4 + x5).toNatClampNeg (Ma (x2 + x5).toNatClampNeg)))
def f_X7_bring_v2 (x2 : Int32) (x4 : Int32) (Ma : Nat → Int32) (Mp : Nat → Int32) : Option (Nat → Int32) := (f_X7_bring_v2_L3 200 x2 x4 (0 : Int32) Ma Mp).bind fun q1 => some q1
set_option maxHeartbeats 4000000 in
set_option maxRecDepth 100000 in
theorem g_X7_bring_v2_L3 {k : KX} {cy : Nat → ClassId} (C : OK k cX7_bring 7 6 cy 0 0) : ∀ (fu : Nat) (x2 : Int32) (x4 : Int32) (x5 : Int32) (Ms : Int32) (Mb : Int32) (Mq : Int32) (MB : Int64) (My : Int32) (ML : Int32) (Mg : Int32) (MF : Int32) (MW : Bool) (MI : Bool) (MA : Int32) (Mr : Nat → Int32) (Ma : Nat → Int32) (Mp : Nat → Int32) (Mf : Nat → Int32) (Mt : Nat → Int32) (Ml : Nat → Int32) (Mo : Nat → Int32) (Mn : Nat → Int32) (Mm : Nat → Int64) (MT : Nat → Int64) (MP : Nat → Int64) (Mv : Nat → Int32) (Mx : Nat → Int64) (Mz : Nat → Int64) (res : (Nat → Int32)), (f_X7_bring_v2_L3 fu x2 x4 x5 Ma Mp = some res) → G k 6 29 [] [] (wMo cy Ms Mb Mq MB My ML Mg MF MW MI MA Mr Ma res Mf Mt Ml Mo Mn Mm MT MP Mv Mx Mz) → G k 6 3 [(1, .ref 2), (2, .int x2), (3, .ref 3), (4, .int x4), (5, .int x5)] [] (wMo cy Ms Mb Mq MB My ML Mg MF MW MI MA Mr Ma Mp Mf Mt Ml Mo Mn Mm MT MP Mv Mx Mz) := by
  intro fu
  induction fu with
  | zero =>
    intro x2 x4 x5 Ms Mb Mq MB My ML Mg MF MW MI MA Mr Ma Mp Mf Mt Ml Mo Mn Mm MT MP Mv Mx Mz res h hex
    rw [f_X7_bring_v2_L3] at h
    cases h
  | succ fu ih =>
    intro x2 x4 x5 Ms Mb Mq MB My ML Mg MF MW MI MA Mr Ma Mp Mf Mt Ml Mo Mn Mm MT MP Mv Mx Mz res h hex
    rw [f_X7_bring_v2_L3] at h
    refine G_r C [(.iload 5, 2, 0, 0, .null), (.bipush 8, 2, 0, 0, .int (8 : Int32))] 7 [(1, .ref 2), (2, .int x2), (3, .ref 3), (4, .int x4), (5, .int x5)] [.int (8 : Int32), .int x5] (wMo cy Ms Mb Mq MB My ML Mg MF MW MI MA Mr Ma Mp Mf Mt Ml Mo Mn Mm MT MP Mv Mx Mz) (by decide +kernel) rfl rfl ?_
    refine G_icmp_ge C (off := 22) (tgt := 29) (by decide +kernel) rfl (fun c => ?_) (fun c => ?_)
    · rw [if_pos c] at h
      have h := Option.some.inj h
      subst h
      refine G_lv [] (lv' := []) rfl ?_
      exact hex
    · rw [if_neg c] at h
      refine G_r C [(.aload_n 3, 1, 0, 0, .null), (.iload 4, 2, 0, 0, .null), (.iload 5, 2, 0, 0, .null), (.iadd, 1, 0, 0, .null), (.aload_n 1, 1, 0, 0, .null), (.iload_n 2, 1, 0, 0, .null), (.iload 5, 2, 0, 0, .null), (.iadd, 1, 0, 0, .null)] 21 [(1, .ref 2), (2, .int x2), (3, .ref 3), (4, .int x4), (5, .int x5)] [.int (x2 + x5), .ref 2, .int (x4 + x5), .ref 3] (wMo cy Ms Mb Mq MB My ML Mg MF MW MI MA Mr Ma Mp Mf Mt Ml Mo Mn Mm MT MP Mv Mx Mz) (by decide +kernel) rfl rfl ?_
      obtain ⟨cg, h⟩ := oob h
      refine G_iald C (a := 2) rfl cg (by decide +kernel) ?_
      obtain ⟨cg, h⟩ := oob h
      refine G_iast C (a := 3) (w' := (wMo cy Ms Mb Mq MB My ML Mg MF MW MI MA Mr Ma (upd Mp (x4 + x5).toNatClampNeg (Ma (x2 + x5).toNatClampNeg)) Mf Mt Ml Mo Mn Mm MT MP Mv Mx Mz)) rfl cg (by decide +kernel) rfl ?_
      refine G_r C [(.iinc 5 1, 3, 0, 0, .int (1 : Int32))] 26 [(5, .int (x5 + (1 : Int32))), (1, .ref 2), (2, .int x2), (3, .ref 3), (4, .int x4)] [] (wMo cy Ms Mb Mq MB My ML Mg MF MW MI MA Mr Ma (upd Mp (x4 + x5).toNatClampNeg (Ma (x2 + x5).toNatClampNeg)) Mf Mt Ml Mo Mn Mm MT MP Mv Mx Mz) (by decide +kernel) rfl rfl ?_
      refine G_goto C (off := -23) (tgt := 3) (by decide +kernel) rfl ?_
      refine G_lv [1, 2, 3, 4, 0] (lv' := [(1, .ref 2), (2, .int x2), (3, .ref 3), (4, .int x4), (5, .int (x5 + (1 : Int32)))]) rfl ?_
      exact ih x2 x4 (x5 + (1 : Int32)) Ms Mb Mq MB My ML Mg MF MW MI MA Mr Ma (upd Mp (x4 + x5).toNatClampNeg (Ma (x2 + x5).toNatClampNeg)) Mf Mt Ml Mo Mn Mm MT MP Mv Mx Mz res h hex
set_option maxHeartbeats 4000000 in
set_option maxRecDepth 100000 in
theorem c_X7_bring_v2 (cy : Nat → ClassId) (Ms : Int32) (Mb : Int32) (Mq : Int32) (MB : Int64) (My : Int32) (ML : Int32) (Mg : Int32) (MF : Int32) (MW : Bool) (MI : Bool) (MA : Int32) (Mr : Nat → Int32) (Ma : Nat → Int32) (Mp : Nat → Int32) (Mf : Nat → Int32) (Mt : Nat → Int32) (Ml : Nat → Int32) (Mo : Nat → Int32) (Mn : Nat → Int32) (Mm : Nat → Int64) (MT : Nat → Int64) (MP : Nat → Int64) (Mv : Nat → Int32) (Mx : Nat → Int64) (Mz : Nat → Int64) (x2 : Int32) (x4 : Int32) (res : (Nat → Int32)) (h : f_X7_bring_v2 x2 x4 Ma Mp = some res) : MG cy yX7_bring cX7_bring 6 none 0 0 [.ref 0, .ref 2, .int x2, .ref 3, .int x4] (wMo cy Ms Mb Mq MB My ML Mg MF MW MI MA Mr Ma Mp Mf Mt Ml Mo Mn Mm MT MP Mv Mx Mz) none (wMo cy Ms Mb Mq MB My ML Mg MF MW MI MA Mr Ma res Mf Mt Ml Mo Mn Mm MT MP Mv Mx Mz) := by
  refine MG_of (o := 7) (lv := [(0, .ref 0), (1, .ref 2), (2, .int x2), (3, .ref 3), (4, .int x4)]) ⟨by decide +kernel, rfl⟩ (Nat.le_of_ble_eq_true rfl) rfl (fun k C hR => ?_)
  rw [f_X7_bring_v2] at h
  refine G_r C [(.iconst 0, 1, 0, 0, .int (0 : Int32)), (.istore 5, 2, 0, 0, .null)] 3 [(5, .int (0 : Int32)), (0, .ref 0), (1, .ref 2), (2, .int x2), (3, .ref 3), (4, .int x4)] [] (wMo cy Ms Mb Mq MB My ML Mg MF MW MI MA Mr Ma Mp Mf Mt Ml Mo Mn Mm MT MP Mv Mx Mz) (by decide +kernel) rfl rfl ?_
  obtain ⟨q1, hq1, h⟩ := obd h
  refine G_lv [2, 3, 4, 5, 0] (lv' := [(1, .ref 2), (2, .int x2), (3, .ref 3), (4, .int x4), (5, .int (0 : Int32))]) rfl ?_
  refine g_X7_bring_v2_L3 C 200 x2 x4 (0 : Int32) Ms Mb Mq MB My ML Mg MF MW MI MA Mr Ma Mp Mf Mt Ml Mo Mn Mm MT MP Mv Mx Mz q1 hq1 ?_
  have h := Option.some.inj h
  subst h
  exact G_vret C hR (by decide +kernel)
