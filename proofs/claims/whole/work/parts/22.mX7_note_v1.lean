def f_X7_note_v1_L11 : Nat → Int32 → (Nat → Int32) → Option (Nat → Int32)
  | 0, _, _ => none
  | fu + 1, x2, Mp => if (40 : Int32) ≤ x2 then (some Mp) else (if (x2 + (8 : Int32)) < 0 ∨ 48 ≤ (x2 + (8 : Int32)).toNatClampNeg then none else if x2 < 0 ∨ 48 ≤ x2.toNatClampNeg then none else f_X7_note_v1_L11 fu (x2 + (1 : Int32)) (upd Mp x2.toNatClampNeg (Mp (x2 + (8 : Int32)).toNatClampNeg)))
def f_X7_note_v1 (Ms : Int32) (Ma : Nat → Int32) (Mp : Nat → Int32) : Option (Int32 × (Nat → Int32)) := if Ms = (6 : Int32) then ((f_X7_note_v1_L11 200 (0 : Int32) Mp).bind fun q2 => (f_X7_bring_v2 (0 : Int32) ((8 : Int32) * (Ms - (1 : Int32))) Ma q2).bind fun q3 => some (((Ms - (1 : Int32)) + (1 : Int32)), q3)) else ((f_X7_bring_v2 (0 : Int32) ((8 : Int32) * Ms) Ma Mp).bind fun q1 => some ((Ms + (1 : Int32)), q1))
set_option maxHeartbeats 4000000 in
set_option maxRecDepth 100000 in
theorem g_X7_note_v1_L11 {k : KX} {cy : Nat → ClassId} (C : OK k cX7_note 7 3 cy 1 25) : ∀ (fu : Nat) (x2 : Int32) (Ms : Int32) (Mb : Int32) (Mq : Int32) (MB : Int64) (My : Int32) (ML : Int32) (Mg : Int32) (MF : Int32) (MW : Bool) (MI : Bool) (MA : Int32) (Mr : Nat → Int32) (Ma : Nat → Int32) (Mp : Nat → Int32) (Mf : Nat → Int32) (Mt : Nat → Int32) (Ml : Nat → Int32) (Mo : Nat → Int32) (Mn : Nat → Int32) (Mm : Nat → Int64) (MT : Nat → Int64) (MP : Nat → Int64) (Mv : Nat → Int32) (Mx : Nat → Int64) (Mz : Nat → Int64) (res : (Nat → Int32)), (f_X7_note_v1_L11 fu x2 Mp = some res) → G k 3 38 [(0, .ref 0), (1, .ref 2)] [] (wMo cy Ms Mb Mq MB My ML Mg MF MW MI MA Mr Ma res Mf Mt Ml Mo Mn Mm MT MP Mv Mx Mz) → G k 3 11 [(0, .ref 0), (1, .ref 2), (2, .int x2)] [] (wMo cy Ms Mb Mq MB My ML Mg MF MW MI MA Mr Ma Mp Mf Mt Ml Mo Mn Mm MT MP Mv Mx Mz) := by
  intro fu
  induction fu with
  | zero =>
    intro x2 Ms Mb Mq MB My ML Mg MF MW MI MA Mr Ma Mp Mf Mt Ml Mo Mn Mm MT MP Mv Mx Mz res h hex
    rw [f_X7_note_v1_L11] at h
    cases h
  | succ fu ih =>
    intro x2 Ms Mb Mq MB My ML Mg MF MW MI MA Mr Ma Mp Mf Mt Ml Mo Mn Mm MT MP Mv Mx Mz res h hex
    rw [f_X7_note_v1_L11] at h
    refine G_r C [(.iload_n 2, 1, 0, 0, .null), (.bipush 40, 2, 0, 0, .int (40 : Int32))] 14 [(0, .ref 0), (1, .ref 2), (2, .int x2)] [.int (40 : Int32), .int x2] (wMo cy Ms Mb Mq MB My ML Mg MF MW MI MA Mr Ma Mp Mf Mt Ml Mo Mn Mm MT MP Mv Mx Mz) (by decide +kernel) rfl rfl ?_
    refine G_icmp_ge C (off := 24) (tgt := 38) (by decide +kernel) rfl (fun c => ?_) (fun c => ?_)
    · rw [if_pos c] at h
      have h := Option.some.inj h
      subst h
      refine G_lv [0, 1] (lv' := [(0, .ref 0), (1, .ref 2)]) rfl ?_
      exact hex
    · rw [if_neg c] at h
      refine G_r C [(.aload_n 0, 1, 0, 0, .null), (.getfield 16, 3, 7, 2, .null), (.iload_n 2, 1, 0, 0, .null), (.aload_n 0, 1, 0, 0, .null), (.getfield 16, 3, 7, 2, .null), (.iload_n 2, 1, 0, 0, .null), (.bipush 8, 2, 0, 0, .int (8 : Int32)), (.iadd, 1, 0, 0, .null)] 30 [(0, .ref 0), (1, .ref 2), (2, .int x2)] [.int (x2 + (8 : Int32)), .ref 3, .int x2, .ref 3] (wMo cy Ms Mb Mq MB My ML Mg MF MW MI MA Mr Ma Mp Mf Mt Ml Mo Mn Mm MT MP Mv Mx Mz) (by decide +kernel) rfl rfl ?_
      obtain ⟨cg, h⟩ := oob h
      refine G_iald C (a := 3) rfl cg (by decide +kernel) ?_
      obtain ⟨cg, h⟩ := oob h
      refine G_iast C (a := 3) (w' := (wMo cy Ms Mb Mq MB My ML Mg MF MW MI MA Mr Ma (upd Mp x2.toNatClampNeg (Mp (x2 + (8 : Int32)).toNatClampNeg)) Mf Mt Ml Mo Mn Mm MT MP Mv Mx Mz)) rfl cg (by decide +kernel) rfl ?_
      refine G_r C [(.iinc 2 1, 3, 0, 0, .int (1 : Int32))] 35 [(2, .int (x2 + (1 : Int32))), (0, .ref 0), (1, .ref 2)] [] (wMo cy Ms Mb Mq MB My ML Mg MF MW MI MA Mr Ma (upd Mp x2.toNatClampNeg (Mp (x2 + (8 : Int32)).toNatClampNeg)) Mf Mt Ml Mo Mn Mm MT MP Mv Mx Mz) (by decide +kernel) rfl rfl ?_
      refine G_goto C (off := -24) (tgt := 11) (by decide +kernel) rfl ?_
      refine G_lv [1, 2, 0] (lv' := [(0, .ref 0), (1, .ref 2), (2, .int (x2 + (1 : Int32)))]) rfl ?_
      exact ih (x2 + (1 : Int32)) Ms Mb Mq MB My ML Mg MF MW MI MA Mr Ma (upd Mp x2.toNatClampNeg (Mp (x2 + (8 : Int32)).toNatClampNeg)) Mf Mt Ml Mo Mn Mm MT MP Mv Mx Mz res h hex
set_option maxHeartbeats 4000000 in
set_option maxRecDepth 100000 in
theorem c_X7_note_v1 (cy : Nat → ClassId) (Ms : Int32) (Mb : Int32) (Mq : Int32) (MB : Int64) (My : Int32) (ML : Int32) (Mg : Int32) (MF : Int32) (MW : Bool) (MI : Bool) (MA : Int32) (Mr : Nat → Int32) (Ma : Nat → Int32) (Mp : Nat → Int32) (Mf : Nat → Int32) (Mt : Nat → Int32) (Ml : Nat → Int32) (Mo : Nat → Int32) (Mn : Nat → Int32) (Mm : Nat → Int64) (MT : Nat → Int64) (MP : Nat → Int64) (Mv : Nat → Int32) (Mx : Nat → Int64) (Mz : Nat → Int64)  (res : (Int32 × (Nat → Int32))) (h : f_X7_note_v1 Ms Ma Mp = some res) : MG cy yX7_note cX7_note 3 none 1 25 [.ref 0, .ref 2] (wMo cy Ms Mb Mq MB My ML Mg MF MW MI MA Mr Ma Mp Mf Mt Ml Mo Mn Mm MT MP Mv Mx Mz) none (wMo cy res.1 Mb Mq MB My ML Mg MF MW MI MA Mr Ma res.2 Mf Mt Ml Mo Mn Mm MT MP Mv Mx Mz) := by
  refine MG_of (o := 7) (lv := [(0, .ref 0), (1, .ref 2)]) ⟨by decide +kernel, rfl⟩ (Nat.le_of_ble_eq_true rfl) rfl (fun k C hR => ?_)
  rw [f_X7_note_v1] at h
  refine G_r C [(.aload_n 0, 1, 0, 0, .null), (.getfield 56, 3, 7, 3, .null), (.bipush 6, 2, 0, 0, .int (6 : Int32))] 6 [(0, .ref 0), (1, .ref 2)] [.int (6 : Int32), .int Ms] (wMo cy Ms Mb Mq MB My ML Mg MF MW MI MA Mr Ma Mp Mf Mt Ml Mo Mn Mm MT MP Mv Mx Mz) (by decide +kernel) rfl rfl ?_
  refine G_icmp_ne C (off := 42) (tgt := 48) (by decide +kernel) rfl (fun c => ?_) (fun c => ?_)
  · rw [if_neg c] at h
    refine G_r C [(.aload_n 0, 1, 0, 0, .null), (.aload_n 1, 1, 0, 0, .null), (.iconst 0, 1, 0, 0, .int (0 : Int32)), (.aload_n 0, 1, 0, 0, .null), (.getfield 16, 3, 7, 2, .null), (.bipush 8, 2, 0, 0, .int (8 : Int32)), (.aload_n 0, 1, 0, 0, .null), (.getfield 56, 3, 7, 3, .null), (.imul, 1, 0, 0, .null)] 62 [(0, .ref 0), (1, .ref 2)] [.int ((8 : Int32) * Ms), .ref 3, .int (0 : Int32), .ref 2, .ref 0] (wMo cy Ms Mb Mq MB My ML Mg MF MW MI MA Mr Ma Mp Mf Mt Ml Mo Mn Mm MT MP Mv Mx Mz) (by decide +kernel) rfl rfl ?_
    obtain ⟨q1, hq1, h⟩ := obd h
    refine G_c0 C lk_7_60 ⟨Nat.le_of_ble_eq_true rfl, Nat.le_of_ble_eq_true rfl⟩ (by decide +kernel) [] (c_X7_bring_v2 cy Ms Mb Mq MB My ML Mg MF MW MI MA Mr Ma Mp Mf Mt Ml Mo Mn Mm MT MP Mv Mx Mz (0 : Int32) ((8 : Int32) * Ms) q1 hq1) rfl rfl (Nat.le_of_ble_eq_true rfl) ⟨rfl, rfl⟩ rfl ?_
    refine G_r C [(.aload_n 0, 1, 0, 0, .null), (.dup, 1, 0, 0, .null), (.getfield 56, 3, 7, 3, .null), (.iconst 1, 1, 0, 0, .int (1 : Int32)), (.iadd, 1, 0, 0, .null), (.putfield 56, 3, 7, 3, .null)] 75 [(0, .ref 0), (1, .ref 2)] [] (wMo cy (Ms + (1 : Int32)) Mb Mq MB My ML Mg MF MW MI MA Mr Ma q1 Mf Mt Ml Mo Mn Mm MT MP Mv Mx Mz) (by decide +kernel) rfl rfl ?_
    have h := Option.some.inj h
    subst h
    exact G_vret C hR (by decide +kernel)
  · rw [if_pos c] at h
    refine G_r C [(.iconst 0, 1, 0, 0, .int (0 : Int32)), (.istore_n 2, 1, 0, 0, .null)] 11 [(2, .int (0 : Int32)), (0, .ref 0), (1, .ref 2)] [] (wMo cy Ms Mb Mq MB My ML Mg MF MW MI MA Mr Ma Mp Mf Mt Ml Mo Mn Mm MT MP Mv Mx Mz) (by decide +kernel) rfl rfl ?_
    obtain ⟨q2, hq2, h⟩ := obd h
    refine G_lv [1, 2, 0] (lv' := [(0, .ref 0), (1, .ref 2), (2, .int (0 : Int32))]) rfl ?_
    refine g_X7_note_v1_L11 C 200 (0 : Int32) Ms Mb Mq MB My ML Mg MF MW MI MA Mr Ma Mp Mf Mt Ml Mo Mn Mm MT MP Mv Mx Mz q2 hq2 ?_
    refine G_r C [(.aload_n 0, 1, 0, 0, .null), (.dup, 1, 0, 0, .null), (.getfield 56, 3, 7, 3, .null), (.iconst 1, 1, 0, 0, .int (1 : Int32)), (.isub, 1, 0, 0, .null), (.putfield 56, 3, 7, 3, .null), (.aload_n 0, 1, 0, 0, .null), (.aload_n 1, 1, 0, 0, .null), (.iconst 0, 1, 0, 0, .int (0 : Int32)), (.aload_n 0, 1, 0, 0, .null), (.getfield 16, 3, 7, 2, .null), (.bipush 8, 2, 0, 0, .int (8 : Int32)), (.aload_n 0, 1, 0, 0, .null), (.getfield 56, 3, 7, 3, .null), (.imul, 1, 0, 0, .null)] 62 [(0, .ref 0), (1, .ref 2)] [.int ((8 : Int32) * (Ms - (1 : Int32))), .ref 3, .int (0 : Int32), .ref 2, .ref 0] (wMo cy (Ms - (1 : Int32)) Mb Mq MB My ML Mg MF MW MI MA Mr Ma q2 Mf Mt Ml Mo Mn Mm MT MP Mv Mx Mz) (by decide +kernel) rfl rfl ?_
    obtain ⟨q3, hq3, h⟩ := obd h
    refine G_c0 C lk_7_60 ⟨Nat.le_of_ble_eq_true rfl, Nat.le_of_ble_eq_true rfl⟩ (by decide +kernel) [] (c_X7_bring_v2 cy (Ms - (1 : Int32)) Mb Mq MB My ML Mg MF MW MI MA Mr Ma q2 Mf Mt Ml Mo Mn Mm MT MP Mv Mx Mz (0 : Int32) ((8 : Int32) * (Ms - (1 : Int32))) q3 hq3) rfl rfl (Nat.le_of_ble_eq_true rfl) ⟨rfl, rfl⟩ rfl ?_
    refine G_r C [(.aload_n 0, 1, 0, 0, .null), (.dup, 1, 0, 0, .null), (.getfield 56, 3, 7, 3, .null), (.iconst 1, 1, 0, 0, .int (1 : Int32)), (.iadd, 1, 0, 0, .null), (.putfield 56, 3, 7, 3, .null)] 75 [(0, .ref 0), (1, .ref 2)] [] (wMo cy ((Ms - (1 : Int32)) + (1 : Int32)) Mb Mq MB My ML Mg MF MW MI MA Mr Ma q3 Mf Mt Ml Mo Mn Mm MT MP Mv Mx Mz) (by decide +kernel) rfl rfl ?_
    have h := Option.some.inj h
    subst h
    exact G_vret C hR (by decide +kernel)
def f_X7_adds (x1 : Int32) (x2 : Int32) (Ms : Int32) (Mr : Nat → Int32) (Ma : Nat → Int32) (Mp : Nat → Int32) (Mf : Nat → Int32) (Mm : Nat → Int64) : Option (Int32 × Int32 × (Nat → Int32) × (Nat → Int32) × (Nat → Int32) × (Nat → Int32) × (Nat → Int64)) := (f_X7_isPlace x1).bind fun q1 => if (bI q1) = 0 then ((f_X7_bad Mf).bind fun q2 => some (q2.1, Ms, Mr, Ma, Mp, q2.2, Mm)) else ((f_X7_isWeight x2).bind fun q3 => if (bI q3) = 0 then ((f_X7_bad Mf).bind fun q8 => some (q8.1, Ms, Mr, Ma, Mp, q8.2, Mm)) else ((f_X7_bring_v1 (0 : Int32) (0 : Int32) Mr Ma).bind fun q4 => (f_X7_addPlace x1 x2 Mr Mm).bind fun q5 => if (bI q5.1) = 0 then ((f_X7_no Mf).bind fun q7 => some (q7.1, Ms, q5.2.1, q4, Mp, q7.2, q5.2.2)) else ((f_X7_note_v1 Ms q4 Mp).bind fun q6 => if (0 : Int32) < 0 ∨ 8 ≤ (0 : Int32).toNatClampNeg then none else some ((q5.2.1 (0 : Int32).toNatClampNeg), q6.1, q5.2.1, q4, q6.2, Mf, q5.2.2))))
set_option maxHeartbeats 4000000 in
set_option maxRecDepth 100000 in
theorem c_X7_adds (cy : Nat → ClassId) (Ms : Int32) (Mb : Int32) (Mq : Int32) (MB : Int64) (My : Int32) (ML : Int32) (Mg : Int32) (MF : Int32) (MW : Bool) (MI : Bool) (MA : Int32) (Mr : Nat → Int32) (Ma : Nat → Int32) (Mp : Nat → Int32) (Mf : Nat → Int32) (Mt : Nat → Int32) (Ml : Nat → Int32) (Mo : Nat → Int32) (Mn : Nat → Int32) (Mm : Nat → Int64) (MT : Nat → Int64) (MP : Nat → Int64) (Mv : Nat → Int32) (Mx : Nat → Int64) (Mz : Nat → Int64) (x1 : Int32) (x2 : Int32) (res : (Int32 × Int32 × (Nat → Int32) × (Nat → Int32) × (Nat → Int32) × (Nat → Int32) × (Nat → Int64))) (h : f_X7_adds x1 x2 Ms Mr Ma Mp Mf Mm = some res) : MG cy yX7_adds cX7_adds 3 (some .int) 3 71 [.ref 0, .int x1, .int x2] (wMo cy Ms Mb Mq MB My ML Mg MF MW MI MA Mr Ma Mp Mf Mt Ml Mo Mn Mm MT MP Mv Mx Mz) (some (.int res.1)) (wMo cy res.2.1 Mb Mq MB My ML Mg MF MW MI MA res.2.2.1 res.2.2.2.1 res.2.2.2.2.1 res.2.2.2.2.2.1 Mt Ml Mo Mn res.2.2.2.2.2.2 MT MP Mv Mx Mz) := by
  refine MG_of (o := 7) (lv := [(0, .ref 0), (1, .int x1), (2, .int x2)]) ⟨by decide +kernel, rfl⟩ (Nat.le_of_ble_eq_true rfl) rfl (fun k C hR => ?_)
  rw [f_X7_adds] at h
  refine G_r C [(.iload_n 1, 1, 0, 0, .null)] 1 [(0, .ref 0), (1, .int x1), (2, .int x2)] [.int x1] (wMo cy Ms Mb Mq MB My ML Mg MF MW MI MA Mr Ma Mp Mf Mt Ml Mo Mn Mm MT MP Mv Mx Mz) (by decide +kernel) rfl rfl ?_
  obtain ⟨q1, hq1, h⟩ := obd h
  refine G_cS C lk_7_113 ⟨Nat.le_of_ble_eq_true rfl, Nat.le_of_ble_eq_true rfl⟩ (by decide +kernel) [.int (bI q1)] (c_X7_isPlace cy x1 q1 hq1) rfl rfl (Nat.le_of_ble_eq_true rfl) rfl ?_
  refine G_if_eq C (off := 10) (tgt := 14) (by decide +kernel) rfl (fun c => ?_) (fun c => ?_)
  · rw [if_pos c] at h
    refine G_r C [(.aload_n 0, 1, 0, 0, .null)] 15 [(0, .ref 0), (1, .int x1), (2, .int x2)] [.ref 0] (wMo cy Ms Mb Mq MB My ML Mg MF MW MI MA Mr Ma Mp Mf Mt Ml Mo Mn Mm MT MP Mv Mx Mz) (by decide +kernel) rfl rfl ?_
    obtain ⟨q2, hq2, h⟩ := obd h
    refine G_c0 C lk_7_72 ⟨Nat.le_of_ble_eq_true rfl, Nat.le_of_ble_eq_true rfl⟩ (by decide +kernel) [.int q2.1] (c_X7_bad cy Ms Mb Mq MB My ML Mg MF MW MI MA Mr Ma Mp Mf Mt Ml Mo Mn Mm MT MP Mv Mx Mz q2 hq2) rfl rfl (Nat.le_of_ble_eq_true rfl) ⟨rfl, rfl⟩ rfl ?_
    have h := Option.some.inj h
    subst h
    exact G_iret C hR (by decide +kernel)
  · rw [if_neg c] at h
    refine G_r C [(.iload_n 2, 1, 0, 0, .null)] 8 [(0, .ref 0), (1, .int x1), (2, .int x2)] [.int x2] (wMo cy Ms Mb Mq MB My ML Mg MF MW MI MA Mr Ma Mp Mf Mt Ml Mo Mn Mm MT MP Mv Mx Mz) (by decide +kernel) rfl rfl ?_
    obtain ⟨q3, hq3, h⟩ := obd h
    refine G_cS C lk_7_116 ⟨Nat.le_of_ble_eq_true rfl, Nat.le_of_ble_eq_true rfl⟩ (by decide +kernel) [.int (bI q3)] (c_X7_isWeight cy x2 q3 hq3) rfl rfl (Nat.le_of_ble_eq_true rfl) rfl ?_
    refine G_if_ne C (off := 8) (tgt := 19) (by decide +kernel) rfl (fun c => ?_) (fun c => ?_)
    · rw [if_neg c] at h
      refine G_r C [(.aload_n 0, 1, 0, 0, .null), (.aload_n 0, 1, 0, 0, .null), (.getfield 7, 3, 7, 0, .null), (.iconst 0, 1, 0, 0, .int (0 : Int32)), (.aload_n 0, 1, 0, 0, .null), (.getfield 13, 3, 7, 1, .null), (.iconst 0, 1, 0, 0, .int (0 : Int32))] 30 [(0, .ref 0), (1, .int x1), (2, .int x2)] [.int (0 : Int32), .ref 2, .int (0 : Int32), .ref 1, .ref 0] (wMo cy Ms Mb Mq MB My ML Mg MF MW MI MA Mr Ma Mp Mf Mt Ml Mo Mn Mm MT MP Mv Mx Mz) (by decide +kernel) rfl rfl ?_
      obtain ⟨q4, hq4, h⟩ := obd h
      refine G_c0 C lk_7_60 ⟨Nat.le_of_ble_eq_true rfl, Nat.le_of_ble_eq_true rfl⟩ (by decide +kernel) [] (c_X7_bring_v1 cy Ms Mb Mq MB My ML Mg MF MW MI MA Mr Ma Mp Mf Mt Ml Mo Mn Mm MT MP Mv Mx Mz (0 : Int32) (0 : Int32) q4 hq4) rfl rfl (Nat.le_of_ble_eq_true rfl) ⟨rfl, rfl⟩ rfl ?_
      refine G_r C [(.aload_n 0, 1, 0, 0, .null), (.iload_n 1, 1, 0, 0, .null), (.iload_n 2, 1, 0, 0, .null)] 36 [(0, .ref 0), (1, .int x1), (2, .int x2)] [.int x2, .int x1, .ref 0] (wMo cy Ms Mb Mq MB My ML Mg MF MW MI MA Mr q4 Mp Mf Mt Ml Mo Mn Mm MT MP Mv Mx Mz) (by decide +kernel) rfl rfl ?_
      obtain ⟨q5, hq5, h⟩ := obd h
      refine G_c0 C lk_7_119 ⟨Nat.le_of_ble_eq_true rfl, Nat.le_of_ble_eq_true rfl⟩ (by decide +kernel) [.int (bI q5.1)] (c_X7_addPlace cy Ms Mb Mq MB My ML Mg MF MW MI MA Mr q4 Mp Mf Mt Ml Mo Mn Mm MT MP Mv Mx Mz x1 x2 q5 hq5) rfl rfl (Nat.le_of_ble_eq_true rfl) ⟨rfl, rfl⟩ rfl ?_
      refine G_if_ne C (off := 8) (tgt := 47) (by decide +kernel) rfl (fun c => ?_) (fun c => ?_)
      · rw [if_neg c] at h
        refine G_r C [(.aload_n 0, 1, 0, 0, .null), (.aload_n 0, 1, 0, 0, .null), (.getfield 13, 3, 7, 1, .null)] 52 [(0, .ref 0), (1, .int x1), (2, .int x2)] [.ref 2, .ref 0] (wMo cy Ms Mb Mq MB My ML Mg MF MW MI MA q5.2.1 q4 Mp Mf Mt Ml Mo Mn q5.2.2 MT MP Mv Mx Mz) (by decide +kernel) rfl rfl ?_
        obtain ⟨q6, hq6, h⟩ := obd h
        refine G_c0 C lk_7_76 ⟨Nat.le_of_ble_eq_true rfl, Nat.le_of_ble_eq_true rfl⟩ (by decide +kernel) [] (c_X7_note_v1 cy Ms Mb Mq MB My ML Mg MF MW MI MA q5.2.1 q4 Mp Mf Mt Ml Mo Mn q5.2.2 MT MP Mv Mx Mz q6 hq6) rfl rfl (Nat.le_of_ble_eq_true rfl) ⟨rfl, rfl⟩ rfl ?_
        refine G_r C [(.aload_n 0, 1, 0, 0, .null), (.getfield 7, 3, 7, 0, .null), (.iconst 0, 1, 0, 0, .int (0 : Int32))] 60 [(0, .ref 0), (1, .int x1), (2, .int x2)] [.int (0 : Int32), .ref 1] (wMo cy q6.1 Mb Mq MB My ML Mg MF MW MI MA q5.2.1 q4 q6.2 Mf Mt Ml Mo Mn q5.2.2 MT MP Mv Mx Mz) (by decide +kernel) rfl rfl ?_
        obtain ⟨cg, h⟩ := oob h
        refine G_iald C (a := 1) rfl cg (by decide +kernel) ?_
        have h := Option.some.inj h
        subst h
        exact G_iret C hR (by decide +kernel)
      · rw [if_pos c] at h
        refine G_r C [(.aload_n 0, 1, 0, 0, .null)] 43 [(0, .ref 0), (1, .int x1), (2, .int x2)] [.ref 0] (wMo cy Ms Mb Mq MB My ML Mg MF MW MI MA q5.2.1 q4 Mp Mf Mt Ml Mo Mn q5.2.2 MT MP Mv Mx Mz) (by decide +kernel) rfl rfl ?_
        obtain ⟨q7, hq7, h⟩ := obd h
        refine G_c0 C lk_7_87 ⟨Nat.le_of_ble_eq_true rfl, Nat.le_of_ble_eq_true rfl⟩ (by decide +kernel) [.int q7.1] (c_X7_no cy Ms Mb Mq MB My ML Mg MF MW MI MA q5.2.1 q4 Mp Mf Mt Ml Mo Mn q5.2.2 MT MP Mv Mx Mz q7 hq7) rfl rfl (Nat.le_of_ble_eq_true rfl) ⟨rfl, rfl⟩ rfl ?_
        have h := Option.some.inj h
        subst h
        exact G_iret C hR (by decide +kernel)
    · rw [if_pos c] at h
      refine G_r C [(.aload_n 0, 1, 0, 0, .null)] 15 [(0, .ref 0), (1, .int x1), (2, .int x2)] [.ref 0] (wMo cy Ms Mb Mq MB My ML Mg MF MW MI MA Mr Ma Mp Mf Mt Ml Mo Mn Mm MT MP Mv Mx Mz) (by decide +kernel) rfl rfl ?_
      obtain ⟨q8, hq8, h⟩ := obd h
      refine G_c0 C lk_7_72 ⟨Nat.le_of_ble_eq_true rfl, Nat.le_of_ble_eq_true rfl⟩ (by decide +kernel) [.int q8.1] (c_X7_bad cy Ms Mb Mq MB My ML Mg MF MW MI MA Mr Ma Mp Mf Mt Ml Mo Mn Mm MT MP Mv Mx Mz q8 hq8) rfl rfl (Nat.le_of_ble_eq_true rfl) ⟨rfl, rfl⟩ rfl ?_
      have h := Option.some.inj h
      subst h
      exact G_iret C hR (by decide +kernel)
def f_X7_choose_L5 : Nat → Int32 → Int32 → Int64 → Int32 → Option Int64
  | 0, _, _, _, _ => none
  | fu + 1, x0, x1, x2, x4 => if x1 < x4 then (some x2) else (if x4.toInt64 = 0 then none else f_X7_choose_L5 fu x0 x1 ((x2 * (((x0 - x4) + (1 : Int32)).toInt64)) / x4.toInt64) (x4 + (1 : Int32)))
def f_X7_choose (x0 : Int32) (x1 : Int32) : Option Int64 := (f_X7_choose_L5 200 x0 x1 (1 : Int64) (1 : Int32)).bind fun q1 => some q1
set_option maxHeartbeats 4000000 in
set_option maxRecDepth 100000 in
theorem g_X7_choose_L5 {k : KX} {cy : Nat → ClassId} (C : OK k cX7_choose 7 5 cy 0 0) : ∀ (fu : Nat) (x0 : Int32) (x1 : Int32) (x2 : Int64) (x4 : Int32) (res : Int64), (f_X7_choose_L5 fu x0 x1 x2 x4 = some res) → G k 5 31 [(2, .long res)] [] [] → G k 5 5 [(0, .int x0), (1, .int x1), (2, .long x2), (4, .int x4)] [] [] := by
  intro fu
  induction fu with
  | zero =>
    intro x0 x1 x2 x4 res h hex
    rw [f_X7_choose_L5] at h
    cases h
  | succ fu ih =>
    intro x0 x1 x2 x4 res h hex
    rw [f_X7_choose_L5] at h
    refine G_r C [(.iload 4, 2, 0, 0, .null), (.iload_n 1, 1, 0, 0, .null)] 8 [(0, .int x0), (1, .int x1), (2, .long x2), (4, .int x4)] [.int x1, .int x4] [] (by decide +kernel) rfl rfl ?_
    refine G_icmp_gt C (off := 23) (tgt := 31) (by decide +kernel) rfl (fun c => ?_) (fun c => ?_)
    · rw [if_pos c] at h
      have h := Option.some.inj h
      subst h
      refine G_lv [2] (lv' := [(2, .long x2)]) rfl ?_
      exact hex
    · rw [if_neg c] at h
      refine G_r C [(.lload_n 2, 1, 0, 0, .null), (.iload_n 0, 1, 0, 0, .null), (.iload 4, 2, 0, 0, .null), (.isub, 1, 0, 0, .null), (.iconst 1, 1, 0, 0, .int (1 : Int32)), (.iadd, 1, 0, 0, .null), (.i2l, 1, 0, 0, .null), (.lmul, 1, 0, 0, .null), (.iload 4, 2, 0, 0, .null), (.i2l, 1, 0, 0, .null)] 23 [(0, .int x0), (1, .int x1), (2, .long x2), (4, .int x4)] [.long x4.toInt64, .long (x2 * (((x0 - x4) + (1 : Int32)).toInt64))] [] (by decide +kernel) rfl rfl ?_
      obtain ⟨cg, h⟩ := oob h
      refine G_ldiv C (by decide +kernel) cg ?_
      refine G_r C [(.lstore_n 2, 1, 0, 0, .null), (.iinc 4 1, 3, 0, 0, .int (1 : Int32))] 28 [(4, .int (x4 + (1 : Int32))), (2, .long ((x2 * (((x0 - x4) + (1 : Int32)).toInt64)) / x4.toInt64)), (0, .int x0), (1, .int x1)] [] [] (by decide +kernel) rfl rfl ?_
      refine G_goto C (off := -23) (tgt := 5) (by decide +kernel) rfl ?_
      refine G_lv [2, 3, 1, 0] (lv' := [(0, .int x0), (1, .int x1), (2, .long ((x2 * (((x0 - x4) + (1 : Int32)).toInt64)) / x4.toInt64)), (4, .int (x4 + (1 : Int32)))]) rfl ?_
      exact ih x0 x1 ((x2 * (((x0 - x4) + (1 : Int32)).toInt64)) / x4.toInt64) (x4 + (1 : Int32))  res h hex
set_option maxHeartbeats 4000000 in
set_option maxRecDepth 100000 in
theorem c_X7_choose (cy : Nat → ClassId)  (x0 : Int32) (x1 : Int32) (res : Int64) (h : f_X7_choose x0 x1 = some res) : MG cy yX7_choose cX7_choose 5 (some .long) 0 0 [.int x0, .int x1] [] (some (.long res)) [] := by
  refine MG_of (o := 7) (lv := [(0, .int x0), (1, .int x1)]) ⟨by decide +kernel, rfl⟩ (Nat.le_of_ble_eq_true rfl) rfl (fun k C hR => ?_)
  rw [f_X7_choose] at h
  refine G_r C [(.lconst 1, 1, 0, 0, .long (1 : Int64)), (.lstore_n 2, 1, 0, 0, .null), (.iconst 1, 1, 0, 0, .int (1 : Int32)), (.istore 4, 2, 0, 0, .null)] 5 [(4, .int (1 : Int32)), (2, .long (1 : Int64)), (0, .int x0), (1, .int x1)] [] [] (by decide +kernel) rfl rfl ?_
  obtain ⟨q1, hq1, h⟩ := obd h
  refine G_lv [2, 3, 1, 0] (lv' := [(0, .int x0), (1, .int x1), (2, .long (1 : Int64)), (4, .int (1 : Int32))]) rfl ?_
  refine g_X7_choose_L5 C 200 x0 x1 (1 : Int64) (1 : Int32)  q1 hq1 ?_
  refine G_r C [(.lload_n 2, 1, 0, 0, .null)] 32 [(2, .long q1)] [.long q1] [] (by decide +kernel) rfl rfl ?_
  have h := Option.some.inj h
  subst h
  exact G_lret C hR (by decide +kernel)
def f_X7_move_L18 : Nat → Int32 → Int32 → Int64 → Int32 → (Nat → Int32) → Option Int64
  | 0, _, _, _, _, _ => none
  | fu + 1, x1, x2, x3, x5, Mr => if x2 < x5 then (some x3) else ((f_X7_choose x2 x5).bind fun q1 => (f_X7_power x1.toInt64 (x2 - x5)).bind fun q2 => if x5 < 0 ∨ 8 ≤ x5.toNatClampNeg then none else f_X7_move_L18 fu x1 x2 (x3 + ((q1 * q2) * ((Mr x5.toNatClampNeg).toInt64))) (x5 + (1 : Int32)) Mr)
def f_X7_move_L2 : Nat → Int32 → Int32 → (Nat → Int32) → (Nat → Int64) → Option (Nat → Int64)
  | 0, _, _, _, _ => none
  | fu + 1, x1, x2, Mr, Mm => if (7 : Int32) < 0 ∨ 8 ≤ (7 : Int32).toNatClampNeg then none else if (Mr (7 : Int32).toNatClampNeg) ≤ x2 then (some Mm) else ((f_X7_move_L18 200 x1 x2 (0 : Int64) (0 : Int32) Mr).bind fun q3 => if x2 < 0 ∨ 7 ≤ x2.toNatClampNeg then none else f_X7_move_L2 fu x1 (x2 + (1 : Int32)) Mr (vp_updL Mm x2.toNatClampNeg q3))
def f_X7_move (x1 : Int32) (Mr : Nat → Int32) (Mm : Nat → Int64) : Option (Bool × (Nat → Int32) × (Nat → Int64)) := (f_X7_move_L2 200 x1 (0 : Int32) Mr Mm).bind fun q4 => if (7 : Int32) < 0 ∨ 8 ≤ (7 : Int32).toNatClampNeg then none else (f_X7_takeMade (Mr (7 : Int32).toNatClampNeg) Mr q4).bind fun q5 => some (q5.1, q5.2, q4)
set_option maxHeartbeats 4000000 in
set_option maxRecDepth 100000 in
theorem g_X7_move_L18 {k : KX} {cy : Nat → ClassId} (C : OK k cX7_move 7 6 cy 2 48) : ∀ (fu : Nat) (x1 : Int32) (x2 : Int32) (x3 : Int64) (x5 : Int32) (Ms : Int32) (Mb : Int32) (Mq : Int32) (MB : Int64) (My : Int32) (ML : Int32) (Mg : Int32) (MF : Int32) (MW : Bool) (MI : Bool) (MA : Int32) (Mr : Nat → Int32) (Ma : Nat → Int32) (Mp : Nat → Int32) (Mf : Nat → Int32) (Mt : Nat → Int32) (Ml : Nat → Int32) (Mo : Nat → Int32) (Mn : Nat → Int32) (Mm : Nat → Int64) (MT : Nat → Int64) (MP : Nat → Int64) (Mv : Nat → Int32) (Mx : Nat → Int64) (Mz : Nat → Int64) (res : Int64), (f_X7_move_L18 fu x1 x2 x3 x5 Mr = some res) → G k 6 58 [(0, .ref 0), (1, .int x1), (2, .int x2), (3, .long res)] [] (wMo cy Ms Mb Mq MB My ML Mg MF MW MI MA Mr Ma Mp Mf Mt Ml Mo Mn Mm MT MP Mv Mx Mz) → G k 6 18 [(0, .ref 0), (1, .int x1), (2, .int x2), (3, .long x3), (5, .int x5)] [] (wMo cy Ms Mb Mq MB My ML Mg MF MW MI MA Mr Ma Mp Mf Mt Ml Mo Mn Mm MT MP Mv Mx Mz) := by
  intro fu
  induction fu with
  | zero =>
    intro x1 x2 x3 x5 Ms Mb Mq MB My ML Mg MF MW MI MA Mr Ma Mp Mf Mt Ml Mo Mn Mm MT MP Mv Mx Mz res h hex
    rw [f_X7_move_L18] at h
    cases h
  | succ fu ih =>
    intro x1 x2 x3 x5 Ms Mb Mq MB My ML Mg MF MW MI MA Mr Ma Mp Mf Mt Ml Mo Mn Mm MT MP Mv Mx Mz res h hex
    rw [f_X7_move_L18] at h
    refine G_r C [(.iload 5, 2, 0, 0, .null), (.iload_n 2, 1, 0, 0, .null)] 21 [(0, .ref 0), (1, .int x1), (2, .int x2), (3, .long x3), (5, .int x5)] [.int x2, .int x5] (wMo cy Ms Mb Mq MB My ML Mg MF MW MI MA Mr Ma Mp Mf Mt Ml Mo Mn Mm MT MP Mv Mx Mz) (by decide +kernel) rfl rfl ?_
    refine G_icmp_gt C (off := 37) (tgt := 58) (by decide +kernel) rfl (fun c => ?_) (fun c => ?_)
    · rw [if_pos c] at h
      have h := Option.some.inj h
      subst h
      refine G_lv [0, 1, 2, 3] (lv' := [(0, .ref 0), (1, .int x1), (2, .int x2), (3, .long x3)]) rfl ?_
      exact hex
    · rw [if_neg c] at h
      refine G_r C [(.lload_n 3, 1, 0, 0, .null), (.iload_n 2, 1, 0, 0, .null), (.iload 5, 2, 0, 0, .null)] 28 [(0, .ref 0), (1, .int x1), (2, .int x2), (3, .long x3), (5, .int x5)] [.int x5, .int x2, .long x3] (wMo cy Ms Mb Mq MB My ML Mg MF MW MI MA Mr Ma Mp Mf Mt Ml Mo Mn Mm MT MP Mv Mx Mz) (by decide +kernel) rfl rfl ?_
      obtain ⟨q1, hq1, h⟩ := obd h
      refine G_cS C lk_7_101 ⟨Nat.le_of_ble_eq_true rfl, Nat.le_of_ble_eq_true rfl⟩ (by decide +kernel) [.long q1, .long x3] (c_X7_choose cy x2 x5 q1 hq1) rfl rfl (Nat.le_of_ble_eq_true rfl) rfl ?_
      refine G_r C [(.iload_n 1, 1, 0, 0, .null), (.i2l, 1, 0, 0, .null), (.iload_n 2, 1, 0, 0, .null), (.iload 5, 2, 0, 0, .null), (.isub, 1, 0, 0, .null)] 37 [(0, .ref 0), (1, .int x1), (2, .int x2), (3, .long x3), (5, .int x5)] [.int (x2 - x5), .long x1.toInt64, .long q1, .long x3] (wMo cy Ms Mb Mq MB My ML Mg MF MW MI MA Mr Ma Mp Mf Mt Ml Mo Mn Mm MT MP Mv Mx Mz) (by decide +kernel) rfl rfl ?_
      obtain ⟨q2, hq2, h⟩ := obd h
      refine G_cS C lk_7_93 ⟨Nat.le_of_ble_eq_true rfl, Nat.le_of_ble_eq_true rfl⟩ (by decide +kernel) [.long q2, .long q1, .long x3] (c_X7_power cy x1.toInt64 (x2 - x5) q2 hq2) rfl rfl (Nat.le_of_ble_eq_true rfl) rfl ?_
      refine G_r C [(.lmul, 1, 0, 0, .null), (.aload_n 0, 1, 0, 0, .null), (.getfield 7, 3, 7, 0, .null), (.iload 5, 2, 0, 0, .null)] 47 [(0, .ref 0), (1, .int x1), (2, .int x2), (3, .long x3), (5, .int x5)] [.int x5, .ref 1, .long (q1 * q2), .long x3] (wMo cy Ms Mb Mq MB My ML Mg MF MW MI MA Mr Ma Mp Mf Mt Ml Mo Mn Mm MT MP Mv Mx Mz) (by decide +kernel) rfl rfl ?_
      obtain ⟨cg, h⟩ := oob h
      refine G_iald C (a := 1) rfl cg (by decide +kernel) ?_
      refine G_r C [(.i2l, 1, 0, 0, .null), (.lmul, 1, 0, 0, .null), (.ladd, 1, 0, 0, .null), (.lstore_n 3, 1, 0, 0, .null), (.iinc 5 1, 3, 0, 0, .int (1 : Int32))] 55 [(5, .int (x5 + (1 : Int32))), (3, .long (x3 + ((q1 * q2) * ((Mr x5.toNatClampNeg).toInt64)))), (0, .ref 0), (1, .int x1), (2, .int x2)] [] (wMo cy Ms Mb Mq MB My ML Mg MF MW MI MA Mr Ma Mp Mf Mt Ml Mo Mn Mm MT MP Mv Mx Mz) (by decide +kernel) rfl rfl ?_
      refine G_goto C (off := -37) (tgt := 18) (by decide +kernel) rfl ?_
      refine G_lv [2, 3, 4, 1, 0] (lv' := [(0, .ref 0), (1, .int x1), (2, .int x2), (3, .long (x3 + ((q1 * q2) * ((Mr x5.toNatClampNeg).toInt64)))), (5, .int (x5 + (1 : Int32)))]) rfl ?_
      exact ih x1 x2 (x3 + ((q1 * q2) * ((Mr x5.toNatClampNeg).toInt64))) (x5 + (1 : Int32)) Ms Mb Mq MB My ML Mg MF MW MI MA Mr Ma Mp Mf Mt Ml Mo Mn Mm MT MP Mv Mx Mz res h hex
set_option maxHeartbeats 4000000 in
set_option maxRecDepth 100000 in
theorem g_X7_move_L2 {k : KX} {cy : Nat → ClassId} (C : OK k cX7_move 7 6 cy 2 48) : ∀ (fu : Nat) (x1 : Int32) (x2 : Int32) (Ms : Int32) (Mb : Int32) (Mq : Int32) (MB : Int64) (My : Int32) (ML : Int32) (Mg : Int32) (MF : Int32) (MW : Bool) (MI : Bool) (MA : Int32) (Mr : Nat → Int32) (Ma : Nat → Int32) (Mp : Nat → Int32) (Mf : Nat → Int32) (Mt : Nat → Int32) (Ml : Nat → Int32) (Mo : Nat → Int32) (Mn : Nat → Int32) (Mm : Nat → Int64) (MT : Nat → Int64) (MP : Nat → Int64) (Mv : Nat → Int32) (Mx : Nat → Int64) (Mz : Nat → Int64) (res : (Nat → Int64)), (f_X7_move_L2 fu x1 x2 Mr Mm = some res) → G k 6 71 [(0, .ref 0)] [] (wMo cy Ms Mb Mq MB My ML Mg MF MW MI MA Mr Ma Mp Mf Mt Ml Mo Mn res MT MP Mv Mx Mz) → G k 6 2 [(0, .ref 0), (1, .int x1), (2, .int x2)] [] (wMo cy Ms Mb Mq MB My ML Mg MF MW MI MA Mr Ma Mp Mf Mt Ml Mo Mn Mm MT MP Mv Mx Mz) := by
  intro fu
  induction fu with
  | zero =>
    intro x1 x2 Ms Mb Mq MB My ML Mg MF MW MI MA Mr Ma Mp Mf Mt Ml Mo Mn Mm MT MP Mv Mx Mz res h hex
    rw [f_X7_move_L2] at h
    cases h
  | succ fu ih =>
    intro x1 x2 Ms Mb Mq MB My ML Mg MF MW MI MA Mr Ma Mp Mf Mt Ml Mo Mn Mm MT MP Mv Mx Mz res h hex
    rw [f_X7_move_L2] at h
    refine G_r C [(.iload_n 2, 1, 0, 0, .null), (.aload_n 0, 1, 0, 0, .null), (.getfield 7, 3, 7, 0, .null), (.bipush 7, 2, 0, 0, .int (7 : Int32))] 9 [(0, .ref 0), (1, .int x1), (2, .int x2)] [.int (7 : Int32), .ref 1, .int x2] (wMo cy Ms Mb Mq MB My ML Mg MF MW MI MA Mr Ma Mp Mf Mt Ml Mo Mn Mm MT MP Mv Mx Mz) (by decide +kernel) rfl rfl ?_
    obtain ⟨cg, h⟩ := oob h
    refine G_iald C (a := 1) rfl cg (by decide +kernel) ?_
    refine G_icmp_ge C (off := 61) (tgt := 71) (by decide +kernel) rfl (fun c => ?_) (fun c => ?_)
    · rw [if_pos c] at h
      have h := Option.some.inj h
      subst h
      refine G_lv [0] (lv' := [(0, .ref 0)]) rfl ?_
      exact hex
    · rw [if_neg c] at h
      refine G_r C [(.lconst 0, 1, 0, 0, .long (0 : Int64)), (.lstore_n 3, 1, 0, 0, .null), (.iconst 0, 1, 0, 0, .int (0 : Int32)), (.istore 5, 2, 0, 0, .null)] 18 [(5, .int (0 : Int32)), (3, .long (0 : Int64)), (0, .ref 0), (1, .int x1), (2, .int x2)] [] (wMo cy Ms Mb Mq MB My ML Mg MF MW MI MA Mr Ma Mp Mf Mt Ml Mo Mn Mm MT MP Mv Mx Mz) (by decide +kernel) rfl rfl ?_
      obtain ⟨q3, hq3, h⟩ := obd h
      refine G_lv [2, 3, 4, 1, 0] (lv' := [(0, .ref 0), (1, .int x1), (2, .int x2), (3, .long (0 : Int64)), (5, .int (0 : Int32))]) rfl ?_
      refine g_X7_move_L18 C 200 x1 x2 (0 : Int64) (0 : Int32) Ms Mb Mq MB My ML Mg MF MW MI MA Mr Ma Mp Mf Mt Ml Mo Mn Mm MT MP Mv Mx Mz q3 hq3 ?_
      refine G_r C [(.aload_n 0, 1, 0, 0, .null), (.getfield 34, 3, 7, 11, .null), (.iload_n 2, 1, 0, 0, .null), (.lload_n 3, 1, 0, 0, .null)] 64 [(0, .ref 0), (1, .int x1), (2, .int x2), (3, .long q3)] [.long q3, .int x2, .ref 9] (wMo cy Ms Mb Mq MB My ML Mg MF MW MI MA Mr Ma Mp Mf Mt Ml Mo Mn Mm MT MP Mv Mx Mz) (by decide +kernel) rfl rfl ?_
      obtain ⟨cg, h⟩ := oob h
      refine G_last C (a := 9) (w' := (wMo cy Ms Mb Mq MB My ML Mg MF MW MI MA Mr Ma Mp Mf Mt Ml Mo Mn (vp_updL Mm x2.toNatClampNeg q3) MT MP Mv Mx Mz)) rfl cg (by decide +kernel) rfl ?_
      refine G_r C [(.iinc 2 1, 3, 0, 0, .int (1 : Int32))] 68 [(2, .int (x2 + (1 : Int32))), (0, .ref 0), (1, .int x1), (3, .long q3)] [] (wMo cy Ms Mb Mq MB My ML Mg MF MW MI MA Mr Ma Mp Mf Mt Ml Mo Mn (vp_updL Mm x2.toNatClampNeg q3) MT MP Mv Mx Mz) (by decide +kernel) rfl rfl ?_
      refine G_goto C (off := -66) (tgt := 2) (by decide +kernel) rfl ?_
      refine G_lv [1, 2, 0] (lv' := [(0, .ref 0), (1, .int x1), (2, .int (x2 + (1 : Int32)))]) rfl ?_
      exact ih x1 (x2 + (1 : Int32)) Ms Mb Mq MB My ML Mg MF MW MI MA Mr Ma Mp Mf Mt Ml Mo Mn (vp_updL Mm x2.toNatClampNeg q3) MT MP Mv Mx Mz res h hex
set_option maxHeartbeats 4000000 in
set_option maxRecDepth 100000 in
theorem c_X7_move (cy : Nat → ClassId) (Ms : Int32) (Mb : Int32) (Mq : Int32) (MB : Int64) (My : Int32) (ML : Int32) (Mg : Int32) (MF : Int32) (MW : Bool) (MI : Bool) (MA : Int32) (Mr : Nat → Int32) (Ma : Nat → Int32) (Mp : Nat → Int32) (Mf : Nat → Int32) (Mt : Nat → Int32) (Ml : Nat → Int32) (Mo : Nat → Int32) (Mn : Nat → Int32) (Mm : Nat → Int64) (MT : Nat → Int64) (MP : Nat → Int64) (Mv : Nat → Int32) (Mx : Nat → Int64) (Mz : Nat → Int64) (x1 : Int32) (res : (Bool × (Nat → Int32) × (Nat → Int64))) (h : f_X7_move x1 Mr Mm = some res) : MG cy yX7_move cX7_move 6 (some .boolean) 2 48 [.ref 0, .int x1] (wMo cy Ms Mb Mq MB My ML Mg MF MW MI MA Mr Ma Mp Mf Mt Ml Mo Mn Mm MT MP Mv Mx Mz) (some (.int (bI res.1))) (wMo cy Ms Mb Mq MB My ML Mg MF MW MI MA res.2.1 Ma Mp Mf Mt Ml Mo Mn res.2.2 MT MP Mv Mx Mz) := by
  refine MG_of (o := 7) (lv := [(0, .ref 0), (1, .int x1)]) ⟨by decide +kernel, rfl⟩ (Nat.le_of_ble_eq_true rfl) rfl (fun k C hR => ?_)
  rw [f_X7_move] at h
  refine G_r C [(.iconst 0, 1, 0, 0, .int (0 : Int32)), (.istore_n 2, 1, 0, 0, .null)] 2 [(2, .int (0 : Int32)), (0, .ref 0), (1, .int x1)] [] (wMo cy Ms Mb Mq MB My ML Mg MF MW MI MA Mr Ma Mp Mf Mt Ml Mo Mn Mm MT MP Mv Mx Mz) (by decide +kernel) rfl rfl ?_
  obtain ⟨q4, hq4, h⟩ := obd h
  refine G_lv [1, 2, 0] (lv' := [(0, .ref 0), (1, .int x1), (2, .int (0 : Int32))]) rfl ?_
  refine g_X7_move_L2 C 200 x1 (0 : Int32) Ms Mb Mq MB My ML Mg MF MW MI MA Mr Ma Mp Mf Mt Ml Mo Mn Mm MT MP Mv Mx Mz q4 hq4 ?_
  refine G_r C [(.aload_n 0, 1, 0, 0, .null), (.aload_n 0, 1, 0, 0, .null), (.getfield 7, 3, 7, 0, .null), (.bipush 7, 2, 0, 0, .int (7 : Int32))] 78 [(0, .ref 0)] [.int (7 : Int32), .ref 1, .ref 0] (wMo cy Ms Mb Mq MB My ML Mg MF MW MI MA Mr Ma Mp Mf Mt Ml Mo Mn q4 MT MP Mv Mx Mz) (by decide +kernel) rfl rfl ?_
  obtain ⟨cg, h⟩ := oob h
  refine G_iald C (a := 1) rfl cg (by decide +kernel) ?_
  obtain ⟨q5, hq5, h⟩ := obd h
  refine G_c0 C lk_7_97 ⟨Nat.le_of_ble_eq_true rfl, Nat.le_of_ble_eq_true rfl⟩ (by decide +kernel) [.int (bI q5.1)] (c_X7_takeMade cy Ms Mb Mq MB My ML Mg MF MW MI MA Mr Ma Mp Mf Mt Ml Mo Mn q4 MT MP Mv Mx Mz (Mr (7 : Int32).toNatClampNeg) q5 hq5) rfl rfl (Nat.le_of_ble_eq_true rfl) ⟨rfl, rfl⟩ rfl ?_
  have h := Option.some.inj h
  subst h
  exact G_zret C (v := q5.1) hR (by decide +kernel)
def f_X7_last (Mr : Nat → Int32) : Option Int32 := if (7 : Int32) < 0 ∨ 8 ≤ (7 : Int32).toNatClampNeg then none else if ((Mr (7 : Int32).toNatClampNeg) - (1 : Int32)) < 0 ∨ 8 ≤ ((Mr (7 : Int32).toNatClampNeg) - (1 : Int32)).toNatClampNeg then none else some (Mr ((Mr (7 : Int32).toNatClampNeg) - (1 : Int32)).toNatClampNeg)
set_option maxHeartbeats 4000000 in
set_option maxRecDepth 100000 in
theorem c_X7_last (cy : Nat → ClassId) (Ms : Int32) (Mb : Int32) (Mq : Int32) (MB : Int64) (My : Int32) (ML : Int32) (Mg : Int32) (MF : Int32) (MW : Bool) (MI : Bool) (MA : Int32) (Mr : Nat → Int32) (Ma : Nat → Int32) (Mp : Nat → Int32) (Mf : Nat → Int32) (Mt : Nat → Int32) (Ml : Nat → Int32) (Mo : Nat → Int32) (Mn : Nat → Int32) (Mm : Nat → Int64) (MT : Nat → Int64) (MP : Nat → Int64) (Mv : Nat → Int32) (Mx : Nat → Int64) (Mz : Nat → Int64)  (res : Int32) (h : f_X7_last Mr = some res) : MG cy yX7_last cX7_last 1 (some .int) 0 0 [.ref 0] (wMo cy Ms Mb Mq MB My ML Mg MF MW MI MA Mr Ma Mp Mf Mt Ml Mo Mn Mm MT MP Mv Mx Mz) (some (.int res)) (wMo cy Ms Mb Mq MB My ML Mg MF MW MI MA Mr Ma Mp Mf Mt Ml Mo Mn Mm MT MP Mv Mx Mz) := by
  refine MG_of (o := 7) (lv := [(0, .ref 0)]) ⟨by decide +kernel, rfl⟩ (Nat.le_of_ble_eq_true rfl) rfl (fun k C hR => ?_)
  rw [f_X7_last] at h
  refine G_r C [(.aload_n 0, 1, 0, 0, .null), (.getfield 7, 3, 7, 0, .null), (.aload_n 0, 1, 0, 0, .null), (.getfield 7, 3, 7, 0, .null), (.bipush 7, 2, 0, 0, .int (7 : Int32))] 10 [(0, .ref 0)] [.int (7 : Int32), .ref 1, .ref 1] (wMo cy Ms Mb Mq MB My ML Mg MF MW MI MA Mr Ma Mp Mf Mt Ml Mo Mn Mm MT MP Mv Mx Mz) (by decide +kernel) rfl rfl ?_
  obtain ⟨cg, h⟩ := oob h
  refine G_iald C (a := 1) rfl cg (by decide +kernel) ?_
  refine G_r C [(.iconst 1, 1, 0, 0, .int (1 : Int32)), (.isub, 1, 0, 0, .null)] 13 [(0, .ref 0)] [.int ((Mr (7 : Int32).toNatClampNeg) - (1 : Int32)), .ref 1] (wMo cy Ms Mb Mq MB My ML Mg MF MW MI MA Mr Ma Mp Mf Mt Ml Mo Mn Mm MT MP Mv Mx Mz) (by decide +kernel) rfl rfl ?_
  obtain ⟨cg, h⟩ := oob h
  refine G_iald C (a := 1) rfl cg (by decide +kernel) ?_
  have h := Option.some.inj h
  subst h
  exact G_iret C hR (by decide +kernel)
def f_X7_moves (x1 : Int32) (Ms : Int32) (Mr : Nat → Int32) (Ma : Nat → Int32) (Mp : Nat → Int32) (Mf : Nat → Int32) (Mm : Nat → Int64) : Option (Int32 × Int32 × (Nat → Int32) × (Nat → Int32) × (Nat → Int32) × (Nat → Int32) × (Nat → Int64)) := (f_X7_isPlace x1).bind fun q1 => if (bI q1) = 0 then ((f_X7_bad Mf).bind fun q7 => some (q7.1, Ms, Mr, Ma, Mp, q7.2, Mm)) else ((f_X7_bring_v1 (0 : Int32) (0 : Int32) Mr Ma).bind fun q2 => (f_X7_move x1 Mr Mm).bind fun q3 => if (bI q3.1) = 0 then ((f_X7_no Mf).bind fun q6 => some (q6.1, Ms, q3.2.1, q2, Mp, q6.2, q3.2.2)) else ((f_X7_note_v1 Ms q2 Mp).bind fun q4 => (f_X7_last q3.2.1).bind fun q5 => some (q5, q4.1, q3.2.1, q2, q4.2, Mf, q3.2.2)))
set_option maxHeartbeats 4000000 in
set_option maxRecDepth 100000 in
theorem c_X7_moves (cy : Nat → ClassId) (Ms : Int32) (Mb : Int32) (Mq : Int32) (MB : Int64) (My : Int32) (ML : Int32) (Mg : Int32) (MF : Int32) (MW : Bool) (MI : Bool) (MA : Int32) (Mr : Nat → Int32) (Ma : Nat → Int32) (Mp : Nat → Int32) (Mf : Nat → Int32) (Mt : Nat → Int32) (Ml : Nat → Int32) (Mo : Nat → Int32) (Mn : Nat → Int32) (Mm : Nat → Int64) (MT : Nat → Int64) (MP : Nat → Int64) (Mv : Nat → Int32) (Mx : Nat → Int64) (Mz : Nat → Int64) (x1 : Int32) (res : (Int32 × Int32 × (Nat → Int32) × (Nat → Int32) × (Nat → Int32) × (Nat → Int32) × (Nat → Int64))) (h : f_X7_moves x1 Ms Mr Ma Mp Mf Mm = some res) : MG cy yX7_moves cX7_moves 2 (some .int) 3 73 [.ref 0, .int x1] (wMo cy Ms Mb Mq MB My ML Mg MF MW MI MA Mr Ma Mp Mf Mt Ml Mo Mn Mm MT MP Mv Mx Mz) (some (.int res.1)) (wMo cy res.2.1 Mb Mq MB My ML Mg MF MW MI MA res.2.2.1 res.2.2.2.1 res.2.2.2.2.1 res.2.2.2.2.2.1 Mt Ml Mo Mn res.2.2.2.2.2.2 MT MP Mv Mx Mz) := by
  refine MG_of (o := 7) (lv := [(0, .ref 0), (1, .int x1)]) ⟨by decide +kernel, rfl⟩ (Nat.le_of_ble_eq_true rfl) rfl (fun k C hR => ?_)
  rw [f_X7_moves] at h
  refine G_r C [(.iload_n 1, 1, 0, 0, .null)] 1 [(0, .ref 0), (1, .int x1)] [.int x1] (wMo cy Ms Mb Mq MB My ML Mg MF MW MI MA Mr Ma Mp Mf Mt Ml Mo Mn Mm MT MP Mv Mx Mz) (by decide +kernel) rfl rfl ?_
  obtain ⟨q1, hq1, h⟩ := obd h
  refine G_cS C lk_7_113 ⟨Nat.le_of_ble_eq_true rfl, Nat.le_of_ble_eq_true rfl⟩ (by decide +kernel) [.int (bI q1)] (c_X7_isPlace cy x1 q1 hq1) rfl rfl (Nat.le_of_ble_eq_true rfl) rfl ?_
  refine G_if_ne C (off := 8) (tgt := 12) (by decide +kernel) rfl (fun c => ?_) (fun c => ?_)
  · rw [if_neg c] at h
    refine G_r C [(.aload_n 0, 1, 0, 0, .null), (.aload_n 0, 1, 0, 0, .null), (.getfield 7, 3, 7, 0, .null), (.iconst 0, 1, 0, 0, .int (0 : Int32)), (.aload_n 0, 1, 0, 0, .null), (.getfield 13, 3, 7, 1, .null), (.iconst 0, 1, 0, 0, .int (0 : Int32))] 23 [(0, .ref 0), (1, .int x1)] [.int (0 : Int32), .ref 2, .int (0 : Int32), .ref 1, .ref 0] (wMo cy Ms Mb Mq MB My ML Mg MF MW MI MA Mr Ma Mp Mf Mt Ml Mo Mn Mm MT MP Mv Mx Mz) (by decide +kernel) rfl rfl ?_
    obtain ⟨q2, hq2, h⟩ := obd h
    refine G_c0 C lk_7_60 ⟨Nat.le_of_ble_eq_true rfl, Nat.le_of_ble_eq_true rfl⟩ (by decide +kernel) [] (c_X7_bring_v1 cy Ms Mb Mq MB My ML Mg MF MW MI MA Mr Ma Mp Mf Mt Ml Mo Mn Mm MT MP Mv Mx Mz (0 : Int32) (0 : Int32) q2 hq2) rfl rfl (Nat.le_of_ble_eq_true rfl) ⟨rfl, rfl⟩ rfl ?_
    refine G_r C [(.aload_n 0, 1, 0, 0, .null), (.iload_n 1, 1, 0, 0, .null)] 28 [(0, .ref 0), (1, .int x1)] [.int x1, .ref 0] (wMo cy Ms Mb Mq MB My ML Mg MF MW MI MA Mr q2 Mp Mf Mt Ml Mo Mn Mm MT MP Mv Mx Mz) (by decide +kernel) rfl rfl ?_
    obtain ⟨q3, hq3, h⟩ := obd h
    refine G_c0 C lk_7_123 ⟨Nat.le_of_ble_eq_true rfl, Nat.le_of_ble_eq_true rfl⟩ (by decide +kernel) [.int (bI q3.1)] (c_X7_move cy Ms Mb Mq MB My ML Mg MF MW MI MA Mr q2 Mp Mf Mt Ml Mo Mn Mm MT MP Mv Mx Mz x1 q3 hq3) rfl rfl (Nat.le_of_ble_eq_true rfl) ⟨rfl, rfl⟩ rfl ?_
    refine G_if_ne C (off := 8) (tgt := 39) (by decide +kernel) rfl (fun c => ?_) (fun c => ?_)
    · rw [if_neg c] at h
      refine G_r C [(.aload_n 0, 1, 0, 0, .null), (.aload_n 0, 1, 0, 0, .null), (.getfield 13, 3, 7, 1, .null)] 44 [(0, .ref 0), (1, .int x1)] [.ref 2, .ref 0] (wMo cy Ms Mb Mq MB My ML Mg MF MW MI MA q3.2.1 q2 Mp Mf Mt Ml Mo Mn q3.2.2 MT MP Mv Mx Mz) (by decide +kernel) rfl rfl ?_
      obtain ⟨q4, hq4, h⟩ := obd h
      refine G_c0 C lk_7_76 ⟨Nat.le_of_ble_eq_true rfl, Nat.le_of_ble_eq_true rfl⟩ (by decide +kernel) [] (c_X7_note_v1 cy Ms Mb Mq MB My ML Mg MF MW MI MA q3.2.1 q2 Mp Mf Mt Ml Mo Mn q3.2.2 MT MP Mv Mx Mz q4 hq4) rfl rfl (Nat.le_of_ble_eq_true rfl) ⟨rfl, rfl⟩ rfl ?_
      refine G_r C [(.aload_n 0, 1, 0, 0, .null)] 48 [(0, .ref 0), (1, .int x1)] [.ref 0] (wMo cy q4.1 Mb Mq MB My ML Mg MF MW MI MA q3.2.1 q2 q4.2 Mf Mt Ml Mo Mn q3.2.2 MT MP Mv Mx Mz) (by decide +kernel) rfl rfl ?_
      obtain ⟨q5, hq5, h⟩ := obd h
      refine G_c0 C lk_7_126 ⟨Nat.le_of_ble_eq_true rfl, Nat.le_of_ble_eq_true rfl⟩ (by decide +kernel) [.int q5] (c_X7_last cy q4.1 Mb Mq MB My ML Mg MF MW MI MA q3.2.1 q2 q4.2 Mf Mt Ml Mo Mn q3.2.2 MT MP Mv Mx Mz q5 hq5) rfl rfl (Nat.le_of_ble_eq_true rfl) ⟨rfl, rfl⟩ rfl ?_
      have h := Option.some.inj h
      subst h
      exact G_iret C hR (by decide +kernel)
    · rw [if_pos c] at h
      refine G_r C [(.aload_n 0, 1, 0, 0, .null)] 35 [(0, .ref 0), (1, .int x1)] [.ref 0] (wMo cy Ms Mb Mq MB My ML Mg MF MW MI MA q3.2.1 q2 Mp Mf Mt Ml Mo Mn q3.2.2 MT MP Mv Mx Mz) (by decide +kernel) rfl rfl ?_
      obtain ⟨q6, hq6, h⟩ := obd h
      refine G_c0 C lk_7_87 ⟨Nat.le_of_ble_eq_true rfl, Nat.le_of_ble_eq_true rfl⟩ (by decide +kernel) [.int q6.1] (c_X7_no cy Ms Mb Mq MB My ML Mg MF MW MI MA q3.2.1 q2 Mp Mf Mt Ml Mo Mn q3.2.2 MT MP Mv Mx Mz q6 hq6) rfl rfl (Nat.le_of_ble_eq_true rfl) ⟨rfl, rfl⟩ rfl ?_
      have h := Option.some.inj h
      subst h
      exact G_iret C hR (by decide +kernel)
  · rw [if_pos c] at h
    refine G_r C [(.aload_n 0, 1, 0, 0, .null)] 8 [(0, .ref 0), (1, .int x1)] [.ref 0] (wMo cy Ms Mb Mq MB My ML Mg MF MW MI MA Mr Ma Mp Mf Mt Ml Mo Mn Mm MT MP Mv Mx Mz) (by decide +kernel) rfl rfl ?_
    obtain ⟨q7, hq7, h⟩ := obd h
    refine G_c0 C lk_7_72 ⟨Nat.le_of_ble_eq_true rfl, Nat.le_of_ble_eq_true rfl⟩ (by decide +kernel) [.int q7.1] (c_X7_bad cy Ms Mb Mq MB My ML Mg MF MW MI MA Mr Ma Mp Mf Mt Ml Mo Mn Mm MT MP Mv Mx Mz q7 hq7) rfl rfl (Nat.le_of_ble_eq_true rfl) ⟨rfl, rfl⟩ rfl ?_
    have h := Option.some.inj h
    subst h
    exact G_iret C hR (by decide +kernel)
def f_X7_stretch_L2 : Nat → Int32 → Int32 → (Nat → Int32) → (Nat → Int64) → Option (Nat → Int64)
  | 0, _, _, _, _ => none
  | fu + 1, x1, x2, Mr, Mm => if (7 : Int32) < 0 ∨ 8 ≤ (7 : Int32).toNatClampNeg then none else if (Mr (7 : Int32).toNatClampNeg) ≤ x2 then (some Mm) else ((f_X7_power x1.toInt64 x2).bind fun q1 => if x2 < 0 ∨ 8 ≤ x2.toNatClampNeg then none else if x2 < 0 ∨ 7 ≤ x2.toNatClampNeg then none else f_X7_stretch_L2 fu x1 (x2 + (1 : Int32)) Mr (vp_updL Mm x2.toNatClampNeg (q1 * ((Mr x2.toNatClampNeg).toInt64))))
def f_X7_stretch (x1 : Int32) (Mr : Nat → Int32) (Mm : Nat → Int64) : Option (Bool × (Nat → Int32) × (Nat → Int64)) := (f_X7_stretch_L2 200 x1 (0 : Int32) Mr Mm).bind fun q2 => if (7 : Int32) < 0 ∨ 8 ≤ (7 : Int32).toNatClampNeg then none else (f_X7_takeMade (Mr (7 : Int32).toNatClampNeg) Mr q2).bind fun q3 => some (q3.1, q3.2, q2)
set_option maxHeartbeats 4000000 in
set_option maxRecDepth 100000 in
theorem g_X7_stretch_L2 {k : KX} {cy : Nat → ClassId} (C : OK k cX7_stretch 7 3 cy 2 48) : ∀ (fu : Nat) (x1 : Int32) (x2 : Int32) (Ms : Int32) (Mb : Int32) (Mq : Int32) (MB : Int64) (My : Int32) (ML : Int32) (Mg : Int32) (MF : Int32) (MW : Bool) (MI : Bool) (MA : Int32) (Mr : Nat → Int32) (Ma : Nat → Int32) (Mp : Nat → Int32) (Mf : Nat → Int32) (Mt : Nat → Int32) (Ml : Nat → Int32) (Mo : Nat → Int32) (Mn : Nat → Int32) (Mm : Nat → Int64) (MT : Nat → Int64) (MP : Nat → Int64) (Mv : Nat → Int32) (Mx : Nat → Int64) (Mz : Nat → Int64) (res : (Nat → Int64)), (f_X7_stretch_L2 fu x1 x2 Mr Mm = some res) → G k 3 39 [(0, .ref 0)] [] (wMo cy Ms Mb Mq MB My ML Mg MF MW MI MA Mr Ma Mp Mf Mt Ml Mo Mn res MT MP Mv Mx Mz) → G k 3 2 [(0, .ref 0), (1, .int x1), (2, .int x2)] [] (wMo cy Ms Mb Mq MB My ML Mg MF MW MI MA Mr Ma Mp Mf Mt Ml Mo Mn Mm MT MP Mv Mx Mz) := by
  intro fu
  induction fu with
  | zero =>
    intro x1 x2 Ms Mb Mq MB My ML Mg MF MW MI MA Mr Ma Mp Mf Mt Ml Mo Mn Mm MT MP Mv Mx Mz res h hex
    rw [f_X7_stretch_L2] at h
    cases h
  | succ fu ih =>
    intro x1 x2 Ms Mb Mq MB My ML Mg MF MW MI MA Mr Ma Mp Mf Mt Ml Mo Mn Mm MT MP Mv Mx Mz res h hex
    rw [f_X7_stretch_L2] at h
    refine G_r C [(.iload_n 2, 1, 0, 0, .null), (.aload_n 0, 1, 0, 0, .null), (.getfield 7, 3, 7, 0, .null), (.bipush 7, 2, 0, 0, .int (7 : Int32))] 9 [(0, .ref 0), (1, .int x1), (2, .int x2)] [.int (7 : Int32), .ref 1, .int x2] (wMo cy Ms Mb Mq MB My ML Mg MF MW MI MA Mr Ma Mp Mf Mt Ml Mo Mn Mm MT MP Mv Mx Mz) (by decide +kernel) rfl rfl ?_
    obtain ⟨cg, h⟩ := oob h
    refine G_iald C (a := 1) rfl cg (by decide +kernel) ?_
    refine G_icmp_ge C (off := 29) (tgt := 39) (by decide +kernel) rfl (fun c => ?_) (fun c => ?_)
    · rw [if_pos c] at h
      have h := Option.some.inj h
      subst h
      refine G_lv [0] (lv' := [(0, .ref 0)]) rfl ?_
      exact hex
    · rw [if_neg c] at h
      refine G_r C [(.aload_n 0, 1, 0, 0, .null), (.getfield 34, 3, 7, 11, .null), (.iload_n 2, 1, 0, 0, .null), (.iload_n 1, 1, 0, 0, .null), (.i2l, 1, 0, 0, .null), (.iload_n 2, 1, 0, 0, .null)] 21 [(0, .ref 0), (1, .int x1), (2, .int x2)] [.int x2, .long x1.toInt64, .int x2, .ref 9] (wMo cy Ms Mb Mq MB My ML Mg MF MW MI MA Mr Ma Mp Mf Mt Ml Mo Mn Mm MT MP Mv Mx Mz) (by decide +kernel) rfl rfl ?_
      obtain ⟨q1, hq1, h⟩ := obd h
      refine G_cS C lk_7_93 ⟨Nat.le_of_ble_eq_true rfl, Nat.le_of_ble_eq_true rfl⟩ (by decide +kernel) [.long q1, .int x2, .ref 9] (c_X7_power cy x1.toInt64 x2 q1 hq1) rfl rfl (Nat.le_of_ble_eq_true rfl) rfl ?_
      refine G_r C [(.aload_n 0, 1, 0, 0, .null), (.getfield 7, 3, 7, 0, .null), (.iload_n 2, 1, 0, 0, .null)] 29 [(0, .ref 0), (1, .int x1), (2, .int x2)] [.int x2, .ref 1, .long q1, .int x2, .ref 9] (wMo cy Ms Mb Mq MB My ML Mg MF MW MI MA Mr Ma Mp Mf Mt Ml Mo Mn Mm MT MP Mv Mx Mz) (by decide +kernel) rfl rfl ?_
      obtain ⟨cg, h⟩ := oob h
      refine G_iald C (a := 1) rfl cg (by decide +kernel) ?_
      refine G_r C [(.i2l, 1, 0, 0, .null), (.lmul, 1, 0, 0, .null)] 32 [(0, .ref 0), (1, .int x1), (2, .int x2)] [.long (q1 * ((Mr x2.toNatClampNeg).toInt64)), .int x2, .ref 9] (wMo cy Ms Mb Mq MB My ML Mg MF MW MI MA Mr Ma Mp Mf Mt Ml Mo Mn Mm MT MP Mv Mx Mz) (by decide +kernel) rfl rfl ?_
      obtain ⟨cg, h⟩ := oob h
      refine G_last C (a := 9) (w' := (wMo cy Ms Mb Mq MB My ML Mg MF MW MI MA Mr Ma Mp Mf Mt Ml Mo Mn (vp_updL Mm x2.toNatClampNeg (q1 * ((Mr x2.toNatClampNeg).toInt64))) MT MP Mv Mx Mz)) rfl cg (by decide +kernel) rfl ?_
      refine G_r C [(.iinc 2 1, 3, 0, 0, .int (1 : Int32))] 36 [(2, .int (x2 + (1 : Int32))), (0, .ref 0), (1, .int x1)] [] (wMo cy Ms Mb Mq MB My ML Mg MF MW MI MA Mr Ma Mp Mf Mt Ml Mo Mn (vp_updL Mm x2.toNatClampNeg (q1 * ((Mr x2.toNatClampNeg).toInt64))) MT MP Mv Mx Mz) (by decide +kernel) rfl rfl ?_
      refine G_goto C (off := -34) (tgt := 2) (by decide +kernel) rfl ?_
      refine G_lv [1, 2, 0] (lv' := [(0, .ref 0), (1, .int x1), (2, .int (x2 + (1 : Int32)))]) rfl ?_
      exact ih x1 (x2 + (1 : Int32)) Ms Mb Mq MB My ML Mg MF MW MI MA Mr Ma Mp Mf Mt Ml Mo Mn (vp_updL Mm x2.toNatClampNeg (q1 * ((Mr x2.toNatClampNeg).toInt64))) MT MP Mv Mx Mz res h hex
set_option maxHeartbeats 4000000 in
set_option maxRecDepth 100000 in
theorem c_X7_stretch (cy : Nat → ClassId) (Ms : Int32) (Mb : Int32) (Mq : Int32) (MB : Int64) (My : Int32) (ML : Int32) (Mg : Int32) (MF : Int32) (MW : Bool) (MI : Bool) (MA : Int32) (Mr : Nat → Int32) (Ma : Nat → Int32) (Mp : Nat → Int32) (Mf : Nat → Int32) (Mt : Nat → Int32) (Ml : Nat → Int32) (Mo : Nat → Int32) (Mn : Nat → Int32) (Mm : Nat → Int64) (MT : Nat → Int64) (MP : Nat → Int64) (Mv : Nat → Int32) (Mx : Nat → Int64) (Mz : Nat → Int64) (x1 : Int32) (res : (Bool × (Nat → Int32) × (Nat → Int64))) (h : f_X7_stretch x1 Mr Mm = some res) : MG cy yX7_stretch cX7_stretch 3 (some .boolean) 2 48 [.ref 0, .int x1] (wMo cy Ms Mb Mq MB My ML Mg MF MW MI MA Mr Ma Mp Mf Mt Ml Mo Mn Mm MT MP Mv Mx Mz) (some (.int (bI res.1))) (wMo cy Ms Mb Mq MB My ML Mg MF MW MI MA res.2.1 Ma Mp Mf Mt Ml Mo Mn res.2.2 MT MP Mv Mx Mz) := by
  refine MG_of (o := 7) (lv := [(0, .ref 0), (1, .int x1)]) ⟨by decide +kernel, rfl⟩ (Nat.le_of_ble_eq_true rfl) rfl (fun k C hR => ?_)
  rw [f_X7_stretch] at h
  refine G_r C [(.iconst 0, 1, 0, 0, .int (0 : Int32)), (.istore_n 2, 1, 0, 0, .null)] 2 [(2, .int (0 : Int32)), (0, .ref 0), (1, .int x1)] [] (wMo cy Ms Mb Mq MB My ML Mg MF MW MI MA Mr Ma Mp Mf Mt Ml Mo Mn Mm MT MP Mv Mx Mz) (by decide +kernel) rfl rfl ?_
  obtain ⟨q2, hq2, h⟩ := obd h
  refine G_lv [1, 2, 0] (lv' := [(0, .ref 0), (1, .int x1), (2, .int (0 : Int32))]) rfl ?_
  refine g_X7_stretch_L2 C 200 x1 (0 : Int32) Ms Mb Mq MB My ML Mg MF MW MI MA Mr Ma Mp Mf Mt Ml Mo Mn Mm MT MP Mv Mx Mz q2 hq2 ?_
  refine G_r C [(.aload_n 0, 1, 0, 0, .null), (.aload_n 0, 1, 0, 0, .null), (.getfield 7, 3, 7, 0, .null), (.bipush 7, 2, 0, 0, .int (7 : Int32))] 46 [(0, .ref 0)] [.int (7 : Int32), .ref 1, .ref 0] (wMo cy Ms Mb Mq MB My ML Mg MF MW MI MA Mr Ma Mp Mf Mt Ml Mo Mn q2 MT MP Mv Mx Mz) (by decide +kernel) rfl rfl ?_
  obtain ⟨cg, h⟩ := oob h
  refine G_iald C (a := 1) rfl cg (by decide +kernel) ?_
  obtain ⟨q3, hq3, h⟩ := obd h
  refine G_c0 C lk_7_97 ⟨Nat.le_of_ble_eq_true rfl, Nat.le_of_ble_eq_true rfl⟩ (by decide +kernel) [.int (bI q3.1)] (c_X7_takeMade cy Ms Mb Mq MB My ML Mg MF MW MI MA Mr Ma Mp Mf Mt Ml Mo Mn q2 MT MP Mv Mx Mz (Mr (7 : Int32).toNatClampNeg) q3 hq3) rfl rfl (Nat.le_of_ble_eq_true rfl) ⟨rfl, rfl⟩ rfl ?_
  have h := Option.some.inj h
  subst h
  exact G_zret C (v := q3.1) hR (by decide +kernel)
def f_X7_stretches (x1 : Int32) (Ms : Int32) (Mr : Nat → Int32) (Ma : Nat → Int32) (Mp : Nat → Int32) (Mf : Nat → Int32) (Mm : Nat → Int64) : Option (Int32 × Int32 × (Nat → Int32) × (Nat → Int32) × (Nat → Int32) × (Nat → Int32) × (Nat → Int64)) := (f_X7_isPlace x1).bind fun q1 => if (bI q1) = 0 then ((f_X7_bad Mf).bind fun q7 => some (q7.1, Ms, Mr, Ma, Mp, q7.2, Mm)) else ((f_X7_bring_v1 (0 : Int32) (0 : Int32) Mr Ma).bind fun q2 => (f_X7_stretch x1 Mr Mm).bind fun q3 => if (bI q3.1) = 0 then ((f_X7_no Mf).bind fun q6 => some (q6.1, Ms, q3.2.1, q2, Mp, q6.2, q3.2.2)) else ((f_X7_note_v1 Ms q2 Mp).bind fun q4 => (f_X7_last q3.2.1).bind fun q5 => some (q5, q4.1, q3.2.1, q2, q4.2, Mf, q3.2.2)))
set_option maxHeartbeats 4000000 in
set_option maxRecDepth 100000 in
theorem c_X7_stretches (cy : Nat → ClassId) (Ms : Int32) (Mb : Int32) (Mq : Int32) (MB : Int64) (My : Int32) (ML : Int32) (Mg : Int32) (MF : Int32) (MW : Bool) (MI : Bool) (MA : Int32) (Mr : Nat → Int32) (Ma : Nat → Int32) (Mp : Nat → Int32) (Mf : Nat → Int32) (Mt : Nat → Int32) (Ml : Nat → Int32) (Mo : Nat → Int32) (Mn : Nat → Int32) (Mm : Nat → Int64) (MT : Nat → Int64) (MP : Nat → Int64) (Mv : Nat → Int32) (Mx : Nat → Int64) (Mz : Nat → Int64) (x1 : Int32) (res : (Int32 × Int32 × (Nat → Int32) × (Nat → Int32) × (Nat → Int32) × (Nat → Int32) × (Nat → Int64))) (h : f_X7_stretches x1 Ms Mr Ma Mp Mf Mm = some res) : MG cy yX7_stretches cX7_stretches 2 (some .int) 3 70 [.ref 0, .int x1] (wMo cy Ms Mb Mq MB My ML Mg MF MW MI MA Mr Ma Mp Mf Mt Ml Mo Mn Mm MT MP Mv Mx Mz) (some (.int res.1)) (wMo cy res.2.1 Mb Mq MB My ML Mg MF MW MI MA res.2.2.1 res.2.2.2.1 res.2.2.2.2.1 res.2.2.2.2.2.1 Mt Ml Mo Mn res.2.2.2.2.2.2 MT MP Mv Mx Mz) := by
  refine MG_of (o := 7) (lv := [(0, .ref 0), (1, .int x1)]) ⟨by decide +kernel, rfl⟩ (Nat.le_of_ble_eq_true rfl) rfl (fun k C hR => ?_)
  rw [f_X7_stretches] at h
  refine G_r C [(.iload_n 1, 1, 0, 0, .null)] 1 [(0, .ref 0), (1, .int x1)] [.int x1] (wMo cy Ms Mb Mq MB My ML Mg MF MW MI MA Mr Ma Mp Mf Mt Ml Mo Mn Mm MT MP Mv Mx Mz) (by decide +kernel) rfl rfl ?_
  obtain ⟨q1, hq1, h⟩ := obd h
  refine G_cS C lk_7_113 ⟨Nat.le_of_ble_eq_true rfl, Nat.le_of_ble_eq_true rfl⟩ (by decide +kernel) [.int (bI q1)] (c_X7_isPlace cy x1 q1 hq1) rfl rfl (Nat.le_of_ble_eq_true rfl) rfl ?_
  refine G_if_ne C (off := 8) (tgt := 12) (by decide +kernel) rfl (fun c => ?_) (fun c => ?_)
  · rw [if_neg c] at h
    refine G_r C [(.aload_n 0, 1, 0, 0, .null), (.aload_n 0, 1, 0, 0, .null), (.getfield 7, 3, 7, 0, .null), (.iconst 0, 1, 0, 0, .int (0 : Int32)), (.aload_n 0, 1, 0, 0, .null), (.getfield 13, 3, 7, 1, .null), (.iconst 0, 1, 0, 0, .int (0 : Int32))] 23 [(0, .ref 0), (1, .int x1)] [.int (0 : Int32), .ref 2, .int (0 : Int32), .ref 1, .ref 0] (wMo cy Ms Mb Mq MB My ML Mg MF MW MI MA Mr Ma Mp Mf Mt Ml Mo Mn Mm MT MP Mv Mx Mz) (by decide +kernel) rfl rfl ?_
    obtain ⟨q2, hq2, h⟩ := obd h
    refine G_c0 C lk_7_60 ⟨Nat.le_of_ble_eq_true rfl, Nat.le_of_ble_eq_true rfl⟩ (by decide +kernel) [] (c_X7_bring_v1 cy Ms Mb Mq MB My ML Mg MF MW MI MA Mr Ma Mp Mf Mt Ml Mo Mn Mm MT MP Mv Mx Mz (0 : Int32) (0 : Int32) q2 hq2) rfl rfl (Nat.le_of_ble_eq_true rfl) ⟨rfl, rfl⟩ rfl ?_
    refine G_r C [(.aload_n 0, 1, 0, 0, .null), (.iload_n 1, 1, 0, 0, .null)] 28 [(0, .ref 0), (1, .int x1)] [.int x1, .ref 0] (wMo cy Ms Mb Mq MB My ML Mg MF MW MI MA Mr q2 Mp Mf Mt Ml Mo Mn Mm MT MP Mv Mx Mz) (by decide +kernel) rfl rfl ?_
    obtain ⟨q3, hq3, h⟩ := obd h
    refine G_c0 C lk_7_129 ⟨Nat.le_of_ble_eq_true rfl, Nat.le_of_ble_eq_true rfl⟩ (by decide +kernel) [.int (bI q3.1)] (c_X7_stretch cy Ms Mb Mq MB My ML Mg MF MW MI MA Mr q2 Mp Mf Mt Ml Mo Mn Mm MT MP Mv Mx Mz x1 q3 hq3) rfl rfl (Nat.le_of_ble_eq_true rfl) ⟨rfl, rfl⟩ rfl ?_
    refine G_if_ne C (off := 8) (tgt := 39) (by decide +kernel) rfl (fun c => ?_) (fun c => ?_)
    · rw [if_neg c] at h
      refine G_r C [(.aload_n 0, 1, 0, 0, .null), (.aload_n 0, 1, 0, 0, .null), (.getfield 13, 3, 7, 1, .null)] 44 [(0, .ref 0), (1, .int x1)] [.ref 2, .ref 0] (wMo cy Ms Mb Mq MB My ML Mg MF MW MI MA q3.2.1 q2 Mp Mf Mt Ml Mo Mn q3.2.2 MT MP Mv Mx Mz) (by decide +kernel) rfl rfl ?_
      obtain ⟨q4, hq4, h⟩ := obd h
      refine G_c0 C lk_7_76 ⟨Nat.le_of_ble_eq_true rfl, Nat.le_of_ble_eq_true rfl⟩ (by decide +kernel) [] (c_X7_note_v1 cy Ms Mb Mq MB My ML Mg MF MW MI MA q3.2.1 q2 Mp Mf Mt Ml Mo Mn q3.2.2 MT MP Mv Mx Mz q4 hq4) rfl rfl (Nat.le_of_ble_eq_true rfl) ⟨rfl, rfl⟩ rfl ?_
      refine G_r C [(.aload_n 0, 1, 0, 0, .null)] 48 [(0, .ref 0), (1, .int x1)] [.ref 0] (wMo cy q4.1 Mb Mq MB My ML Mg MF MW MI MA q3.2.1 q2 q4.2 Mf Mt Ml Mo Mn q3.2.2 MT MP Mv Mx Mz) (by decide +kernel) rfl rfl ?_
      obtain ⟨q5, hq5, h⟩ := obd h
      refine G_c0 C lk_7_126 ⟨Nat.le_of_ble_eq_true rfl, Nat.le_of_ble_eq_true rfl⟩ (by decide +kernel) [.int q5] (c_X7_last cy q4.1 Mb Mq MB My ML Mg MF MW MI MA q3.2.1 q2 q4.2 Mf Mt Ml Mo Mn q3.2.2 MT MP Mv Mx Mz q5 hq5) rfl rfl (Nat.le_of_ble_eq_true rfl) ⟨rfl, rfl⟩ rfl ?_
      have h := Option.some.inj h
      subst h
      exact G_iret C hR (by decide +kernel)
    · rw [if_pos c] at h
      refine G_r C [(.aload_n 0, 1, 0, 0, .null)] 35 [(0, .ref 0), (1, .int x1)] [.ref 0] (wMo cy Ms Mb Mq MB My ML Mg MF MW MI MA q3.2.1 q2 Mp Mf Mt Ml Mo Mn q3.2.2 MT MP Mv Mx Mz) (by decide +kernel) rfl rfl ?_
      obtain ⟨q6, hq6, h⟩ := obd h
      refine G_c0 C lk_7_87 ⟨Nat.le_of_ble_eq_true rfl, Nat.le_of_ble_eq_true rfl⟩ (by decide +kernel) [.int q6.1] (c_X7_no cy Ms Mb Mq MB My ML Mg MF MW MI MA q3.2.1 q2 Mp Mf Mt Ml Mo Mn q3.2.2 MT MP Mv Mx Mz q6 hq6) rfl rfl (Nat.le_of_ble_eq_true rfl) ⟨rfl, rfl⟩ rfl ?_
      have h := Option.some.inj h
      subst h
      exact G_iret C hR (by decide +kernel)
  · rw [if_pos c] at h
    refine G_r C [(.aload_n 0, 1, 0, 0, .null)] 8 [(0, .ref 0), (1, .int x1)] [.ref 0] (wMo cy Ms Mb Mq MB My ML Mg MF MW MI MA Mr Ma Mp Mf Mt Ml Mo Mn Mm MT MP Mv Mx Mz) (by decide +kernel) rfl rfl ?_
    obtain ⟨q7, hq7, h⟩ := obd h
    refine G_c0 C lk_7_72 ⟨Nat.le_of_ble_eq_true rfl, Nat.le_of_ble_eq_true rfl⟩ (by decide +kernel) [.int q7.1] (c_X7_bad cy Ms Mb Mq MB My ML Mg MF MW MI MA Mr Ma Mp Mf Mt Ml Mo Mn Mm MT MP Mv Mx Mz q7 hq7) rfl rfl (Nat.le_of_ble_eq_true rfl) ⟨rfl, rfl⟩ rfl ?_
    have h := Option.some.inj h
    subst h
    exact G_iret C hR (by decide +kernel)
def f_X7_weigh_L15 : Nat → Int32 → Int32 → (Nat → Int32) → (Nat → Int64) → Option (Nat → Int64)
  | 0, _, _, _, _ => none
  | fu + 1, x1, x2, Mr, Mm => if (7 : Int32) < 0 ∨ 8 ≤ (7 : Int32).toNatClampNeg then none else if (Mr (7 : Int32).toNatClampNeg) ≤ (x2 + (1 : Int32)) then (some Mm) else (if (x2 + (1 : Int32)) < 0 ∨ 8 ≤ (x2 + (1 : Int32)).toNatClampNeg then none else if x2 < 0 ∨ 8 ≤ x2.toNatClampNeg then none else if x2 < 0 ∨ 7 ≤ x2.toNatClampNeg then none else f_X7_weigh_L15 fu x1 (x2 + (1 : Int32)) Mr (vp_updL Mm x2.toNatClampNeg (((Mr (x2 + (1 : Int32)).toNatClampNeg).toInt64) - (x1.toInt64 * ((Mr x2.toNatClampNeg).toInt64)))))
def f_X7_weigh (x1 : Int32) (Mr : Nat → Int32) (Mm : Nat → Int64) : Option (Bool × (Nat → Int32) × (Nat → Int64)) := if (7 : Int32) < 0 ∨ 8 ≤ (7 : Int32).toNatClampNeg then none else if (Mr (7 : Int32).toNatClampNeg) = (1 : Int32) then (some (false, Mr, Mm)) else ((f_X7_weigh_L15 200 x1 (0 : Int32) Mr Mm).bind fun q1 => if (7 : Int32) < 0 ∨ 8 ≤ (7 : Int32).toNatClampNeg then none else (f_X7_takeMade ((Mr (7 : Int32).toNatClampNeg) - (1 : Int32)) Mr q1).bind fun q2 => some (q2.1, q2.2, q1))
set_option maxHeartbeats 4000000 in
set_option maxRecDepth 100000 in
theorem g_X7_weigh_L15 {k : KX} {cy : Nat → ClassId} (C : OK k cX7_weigh 7 3 cy 2 48) : ∀ (fu : Nat) (x1 : Int32) (x2 : Int32) (Ms : Int32) (Mb : Int32) (Mq : Int32) (MB : Int64) (My : Int32) (ML : Int32) (Mg : Int32) (MF : Int32) (MW : Bool) (MI : Bool) (MA : Int32) (Mr : Nat → Int32) (Ma : Nat → Int32) (Mp : Nat → Int32) (Mf : Nat → Int32) (Mt : Nat → Int32) (Ml : Nat → Int32) (Mo : Nat → Int32) (Mn : Nat → Int32) (Mm : Nat → Int64) (MT : Nat → Int64) (MP : Nat → Int64) (Mv : Nat → Int32) (Mx : Nat → Int64) (Mz : Nat → Int64) (res : (Nat → Int64)), (f_X7_weigh_L15 fu x1 x2 Mr Mm = some res) → G k 3 60 [(0, .ref 0)] [] (wMo cy Ms Mb Mq MB My ML Mg MF MW MI MA Mr Ma Mp Mf Mt Ml Mo Mn res MT MP Mv Mx Mz) → G k 3 15 [(0, .ref 0), (1, .int x1), (2, .int x2)] [] (wMo cy Ms Mb Mq MB My ML Mg MF MW MI MA Mr Ma Mp Mf Mt Ml Mo Mn Mm MT MP Mv Mx Mz) := by
  intro fu
  induction fu with
  | zero =>
    intro x1 x2 Ms Mb Mq MB My ML Mg MF MW MI MA Mr Ma Mp Mf Mt Ml Mo Mn Mm MT MP Mv Mx Mz res h hex
    rw [f_X7_weigh_L15] at h
    cases h
  | succ fu ih =>
    intro x1 x2 Ms Mb Mq MB My ML Mg MF MW MI MA Mr Ma Mp Mf Mt Ml Mo Mn Mm MT MP Mv Mx Mz res h hex
    rw [f_X7_weigh_L15] at h
    refine G_r C [(.iload_n 2, 1, 0, 0, .null), (.iconst 1, 1, 0, 0, .int (1 : Int32)), (.iadd, 1, 0, 0, .null), (.aload_n 0, 1, 0, 0, .null), (.getfield 7, 3, 7, 0, .null), (.bipush 7, 2, 0, 0, .int (7 : Int32))] 24 [(0, .ref 0), (1, .int x1), (2, .int x2)] [.int (7 : Int32), .ref 1, .int (x2 + (1 : Int32))] (wMo cy Ms Mb Mq MB My ML Mg MF MW MI MA Mr Ma Mp Mf Mt Ml Mo Mn Mm MT MP Mv Mx Mz) (by decide +kernel) rfl rfl ?_
    obtain ⟨cg, h⟩ := oob h
    refine G_iald C (a := 1) rfl cg (by decide +kernel) ?_
    refine G_icmp_ge C (off := 35) (tgt := 60) (by decide +kernel) rfl (fun c => ?_) (fun c => ?_)
    · rw [if_pos c] at h
      have h := Option.some.inj h
      subst h
      refine G_lv [0] (lv' := [(0, .ref 0)]) rfl ?_
      exact hex
    · rw [if_neg c] at h
      refine G_r C [(.aload_n 0, 1, 0, 0, .null), (.getfield 34, 3, 7, 11, .null), (.iload_n 2, 1, 0, 0, .null), (.aload_n 0, 1, 0, 0, .null), (.getfield 7, 3, 7, 0, .null), (.iload_n 2, 1, 0, 0, .null), (.iconst 1, 1, 0, 0, .int (1 : Int32)), (.iadd, 1, 0, 0, .null)] 40 [(0, .ref 0), (1, .int x1), (2, .int x2)] [.int (x2 + (1 : Int32)), .ref 1, .int x2, .ref 9] (wMo cy Ms Mb Mq MB My ML Mg MF MW MI MA Mr Ma Mp Mf Mt Ml Mo Mn Mm MT MP Mv Mx Mz) (by decide +kernel) rfl rfl ?_
      obtain ⟨cg, h⟩ := oob h
      refine G_iald C (a := 1) rfl cg (by decide +kernel) ?_
      refine G_r C [(.i2l, 1, 0, 0, .null), (.iload_n 1, 1, 0, 0, .null), (.i2l, 1, 0, 0, .null), (.aload_n 0, 1, 0, 0, .null), (.getfield 7, 3, 7, 0, .null), (.iload_n 2, 1, 0, 0, .null)] 49 [(0, .ref 0), (1, .int x1), (2, .int x2)] [.int x2, .ref 1, .long x1.toInt64, .long ((Mr (x2 + (1 : Int32)).toNatClampNeg).toInt64), .int x2, .ref 9] (wMo cy Ms Mb Mq MB My ML Mg MF MW MI MA Mr Ma Mp Mf Mt Ml Mo Mn Mm MT MP Mv Mx Mz) (by decide +kernel) rfl rfl ?_
      obtain ⟨cg, h⟩ := oob h
      refine G_iald C (a := 1) rfl cg (by decide +kernel) ?_
      refine G_r C [(.i2l, 1, 0, 0, .null), (.lmul, 1, 0, 0, .null), (.lsub, 1, 0, 0, .null)] 53 [(0, .ref 0), (1, .int x1), (2, .int x2)] [.long (((Mr (x2 + (1 : Int32)).toNatClampNeg).toInt64) - (x1.toInt64 * ((Mr x2.toNatClampNeg).toInt64))), .int x2, .ref 9] (wMo cy Ms Mb Mq MB My ML Mg MF MW MI MA Mr Ma Mp Mf Mt Ml Mo Mn Mm MT MP Mv Mx Mz) (by decide +kernel) rfl rfl ?_
      obtain ⟨cg, h⟩ := oob h
      refine G_last C (a := 9) (w' := (wMo cy Ms Mb Mq MB My ML Mg MF MW MI MA Mr Ma Mp Mf Mt Ml Mo Mn (vp_updL Mm x2.toNatClampNeg (((Mr (x2 + (1 : Int32)).toNatClampNeg).toInt64) - (x1.toInt64 * ((Mr x2.toNatClampNeg).toInt64)))) MT MP Mv Mx Mz)) rfl cg (by decide +kernel) rfl ?_
      refine G_r C [(.iinc 2 1, 3, 0, 0, .int (1 : Int32))] 57 [(2, .int (x2 + (1 : Int32))), (0, .ref 0), (1, .int x1)] [] (wMo cy Ms Mb Mq MB My ML Mg MF MW MI MA Mr Ma Mp Mf Mt Ml Mo Mn (vp_updL Mm x2.toNatClampNeg (((Mr (x2 + (1 : Int32)).toNatClampNeg).toInt64) - (x1.toInt64 * ((Mr x2.toNatClampNeg).toInt64)))) MT MP Mv Mx Mz) (by decide +kernel) rfl rfl ?_
      refine G_goto C (off := -42) (tgt := 15) (by decide +kernel) rfl ?_
      refine G_lv [1, 2, 0] (lv' := [(0, .ref 0), (1, .int x1), (2, .int (x2 + (1 : Int32)))]) rfl ?_
      exact ih x1 (x2 + (1 : Int32)) Ms Mb Mq MB My ML Mg MF MW MI MA Mr Ma Mp Mf Mt Ml Mo Mn (vp_updL Mm x2.toNatClampNeg (((Mr (x2 + (1 : Int32)).toNatClampNeg).toInt64) - (x1.toInt64 * ((Mr x2.toNatClampNeg).toInt64)))) MT MP Mv Mx Mz res h hex
set_option maxHeartbeats 4000000 in
set_option maxRecDepth 100000 in
theorem c_X7_weigh (cy : Nat → ClassId) (Ms : Int32) (Mb : Int32) (Mq : Int32) (MB : Int64) (My : Int32) (ML : Int32) (Mg : Int32) (MF : Int32) (MW : Bool) (MI : Bool) (MA : Int32) (Mr : Nat → Int32) (Ma : Nat → Int32) (Mp : Nat → Int32) (Mf : Nat → Int32) (Mt : Nat → Int32) (Ml : Nat → Int32) (Mo : Nat → Int32) (Mn : Nat → Int32) (Mm : Nat → Int64) (MT : Nat → Int64) (MP : Nat → Int64) (Mv : Nat → Int32) (Mx : Nat → Int64) (Mz : Nat → Int64) (x1 : Int32) (res : (Bool × (Nat → Int32) × (Nat → Int64))) (h : f_X7_weigh x1 Mr Mm = some res) : MG cy yX7_weigh cX7_weigh 3 (some .boolean) 2 48 [.ref 0, .int x1] (wMo cy Ms Mb Mq MB My ML Mg MF MW MI MA Mr Ma Mp Mf Mt Ml Mo Mn Mm MT MP Mv Mx Mz) (some (.int (bI res.1))) (wMo cy Ms Mb Mq MB My ML Mg MF MW MI MA res.2.1 Ma Mp Mf Mt Ml Mo Mn res.2.2 MT MP Mv Mx Mz) := by
  refine MG_of (o := 7) (lv := [(0, .ref 0), (1, .int x1)]) ⟨by decide +kernel, rfl⟩ (Nat.le_of_ble_eq_true rfl) rfl (fun k C hR => ?_)
  rw [f_X7_weigh] at h
  refine G_r C [(.aload_n 0, 1, 0, 0, .null), (.getfield 7, 3, 7, 0, .null), (.bipush 7, 2, 0, 0, .int (7 : Int32))] 6 [(0, .ref 0), (1, .int x1)] [.int (7 : Int32), .ref 1] (wMo cy Ms Mb Mq MB My ML Mg MF MW MI MA Mr Ma Mp Mf Mt Ml Mo Mn Mm MT MP Mv Mx Mz) (by decide +kernel) rfl rfl ?_
  obtain ⟨cg, h⟩ := oob h
  refine G_iald C (a := 1) rfl cg (by decide +kernel) ?_
  refine G_r C [(.iconst 1, 1, 0, 0, .int (1 : Int32))] 8 [(0, .ref 0), (1, .int x1)] [.int (1 : Int32), .int (Mr (7 : Int32).toNatClampNeg)] (wMo cy Ms Mb Mq MB My ML Mg MF MW MI MA Mr Ma Mp Mf Mt Ml Mo Mn Mm MT MP Mv Mx Mz) (by decide +kernel) rfl rfl ?_
  refine G_icmp_ne C (off := 5) (tgt := 13) (by decide +kernel) rfl (fun c => ?_) (fun c => ?_)
  · rw [if_neg c] at h
    refine G_r C [(.iconst 0, 1, 0, 0, .int (0 : Int32)), (.istore_n 2, 1, 0, 0, .null)] 15 [(2, .int (0 : Int32)), (0, .ref 0), (1, .int x1)] [] (wMo cy Ms Mb Mq MB My ML Mg MF MW MI MA Mr Ma Mp Mf Mt Ml Mo Mn Mm MT MP Mv Mx Mz) (by decide +kernel) rfl rfl ?_
    obtain ⟨q1, hq1, h⟩ := obd h
    refine G_lv [1, 2, 0] (lv' := [(0, .ref 0), (1, .int x1), (2, .int (0 : Int32))]) rfl ?_
    refine g_X7_weigh_L15 C 200 x1 (0 : Int32) Ms Mb Mq MB My ML Mg MF MW MI MA Mr Ma Mp Mf Mt Ml Mo Mn Mm MT MP Mv Mx Mz q1 hq1 ?_
    refine G_r C [(.aload_n 0, 1, 0, 0, .null), (.aload_n 0, 1, 0, 0, .null), (.getfield 7, 3, 7, 0, .null), (.bipush 7, 2, 0, 0, .int (7 : Int32))] 67 [(0, .ref 0)] [.int (7 : Int32), .ref 1, .ref 0] (wMo cy Ms Mb Mq MB My ML Mg MF MW MI MA Mr Ma Mp Mf Mt Ml Mo Mn q1 MT MP Mv Mx Mz) (by decide +kernel) rfl rfl ?_
    obtain ⟨cg, h⟩ := oob h
    refine G_iald C (a := 1) rfl cg (by decide +kernel) ?_
    refine G_r C [(.iconst 1, 1, 0, 0, .int (1 : Int32)), (.isub, 1, 0, 0, .null)] 70 [(0, .ref 0)] [.int ((Mr (7 : Int32).toNatClampNeg) - (1 : Int32)), .ref 0] (wMo cy Ms Mb Mq MB My ML Mg MF MW MI MA Mr Ma Mp Mf Mt Ml Mo Mn q1 MT MP Mv Mx Mz) (by decide +kernel) rfl rfl ?_
    obtain ⟨q2, hq2, h⟩ := obd h
    refine G_c0 C lk_7_97 ⟨Nat.le_of_ble_eq_true rfl, Nat.le_of_ble_eq_true rfl⟩ (by decide +kernel) [.int (bI q2.1)] (c_X7_takeMade cy Ms Mb Mq MB My ML Mg MF MW MI MA Mr Ma Mp Mf Mt Ml Mo Mn q1 MT MP Mv Mx Mz ((Mr (7 : Int32).toNatClampNeg) - (1 : Int32)) q2 hq2) rfl rfl (Nat.le_of_ble_eq_true rfl) ⟨rfl, rfl⟩ rfl ?_
    have h := Option.some.inj h
    subst h
    exact G_zret C (v := q2.1) hR (by decide +kernel)
  · rw [if_pos c] at h
    refine G_r C [(.iconst 0, 1, 0, 0, .int (0 : Int32))] 12 [(0, .ref 0), (1, .int x1)] [.int (0 : Int32)] (wMo cy Ms Mb Mq MB My ML Mg MF MW MI MA Mr Ma Mp Mf Mt Ml Mo Mn Mm MT MP Mv Mx Mz) (by decide +kernel) rfl rfl ?_
    have h := Option.some.inj h
    subst h
    exact G_zret C (v := false) hR (by decide +kernel)
