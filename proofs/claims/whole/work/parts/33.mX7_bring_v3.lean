def f_X7_bring_v3_L3 : Nat → Int32 → Int32 → Int32 → (Nat → Int32) → (Nat → Int32) → Option (Nat → Int32)
  | 0, _, _, _, _, _ => none
  | fu + 1, x2, x4, x5, Mr, Ma => if (8 : Int32) ≤ x5 then (some Mr) else (if (x2 + x5) < 0 ∨ 8 ≤ (x2 + x5).toNatClampNeg then none else if (x4 + x5) < 0 ∨ 8 ≤ (x4 + x5).toNatClampNeg then none else f_X7_bring_v3_L3 fu x2 x4 (x5 + (1 : Int32)) (upd Mr (x4 + x5).toNatClampNeg (Ma (x2 + x5).toNatClampNeg)) Ma)
def f_X7_bring_v3 (x2 : Int32) (x4 : Int32) (Mr : Nat → Int32) (Ma : Nat → Int32) : Option (Nat → Int32) := (f_X7_bring_v3_L3 200 x2 x4 (0 : Int32) Mr Ma).bind fun q1 => some q1
set_option maxHeartbeats 4000000 in
set_option maxRecDepth 100000 in
theorem g_X7_bring_v3_L3 {k : KX} {cy : Nat → ClassId} (C : OK k cX7_bring 7 6 cy 0 0) : ∀ (fu : Nat) (x2 : Int32) (x4 : Int32) (x5 : Int32) (Ms : Int32) (Mb : Int32) (Mq : Int32) (MB : Int64) (My : Int32) (ML : Int32) (Mg : Int32) (MF : Int32) (MW : Bool) (MI : Bool) (MA : Int32) (Mr : Nat → Int32) (Ma : Nat → Int32) (Mp : Nat → Int32) (Mf : Nat → Int32) (Mt : Nat → Int32) (Ml : Nat → Int32) (Mo : Nat → Int32) (Mn : Nat → Int32) (Mm : Nat → Int64) (MT : Nat → Int64) (MP : Nat → Int64) (Mv : Nat → Int32) (Mx : Nat → Int64) (Mz : Nat → Int64) (res : (Nat → Int32)), (f_X7_bring_v3_L3 fu x2 x4 x5 Mr Ma = some res) → G k 6 29 [] [] (wMo cy Ms Mb Mq MB My ML Mg MF MW MI MA res Ma Mp Mf Mt Ml Mo Mn Mm MT MP Mv Mx Mz) → G k 6 3 [(1, .ref 2), (2, .int x2), (3, .ref 1), (4, .int x4), (5, .int x5)] [] (wMo cy Ms Mb Mq MB My ML Mg MF MW MI MA Mr Ma Mp Mf Mt Ml Mo Mn Mm MT MP Mv Mx Mz) := by
  intro fu
  induction fu with
  | zero =>
    intro x2 x4 x5 Ms Mb Mq MB My ML Mg MF MW MI MA Mr Ma Mp Mf Mt Ml Mo Mn Mm MT MP Mv Mx Mz res h hex
    rw [f_X7_bring_v3_L3] at h
    cases h
  | succ fu ih =>
    intro x2 x4 x5 Ms Mb Mq MB My ML Mg MF MW MI MA Mr Ma Mp Mf Mt Ml Mo Mn Mm MT MP Mv Mx Mz res h hex
    rw [f_X7_bring_v3_L3] at h
    refine G_r C [(.iload 5, 2, 0, 0, .null), (.bipush 8, 2, 0, 0, .int (8 : Int32))] 7 [(1, .ref 2), (2, .int x2), (3, .ref 1), (4, .int x4), (5, .int x5)] [.int (8 : Int32), .int x5] (wMo cy Ms Mb Mq MB My ML Mg MF MW MI MA Mr Ma Mp Mf Mt Ml Mo Mn Mm MT MP Mv Mx Mz) (by decide +kernel) rfl rfl ?_
    refine G_icmp_ge C (off := 22) (tgt := 29) (by decide +kernel) rfl (fun c => ?_) (fun c => ?_)
    · rw [if_pos c] at h
      have h := Option.some.inj h
      subst h
      refine G_lv [] (lv' := []) rfl ?_
      exact hex
    · rw [if_neg c] at h
      refine G_r C [(.aload_n 3, 1, 0, 0, .null), (.iload 4, 2, 0, 0, .null), (.iload 5, 2, 0, 0, .null), (.iadd, 1, 0, 0, .null), (.aload_n 1, 1, 0, 0, .null), (.iload_n 2, 1, 0, 0, .null), (.iload 5, 2, 0, 0, .null), (.iadd, 1, 0, 0, .null)] 21 [(1, .ref 2), (2, .int x2), (3, .ref 1), (4, .int x4), (5, .int x5)] [.int (x2 + x5), .ref 2, .int (x4 + x5), .ref 1] (wMo cy Ms Mb Mq MB My ML Mg MF MW MI MA Mr Ma Mp Mf Mt Ml Mo Mn Mm MT MP Mv Mx Mz) (by decide +kernel) rfl rfl ?_
      obtain ⟨cg, h⟩ := oob h
      refine G_iald C (a := 2) rfl cg (by decide +kernel) ?_
      obtain ⟨cg, h⟩ := oob h
      refine G_iast C (a := 1) (w' := (wMo cy Ms Mb Mq MB My ML Mg MF MW MI MA (upd Mr (x4 + x5).toNatClampNeg (Ma (x2 + x5).toNatClampNeg)) Ma Mp Mf Mt Ml Mo Mn Mm MT MP Mv Mx Mz)) rfl cg (by decide +kernel) rfl ?_
      refine G_r C [(.iinc 5 1, 3, 0, 0, .int (1 : Int32))] 26 [(5, .int (x5 + (1 : Int32))), (1, .ref 2), (2, .int x2), (3, .ref 1), (4, .int x4)] [] (wMo cy Ms Mb Mq MB My ML Mg MF MW MI MA (upd Mr (x4 + x5).toNatClampNeg (Ma (x2 + x5).toNatClampNeg)) Ma Mp Mf Mt Ml Mo Mn Mm MT MP Mv Mx Mz) (by decide +kernel) rfl rfl ?_
      refine G_goto C (off := -23) (tgt := 3) (by decide +kernel) rfl ?_
      refine G_lv [1, 2, 3, 4, 0] (lv' := [(1, .ref 2), (2, .int x2), (3, .ref 1), (4, .int x4), (5, .int (x5 + (1 : Int32)))]) rfl ?_
      exact ih x2 x4 (x5 + (1 : Int32)) Ms Mb Mq MB My ML Mg MF MW MI MA (upd Mr (x4 + x5).toNatClampNeg (Ma (x2 + x5).toNatClampNeg)) Ma Mp Mf Mt Ml Mo Mn Mm MT MP Mv Mx Mz res h hex
set_option maxHeartbeats 4000000 in
set_option maxRecDepth 100000 in
theorem c_X7_bring_v3 (cy : Nat → ClassId) (Ms : Int32) (Mb : Int32) (Mq : Int32) (MB : Int64) (My : Int32) (ML : Int32) (Mg : Int32) (MF : Int32) (MW : Bool) (MI : Bool) (MA : Int32) (Mr : Nat → Int32) (Ma : Nat → Int32) (Mp : Nat → Int32) (Mf : Nat → Int32) (Mt : Nat → Int32) (Ml : Nat → Int32) (Mo : Nat → Int32) (Mn : Nat → Int32) (Mm : Nat → Int64) (MT : Nat → Int64) (MP : Nat → Int64) (Mv : Nat → Int32) (Mx : Nat → Int64) (Mz : Nat → Int64) (x2 : Int32) (x4 : Int32) (res : (Nat → Int32)) (h : f_X7_bring_v3 x2 x4 Mr Ma = some res) : MG cy yX7_bring cX7_bring 6 none 0 0 [.ref 0, .ref 2, .int x2, .ref 1, .int x4] (wMo cy Ms Mb Mq MB My ML Mg MF MW MI MA Mr Ma Mp Mf Mt Ml Mo Mn Mm MT MP Mv Mx Mz) none (wMo cy Ms Mb Mq MB My ML Mg MF MW MI MA res Ma Mp Mf Mt Ml Mo Mn Mm MT MP Mv Mx Mz) := by
  refine MG_of (o := 7) (lv := [(0, .ref 0), (1, .ref 2), (2, .int x2), (3, .ref 1), (4, .int x4)]) ⟨by decide +kernel, rfl⟩ (Nat.le_of_ble_eq_true rfl) rfl (fun k C hR => ?_)
  rw [f_X7_bring_v3] at h
  refine G_r C [(.iconst 0, 1, 0, 0, .int (0 : Int32)), (.istore 5, 2, 0, 0, .null)] 3 [(5, .int (0 : Int32)), (0, .ref 0), (1, .ref 2), (2, .int x2), (3, .ref 1), (4, .int x4)] [] (wMo cy Ms Mb Mq MB My ML Mg MF MW MI MA Mr Ma Mp Mf Mt Ml Mo Mn Mm MT MP Mv Mx Mz) (by decide +kernel) rfl rfl ?_
  obtain ⟨q1, hq1, h⟩ := obd h
  refine G_lv [2, 3, 4, 5, 0] (lv' := [(1, .ref 2), (2, .int x2), (3, .ref 1), (4, .int x4), (5, .int (0 : Int32))]) rfl ?_
  refine g_X7_bring_v3_L3 C 200 x2 x4 (0 : Int32) Ms Mb Mq MB My ML Mg MF MW MI MA Mr Ma Mp Mf Mt Ml Mo Mn Mm MT MP Mv Mx Mz q1 hq1 ?_
  have h := Option.some.inj h
  subst h
  exact G_vret C hR (by decide +kernel)
def f_X7_reads_L32 : Nat → Int32 → Int32 → Int32 → Int32 → Int32 → Int32 → Bool → Bool → Int32 → (Nat → Int32) → (Nat → Int32) → (Nat → Int32) → (Nat → Int32) → (Nat → Int32) → (Nat → Int32) → (Nat → Int64) → Option (Int32 × Int32 × Int32 × Int32 × Int32 × Int32 × Bool × Bool × Int32 × (Nat → Int32) × (Nat → Int32) × (Nat → Int32) × (Nat → Int32) × (Nat → Int32) × (Nat → Int32) × (Nat → Int64))
  | 0, _, _, _, _, _, _, _, _, _, _, _, _, _, _, _, _ => none
  | fu + 1, x2, Ms, Mq, ML, Mg, MF, MW, MI, MA, Mr, Ma, Mp, Ml, Mo, Mn, Mm => if Mq ≤ x2 then ((f_X7_note_v1 Ms Ma Mp).bind fun q3 => some (Mq, q3.1, Mq, ML, Mg, MF, MW, MI, MA, Mr, Ma, q3.2, Ml, Mo, Mn, Mm)) else ((f_X7_doOrder x2 Mr Ml Mo Mn Mm).bind fun q4 => if (bI q4.1) = 0 then ((f_X7_bring_v3 (0 : Int32) (0 : Int32) q4.2.1 Ma).bind fun q5 => some (((-1000 : Int32) - x2), Ms, Mq, ML, Mg, MF, MW, MI, MA, q5, Ma, Mp, Ml, Mo, Mn, q4.2.2)) else (f_X7_reads_L32 fu (x2 + (1 : Int32)) Ms Mq ML Mg MF MW MI MA q4.2.1 Ma Mp Ml Mo Mn q4.2.2))
def f_X7_reads (Ms : Int32) (Mb : Int32) (Mg : Int32) (MF : Int32) (MI : Bool) (Mr : Nat → Int32) (Ma : Nat → Int32) (Mp : Nat → Int32) (Mt : Nat → Int32) (Ml : Nat → Int32) (Mo : Nat → Int32) (Mn : Nat → Int32) (Mm : Nat → Int64) : Option (Int32 × Int32 × Int32 × Int32 × Int32 × Int32 × Bool × Bool × Int32 × (Nat → Int32) × (Nat → Int32) × (Nat → Int32) × (Nat → Int32) × (Nat → Int32) × (Nat → Int32) × (Nat → Int64)) := (f_X7_readText Mb Mg MF MI Mt Ml Mo Mn).bind fun q1 => if q1.1 = (-1000000 : Int32) then ((f_X7_bring_v1 (0 : Int32) (0 : Int32) Mr Ma).bind fun q2 => f_X7_reads_L32 200 (0 : Int32) Ms q1.2.1 q1.2.2.1 q1.2.2.2.1 q1.2.2.2.2.1 q1.2.2.2.2.2.1 q1.2.2.2.2.2.2.1 q1.2.2.2.2.2.2.2.1 Mr q2 Mp q1.2.2.2.2.2.2.2.2.1 q1.2.2.2.2.2.2.2.2.2.1 q1.2.2.2.2.2.2.2.2.2.2 Mm) else (some (((-10 : Int32) - q1.1), Ms, q1.2.1, q1.2.2.1, q1.2.2.2.1, q1.2.2.2.2.1, q1.2.2.2.2.2.1, q1.2.2.2.2.2.2.1, q1.2.2.2.2.2.2.2.1, Mr, Ma, Mp, q1.2.2.2.2.2.2.2.2.1, q1.2.2.2.2.2.2.2.2.2.1, q1.2.2.2.2.2.2.2.2.2.2, Mm))
set_option maxHeartbeats 4000000 in
set_option maxRecDepth 100000 in
theorem g_X7_reads_L32 {k : KX} {cy : Nat → ClassId} (C : OK k cX7_reads 7 3 cy 4 99) : ∀ (fu : Nat) (x2 : Int32) (Ms : Int32) (Mb : Int32) (Mq : Int32) (MB : Int64) (My : Int32) (ML : Int32) (Mg : Int32) (MF : Int32) (MW : Bool) (MI : Bool) (MA : Int32) (Mr : Nat → Int32) (Ma : Nat → Int32) (Mp : Nat → Int32) (Mf : Nat → Int32) (Mt : Nat → Int32) (Ml : Nat → Int32) (Mo : Nat → Int32) (Mn : Nat → Int32) (Mm : Nat → Int64) (MT : Nat → Int64) (MP : Nat → Int64) (Mv : Nat → Int32) (Mx : Nat → Int64) (Mz : Nat → Int64) (res : (Int32 × Int32 × Int32 × Int32 × Int32 × Int32 × Bool × Bool × Int32 × (Nat → Int32) × (Nat → Int32) × (Nat → Int32) × (Nat → Int32) × (Nat → Int32) × (Nat → Int32) × (Nat → Int64))), RT k cy (some .int) (some (.int res.1)) (wMo cy res.2.1 Mb res.2.2.1 MB My res.2.2.2.1 res.2.2.2.2.1 res.2.2.2.2.2.1 res.2.2.2.2.2.2.1 res.2.2.2.2.2.2.2.1 res.2.2.2.2.2.2.2.2.1 res.2.2.2.2.2.2.2.2.2.1 res.2.2.2.2.2.2.2.2.2.2.1 res.2.2.2.2.2.2.2.2.2.2.2.1 Mf Mt res.2.2.2.2.2.2.2.2.2.2.2.2.1 res.2.2.2.2.2.2.2.2.2.2.2.2.2.1 res.2.2.2.2.2.2.2.2.2.2.2.2.2.2.1 res.2.2.2.2.2.2.2.2.2.2.2.2.2.2.2 MT MP Mv Mx Mz) → (f_X7_reads_L32 fu x2 Ms Mq ML Mg MF MW MI MA Mr Ma Mp Ml Mo Mn Mm = some res) → G k 3 32 [(0, .ref 0), (2, .int x2)] [] (wMo cy Ms Mb Mq MB My ML Mg MF MW MI MA Mr Ma Mp Mf Mt Ml Mo Mn Mm MT MP Mv Mx Mz) := by
  intro fu
  induction fu with
  | zero =>
    intro x2 Ms Mb Mq MB My ML Mg MF MW MI MA Mr Ma Mp Mf Mt Ml Mo Mn Mm MT MP Mv Mx Mz res hR h
    rw [f_X7_reads_L32] at h
    cases h
  | succ fu ih =>
    intro x2 Ms Mb Mq MB My ML Mg MF MW MI MA Mr Ma Mp Mf Mt Ml Mo Mn Mm MT MP Mv Mx Mz res hR h
    rw [f_X7_reads_L32] at h
    refine G_r C [(.iload_n 2, 1, 0, 0, .null), (.aload_n 0, 1, 0, 0, .null), (.getfield 242, 3, 7, 10, .null)] 37 [(0, .ref 0), (2, .int x2)] [.int Mq, .int x2] (wMo cy Ms Mb Mq MB My ML Mg MF MW MI MA Mr Ma Mp Mf Mt Ml Mo Mn Mm MT MP Mv Mx Mz) (by decide +kernel) rfl rfl ?_
    refine G_icmp_ge C (off := 37) (tgt := 74) (by decide +kernel) rfl (fun c => ?_) (fun c => ?_)
    · rw [if_pos c] at h
      refine G_r C [(.aload_n 0, 1, 0, 0, .null), (.aload_n 0, 1, 0, 0, .null), (.getfield 13, 3, 7, 1, .null)] 79 [(0, .ref 0), (2, .int x2)] [.ref 2, .ref 0] (wMo cy Ms Mb Mq MB My ML Mg MF MW MI MA Mr Ma Mp Mf Mt Ml Mo Mn Mm MT MP Mv Mx Mz) (by decide +kernel) rfl rfl ?_
      obtain ⟨q3, hq3, h⟩ := obd h
      refine G_c0 C lk_7_76 ⟨Nat.le_of_ble_eq_true rfl, Nat.le_of_ble_eq_true rfl⟩ (by decide +kernel) [] (c_X7_note_v1 cy Ms Mb Mq MB My ML Mg MF MW MI MA Mr Ma Mp Mf Mt Ml Mo Mn Mm MT MP Mv Mx Mz q3 hq3) rfl rfl (Nat.le_of_ble_eq_true rfl) ⟨rfl, rfl⟩ rfl ?_
      refine G_r C [(.aload_n 0, 1, 0, 0, .null), (.getfield 242, 3, 7, 10, .null)] 86 [(0, .ref 0), (2, .int x2)] [.int Mq] (wMo cy q3.1 Mb Mq MB My ML Mg MF MW MI MA Mr Ma q3.2 Mf Mt Ml Mo Mn Mm MT MP Mv Mx Mz) (by decide +kernel) rfl rfl ?_
      have h := Option.some.inj h
      subst h
      exact G_iret C hR (by decide +kernel)
    · rw [if_neg c] at h
      refine G_r C [(.aload_n 0, 1, 0, 0, .null), (.iload_n 2, 1, 0, 0, .null)] 42 [(0, .ref 0), (2, .int x2)] [.int x2, .ref 0] (wMo cy Ms Mb Mq MB My ML Mg MF MW MI MA Mr Ma Mp Mf Mt Ml Mo Mn Mm MT MP Mv Mx Mz) (by decide +kernel) rfl rfl ?_
      obtain ⟨q4, hq4, h⟩ := obd h
      refine G_c0 C lk_7_271 ⟨Nat.le_of_ble_eq_true rfl, Nat.le_of_ble_eq_true rfl⟩ (by decide +kernel) [.int (bI q4.1)] (c_X7_doOrder cy Ms Mb Mq MB My ML Mg MF MW MI MA Mr Ma Mp Mf Mt Ml Mo Mn Mm MT MP Mv Mx Mz x2 q4 hq4) rfl rfl (Nat.le_of_ble_eq_true rfl) ⟨rfl, rfl⟩ rfl ?_
      refine G_if_ne C (off := 23) (tgt := 68) (by decide +kernel) rfl (fun c => ?_) (fun c => ?_)
      · rw [if_neg c] at h
        refine G_r C [(.iinc 2 1, 3, 0, 0, .int (1 : Int32))] 71 [(2, .int (x2 + (1 : Int32))), (0, .ref 0)] [] (wMo cy Ms Mb Mq MB My ML Mg MF MW MI MA q4.2.1 Ma Mp Mf Mt Ml Mo Mn q4.2.2 MT MP Mv Mx Mz) (by decide +kernel) rfl rfl ?_
        refine G_goto C (off := -39) (tgt := 32) (by decide +kernel) rfl ?_
        refine G_lv [1, 0] (lv' := [(0, .ref 0), (2, .int (x2 + (1 : Int32)))]) rfl ?_
        exact ih (x2 + (1 : Int32)) Ms Mb Mq MB My ML Mg MF MW MI MA q4.2.1 Ma Mp Mf Mt Ml Mo Mn q4.2.2 MT MP Mv Mx Mz res hR h
      · rw [if_pos c] at h
        refine G_r C [(.aload_n 0, 1, 0, 0, .null), (.aload_n 0, 1, 0, 0, .null), (.getfield 13, 3, 7, 1, .null), (.iconst 0, 1, 0, 0, .int (0 : Int32)), (.aload_n 0, 1, 0, 0, .null), (.getfield 7, 3, 7, 0, .null), (.iconst 0, 1, 0, 0, .int (0 : Int32))] 59 [(0, .ref 0), (2, .int x2)] [.int (0 : Int32), .ref 1, .int (0 : Int32), .ref 2, .ref 0] (wMo cy Ms Mb Mq MB My ML Mg MF MW MI MA q4.2.1 Ma Mp Mf Mt Ml Mo Mn q4.2.2 MT MP Mv Mx Mz) (by decide +kernel) rfl rfl ?_
        obtain ⟨q5, hq5, h⟩ := obd h
        refine G_c0 C lk_7_60 ⟨Nat.le_of_ble_eq_true rfl, Nat.le_of_ble_eq_true rfl⟩ (by decide +kernel) [] (c_X7_bring_v3 cy Ms Mb Mq MB My ML Mg MF MW MI MA q4.2.1 Ma Mp Mf Mt Ml Mo Mn q4.2.2 MT MP Mv Mx Mz (0 : Int32) (0 : Int32) q5 hq5) rfl rfl (Nat.le_of_ble_eq_true rfl) ⟨rfl, rfl⟩ rfl ?_
        refine G_r C [(.sipush (-1000), 3, 0, 0, .int (-1000 : Int32)), (.iload_n 2, 1, 0, 0, .null), (.isub, 1, 0, 0, .null)] 67 [(0, .ref 0), (2, .int x2)] [.int ((-1000 : Int32) - x2)] (wMo cy Ms Mb Mq MB My ML Mg MF MW MI MA q5 Ma Mp Mf Mt Ml Mo Mn q4.2.2 MT MP Mv Mx Mz) (by decide +kernel) rfl rfl ?_
        have h := Option.some.inj h
        subst h
        exact G_iret C hR (by decide +kernel)
set_option maxHeartbeats 4000000 in
set_option maxRecDepth 100000 in
theorem c_X7_reads (cy : Nat → ClassId) (Ms : Int32) (Mb : Int32) (Mq : Int32) (MB : Int64) (My : Int32) (ML : Int32) (Mg : Int32) (MF : Int32) (MW : Bool) (MI : Bool) (MA : Int32) (Mr : Nat → Int32) (Ma : Nat → Int32) (Mp : Nat → Int32) (Mf : Nat → Int32) (Mt : Nat → Int32) (Ml : Nat → Int32) (Mo : Nat → Int32) (Mn : Nat → Int32) (Mm : Nat → Int64) (MT : Nat → Int64) (MP : Nat → Int64) (Mv : Nat → Int32) (Mx : Nat → Int64) (Mz : Nat → Int64)  (res : (Int32 × Int32 × Int32 × Int32 × Int32 × Int32 × Bool × Bool × Int32 × (Nat → Int32) × (Nat → Int32) × (Nat → Int32) × (Nat → Int32) × (Nat → Int32) × (Nat → Int32) × (Nat → Int64))) (h : f_X7_reads Ms Mb Mg MF MI Mr Ma Mp Mt Ml Mo Mn Mm = some res) : MG cy yX7_reads cX7_reads 3 (some .int) 4 99 [.ref 0] (wMo cy Ms Mb Mq MB My ML Mg MF MW MI MA Mr Ma Mp Mf Mt Ml Mo Mn Mm MT MP Mv Mx Mz) (some (.int res.1)) (wMo cy res.2.1 Mb res.2.2.1 MB My res.2.2.2.1 res.2.2.2.2.1 res.2.2.2.2.2.1 res.2.2.2.2.2.2.1 res.2.2.2.2.2.2.2.1 res.2.2.2.2.2.2.2.2.1 res.2.2.2.2.2.2.2.2.2.1 res.2.2.2.2.2.2.2.2.2.2.1 res.2.2.2.2.2.2.2.2.2.2.2.1 Mf Mt res.2.2.2.2.2.2.2.2.2.2.2.2.1 res.2.2.2.2.2.2.2.2.2.2.2.2.2.1 res.2.2.2.2.2.2.2.2.2.2.2.2.2.2.1 res.2.2.2.2.2.2.2.2.2.2.2.2.2.2.2 MT MP Mv Mx Mz) := by
  refine MG_of (o := 7) (lv := [(0, .ref 0)]) ⟨by decide +kernel, rfl⟩ (Nat.le_of_ble_eq_true rfl) rfl (fun k C hR => ?_)
  rw [f_X7_reads] at h
  refine G_r C [(.aload_n 0, 1, 0, 0, .null)] 1 [(0, .ref 0)] [.ref 0] (wMo cy Ms Mb Mq MB My ML Mg MF MW MI MA Mr Ma Mp Mf Mt Ml Mo Mn Mm MT MP Mv Mx Mz) (by decide +kernel) rfl rfl ?_
  obtain ⟨q1, hq1, h⟩ := obd h
  refine G_c0 C lk_7_268 ⟨Nat.le_of_ble_eq_true rfl, Nat.le_of_ble_eq_true rfl⟩ (by decide +kernel) [.int q1.1] (c_X7_readText cy Ms Mb Mq MB My ML Mg MF MW MI MA Mr Ma Mp Mf Mt Ml Mo Mn Mm MT MP Mv Mx Mz q1 hq1) rfl rfl (Nat.le_of_ble_eq_true rfl) ⟨rfl, rfl⟩ rfl ?_
  refine G_r C [(.istore_n 1, 1, 0, 0, .null), (.iload_n 1, 1, 0, 0, .null)] 6 [(1, .int q1.1), (0, .ref 0)] [.int q1.1] (wMo cy Ms Mb q1.2.1 MB My q1.2.2.1 q1.2.2.2.1 q1.2.2.2.2.1 q1.2.2.2.2.2.1 q1.2.2.2.2.2.2.1 q1.2.2.2.2.2.2.2.1 Mr Ma Mp Mf Mt q1.2.2.2.2.2.2.2.2.1 q1.2.2.2.2.2.2.2.2.2.1 q1.2.2.2.2.2.2.2.2.2.2 Mm MT MP Mv Mx Mz) (by decide +kernel) rfl rfl ?_
  refine G_ldc C co_7_177 (by decide +kernel) ?_
  refine G_icmp_eq C (off := 8) (tgt := 16) (by decide +kernel) rfl (fun c => ?_) (fun c => ?_)
  · rw [if_pos c] at h
    refine G_r C [(.aload_n 0, 1, 0, 0, .null), (.aload_n 0, 1, 0, 0, .null), (.getfield 7, 3, 7, 0, .null), (.iconst 0, 1, 0, 0, .int (0 : Int32)), (.aload_n 0, 1, 0, 0, .null), (.getfield 13, 3, 7, 1, .null), (.iconst 0, 1, 0, 0, .int (0 : Int32))] 27 [(1, .int q1.1), (0, .ref 0)] [.int (0 : Int32), .ref 2, .int (0 : Int32), .ref 1, .ref 0] (wMo cy Ms Mb q1.2.1 MB My q1.2.2.1 q1.2.2.2.1 q1.2.2.2.2.1 q1.2.2.2.2.2.1 q1.2.2.2.2.2.2.1 q1.2.2.2.2.2.2.2.1 Mr Ma Mp Mf Mt q1.2.2.2.2.2.2.2.2.1 q1.2.2.2.2.2.2.2.2.2.1 q1.2.2.2.2.2.2.2.2.2.2 Mm MT MP Mv Mx Mz) (by decide +kernel) rfl rfl ?_
    obtain ⟨q2, hq2, h⟩ := obd h
    refine G_c0 C lk_7_60 ⟨Nat.le_of_ble_eq_true rfl, Nat.le_of_ble_eq_true rfl⟩ (by decide +kernel) [] (c_X7_bring_v1 cy Ms Mb q1.2.1 MB My q1.2.2.1 q1.2.2.2.1 q1.2.2.2.2.1 q1.2.2.2.2.2.1 q1.2.2.2.2.2.2.1 q1.2.2.2.2.2.2.2.1 Mr Ma Mp Mf Mt q1.2.2.2.2.2.2.2.2.1 q1.2.2.2.2.2.2.2.2.2.1 q1.2.2.2.2.2.2.2.2.2.2 Mm MT MP Mv Mx Mz (0 : Int32) (0 : Int32) q2 hq2) rfl rfl (Nat.le_of_ble_eq_true rfl) ⟨rfl, rfl⟩ rfl ?_
    refine G_r C [(.iconst 0, 1, 0, 0, .int (0 : Int32)), (.istore_n 2, 1, 0, 0, .null)] 32 [(2, .int (0 : Int32)), (1, .int q1.1), (0, .ref 0)] [] (wMo cy Ms Mb q1.2.1 MB My q1.2.2.1 q1.2.2.2.1 q1.2.2.2.2.1 q1.2.2.2.2.2.1 q1.2.2.2.2.2.2.1 q1.2.2.2.2.2.2.2.1 Mr q2 Mp Mf Mt q1.2.2.2.2.2.2.2.2.1 q1.2.2.2.2.2.2.2.2.2.1 q1.2.2.2.2.2.2.2.2.2.2 Mm MT MP Mv Mx Mz) (by decide +kernel) rfl rfl ?_
    refine G_lv [2, 0] (lv' := [(0, .ref 0), (2, .int (0 : Int32))]) rfl ?_
    exact g_X7_reads_L32 C 200 (0 : Int32) Ms Mb q1.2.1 MB My q1.2.2.1 q1.2.2.2.1 q1.2.2.2.2.1 q1.2.2.2.2.2.1 q1.2.2.2.2.2.2.1 q1.2.2.2.2.2.2.2.1 Mr q2 Mp Mf Mt q1.2.2.2.2.2.2.2.2.1 q1.2.2.2.2.2.2.2.2.2.1 q1.2.2.2.2.2.2.2.2.2.2 Mm MT MP Mv Mx Mz res hR h
  · rw [if_neg c] at h
    refine G_r C [(.bipush (-10), 2, 0, 0, .int (-10 : Int32)), (.iload_n 1, 1, 0, 0, .null), (.isub, 1, 0, 0, .null)] 15 [(1, .int q1.1), (0, .ref 0)] [.int ((-10 : Int32) - q1.1)] (wMo cy Ms Mb q1.2.1 MB My q1.2.2.1 q1.2.2.2.1 q1.2.2.2.2.1 q1.2.2.2.2.2.1 q1.2.2.2.2.2.2.1 q1.2.2.2.2.2.2.2.1 Mr Ma Mp Mf Mt q1.2.2.2.2.2.2.2.2.1 q1.2.2.2.2.2.2.2.2.2.1 q1.2.2.2.2.2.2.2.2.2.2 Mm MT MP Mv Mx Mz) (by decide +kernel) rfl rfl ?_
    have h := Option.some.inj h
    subst h
    exact G_iret C hR (by decide +kernel)
def f_X7_bring_v4_L3 : Nat → Int32 → Int32 → Int32 → (Nat → Int32) → (Nat → Int32) → Option (Nat → Int32)
  | 0, _, _, _, _, _ => none
  | fu + 1, x2, x4, x5, Mr, Mp => if (8 : Int32) ≤ x5 then (some Mr) else (if (x2 + x5) < 0 ∨ 48 ≤ (x2 + x5).toNatClampNeg then none else if (x4 + x5) < 0 ∨ 8 ≤ (x4 + x5).toNatClampNeg then none else f_X7_bring_v4_L3 fu x2 x4 (x5 + (1 : Int32)) (upd Mr (x4 + x5).toNatClampNeg (Mp (x2 + x5).toNatClampNeg)) Mp)
def f_X7_bring_v4 (x2 : Int32) (x4 : Int32) (Mr : Nat → Int32) (Mp : Nat → Int32) : Option (Nat → Int32) := (f_X7_bring_v4_L3 200 x2 x4 (0 : Int32) Mr Mp).bind fun q1 => some q1
set_option maxHeartbeats 4000000 in
set_option maxRecDepth 100000 in
theorem g_X7_bring_v4_L3 {k : KX} {cy : Nat → ClassId} (C : OK k cX7_bring 7 6 cy 0 0) : ∀ (fu : Nat) (x2 : Int32) (x4 : Int32) (x5 : Int32) (Ms : Int32) (Mb : Int32) (Mq : Int32) (MB : Int64) (My : Int32) (ML : Int32) (Mg : Int32) (MF : Int32) (MW : Bool) (MI : Bool) (MA : Int32) (Mr : Nat → Int32) (Ma : Nat → Int32) (Mp : Nat → Int32) (Mf : Nat → Int32) (Mt : Nat → Int32) (Ml : Nat → Int32) (Mo : Nat → Int32) (Mn : Nat → Int32) (Mm : Nat → Int64) (MT : Nat → Int64) (MP : Nat → Int64) (Mv : Nat → Int32) (Mx : Nat → Int64) (Mz : Nat → Int64) (res : (Nat → Int32)), (f_X7_bring_v4_L3 fu x2 x4 x5 Mr Mp = some res) → G k 6 29 [] [] (wMo cy Ms Mb Mq MB My ML Mg MF MW MI MA res Ma Mp Mf Mt Ml Mo Mn Mm MT MP Mv Mx Mz) → G k 6 3 [(1, .ref 3), (2, .int x2), (3, .ref 1), (4, .int x4), (5, .int x5)] [] (wMo cy Ms Mb Mq MB My ML Mg MF MW MI MA Mr Ma Mp Mf Mt Ml Mo Mn Mm MT MP Mv Mx Mz) := by
  intro fu
  induction fu with
  | zero =>
    intro x2 x4 x5 Ms Mb Mq MB My ML Mg MF MW MI MA Mr Ma Mp Mf Mt Ml Mo Mn Mm MT MP Mv Mx Mz res h hex
    rw [f_X7_bring_v4_L3] at h
    cases h
  | succ fu ih =>
    intro x2 x4 x5 Ms Mb Mq MB My ML Mg MF MW MI MA Mr Ma Mp Mf Mt Ml Mo Mn Mm MT MP Mv Mx Mz res h hex
    rw [f_X7_bring_v4_L3] at h
    refine G_r C [(.iload 5, 2, 0, 0, .null), (.bipush 8, 2, 0, 0, .int (8 : Int32))] 7 [(1, .ref 3), (2, .int x2), (3, .ref 1), (4, .int x4), (5, .int x5)] [.int (8 : Int32), .int x5] (wMo cy Ms Mb Mq MB My ML Mg MF MW MI MA Mr Ma Mp Mf Mt Ml Mo Mn Mm MT MP Mv Mx Mz) (by decide +kernel) rfl rfl ?_
    refine G_icmp_ge C (off := 22) (tgt := 29) (by decide +kernel) rfl (fun c => ?_) (fun c => ?_)
    · rw [if_pos c] at h
      have h := Option.some.inj h
      subst h
      refine G_lv [] (lv' := []) rfl ?_
      exact hex
    · rw [if_neg c] at h
      refine G_r C [(.aload_n 3, 1, 0, 0, .null), (.iload 4, 2, 0, 0, .null), (.iload 5, 2, 0, 0, .null), (.iadd, 1, 0, 0, .null), (.aload_n 1, 1, 0, 0, .null), (.iload_n 2, 1, 0, 0, .null), (.iload 5, 2, 0, 0, .null), (.iadd, 1, 0, 0, .null)] 21 [(1, .ref 3), (2, .int x2), (3, .ref 1), (4, .int x4), (5, .int x5)] [.int (x2 + x5), .ref 3, .int (x4 + x5), .ref 1] (wMo cy Ms Mb Mq MB My ML Mg MF MW MI MA Mr Ma Mp Mf Mt Ml Mo Mn Mm MT MP Mv Mx Mz) (by decide +kernel) rfl rfl ?_
      obtain ⟨cg, h⟩ := oob h
      refine G_iald C (a := 3) rfl cg (by decide +kernel) ?_
      obtain ⟨cg, h⟩ := oob h
      refine G_iast C (a := 1) (w' := (wMo cy Ms Mb Mq MB My ML Mg MF MW MI MA (upd Mr (x4 + x5).toNatClampNeg (Mp (x2 + x5).toNatClampNeg)) Ma Mp Mf Mt Ml Mo Mn Mm MT MP Mv Mx Mz)) rfl cg (by decide +kernel) rfl ?_
      refine G_r C [(.iinc 5 1, 3, 0, 0, .int (1 : Int32))] 26 [(5, .int (x5 + (1 : Int32))), (1, .ref 3), (2, .int x2), (3, .ref 1), (4, .int x4)] [] (wMo cy Ms Mb Mq MB My ML Mg MF MW MI MA (upd Mr (x4 + x5).toNatClampNeg (Mp (x2 + x5).toNatClampNeg)) Ma Mp Mf Mt Ml Mo Mn Mm MT MP Mv Mx Mz) (by decide +kernel) rfl rfl ?_
      refine G_goto C (off := -23) (tgt := 3) (by decide +kernel) rfl ?_
      refine G_lv [1, 2, 3, 4, 0] (lv' := [(1, .ref 3), (2, .int x2), (3, .ref 1), (4, .int x4), (5, .int (x5 + (1 : Int32)))]) rfl ?_
      exact ih x2 x4 (x5 + (1 : Int32)) Ms Mb Mq MB My ML Mg MF MW MI MA (upd Mr (x4 + x5).toNatClampNeg (Mp (x2 + x5).toNatClampNeg)) Ma Mp Mf Mt Ml Mo Mn Mm MT MP Mv Mx Mz res h hex
set_option maxHeartbeats 4000000 in
set_option maxRecDepth 100000 in
theorem c_X7_bring_v4 (cy : Nat → ClassId) (Ms : Int32) (Mb : Int32) (Mq : Int32) (MB : Int64) (My : Int32) (ML : Int32) (Mg : Int32) (MF : Int32) (MW : Bool) (MI : Bool) (MA : Int32) (Mr : Nat → Int32) (Ma : Nat → Int32) (Mp : Nat → Int32) (Mf : Nat → Int32) (Mt : Nat → Int32) (Ml : Nat → Int32) (Mo : Nat → Int32) (Mn : Nat → Int32) (Mm : Nat → Int64) (MT : Nat → Int64) (MP : Nat → Int64) (Mv : Nat → Int32) (Mx : Nat → Int64) (Mz : Nat → Int64) (x2 : Int32) (x4 : Int32) (res : (Nat → Int32)) (h : f_X7_bring_v4 x2 x4 Mr Mp = some res) : MG cy yX7_bring cX7_bring 6 none 0 0 [.ref 0, .ref 3, .int x2, .ref 1, .int x4] (wMo cy Ms Mb Mq MB My ML Mg MF MW MI MA Mr Ma Mp Mf Mt Ml Mo Mn Mm MT MP Mv Mx Mz) none (wMo cy Ms Mb Mq MB My ML Mg MF MW MI MA res Ma Mp Mf Mt Ml Mo Mn Mm MT MP Mv Mx Mz) := by
  refine MG_of (o := 7) (lv := [(0, .ref 0), (1, .ref 3), (2, .int x2), (3, .ref 1), (4, .int x4)]) ⟨by decide +kernel, rfl⟩ (Nat.le_of_ble_eq_true rfl) rfl (fun k C hR => ?_)
  rw [f_X7_bring_v4] at h
  refine G_r C [(.iconst 0, 1, 0, 0, .int (0 : Int32)), (.istore 5, 2, 0, 0, .null)] 3 [(5, .int (0 : Int32)), (0, .ref 0), (1, .ref 3), (2, .int x2), (3, .ref 1), (4, .int x4)] [] (wMo cy Ms Mb Mq MB My ML Mg MF MW MI MA Mr Ma Mp Mf Mt Ml Mo Mn Mm MT MP Mv Mx Mz) (by decide +kernel) rfl rfl ?_
  obtain ⟨q1, hq1, h⟩ := obd h
  refine G_lv [2, 3, 4, 5, 0] (lv' := [(1, .ref 3), (2, .int x2), (3, .ref 1), (4, .int x4), (5, .int (0 : Int32))]) rfl ?_
  refine g_X7_bring_v4_L3 C 200 x2 x4 (0 : Int32) Ms Mb Mq MB My ML Mg MF MW MI MA Mr Ma Mp Mf Mt Ml Mo Mn Mm MT MP Mv Mx Mz q1 hq1 ?_
  have h := Option.some.inj h
  subst h
  exact G_vret C hR (by decide +kernel)
def f_X7_back (Ms : Int32) (Mr : Nat → Int32) (Mp : Nat → Int32) (Mf : Nat → Int32) : Option (Int32 × Int32 × (Nat → Int32) × (Nat → Int32)) := if Ms = 0 then ((f_X7_no Mf).bind fun q2 => some (q2.1, Ms, Mr, q2.2)) else ((f_X7_bring_v4 ((8 : Int32) * (Ms - (1 : Int32))) (0 : Int32) Mr Mp).bind fun q1 => some ((Ms - (1 : Int32)), (Ms - (1 : Int32)), q1, Mf))
set_option maxHeartbeats 4000000 in
set_option maxRecDepth 100000 in
theorem c_X7_back (cy : Nat → ClassId) (Ms : Int32) (Mb : Int32) (Mq : Int32) (MB : Int64) (My : Int32) (ML : Int32) (Mg : Int32) (MF : Int32) (MW : Bool) (MI : Bool) (MA : Int32) (Mr : Nat → Int32) (Ma : Nat → Int32) (Mp : Nat → Int32) (Mf : Nat → Int32) (Mt : Nat → Int32) (Ml : Nat → Int32) (Mo : Nat → Int32) (Mn : Nat → Int32) (Mm : Nat → Int64) (MT : Nat → Int64) (MP : Nat → Int64) (Mv : Nat → Int32) (Mx : Nat → Int64) (Mz : Nat → Int64)  (res : (Int32 × Int32 × (Nat → Int32) × (Nat → Int32))) (h : f_X7_back Ms Mr Mp Mf = some res) : MG cy yX7_back cX7_back 1 (some .int) 1 25 [.ref 0] (wMo cy Ms Mb Mq MB My ML Mg MF MW MI MA Mr Ma Mp Mf Mt Ml Mo Mn Mm MT MP Mv Mx Mz) (some (.int res.1)) (wMo cy res.2.1 Mb Mq MB My ML Mg MF MW MI MA res.2.2.1 Ma Mp res.2.2.2 Mt Ml Mo Mn Mm MT MP Mv Mx Mz) := by
  refine MG_of (o := 7) (lv := [(0, .ref 0)]) ⟨by decide +kernel, rfl⟩ (Nat.le_of_ble_eq_true rfl) rfl (fun k C hR => ?_)
  rw [f_X7_back] at h
  refine G_r C [(.aload_n 0, 1, 0, 0, .null), (.getfield 56, 3, 7, 3, .null)] 4 [(0, .ref 0)] [.int Ms] (wMo cy Ms Mb Mq MB My ML Mg MF MW MI MA Mr Ma Mp Mf Mt Ml Mo Mn Mm MT MP Mv Mx Mz) (by decide +kernel) rfl rfl ?_
  refine G_if_ne C (off := 8) (tgt := 12) (by decide +kernel) rfl (fun c => ?_) (fun c => ?_)
  · rw [if_neg c] at h
    refine G_r C [(.aload_n 0, 1, 0, 0, .null), (.dup, 1, 0, 0, .null), (.getfield 56, 3, 7, 3, .null), (.iconst 1, 1, 0, 0, .int (1 : Int32)), (.isub, 1, 0, 0, .null), (.putfield 56, 3, 7, 3, .null), (.aload_n 0, 1, 0, 0, .null), (.aload_n 0, 1, 0, 0, .null), (.getfield 16, 3, 7, 2, .null), (.bipush 8, 2, 0, 0, .int (8 : Int32)), (.aload_n 0, 1, 0, 0, .null), (.getfield 56, 3, 7, 3, .null), (.imul, 1, 0, 0, .null), (.aload_n 0, 1, 0, 0, .null), (.getfield 7, 3, 7, 0, .null), (.iconst 0, 1, 0, 0, .int (0 : Int32))] 39 [(0, .ref 0)] [.int (0 : Int32), .ref 1, .int ((8 : Int32) * (Ms - (1 : Int32))), .ref 3, .ref 0] (wMo cy (Ms - (1 : Int32)) Mb Mq MB My ML Mg MF MW MI MA Mr Ma Mp Mf Mt Ml Mo Mn Mm MT MP Mv Mx Mz) (by decide +kernel) rfl rfl ?_
    obtain ⟨q1, hq1, h⟩ := obd h
    refine G_c0 C lk_7_60 ⟨Nat.le_of_ble_eq_true rfl, Nat.le_of_ble_eq_true rfl⟩ (by decide +kernel) [] (c_X7_bring_v4 cy (Ms - (1 : Int32)) Mb Mq MB My ML Mg MF MW MI MA Mr Ma Mp Mf Mt Ml Mo Mn Mm MT MP Mv Mx Mz ((8 : Int32) * (Ms - (1 : Int32))) (0 : Int32) q1 hq1) rfl rfl (Nat.le_of_ble_eq_true rfl) ⟨rfl, rfl⟩ rfl ?_
    refine G_r C [(.aload_n 0, 1, 0, 0, .null), (.getfield 56, 3, 7, 3, .null)] 46 [(0, .ref 0)] [.int (Ms - (1 : Int32))] (wMo cy (Ms - (1 : Int32)) Mb Mq MB My ML Mg MF MW MI MA q1 Ma Mp Mf Mt Ml Mo Mn Mm MT MP Mv Mx Mz) (by decide +kernel) rfl rfl ?_
    have h := Option.some.inj h
    subst h
    exact G_iret C hR (by decide +kernel)
  · rw [if_pos c] at h
    refine G_r C [(.aload_n 0, 1, 0, 0, .null)] 8 [(0, .ref 0)] [.ref 0] (wMo cy Ms Mb Mq MB My ML Mg MF MW MI MA Mr Ma Mp Mf Mt Ml Mo Mn Mm MT MP Mv Mx Mz) (by decide +kernel) rfl rfl ?_
    obtain ⟨q2, hq2, h⟩ := obd h
    refine G_c0 C lk_7_87 ⟨Nat.le_of_ble_eq_true rfl, Nat.le_of_ble_eq_true rfl⟩ (by decide +kernel) [.int q2.1] (c_X7_no cy Ms Mb Mq MB My ML Mg MF MW MI MA Mr Ma Mp Mf Mt Ml Mo Mn Mm MT MP Mv Mx Mz q2 hq2) rfl rfl (Nat.le_of_ble_eq_true rfl) ⟨rfl, rfl⟩ rfl ?_
    have h := Option.some.inj h
    subst h
    exact G_iret C hR (by decide +kernel)
def f_X7_toldOf (x1 : Int32) (Ms : Int32) (Mb : Int32) (Mr : Nat → Int32) (Mf : Nat → Int32) : Option Int32 := if (3 : Int32) ≤ x1 then (if x1 = (3 : Int32) then (some Mb) else (if x1 = (4 : Int32) then (if (7 : Int32) < 0 ∨ 8 ≤ (7 : Int32).toNatClampNeg then none else some (Mr (7 : Int32).toNatClampNeg)) else (some Ms))) else (if x1 < 0 ∨ 3 ≤ x1.toNatClampNeg then none else some (Mf x1.toNatClampNeg))
set_option maxHeartbeats 4000000 in
set_option maxRecDepth 100000 in
theorem c_X7_toldOf (cy : Nat → ClassId) (Ms : Int32) (Mb : Int32) (Mq : Int32) (MB : Int64) (My : Int32) (ML : Int32) (Mg : Int32) (MF : Int32) (MW : Bool) (MI : Bool) (MA : Int32) (Mr : Nat → Int32) (Ma : Nat → Int32) (Mp : Nat → Int32) (Mf : Nat → Int32) (Mt : Nat → Int32) (Ml : Nat → Int32) (Mo : Nat → Int32) (Mn : Nat → Int32) (Mm : Nat → Int64) (MT : Nat → Int64) (MP : Nat → Int64) (Mv : Nat → Int32) (Mx : Nat → Int64) (Mz : Nat → Int64) (x1 : Int32) (res : Int32) (h : f_X7_toldOf x1 Ms Mb Mr Mf = some res) : MG cy yX7_toldOf cX7_toldOf 2 (some .int) 0 0 [.ref 0, .int x1] (wMo cy Ms Mb Mq MB My ML Mg MF MW MI MA Mr Ma Mp Mf Mt Ml Mo Mn Mm MT MP Mv Mx Mz) (some (.int res)) (wMo cy Ms Mb Mq MB My ML Mg MF MW MI MA Mr Ma Mp Mf Mt Ml Mo Mn Mm MT MP Mv Mx Mz) := by
  refine MG_of (o := 7) (lv := [(0, .ref 0), (1, .int x1)]) ⟨by decide +kernel, rfl⟩ (Nat.le_of_ble_eq_true rfl) rfl (fun k C hR => ?_)
  rw [f_X7_toldOf] at h
  refine G_r C [(.iload_n 1, 1, 0, 0, .null), (.iconst 3, 1, 0, 0, .int (3 : Int32))] 2 [(0, .ref 0), (1, .int x1)] [.int (3 : Int32), .int x1] (wMo cy Ms Mb Mq MB My ML Mg MF MW MI MA Mr Ma Mp Mf Mt Ml Mo Mn Mm MT MP Mv Mx Mz) (by decide +kernel) rfl rfl ?_
  refine G_icmp_ge C (off := 12) (tgt := 14) (by decide +kernel) rfl (fun c => ?_) (fun c => ?_)
  · rw [if_pos c] at h
    refine G_r C [(.iload_n 1, 1, 0, 0, .null), (.iconst 3, 1, 0, 0, .int (3 : Int32))] 16 [(0, .ref 0), (1, .int x1)] [.int (3 : Int32), .int x1] (wMo cy Ms Mb Mq MB My ML Mg MF MW MI MA Mr Ma Mp Mf Mt Ml Mo Mn Mm MT MP Mv Mx Mz) (by decide +kernel) rfl rfl ?_
    refine G_icmp_ne C (off := 10) (tgt := 26) (by decide +kernel) rfl (fun c => ?_) (fun c => ?_)
    · rw [if_neg c] at h
      refine G_r C [(.iload_n 1, 1, 0, 0, .null), (.iconst 4, 1, 0, 0, .int (4 : Int32))] 28 [(0, .ref 0), (1, .int x1)] [.int (4 : Int32), .int x1] (wMo cy Ms Mb Mq MB My ML Mg MF MW MI MA Mr Ma Mp Mf Mt Ml Mo Mn Mm MT MP Mv Mx Mz) (by decide +kernel) rfl rfl ?_
      refine G_icmp_ne C (off := 13) (tgt := 41) (by decide +kernel) rfl (fun c => ?_) (fun c => ?_)
      · rw [if_neg c] at h
        refine G_r C [(.aload_n 0, 1, 0, 0, .null), (.getfield 56, 3, 7, 3, .null)] 45 [(0, .ref 0), (1, .int x1)] [.int Ms] (wMo cy Ms Mb Mq MB My ML Mg MF MW MI MA Mr Ma Mp Mf Mt Ml Mo Mn Mm MT MP Mv Mx Mz) (by decide +kernel) rfl rfl ?_
        have h := Option.some.inj h
        subst h
        exact G_iret C hR (by decide +kernel)
      · rw [if_pos c] at h
        refine G_r C [(.aload_n 0, 1, 0, 0, .null), (.getfield 7, 3, 7, 0, .null), (.bipush 7, 2, 0, 0, .int (7 : Int32))] 37 [(0, .ref 0), (1, .int x1)] [.int (7 : Int32), .ref 1] (wMo cy Ms Mb Mq MB My ML Mg MF MW MI MA Mr Ma Mp Mf Mt Ml Mo Mn Mm MT MP Mv Mx Mz) (by decide +kernel) rfl rfl ?_
        obtain ⟨cg, h⟩ := oob h
        refine G_iald C (a := 1) rfl cg (by decide +kernel) ?_
        refine G_goto C (off := 7) (tgt := 45) (by decide +kernel) rfl ?_
        have h := Option.some.inj h
        subst h
        exact G_iret C hR (by decide +kernel)
    · rw [if_pos c] at h
      refine G_r C [(.aload_n 0, 1, 0, 0, .null), (.getfield 220, 3, 7, 6, .null)] 23 [(0, .ref 0), (1, .int x1)] [.int Mb] (wMo cy Ms Mb Mq MB My ML Mg MF MW MI MA Mr Ma Mp Mf Mt Ml Mo Mn Mm MT MP Mv Mx Mz) (by decide +kernel) rfl rfl ?_
      refine G_goto C (off := 22) (tgt := 45) (by decide +kernel) rfl ?_
      have h := Option.some.inj h
      subst h
      exact G_iret C hR (by decide +kernel)
  · rw [if_neg c] at h
    refine G_r C [(.aload_n 0, 1, 0, 0, .null), (.getfield 19, 3, 7, 4, .null), (.iload_n 1, 1, 0, 0, .null)] 10 [(0, .ref 0), (1, .int x1)] [.int x1, .ref 4] (wMo cy Ms Mb Mq MB My ML Mg MF MW MI MA Mr Ma Mp Mf Mt Ml Mo Mn Mm MT MP Mv Mx Mz) (by decide +kernel) rfl rfl ?_
    obtain ⟨cg, h⟩ := oob h
    refine G_iald C (a := 4) rfl cg (by decide +kernel) ?_
    refine G_goto C (off := 34) (tgt := 45) (by decide +kernel) rfl ?_
    have h := Option.some.inj h
    subst h
    exact G_iret C hR (by decide +kernel)
def f_X7_told (x1 : Int32) (Ms : Int32) (Mb : Int32) (Mr : Nat → Int32) (Mf : Nat → Int32) : Option (Int32 × (Nat → Int32)) := (f_X7_in x1.toInt64 (0 : Int64) (5 : Int64)).bind fun q1 => if (bI q1) = 0 then ((f_X7_bad Mf).bind fun q2 => some (q2.1, q2.2)) else ((f_X7_toldOf x1 Ms Mb Mr Mf).bind fun q3 => some (q3, Mf))
set_option maxHeartbeats 4000000 in
set_option maxRecDepth 100000 in
theorem c_X7_told (cy : Nat → ClassId) (Ms : Int32) (Mb : Int32) (Mq : Int32) (MB : Int64) (My : Int32) (ML : Int32) (Mg : Int32) (MF : Int32) (MW : Bool) (MI : Bool) (MA : Int32) (Mr : Nat → Int32) (Ma : Nat → Int32) (Mp : Nat → Int32) (Mf : Nat → Int32) (Mt : Nat → Int32) (Ml : Nat → Int32) (Mo : Nat → Int32) (Mn : Nat → Int32) (Mm : Nat → Int64) (MT : Nat → Int64) (MP : Nat → Int64) (Mv : Nat → Int32) (Mx : Nat → Int64) (Mz : Nat → Int64) (x1 : Int32) (res : (Int32 × (Nat → Int32))) (h : f_X7_told x1 Ms Mb Mr Mf = some res) : MG cy yX7_told cX7_told 2 (some .int) 1 25 [.ref 0, .int x1] (wMo cy Ms Mb Mq MB My ML Mg MF MW MI MA Mr Ma Mp Mf Mt Ml Mo Mn Mm MT MP Mv Mx Mz) (some (.int res.1)) (wMo cy Ms Mb Mq MB My ML Mg MF MW MI MA Mr Ma Mp res.2 Mt Ml Mo Mn Mm MT MP Mv Mx Mz) := by
  refine MG_of (o := 7) (lv := [(0, .ref 0), (1, .int x1)]) ⟨by decide +kernel, rfl⟩ (Nat.le_of_ble_eq_true rfl) rfl (fun k C hR => ?_)
  rw [f_X7_told] at h
  refine G_r C [(.iload_n 1, 1, 0, 0, .null), (.i2l, 1, 0, 0, .null), (.lconst 0, 1, 0, 0, .long (0 : Int64))] 3 [(0, .ref 0), (1, .int x1)] [.long (0 : Int64), .long x1.toInt64] (wMo cy Ms Mb Mq MB My ML Mg MF MW MI MA Mr Ma Mp Mf Mt Ml Mo Mn Mm MT MP Mv Mx Mz) (by decide +kernel) rfl rfl ?_
  refine G_ldc2 C co_7_274 (by decide +kernel) ?_
  obtain ⟨q1, hq1, h⟩ := obd h
  refine G_cS C lk_7_64 ⟨Nat.le_of_ble_eq_true rfl, Nat.le_of_ble_eq_true rfl⟩ (by decide +kernel) [.int (bI q1)] (c_X7_in cy x1.toInt64 (0 : Int64) (5 : Int64) q1 hq1) rfl rfl (Nat.le_of_ble_eq_true rfl) rfl ?_
  refine G_if_eq C (off := 11) (tgt := 20) (by decide +kernel) rfl (fun c => ?_) (fun c => ?_)
  · rw [if_pos c] at h
    refine G_r C [(.aload_n 0, 1, 0, 0, .null)] 21 [(0, .ref 0), (1, .int x1)] [.ref 0] (wMo cy Ms Mb Mq MB My ML Mg MF MW MI MA Mr Ma Mp Mf Mt Ml Mo Mn Mm MT MP Mv Mx Mz) (by decide +kernel) rfl rfl ?_
    obtain ⟨q2, hq2, h⟩ := obd h
    refine G_c0 C lk_7_72 ⟨Nat.le_of_ble_eq_true rfl, Nat.le_of_ble_eq_true rfl⟩ (by decide +kernel) [.int q2.1] (c_X7_bad cy Ms Mb Mq MB My ML Mg MF MW MI MA Mr Ma Mp Mf Mt Ml Mo Mn Mm MT MP Mv Mx Mz q2 hq2) rfl rfl (Nat.le_of_ble_eq_true rfl) ⟨rfl, rfl⟩ rfl ?_
    have h := Option.some.inj h
    subst h
    exact G_iret C hR (by decide +kernel)
  · rw [if_neg c] at h
    refine G_r C [(.aload_n 0, 1, 0, 0, .null), (.iload_n 1, 1, 0, 0, .null)] 14 [(0, .ref 0), (1, .int x1)] [.int x1, .ref 0] (wMo cy Ms Mb Mq MB My ML Mg MF MW MI MA Mr Ma Mp Mf Mt Ml Mo Mn Mm MT MP Mv Mx Mz) (by decide +kernel) rfl rfl ?_
    obtain ⟨q3, hq3, h⟩ := obd h
    refine G_c0 C lk_7_276 ⟨Nat.le_of_ble_eq_true rfl, Nat.le_of_ble_eq_true rfl⟩ (by decide +kernel) [.int q3] (c_X7_toldOf cy Ms Mb Mq MB My ML Mg MF MW MI MA Mr Ma Mp Mf Mt Ml Mo Mn Mm MT MP Mv Mx Mz x1 q3 hq3) rfl rfl (Nat.le_of_ble_eq_true rfl) ⟨rfl, rfl⟩ rfl ?_
    refine G_goto C (off := 7) (tgt := 24) (by decide +kernel) rfl ?_
    have h := Option.some.inj h
    subst h
    exact G_iret C hR (by decide +kernel)
def f_X7_digest_L6 : Nat → Int64 → Int32 → Int32 → Int32 → (Nat → Int32) → (Nat → Int32) → Option Int64
  | 0, _, _, _, _, _, _ => none
  | fu + 1, x1, x3, Ms, Mb, Mr, Mf => if (6 : Int32) ≤ x3 then (some x1) else ((f_X7_toldOf x3 Ms Mb Mr Mf).bind fun q1 => f_X7_digest_L6 fu (((31 : Int64) * x1) + q1.toInt64) (x3 + (1 : Int32)) Ms Mb Mr Mf)
def f_X7_digest_L33 : Nat → Int64 → Int32 → (Nat → Int32) → Option Int64
  | 0, _, _, _ => none
  | fu + 1, x1, x3, Mr => if (7 : Int32) < 0 ∨ 8 ≤ (7 : Int32).toNatClampNeg then none else if (Mr (7 : Int32).toNatClampNeg) ≤ x3 then (some x1) else (if x3 < 0 ∨ 8 ≤ x3.toNatClampNeg then none else f_X7_digest_L33 fu (((31 : Int64) * x1) + ((Mr x3.toNatClampNeg).toInt64)) (x3 + (1 : Int32)) Mr)
def f_X7_digest_L70 : Nat → Int64 → Int32 → (Nat → Int32) → Option Int64
  | 0, _, _, _ => none
  | fu + 1, x1, x3, Mv => if (4 : Int32) ≤ x3 then (some x1) else (if x3 < 0 ∨ 4 ≤ x3.toNatClampNeg then none else f_X7_digest_L70 fu (((31 : Int64) * x1) + ((Mv x3.toNatClampNeg).toInt64)) (x3 + (1 : Int32)) Mv)
def f_X7_digest_L97 : Nat → Int64 → Int32 → (Nat → Int32) → (Nat → Int64) → Option (Int64 × (Nat → Int64))
  | 0, _, _, _, _ => none
  | fu + 1, x1, x3, Mr, MT => if (5 : Int32) ≤ x3 then (some (x1, MT)) else ((f_X7_isThere (0 : Int32) x3 Mr).bind fun q6 => if (bI q6) = 0 then (f_X7_digest_L97 fu x1 (x3 + (1 : Int32)) Mr MT) else ((f_X7_detOf (0 : Int32) x3 Mr MT).bind fun q7 => f_X7_digest_L97 fu (((31 : Int64) * x1) + q7.1) (x3 + (1 : Int32)) Mr q7.2))
def f_X7_digest_L151 : Nat → Int64 → Int32 → Int32 → Int32 → Int64 → (Nat → Int32) → (Nat → Int64) → (Nat → Int64) → Option (Int64 × Int64 × (Nat → Int64) × (Nat → Int64))
  | 0, _, _, _, _, _, _, _, _ => none
  | fu + 1, x1, x3, x4, x5, MB, Mr, MT, MP => if x3 ≤ x5 then (some (x1, MB, MT, MP)) else (if x4 = 0 then (some (x1, MB, MT, MP)) else ((f_X7_makePoly x3 Mr MT MP).bind fun q10 => if x5 < 0 ∨ 4 ≤ x5.toNatClampNeg then none else (f_X7_part (q10.2.2 x5.toNatClampNeg) q10.1 (0 : Int32)).bind fun q11 => if x5 < 0 ∨ 4 ≤ x5.toNatClampNeg then none else (f_X7_part (q10.2.2 x5.toNatClampNeg) q10.1 (1 : Int32)).bind fun q12 => f_X7_digest_L151 fu (((31 : Int64) * (((31 : Int64) * x1) + q11)) + q12) x3 x4 (x5 + (1 : Int32)) q10.1 Mr q10.2.1 q10.2.2))
def f_X7_digest_L136 : Nat → Int64 → Int32 → Int64 → (Nat → Int32) → (Nat → Int64) → (Nat → Int64) → Option (Int64 × Int64 × (Nat → Int64) × (Nat → Int64))
  | 0, _, _, _, _, _, _ => none
  | fu + 1, x1, x3, MB, Mr, MT, MP => if (4 : Int32) ≤ x3 then (some (x1, MB, MT, MP)) else ((f_X7_isPoly x3 Mr MT).bind fun q9 => (f_X7_digest_L151 200 x1 x3 (bI q9.1) (0 : Int32) MB Mr q9.2 MP).bind fun q13 => f_X7_digest_L136 fu q13.1 (x3 + (1 : Int32)) q13.2.1 Mr q13.2.2.1 q13.2.2.2)
def f_X7_digest (Ms : Int32) (Mb : Int32) (MB : Int64) (Mr : Nat → Int32) (Mf : Nat → Int32) (MT : Nat → Int64) (MP : Nat → Int64) (Mv : Nat → Int32) : Option (Int64 × Int64 × (Nat → Int64) × (Nat → Int64) × (Nat → Int32)) := (f_X7_digest_L6 200 (2357 : Int64) (0 : Int32) Ms Mb Mr Mf).bind fun q2 => (f_X7_digest_L33 200 q2 (0 : Int32) Mr).bind fun q3 => (f_X7_judge MB Mr MT MP Mv).bind fun q4 => (f_X7_digest_L70 200 q3 (0 : Int32) q4.2.2.2).bind fun q5 => (f_X7_digest_L97 200 q5 (0 : Int32) Mr q4.2.1).bind fun q8 => (f_X7_digest_L136 200 q8.1 (1 : Int32) q4.1 Mr q8.2 q4.2.2.1).bind fun q14 => some (q14.1, q14.2.1, q14.2.2.1, q14.2.2.2, q4.2.2.2)
set_option maxHeartbeats 4000000 in
set_option maxRecDepth 100000 in
theorem g_X7_digest_L6 {k : KX} {cy : Nat → ClassId} (C : OK k cX7_digest 7 6 cy 4 102) : ∀ (fu : Nat) (x1 : Int64) (x3 : Int32) (Ms : Int32) (Mb : Int32) (Mq : Int32) (MB : Int64) (My : Int32) (ML : Int32) (Mg : Int32) (MF : Int32) (MW : Bool) (MI : Bool) (MA : Int32) (Mr : Nat → Int32) (Ma : Nat → Int32) (Mp : Nat → Int32) (Mf : Nat → Int32) (Mt : Nat → Int32) (Ml : Nat → Int32) (Mo : Nat → Int32) (Mn : Nat → Int32) (Mm : Nat → Int64) (MT : Nat → Int64) (MP : Nat → Int64) (Mv : Nat → Int32) (Mx : Nat → Int64) (Mz : Nat → Int64) (res : Int64), (f_X7_digest_L6 fu x1 x3 Ms Mb Mr Mf = some res) → G k 6 31 [(0, .ref 0), (1, .long res)] [] (wMo cy Ms Mb Mq MB My ML Mg MF MW MI MA Mr Ma Mp Mf Mt Ml Mo Mn Mm MT MP Mv Mx Mz) → G k 6 6 [(0, .ref 0), (1, .long x1), (3, .int x3)] [] (wMo cy Ms Mb Mq MB My ML Mg MF MW MI MA Mr Ma Mp Mf Mt Ml Mo Mn Mm MT MP Mv Mx Mz) := by
  intro fu
  induction fu with
  | zero =>
    intro x1 x3 Ms Mb Mq MB My ML Mg MF MW MI MA Mr Ma Mp Mf Mt Ml Mo Mn Mm MT MP Mv Mx Mz res h hex
    rw [f_X7_digest_L6] at h
    cases h
  | succ fu ih =>
    intro x1 x3 Ms Mb Mq MB My ML Mg MF MW MI MA Mr Ma Mp Mf Mt Ml Mo Mn Mm MT MP Mv Mx Mz res h hex
    rw [f_X7_digest_L6] at h
    refine G_r C [(.iload_n 3, 1, 0, 0, .null), (.bipush 6, 2, 0, 0, .int (6 : Int32))] 9 [(0, .ref 0), (1, .long x1), (3, .int x3)] [.int (6 : Int32), .int x3] (wMo cy Ms Mb Mq MB My ML Mg MF MW MI MA Mr Ma Mp Mf Mt Ml Mo Mn Mm MT MP Mv Mx Mz) (by decide +kernel) rfl rfl ?_
    refine G_icmp_ge C (off := 22) (tgt := 31) (by decide +kernel) rfl (fun c => ?_) (fun c => ?_)
    · rw [if_pos c] at h
      have h := Option.some.inj h
      subst h
      refine G_lv [0, 1] (lv' := [(0, .ref 0), (1, .long x1)]) rfl ?_
      exact hex
    · rw [if_neg c] at h
      refine G_ldc2 C co_7_281 (by decide +kernel) ?_
      refine G_r C [(.lload_n 1, 1, 0, 0, .null), (.lmul, 1, 0, 0, .null), (.aload_n 0, 1, 0, 0, .null), (.iload_n 3, 1, 0, 0, .null)] 19 [(0, .ref 0), (1, .long x1), (3, .int x3)] [.int x3, .ref 0, .long ((31 : Int64) * x1)] (wMo cy Ms Mb Mq MB My ML Mg MF MW MI MA Mr Ma Mp Mf Mt Ml Mo Mn Mm MT MP Mv Mx Mz) (by decide +kernel) rfl rfl ?_
      obtain ⟨q1, hq1, h⟩ := obd h
      refine G_c0 C lk_7_276 ⟨Nat.le_of_ble_eq_true rfl, Nat.le_of_ble_eq_true rfl⟩ (by decide +kernel) [.int q1, .long ((31 : Int64) * x1)] (c_X7_toldOf cy Ms Mb Mq MB My ML Mg MF MW MI MA Mr Ma Mp Mf Mt Ml Mo Mn Mm MT MP Mv Mx Mz x3 q1 hq1) rfl rfl (Nat.le_of_ble_eq_true rfl) ⟨rfl, rfl⟩ rfl ?_
      refine G_r C [(.i2l, 1, 0, 0, .null), (.ladd, 1, 0, 0, .null), (.lstore_n 1, 1, 0, 0, .null), (.iinc 3 1, 3, 0, 0, .int (1 : Int32))] 28 [(3, .int (x3 + (1 : Int32))), (1, .long (((31 : Int64) * x1) + q1.toInt64)), (0, .ref 0)] [] (wMo cy Ms Mb Mq MB My ML Mg MF MW MI MA Mr Ma Mp Mf Mt Ml Mo Mn Mm MT MP Mv Mx Mz) (by decide +kernel) rfl rfl ?_
      refine G_goto C (off := -22) (tgt := 6) (by decide +kernel) rfl ?_
      refine G_lv [2, 1, 0] (lv' := [(0, .ref 0), (1, .long (((31 : Int64) * x1) + q1.toInt64)), (3, .int (x3 + (1 : Int32)))]) rfl ?_
      exact ih (((31 : Int64) * x1) + q1.toInt64) (x3 + (1 : Int32)) Ms Mb Mq MB My ML Mg MF MW MI MA Mr Ma Mp Mf Mt Ml Mo Mn Mm MT MP Mv Mx Mz res h hex
set_option maxHeartbeats 4000000 in
set_option maxRecDepth 100000 in
theorem g_X7_digest_L33 {k : KX} {cy : Nat → ClassId} (C : OK k cX7_digest 7 6 cy 4 102) : ∀ (fu : Nat) (x1 : Int64) (x3 : Int32) (Ms : Int32) (Mb : Int32) (Mq : Int32) (MB : Int64) (My : Int32) (ML : Int32) (Mg : Int32) (MF : Int32) (MW : Bool) (MI : Bool) (MA : Int32) (Mr : Nat → Int32) (Ma : Nat → Int32) (Mp : Nat → Int32) (Mf : Nat → Int32) (Mt : Nat → Int32) (Ml : Nat → Int32) (Mo : Nat → Int32) (Mn : Nat → Int32) (Mm : Nat → Int64) (MT : Nat → Int64) (MP : Nat → Int64) (Mv : Nat → Int32) (Mx : Nat → Int64) (Mz : Nat → Int64) (res : Int64), (f_X7_digest_L33 fu x1 x3 Mr = some res) → G k 6 64 [(0, .ref 0), (1, .long res)] [] (wMo cy Ms Mb Mq MB My ML Mg MF MW MI MA Mr Ma Mp Mf Mt Ml Mo Mn Mm MT MP Mv Mx Mz) → G k 6 33 [(0, .ref 0), (1, .long x1), (3, .int x3)] [] (wMo cy Ms Mb Mq MB My ML Mg MF MW MI MA Mr Ma Mp Mf Mt Ml Mo Mn Mm MT MP Mv Mx Mz) := by
  intro fu
  induction fu with
  | zero =>
    intro x1 x3 Ms Mb Mq MB My ML Mg MF MW MI MA Mr Ma Mp Mf Mt Ml Mo Mn Mm MT MP Mv Mx Mz res h hex
    rw [f_X7_digest_L33] at h
    cases h
  | succ fu ih =>
    intro x1 x3 Ms Mb Mq MB My ML Mg MF MW MI MA Mr Ma Mp Mf Mt Ml Mo Mn Mm MT MP Mv Mx Mz res h hex
    rw [f_X7_digest_L33] at h
    refine G_r C [(.iload_n 3, 1, 0, 0, .null), (.aload_n 0, 1, 0, 0, .null), (.getfield 7, 3, 7, 0, .null), (.bipush 7, 2, 0, 0, .int (7 : Int32))] 40 [(0, .ref 0), (1, .long x1), (3, .int x3)] [.int (7 : Int32), .ref 1, .int x3] (wMo cy Ms Mb Mq MB My ML Mg MF MW MI MA Mr Ma Mp Mf Mt Ml Mo Mn Mm MT MP Mv Mx Mz) (by decide +kernel) rfl rfl ?_
    obtain ⟨cg, h⟩ := oob h
    refine G_iald C (a := 1) rfl cg (by decide +kernel) ?_
    refine G_icmp_ge C (off := 23) (tgt := 64) (by decide +kernel) rfl (fun c => ?_) (fun c => ?_)
    · rw [if_pos c] at h
      have h := Option.some.inj h
      subst h
      refine G_lv [0, 1] (lv' := [(0, .ref 0), (1, .long x1)]) rfl ?_
      exact hex
    · rw [if_neg c] at h
      refine G_ldc2 C co_7_281 (by decide +kernel) ?_
      refine G_r C [(.lload_n 1, 1, 0, 0, .null), (.lmul, 1, 0, 0, .null), (.aload_n 0, 1, 0, 0, .null), (.getfield 7, 3, 7, 0, .null), (.iload_n 3, 1, 0, 0, .null)] 54 [(0, .ref 0), (1, .long x1), (3, .int x3)] [.int x3, .ref 1, .long ((31 : Int64) * x1)] (wMo cy Ms Mb Mq MB My ML Mg MF MW MI MA Mr Ma Mp Mf Mt Ml Mo Mn Mm MT MP Mv Mx Mz) (by decide +kernel) rfl rfl ?_
      obtain ⟨cg, h⟩ := oob h
      refine G_iald C (a := 1) rfl cg (by decide +kernel) ?_
      refine G_r C [(.i2l, 1, 0, 0, .null), (.ladd, 1, 0, 0, .null), (.lstore_n 1, 1, 0, 0, .null), (.iinc 3 1, 3, 0, 0, .int (1 : Int32))] 61 [(3, .int (x3 + (1 : Int32))), (1, .long (((31 : Int64) * x1) + ((Mr x3.toNatClampNeg).toInt64))), (0, .ref 0)] [] (wMo cy Ms Mb Mq MB My ML Mg MF MW MI MA Mr Ma Mp Mf Mt Ml Mo Mn Mm MT MP Mv Mx Mz) (by decide +kernel) rfl rfl ?_
      refine G_goto C (off := -28) (tgt := 33) (by decide +kernel) rfl ?_
      refine G_lv [2, 1, 0] (lv' := [(0, .ref 0), (1, .long (((31 : Int64) * x1) + ((Mr x3.toNatClampNeg).toInt64))), (3, .int (x3 + (1 : Int32)))]) rfl ?_
      exact ih (((31 : Int64) * x1) + ((Mr x3.toNatClampNeg).toInt64)) (x3 + (1 : Int32)) Ms Mb Mq MB My ML Mg MF MW MI MA Mr Ma Mp Mf Mt Ml Mo Mn Mm MT MP Mv Mx Mz res h hex
set_option maxHeartbeats 4000000 in
set_option maxRecDepth 100000 in
theorem g_X7_digest_L70 {k : KX} {cy : Nat → ClassId} (C : OK k cX7_digest 7 6 cy 4 102) : ∀ (fu : Nat) (x1 : Int64) (x3 : Int32) (Ms : Int32) (Mb : Int32) (Mq : Int32) (MB : Int64) (My : Int32) (ML : Int32) (Mg : Int32) (MF : Int32) (MW : Bool) (MI : Bool) (MA : Int32) (Mr : Nat → Int32) (Ma : Nat → Int32) (Mp : Nat → Int32) (Mf : Nat → Int32) (Mt : Nat → Int32) (Ml : Nat → Int32) (Mo : Nat → Int32) (Mn : Nat → Int32) (Mm : Nat → Int64) (MT : Nat → Int64) (MP : Nat → Int64) (Mv : Nat → Int32) (Mx : Nat → Int64) (Mz : Nat → Int64) (res : Int64), (f_X7_digest_L70 fu x1 x3 Mv = some res) → G k 6 95 [(0, .ref 0), (1, .long res)] [] (wMo cy Ms Mb Mq MB My ML Mg MF MW MI MA Mr Ma Mp Mf Mt Ml Mo Mn Mm MT MP Mv Mx Mz) → G k 6 70 [(0, .ref 0), (1, .long x1), (3, .int x3)] [] (wMo cy Ms Mb Mq MB My ML Mg MF MW MI MA Mr Ma Mp Mf Mt Ml Mo Mn Mm MT MP Mv Mx Mz) := by
  intro fu
  induction fu with
  | zero =>
    intro x1 x3 Ms Mb Mq MB My ML Mg MF MW MI MA Mr Ma Mp Mf Mt Ml Mo Mn Mm MT MP Mv Mx Mz res h hex
    rw [f_X7_digest_L70] at h
    cases h
  | succ fu ih =>
    intro x1 x3 Ms Mb Mq MB My ML Mg MF MW MI MA Mr Ma Mp Mf Mt Ml Mo Mn Mm MT MP Mv Mx Mz res h hex
    rw [f_X7_digest_L70] at h
    refine G_r C [(.iload_n 3, 1, 0, 0, .null), (.iconst 4, 1, 0, 0, .int (4 : Int32))] 72 [(0, .ref 0), (1, .long x1), (3, .int x3)] [.int (4 : Int32), .int x3] (wMo cy Ms Mb Mq MB My ML Mg MF MW MI MA Mr Ma Mp Mf Mt Ml Mo Mn Mm MT MP Mv Mx Mz) (by decide +kernel) rfl rfl ?_
    refine G_icmp_ge C (off := 23) (tgt := 95) (by decide +kernel) rfl (fun c => ?_) (fun c => ?_)
    · rw [if_pos c] at h
      have h := Option.some.inj h
      subst h
      refine G_lv [0, 1] (lv' := [(0, .ref 0), (1, .long x1)]) rfl ?_
      exact hex
    · rw [if_neg c] at h
      refine G_ldc2 C co_7_281 (by decide +kernel) ?_
      refine G_r C [(.lload_n 1, 1, 0, 0, .null), (.lmul, 1, 0, 0, .null), (.aload_n 0, 1, 0, 0, .null), (.getfield 44, 3, 7, 15, .null), (.iload_n 3, 1, 0, 0, .null)] 85 [(0, .ref 0), (1, .long x1), (3, .int x3)] [.int x3, .ref 12, .long ((31 : Int64) * x1)] (wMo cy Ms Mb Mq MB My ML Mg MF MW MI MA Mr Ma Mp Mf Mt Ml Mo Mn Mm MT MP Mv Mx Mz) (by decide +kernel) rfl rfl ?_
      obtain ⟨cg, h⟩ := oob h
      refine G_iald C (a := 12) rfl cg (by decide +kernel) ?_
      refine G_r C [(.i2l, 1, 0, 0, .null), (.ladd, 1, 0, 0, .null), (.lstore_n 1, 1, 0, 0, .null), (.iinc 3 1, 3, 0, 0, .int (1 : Int32))] 92 [(3, .int (x3 + (1 : Int32))), (1, .long (((31 : Int64) * x1) + ((Mv x3.toNatClampNeg).toInt64))), (0, .ref 0)] [] (wMo cy Ms Mb Mq MB My ML Mg MF MW MI MA Mr Ma Mp Mf Mt Ml Mo Mn Mm MT MP Mv Mx Mz) (by decide +kernel) rfl rfl ?_
      refine G_goto C (off := -22) (tgt := 70) (by decide +kernel) rfl ?_
      refine G_lv [2, 1, 0] (lv' := [(0, .ref 0), (1, .long (((31 : Int64) * x1) + ((Mv x3.toNatClampNeg).toInt64))), (3, .int (x3 + (1 : Int32)))]) rfl ?_
      exact ih (((31 : Int64) * x1) + ((Mv x3.toNatClampNeg).toInt64)) (x3 + (1 : Int32)) Ms Mb Mq MB My ML Mg MF MW MI MA Mr Ma Mp Mf Mt Ml Mo Mn Mm MT MP Mv Mx Mz res h hex
set_option maxHeartbeats 4000000 in
set_option maxRecDepth 100000 in
theorem g_X7_digest_L97 {k : KX} {cy : Nat → ClassId} (C : OK k cX7_digest 7 6 cy 4 102) : ∀ (fu : Nat) (x1 : Int64) (x3 : Int32) (Ms : Int32) (Mb : Int32) (Mq : Int32) (MB : Int64) (My : Int32) (ML : Int32) (Mg : Int32) (MF : Int32) (MW : Bool) (MI : Bool) (MA : Int32) (Mr : Nat → Int32) (Ma : Nat → Int32) (Mp : Nat → Int32) (Mf : Nat → Int32) (Mt : Nat → Int32) (Ml : Nat → Int32) (Mo : Nat → Int32) (Mn : Nat → Int32) (Mm : Nat → Int64) (MT : Nat → Int64) (MP : Nat → Int64) (Mv : Nat → Int32) (Mx : Nat → Int64) (Mz : Nat → Int64) (res : (Int64 × (Nat → Int64))), (f_X7_digest_L97 fu x1 x3 Mr MT = some res) → G k 6 134 [(0, .ref 0), (1, .long res.1)] [] (wMo cy Ms Mb Mq MB My ML Mg MF MW MI MA Mr Ma Mp Mf Mt Ml Mo Mn Mm res.2 MP Mv Mx Mz) → G k 6 97 [(0, .ref 0), (1, .long x1), (3, .int x3)] [] (wMo cy Ms Mb Mq MB My ML Mg MF MW MI MA Mr Ma Mp Mf Mt Ml Mo Mn Mm MT MP Mv Mx Mz) := by
  intro fu
  induction fu with
  | zero =>
    intro x1 x3 Ms Mb Mq MB My ML Mg MF MW MI MA Mr Ma Mp Mf Mt Ml Mo Mn Mm MT MP Mv Mx Mz res h hex
    rw [f_X7_digest_L97] at h
    cases h
  | succ fu ih =>
    intro x1 x3 Ms Mb Mq MB My ML Mg MF MW MI MA Mr Ma Mp Mf Mt Ml Mo Mn Mm MT MP Mv Mx Mz res h hex
    rw [f_X7_digest_L97] at h
    refine G_r C [(.iload_n 3, 1, 0, 0, .null), (.iconst 5, 1, 0, 0, .int (5 : Int32))] 99 [(0, .ref 0), (1, .long x1), (3, .int x3)] [.int (5 : Int32), .int x3] (wMo cy Ms Mb Mq MB My ML Mg MF MW MI MA Mr Ma Mp Mf Mt Ml Mo Mn Mm MT MP Mv Mx Mz) (by decide +kernel) rfl rfl ?_
    refine G_icmp_ge C (off := 35) (tgt := 134) (by decide +kernel) rfl (fun c => ?_) (fun c => ?_)
    · rw [if_pos c] at h
      have h := Option.some.inj h
      subst h
      refine G_lv [0, 1] (lv' := [(0, .ref 0), (1, .long x1)]) rfl ?_
      exact hex
    · rw [if_neg c] at h
      refine G_r C [(.aload_n 0, 1, 0, 0, .null), (.iconst 0, 1, 0, 0, .int (0 : Int32)), (.iload_n 3, 1, 0, 0, .null)] 105 [(0, .ref 0), (1, .long x1), (3, .int x3)] [.int x3, .int (0 : Int32), .ref 0] (wMo cy Ms Mb Mq MB My ML Mg MF MW MI MA Mr Ma Mp Mf Mt Ml Mo Mn Mm MT MP Mv Mx Mz) (by decide +kernel) rfl rfl ?_
      obtain ⟨q6, hq6, h⟩ := obd h
      refine G_c0 C lk_7_143 ⟨Nat.le_of_ble_eq_true rfl, Nat.le_of_ble_eq_true rfl⟩ (by decide +kernel) [.int (bI q6)] (c_X7_isThere cy Ms Mb Mq MB My ML Mg MF MW MI MA Mr Ma Mp Mf Mt Ml Mo Mn Mm MT MP Mv Mx Mz (0 : Int32) x3 q6 hq6) rfl rfl (Nat.le_of_ble_eq_true rfl) ⟨rfl, rfl⟩ rfl ?_
      refine G_if_eq C (off := 18) (tgt := 126) (by decide +kernel) rfl (fun c => ?_) (fun c => ?_)
      · rw [if_pos c] at h
        refine G_r C [(.lload_n 1, 1, 0, 0, .null), (.lstore_n 1, 1, 0, 0, .null), (.iinc 3 1, 3, 0, 0, .int (1 : Int32))] 131 [(3, .int (x3 + (1 : Int32))), (1, .long x1), (0, .ref 0)] [] (wMo cy Ms Mb Mq MB My ML Mg MF MW MI MA Mr Ma Mp Mf Mt Ml Mo Mn Mm MT MP Mv Mx Mz) (by decide +kernel) rfl rfl ?_
        refine G_goto C (off := -34) (tgt := 97) (by decide +kernel) rfl ?_
        refine G_lv [2, 1, 0] (lv' := [(0, .ref 0), (1, .long x1), (3, .int (x3 + (1 : Int32)))]) rfl ?_
        exact ih x1 (x3 + (1 : Int32)) Ms Mb Mq MB My ML Mg MF MW MI MA Mr Ma Mp Mf Mt Ml Mo Mn Mm MT MP Mv Mx Mz res h hex
      · rw [if_neg c] at h
        refine G_ldc2 C co_7_281 (by decide +kernel) ?_
        refine G_r C [(.lload_n 1, 1, 0, 0, .null), (.lmul, 1, 0, 0, .null), (.aload_n 0, 1, 0, 0, .null), (.iconst 0, 1, 0, 0, .int (0 : Int32)), (.iload_n 3, 1, 0, 0, .null)] 119 [(0, .ref 0), (1, .long x1), (3, .int x3)] [.int x3, .int (0 : Int32), .ref 0, .long ((31 : Int64) * x1)] (wMo cy Ms Mb Mq MB My ML Mg MF MW MI MA Mr Ma Mp Mf Mt Ml Mo Mn Mm MT MP Mv Mx Mz) (by decide +kernel) rfl rfl ?_
        obtain ⟨q7, hq7, h⟩ := obd h
        refine G_c0 C lk_7_146 ⟨Nat.le_of_ble_eq_true rfl, Nat.le_of_ble_eq_true rfl⟩ (by decide +kernel) [.long q7.1, .long ((31 : Int64) * x1)] (c_X7_detOf cy Ms Mb Mq MB My ML Mg MF MW MI MA Mr Ma Mp Mf Mt Ml Mo Mn Mm MT MP Mv Mx Mz (0 : Int32) x3 q7 hq7) rfl rfl (Nat.le_of_ble_eq_true rfl) ⟨rfl, rfl⟩ rfl ?_
        refine G_r C [(.ladd, 1, 0, 0, .null)] 123 [(0, .ref 0), (1, .long x1), (3, .int x3)] [.long (((31 : Int64) * x1) + q7.1)] (wMo cy Ms Mb Mq MB My ML Mg MF MW MI MA Mr Ma Mp Mf Mt Ml Mo Mn Mm q7.2 MP Mv Mx Mz) (by decide +kernel) rfl rfl ?_
        refine G_goto C (off := 4) (tgt := 127) (by decide +kernel) rfl ?_
        refine G_r C [(.lstore_n 1, 1, 0, 0, .null), (.iinc 3 1, 3, 0, 0, .int (1 : Int32))] 131 [(3, .int (x3 + (1 : Int32))), (1, .long (((31 : Int64) * x1) + q7.1)), (0, .ref 0)] [] (wMo cy Ms Mb Mq MB My ML Mg MF MW MI MA Mr Ma Mp Mf Mt Ml Mo Mn Mm q7.2 MP Mv Mx Mz) (by decide +kernel) rfl rfl ?_
        refine G_goto C (off := -34) (tgt := 97) (by decide +kernel) rfl ?_
        refine G_lv [2, 1, 0] (lv' := [(0, .ref 0), (1, .long (((31 : Int64) * x1) + q7.1)), (3, .int (x3 + (1 : Int32)))]) rfl ?_
        exact ih (((31 : Int64) * x1) + q7.1) (x3 + (1 : Int32)) Ms Mb Mq MB My ML Mg MF MW MI MA Mr Ma Mp Mf Mt Ml Mo Mn Mm q7.2 MP Mv Mx Mz res h hex
set_option maxHeartbeats 4000000 in
set_option maxRecDepth 100000 in
theorem g_X7_digest_L151 {k : KX} {cy : Nat → ClassId} (C : OK k cX7_digest 7 6 cy 4 102) : ∀ (fu : Nat) (x1 : Int64) (x3 : Int32) (x4 : Int32) (x5 : Int32) (Ms : Int32) (Mb : Int32) (Mq : Int32) (MB : Int64) (My : Int32) (ML : Int32) (Mg : Int32) (MF : Int32) (MW : Bool) (MI : Bool) (MA : Int32) (Mr : Nat → Int32) (Ma : Nat → Int32) (Mp : Nat → Int32) (Mf : Nat → Int32) (Mt : Nat → Int32) (Ml : Nat → Int32) (Mo : Nat → Int32) (Mn : Nat → Int32) (Mm : Nat → Int64) (MT : Nat → Int64) (MP : Nat → Int64) (Mv : Nat → Int32) (Mx : Nat → Int64) (Mz : Nat → Int64) (res : (Int64 × Int64 × (Nat → Int64) × (Nat → Int64))), (f_X7_digest_L151 fu x1 x3 x4 x5 MB Mr MT MP = some res) → G k 6 217 [(0, .ref 0), (1, .long res.1), (3, .int x3)] [] (wMo cy Ms Mb Mq res.2.1 My ML Mg MF MW MI MA Mr Ma Mp Mf Mt Ml Mo Mn Mm res.2.2.1 res.2.2.2 Mv Mx Mz) → G k 6 151 [(0, .ref 0), (1, .long x1), (3, .int x3), (4, .int x4), (5, .int x5)] [] (wMo cy Ms Mb Mq MB My ML Mg MF MW MI MA Mr Ma Mp Mf Mt Ml Mo Mn Mm MT MP Mv Mx Mz) := by
  intro fu
  induction fu with
  | zero =>
    intro x1 x3 x4 x5 Ms Mb Mq MB My ML Mg MF MW MI MA Mr Ma Mp Mf Mt Ml Mo Mn Mm MT MP Mv Mx Mz res h hex
    rw [f_X7_digest_L151] at h
    cases h
  | succ fu ih =>
    intro x1 x3 x4 x5 Ms Mb Mq MB My ML Mg MF MW MI MA Mr Ma Mp Mf Mt Ml Mo Mn Mm MT MP Mv Mx Mz res h hex
    rw [f_X7_digest_L151] at h
    refine G_r C [(.iload 5, 2, 0, 0, .null), (.iload_n 3, 1, 0, 0, .null)] 154 [(0, .ref 0), (1, .long x1), (3, .int x3), (4, .int x4), (5, .int x5)] [.int x3, .int x5] (wMo cy Ms Mb Mq MB My ML Mg MF MW MI MA Mr Ma Mp Mf Mt Ml Mo Mn Mm MT MP Mv Mx Mz) (by decide +kernel) rfl rfl ?_
    refine G_icmp_ge C (off := 63) (tgt := 217) (by decide +kernel) rfl (fun c => ?_) (fun c => ?_)
    · rw [if_pos c] at h
      have h := Option.some.inj h
      subst h
      refine G_lv [0, 1, 2] (lv' := [(0, .ref 0), (1, .long x1), (3, .int x3)]) rfl ?_
      exact hex
    · rw [if_neg c] at h
      refine G_r C [(.iload 4, 2, 0, 0, .null)] 159 [(0, .ref 0), (1, .long x1), (3, .int x3), (4, .int x4), (5, .int x5)] [.int x4] (wMo cy Ms Mb Mq MB My ML Mg MF MW MI MA Mr Ma Mp Mf Mt Ml Mo Mn Mm MT MP Mv Mx Mz) (by decide +kernel) rfl rfl ?_
      refine G_if_eq C (off := 58) (tgt := 217) (by decide +kernel) rfl (fun c => ?_) (fun c => ?_)
      · rw [if_pos c] at h
        have h := Option.some.inj h
        subst h
        refine G_lv [0, 1, 2] (lv' := [(0, .ref 0), (1, .long x1), (3, .int x3)]) rfl ?_
        exact hex
      · rw [if_neg c] at h
        refine G_r C [(.aload_n 0, 1, 0, 0, .null), (.iload_n 3, 1, 0, 0, .null)] 164 [(0, .ref 0), (1, .long x1), (3, .int x3), (4, .int x4), (5, .int x5)] [.int x3, .ref 0] (wMo cy Ms Mb Mq MB My ML Mg MF MW MI MA Mr Ma Mp Mf Mt Ml Mo Mn Mm MT MP Mv Mx Mz) (by decide +kernel) rfl rfl ?_
        obtain ⟨q10, hq10, h⟩ := obd h
        refine G_c0 C lk_7_165 ⟨Nat.le_of_ble_eq_true rfl, Nat.le_of_ble_eq_true rfl⟩ (by decide +kernel) [] (c_X7_makePoly cy Ms Mb Mq MB My ML Mg MF MW MI MA Mr Ma Mp Mf Mt Ml Mo Mn Mm MT MP Mv Mx Mz x3 q10 hq10) rfl rfl (Nat.le_of_ble_eq_true rfl) ⟨rfl, rfl⟩ rfl ?_
        refine G_ldc2 C co_7_281 (by decide +kernel) ?_
        refine G_r C [(.lload_n 1, 1, 0, 0, .null), (.lmul, 1, 0, 0, .null), (.aload_n 0, 1, 0, 0, .null), (.getfield 41, 3, 7, 13, .null), (.iload 5, 2, 0, 0, .null)] 178 [(0, .ref 0), (1, .long x1), (3, .int x3), (4, .int x4), (5, .int x5)] [.int x5, .ref 11, .long ((31 : Int64) * x1)] (wMo cy Ms Mb Mq q10.1 My ML Mg MF MW MI MA Mr Ma Mp Mf Mt Ml Mo Mn Mm q10.2.1 q10.2.2 Mv Mx Mz) (by decide +kernel) rfl rfl ?_
        obtain ⟨cg, h⟩ := oob h
        refine G_lald C (a := 11) rfl cg (by decide +kernel) ?_
        refine G_r C [(.aload_n 0, 1, 0, 0, .null), (.getfield 153, 3, 7, 14, .null), (.iconst 0, 1, 0, 0, .int (0 : Int32))] 184 [(0, .ref 0), (1, .long x1), (3, .int x3), (4, .int x4), (5, .int x5)] [.int (0 : Int32), .long q10.1, .long (q10.2.2 x5.toNatClampNeg), .long ((31 : Int64) * x1)] (wMo cy Ms Mb Mq q10.1 My ML Mg MF MW MI MA Mr Ma Mp Mf Mt Ml Mo Mn Mm q10.2.1 q10.2.2 Mv Mx Mz) (by decide +kernel) rfl rfl ?_
        obtain ⟨q11, hq11, h⟩ := obd h
        refine G_cS C lk_7_168 ⟨Nat.le_of_ble_eq_true rfl, Nat.le_of_ble_eq_true rfl⟩ (by decide +kernel) [.long q11, .long ((31 : Int64) * x1)] (c_X7_part cy (q10.2.2 x5.toNatClampNeg) q10.1 (0 : Int32) q11 hq11) rfl rfl (Nat.le_of_ble_eq_true rfl) rfl ?_
        refine G_r C [(.ladd, 1, 0, 0, .null), (.lstore_n 1, 1, 0, 0, .null)] 189 [(1, .long (((31 : Int64) * x1) + q11)), (0, .ref 0), (3, .int x3), (4, .int x4), (5, .int x5)] [] (wMo cy Ms Mb Mq q10.1 My ML Mg MF MW MI MA Mr Ma Mp Mf Mt Ml Mo Mn Mm q10.2.1 q10.2.2 Mv Mx Mz) (by decide +kernel) rfl rfl ?_
        refine G_ldc2 C co_7_281 (by decide +kernel) ?_
        refine G_r C [(.lload_n 1, 1, 0, 0, .null), (.lmul, 1, 0, 0, .null), (.aload_n 0, 1, 0, 0, .null), (.getfield 41, 3, 7, 13, .null), (.iload 5, 2, 0, 0, .null)] 200 [(1, .long (((31 : Int64) * x1) + q11)), (0, .ref 0), (3, .int x3), (4, .int x4), (5, .int x5)] [.int x5, .ref 11, .long ((31 : Int64) * (((31 : Int64) * x1) + q11))] (wMo cy Ms Mb Mq q10.1 My ML Mg MF MW MI MA Mr Ma Mp Mf Mt Ml Mo Mn Mm q10.2.1 q10.2.2 Mv Mx Mz) (by decide +kernel) rfl rfl ?_
        obtain ⟨cg, h⟩ := oob h
        refine G_lald C (a := 11) rfl cg (by decide +kernel) ?_
        refine G_r C [(.aload_n 0, 1, 0, 0, .null), (.getfield 153, 3, 7, 14, .null), (.iconst 1, 1, 0, 0, .int (1 : Int32))] 206 [(1, .long (((31 : Int64) * x1) + q11)), (0, .ref 0), (3, .int x3), (4, .int x4), (5, .int x5)] [.int (1 : Int32), .long q10.1, .long (q10.2.2 x5.toNatClampNeg), .long ((31 : Int64) * (((31 : Int64) * x1) + q11))] (wMo cy Ms Mb Mq q10.1 My ML Mg MF MW MI MA Mr Ma Mp Mf Mt Ml Mo Mn Mm q10.2.1 q10.2.2 Mv Mx Mz) (by decide +kernel) rfl rfl ?_
        obtain ⟨q12, hq12, h⟩ := obd h
        refine G_cS C lk_7_168 ⟨Nat.le_of_ble_eq_true rfl, Nat.le_of_ble_eq_true rfl⟩ (by decide +kernel) [.long q12, .long ((31 : Int64) * (((31 : Int64) * x1) + q11))] (c_X7_part cy (q10.2.2 x5.toNatClampNeg) q10.1 (1 : Int32) q12 hq12) rfl rfl (Nat.le_of_ble_eq_true rfl) rfl ?_
        refine G_r C [(.ladd, 1, 0, 0, .null), (.lstore_n 1, 1, 0, 0, .null), (.iinc 5 1, 3, 0, 0, .int (1 : Int32))] 214 [(5, .int (x5 + (1 : Int32))), (1, .long (((31 : Int64) * (((31 : Int64) * x1) + q11)) + q12)), (0, .ref 0), (3, .int x3), (4, .int x4)] [] (wMo cy Ms Mb Mq q10.1 My ML Mg MF MW MI MA Mr Ma Mp Mf Mt Ml Mo Mn Mm q10.2.1 q10.2.2 Mv Mx Mz) (by decide +kernel) rfl rfl ?_
        refine G_goto C (off := -63) (tgt := 151) (by decide +kernel) rfl ?_
        refine G_lv [2, 1, 3, 4, 0] (lv' := [(0, .ref 0), (1, .long (((31 : Int64) * (((31 : Int64) * x1) + q11)) + q12)), (3, .int x3), (4, .int x4), (5, .int (x5 + (1 : Int32)))]) rfl ?_
        exact ih (((31 : Int64) * (((31 : Int64) * x1) + q11)) + q12) x3 x4 (x5 + (1 : Int32)) Ms Mb Mq q10.1 My ML Mg MF MW MI MA Mr Ma Mp Mf Mt Ml Mo Mn Mm q10.2.1 q10.2.2 Mv Mx Mz res h hex
set_option maxHeartbeats 4000000 in
set_option maxRecDepth 100000 in
theorem g_X7_digest_L136 {k : KX} {cy : Nat → ClassId} (C : OK k cX7_digest 7 6 cy 4 102) : ∀ (fu : Nat) (x1 : Int64) (x3 : Int32) (Ms : Int32) (Mb : Int32) (Mq : Int32) (MB : Int64) (My : Int32) (ML : Int32) (Mg : Int32) (MF : Int32) (MW : Bool) (MI : Bool) (MA : Int32) (Mr : Nat → Int32) (Ma : Nat → Int32) (Mp : Nat → Int32) (Mf : Nat → Int32) (Mt : Nat → Int32) (Ml : Nat → Int32) (Mo : Nat → Int32) (Mn : Nat → Int32) (Mm : Nat → Int64) (MT : Nat → Int64) (MP : Nat → Int64) (Mv : Nat → Int32) (Mx : Nat → Int64) (Mz : Nat → Int64) (res : (Int64 × Int64 × (Nat → Int64) × (Nat → Int64))), (f_X7_digest_L136 fu x1 x3 MB Mr MT MP = some res) → G k 6 223 [(1, .long res.1)] [] (wMo cy Ms Mb Mq res.2.1 My ML Mg MF MW MI MA Mr Ma Mp Mf Mt Ml Mo Mn Mm res.2.2.1 res.2.2.2 Mv Mx Mz) → G k 6 136 [(0, .ref 0), (1, .long x1), (3, .int x3)] [] (wMo cy Ms Mb Mq MB My ML Mg MF MW MI MA Mr Ma Mp Mf Mt Ml Mo Mn Mm MT MP Mv Mx Mz) := by
  intro fu
  induction fu with
  | zero =>
    intro x1 x3 Ms Mb Mq MB My ML Mg MF MW MI MA Mr Ma Mp Mf Mt Ml Mo Mn Mm MT MP Mv Mx Mz res h hex
    rw [f_X7_digest_L136] at h
    cases h
  | succ fu ih =>
    intro x1 x3 Ms Mb Mq MB My ML Mg MF MW MI MA Mr Ma Mp Mf Mt Ml Mo Mn Mm MT MP Mv Mx Mz res h hex
    rw [f_X7_digest_L136] at h
    refine G_r C [(.iload_n 3, 1, 0, 0, .null), (.iconst 4, 1, 0, 0, .int (4 : Int32))] 138 [(0, .ref 0), (1, .long x1), (3, .int x3)] [.int (4 : Int32), .int x3] (wMo cy Ms Mb Mq MB My ML Mg MF MW MI MA Mr Ma Mp Mf Mt Ml Mo Mn Mm MT MP Mv Mx Mz) (by decide +kernel) rfl rfl ?_
    refine G_icmp_ge C (off := 85) (tgt := 223) (by decide +kernel) rfl (fun c => ?_) (fun c => ?_)
    · rw [if_pos c] at h
      have h := Option.some.inj h
      subst h
      refine G_lv [1] (lv' := [(1, .long x1)]) rfl ?_
      exact hex
    · rw [if_neg c] at h
      refine G_r C [(.aload_n 0, 1, 0, 0, .null), (.iload_n 3, 1, 0, 0, .null)] 143 [(0, .ref 0), (1, .long x1), (3, .int x3)] [.int x3, .ref 0] (wMo cy Ms Mb Mq MB My ML Mg MF MW MI MA Mr Ma Mp Mf Mt Ml Mo Mn Mm MT MP Mv Mx Mz) (by decide +kernel) rfl rfl ?_
      obtain ⟨q9, hq9, h⟩ := obd h
      refine G_c0 C lk_7_162 ⟨Nat.le_of_ble_eq_true rfl, Nat.le_of_ble_eq_true rfl⟩ (by decide +kernel) [.int (bI q9.1)] (c_X7_isPoly cy Ms Mb Mq MB My ML Mg MF MW MI MA Mr Ma Mp Mf Mt Ml Mo Mn Mm MT MP Mv Mx Mz x3 q9 hq9) rfl rfl (Nat.le_of_ble_eq_true rfl) ⟨rfl, rfl⟩ rfl ?_
      refine G_r C [(.istore 4, 2, 0, 0, .null), (.iconst 0, 1, 0, 0, .int (0 : Int32)), (.istore 5, 2, 0, 0, .null)] 151 [(5, .int (0 : Int32)), (4, .int (bI q9.1)), (0, .ref 0), (1, .long x1), (3, .int x3)] [] (wMo cy Ms Mb Mq MB My ML Mg MF MW MI MA Mr Ma Mp Mf Mt Ml Mo Mn Mm q9.2 MP Mv Mx Mz) (by decide +kernel) rfl rfl ?_
      obtain ⟨q13, hq13, h⟩ := obd h
      refine G_lv [2, 3, 4, 1, 0] (lv' := [(0, .ref 0), (1, .long x1), (3, .int x3), (4, .int (bI q9.1)), (5, .int (0 : Int32))]) rfl ?_
      refine g_X7_digest_L151 C 200 x1 x3 (bI q9.1) (0 : Int32) Ms Mb Mq MB My ML Mg MF MW MI MA Mr Ma Mp Mf Mt Ml Mo Mn Mm q9.2 MP Mv Mx Mz q13 hq13 ?_
      refine G_r C [(.iinc 3 1, 3, 0, 0, .int (1 : Int32))] 220 [(3, .int (x3 + (1 : Int32))), (0, .ref 0), (1, .long q13.1)] [] (wMo cy Ms Mb Mq q13.2.1 My ML Mg MF MW MI MA Mr Ma Mp Mf Mt Ml Mo Mn Mm q13.2.2.1 q13.2.2.2 Mv Mx Mz) (by decide +kernel) rfl rfl ?_
      refine G_goto C (off := -84) (tgt := 136) (by decide +kernel) rfl ?_
      refine G_lv [1, 2, 0] (lv' := [(0, .ref 0), (1, .long q13.1), (3, .int (x3 + (1 : Int32)))]) rfl ?_
      exact ih q13.1 (x3 + (1 : Int32)) Ms Mb Mq q13.2.1 My ML Mg MF MW MI MA Mr Ma Mp Mf Mt Ml Mo Mn Mm q13.2.2.1 q13.2.2.2 Mv Mx Mz res h hex
set_option maxHeartbeats 4000000 in
set_option maxRecDepth 100000 in
theorem c_X7_digest (cy : Nat → ClassId) (Ms : Int32) (Mb : Int32) (Mq : Int32) (MB : Int64) (My : Int32) (ML : Int32) (Mg : Int32) (MF : Int32) (MW : Bool) (MI : Bool) (MA : Int32) (Mr : Nat → Int32) (Ma : Nat → Int32) (Mp : Nat → Int32) (Mf : Nat → Int32) (Mt : Nat → Int32) (Ml : Nat → Int32) (Mo : Nat → Int32) (Mn : Nat → Int32) (Mm : Nat → Int64) (MT : Nat → Int64) (MP : Nat → Int64) (Mv : Nat → Int32) (Mx : Nat → Int64) (Mz : Nat → Int64)  (res : (Int64 × Int64 × (Nat → Int64) × (Nat → Int64) × (Nat → Int32))) (h : f_X7_digest Ms Mb MB Mr Mf MT MP Mv = some res) : MG cy yX7_digest cX7_digest 6 (some .long) 4 102 [.ref 0] (wMo cy Ms Mb Mq MB My ML Mg MF MW MI MA Mr Ma Mp Mf Mt Ml Mo Mn Mm MT MP Mv Mx Mz) (some (.long res.1)) (wMo cy Ms Mb Mq res.2.1 My ML Mg MF MW MI MA Mr Ma Mp Mf Mt Ml Mo Mn Mm res.2.2.1 res.2.2.2.1 res.2.2.2.2 Mx Mz) := by
  refine MG_of (o := 7) (lv := [(0, .ref 0)]) ⟨by decide +kernel, rfl⟩ (Nat.le_of_ble_eq_true rfl) rfl (fun k C hR => ?_)
  rw [f_X7_digest] at h
  refine G_ldc2 C co_7_279 (by decide +kernel) ?_
  refine G_r C [(.lstore_n 1, 1, 0, 0, .null), (.iconst 0, 1, 0, 0, .int (0 : Int32)), (.istore_n 3, 1, 0, 0, .null)] 6 [(3, .int (0 : Int32)), (1, .long (2357 : Int64)), (0, .ref 0)] [] (wMo cy Ms Mb Mq MB My ML Mg MF MW MI MA Mr Ma Mp Mf Mt Ml Mo Mn Mm MT MP Mv Mx Mz) (by decide +kernel) rfl rfl ?_
  obtain ⟨q2, hq2, h⟩ := obd h
  refine G_lv [2, 1, 0] (lv' := [(0, .ref 0), (1, .long (2357 : Int64)), (3, .int (0 : Int32))]) rfl ?_
  refine g_X7_digest_L6 C 200 (2357 : Int64) (0 : Int32) Ms Mb Mq MB My ML Mg MF MW MI MA Mr Ma Mp Mf Mt Ml Mo Mn Mm MT MP Mv Mx Mz q2 hq2 ?_
  refine G_r C [(.iconst 0, 1, 0, 0, .int (0 : Int32)), (.istore_n 3, 1, 0, 0, .null)] 33 [(3, .int (0 : Int32)), (0, .ref 0), (1, .long q2)] [] (wMo cy Ms Mb Mq MB My ML Mg MF MW MI MA Mr Ma Mp Mf Mt Ml Mo Mn Mm MT MP Mv Mx Mz) (by decide +kernel) rfl rfl ?_
  obtain ⟨q3, hq3, h⟩ := obd h
  refine G_lv [1, 2, 0] (lv' := [(0, .ref 0), (1, .long q2), (3, .int (0 : Int32))]) rfl ?_
  refine g_X7_digest_L33 C 200 q2 (0 : Int32) Ms Mb Mq MB My ML Mg MF MW MI MA Mr Ma Mp Mf Mt Ml Mo Mn Mm MT MP Mv Mx Mz q3 hq3 ?_
  refine G_r C [(.aload_n 0, 1, 0, 0, .null)] 65 [(0, .ref 0), (1, .long q3)] [.ref 0] (wMo cy Ms Mb Mq MB My ML Mg MF MW MI MA Mr Ma Mp Mf Mt Ml Mo Mn Mm MT MP Mv Mx Mz) (by decide +kernel) rfl rfl ?_
  obtain ⟨q4, hq4, h⟩ := obd h
  refine G_c0 C lk_7_181 ⟨Nat.le_of_ble_eq_true rfl, Nat.le_of_ble_eq_true rfl⟩ (by decide +kernel) [] (c_X7_judge cy Ms Mb Mq MB My ML Mg MF MW MI MA Mr Ma Mp Mf Mt Ml Mo Mn Mm MT MP Mv Mx Mz q4 hq4) rfl rfl (Nat.le_of_ble_eq_true rfl) ⟨rfl, rfl⟩ rfl ?_
  refine G_r C [(.iconst 0, 1, 0, 0, .int (0 : Int32)), (.istore_n 3, 1, 0, 0, .null)] 70 [(3, .int (0 : Int32)), (0, .ref 0), (1, .long q3)] [] (wMo cy Ms Mb Mq q4.1 My ML Mg MF MW MI MA Mr Ma Mp Mf Mt Ml Mo Mn Mm q4.2.1 q4.2.2.1 q4.2.2.2 Mx Mz) (by decide +kernel) rfl rfl ?_
  obtain ⟨q5, hq5, h⟩ := obd h
  refine G_lv [1, 2, 0] (lv' := [(0, .ref 0), (1, .long q3), (3, .int (0 : Int32))]) rfl ?_
  refine g_X7_digest_L70 C 200 q3 (0 : Int32) Ms Mb Mq q4.1 My ML Mg MF MW MI MA Mr Ma Mp Mf Mt Ml Mo Mn Mm q4.2.1 q4.2.2.1 q4.2.2.2 Mx Mz q5 hq5 ?_
  refine G_r C [(.iconst 0, 1, 0, 0, .int (0 : Int32)), (.istore_n 3, 1, 0, 0, .null)] 97 [(3, .int (0 : Int32)), (0, .ref 0), (1, .long q5)] [] (wMo cy Ms Mb Mq q4.1 My ML Mg MF MW MI MA Mr Ma Mp Mf Mt Ml Mo Mn Mm q4.2.1 q4.2.2.1 q4.2.2.2 Mx Mz) (by decide +kernel) rfl rfl ?_
  obtain ⟨q8, hq8, h⟩ := obd h
  refine G_lv [1, 2, 0] (lv' := [(0, .ref 0), (1, .long q5), (3, .int (0 : Int32))]) rfl ?_
  refine g_X7_digest_L97 C 200 q5 (0 : Int32) Ms Mb Mq q4.1 My ML Mg MF MW MI MA Mr Ma Mp Mf Mt Ml Mo Mn Mm q4.2.1 q4.2.2.1 q4.2.2.2 Mx Mz q8 hq8 ?_
  refine G_r C [(.iconst 1, 1, 0, 0, .int (1 : Int32)), (.istore_n 3, 1, 0, 0, .null)] 136 [(3, .int (1 : Int32)), (0, .ref 0), (1, .long q8.1)] [] (wMo cy Ms Mb Mq q4.1 My ML Mg MF MW MI MA Mr Ma Mp Mf Mt Ml Mo Mn Mm q8.2 q4.2.2.1 q4.2.2.2 Mx Mz) (by decide +kernel) rfl rfl ?_
  obtain ⟨q14, hq14, h⟩ := obd h
  refine G_lv [1, 2, 0] (lv' := [(0, .ref 0), (1, .long q8.1), (3, .int (1 : Int32))]) rfl ?_
  refine g_X7_digest_L136 C 200 q8.1 (1 : Int32) Ms Mb Mq q4.1 My ML Mg MF MW MI MA Mr Ma Mp Mf Mt Ml Mo Mn Mm q8.2 q4.2.2.1 q4.2.2.2 Mx Mz q14 hq14 ?_
  refine G_r C [(.lload_n 1, 1, 0, 0, .null)] 224 [(1, .long q14.1)] [.long q14.1] (wMo cy Ms Mb Mq q14.2.1 My ML Mg MF MW MI MA Mr Ma Mp Mf Mt Ml Mo Mn Mm q14.2.2.1 q14.2.2.2 q4.2.2.2 Mx Mz) (by decide +kernel) rfl rfl ?_
  have h := Option.some.inj h
  subst h
  exact G_lret C hR (by decide +kernel)
