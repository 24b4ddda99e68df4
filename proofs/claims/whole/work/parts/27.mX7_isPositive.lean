def f_X7_isPositive_L8 : Nat → Int32 → Bool → Int32 → (Nat → Int32) → (Nat → Int64) → Option (Bool × (Nat → Int64))
  | 0, _, _, _, _, _ => none
  | fu + 1, x1, x2, x3, Mr, MT => if x1 ≤ x3 then (some (x2, MT)) else (if (bI x2) = 0 then (some (x2, MT)) else ((f_X7_detOf (0 : Int32) (x3 + (1 : Int32)) Mr MT).bind fun q2 => if q2.1 ≤ (0 : Int64) then (f_X7_isPositive_L8 fu x1 false (x3 + (1 : Int32)) Mr q2.2) else (f_X7_isPositive_L8 fu x1 true (x3 + (1 : Int32)) Mr q2.2)))
def f_X7_isPositive (x1 : Int32) (Mr : Nat → Int32) (MT : Nat → Int64) : Option (Bool × (Nat → Int64)) := (f_X7_isPoly x1 Mr MT).bind fun q1 => (f_X7_isPositive_L8 200 x1 q1.1 (0 : Int32) Mr q1.2).bind fun q3 => some (q3.1, q3.2)
set_option maxHeartbeats 4000000 in
set_option maxRecDepth 100000 in
theorem g_X7_isPositive_L8 {k : KX} {cy : Nat → ClassId} (C : OK k cX7_isPositive 7 4 cy 3 75) : ∀ (fu : Nat) (x1 : Int32) (x2 : Bool) (x3 : Int32) (Ms : Int32) (Mb : Int32) (Mq : Int32) (MB : Int64) (My : Int32) (ML : Int32) (Mg : Int32) (MF : Int32) (MW : Bool) (MI : Bool) (MA : Int32) (Mr : Nat → Int32) (Ma : Nat → Int32) (Mp : Nat → Int32) (Mf : Nat → Int32) (Mt : Nat → Int32) (Ml : Nat → Int32) (Mo : Nat → Int32) (Mn : Nat → Int32) (Mm : Nat → Int64) (MT : Nat → Int64) (MP : Nat → Int64) (Mv : Nat → Int32) (Mx : Nat → Int64) (Mz : Nat → Int64) (res : (Bool × (Nat → Int64))), (f_X7_isPositive_L8 fu x1 x2 x3 Mr MT = some res) → G k 4 42 [(2, .int (bI res.1))] [] (wMo cy Ms Mb Mq MB My ML Mg MF MW MI MA Mr Ma Mp Mf Mt Ml Mo Mn Mm res.2 MP Mv Mx Mz) → G k 4 8 [(0, .ref 0), (1, .int x1), (2, .int (bI x2)), (3, .int x3)] [] (wMo cy Ms Mb Mq MB My ML Mg MF MW MI MA Mr Ma Mp Mf Mt Ml Mo Mn Mm MT MP Mv Mx Mz) := by
  intro fu
  induction fu with
  | zero =>
    intro x1 x2 x3 Ms Mb Mq MB My ML Mg MF MW MI MA Mr Ma Mp Mf Mt Ml Mo Mn Mm MT MP Mv Mx Mz res h hex
    rw [f_X7_isPositive_L8] at h
    cases h
  | succ fu ih =>
    intro x1 x2 x3 Ms Mb Mq MB My ML Mg MF MW MI MA Mr Ma Mp Mf Mt Ml Mo Mn Mm MT MP Mv Mx Mz res h hex
    rw [f_X7_isPositive_L8] at h
    refine G_r C [(.iload_n 3, 1, 0, 0, .null), (.iload_n 1, 1, 0, 0, .null)] 10 [(0, .ref 0), (1, .int x1), (2, .int (bI x2)), (3, .int x3)] [.int x1, .int x3] (wMo cy Ms Mb Mq MB My ML Mg MF MW MI MA Mr Ma Mp Mf Mt Ml Mo Mn Mm MT MP Mv Mx Mz) (by decide +kernel) rfl rfl ?_
    refine G_icmp_ge C (off := 32) (tgt := 42) (by decide +kernel) rfl (fun c => ?_) (fun c => ?_)
    · rw [if_pos c] at h
      have h := Option.some.inj h
      subst h
      refine G_lv [2] (lv' := [(2, .int (bI x2))]) rfl ?_
      exact hex
    · rw [if_neg c] at h
      refine G_r C [(.iload_n 2, 1, 0, 0, .null)] 14 [(0, .ref 0), (1, .int x1), (2, .int (bI x2)), (3, .int x3)] [.int (bI x2)] (wMo cy Ms Mb Mq MB My ML Mg MF MW MI MA Mr Ma Mp Mf Mt Ml Mo Mn Mm MT MP Mv Mx Mz) (by decide +kernel) rfl rfl ?_
      refine G_if_eq C (off := 28) (tgt := 42) (by decide +kernel) rfl (fun c => ?_) (fun c => ?_)
      · rw [if_pos c] at h
        have h := Option.some.inj h
        subst h
        refine G_lv [2] (lv' := [(2, .int (bI x2))]) rfl ?_
        exact hex
      · rw [if_neg c] at h
        refine G_r C [(.aload_n 0, 1, 0, 0, .null), (.iconst 0, 1, 0, 0, .int (0 : Int32)), (.iload_n 3, 1, 0, 0, .null), (.iconst 1, 1, 0, 0, .int (1 : Int32)), (.iadd, 1, 0, 0, .null)] 22 [(0, .ref 0), (1, .int x1), (2, .int (bI x2)), (3, .int x3)] [.int (x3 + (1 : Int32)), .int (0 : Int32), .ref 0] (wMo cy Ms Mb Mq MB My ML Mg MF MW MI MA Mr Ma Mp Mf Mt Ml Mo Mn Mm MT MP Mv Mx Mz) (by decide +kernel) rfl rfl ?_
        obtain ⟨q2, hq2, h⟩ := obd h
        refine G_c0 C lk_7_146 ⟨Nat.le_of_ble_eq_true rfl, Nat.le_of_ble_eq_true rfl⟩ (by decide +kernel) [.long q2.1] (c_X7_detOf cy Ms Mb Mq MB My ML Mg MF MW MI MA Mr Ma Mp Mf Mt Ml Mo Mn Mm MT MP Mv Mx Mz (0 : Int32) (x3 + (1 : Int32)) q2 hq2) rfl rfl (Nat.le_of_ble_eq_true rfl) ⟨rfl, rfl⟩ rfl ?_
        refine G_r C [(.lconst 0, 1, 0, 0, .long (0 : Int64))] 26 [(0, .ref 0), (1, .int x1), (2, .int (bI x2)), (3, .int x3)] [.long (0 : Int64), .long q2.1] (wMo cy Ms Mb Mq MB My ML Mg MF MW MI MA Mr Ma Mp Mf Mt Ml Mo Mn Mm q2.2 MP Mv Mx Mz) (by decide +kernel) rfl rfl ?_
        refine G_lcmp_le C (off := 7) (tgt := 34) (by decide +kernel) (by decide +kernel) rfl (fun c => ?_) (fun c => ?_)
        · rw [if_pos c] at h
          refine G_r C [(.iconst 0, 1, 0, 0, .int (0 : Int32)), (.istore_n 2, 1, 0, 0, .null), (.iinc 3 1, 3, 0, 0, .int (1 : Int32))] 39 [(3, .int (x3 + (1 : Int32))), (2, .int (0 : Int32)), (0, .ref 0), (1, .int x1)] [] (wMo cy Ms Mb Mq MB My ML Mg MF MW MI MA Mr Ma Mp Mf Mt Ml Mo Mn Mm q2.2 MP Mv Mx Mz) (by decide +kernel) rfl rfl ?_
          refine G_goto C (off := -31) (tgt := 8) (by decide +kernel) rfl ?_
          refine G_lv [2, 3, 1, 0] (lv' := [(0, .ref 0), (1, .int x1), (2, .int (bI false)), (3, .int (x3 + (1 : Int32)))]) rfl ?_
          exact ih x1 false (x3 + (1 : Int32)) Ms Mb Mq MB My ML Mg MF MW MI MA Mr Ma Mp Mf Mt Ml Mo Mn Mm q2.2 MP Mv Mx Mz res h hex
        · rw [if_neg c] at h
          refine G_r C [(.iconst 1, 1, 0, 0, .int (1 : Int32))] 31 [(0, .ref 0), (1, .int x1), (2, .int (bI x2)), (3, .int x3)] [.int (1 : Int32)] (wMo cy Ms Mb Mq MB My ML Mg MF MW MI MA Mr Ma Mp Mf Mt Ml Mo Mn Mm q2.2 MP Mv Mx Mz) (by decide +kernel) rfl rfl ?_
          refine G_goto C (off := 4) (tgt := 35) (by decide +kernel) rfl ?_
          refine G_r C [(.istore_n 2, 1, 0, 0, .null), (.iinc 3 1, 3, 0, 0, .int (1 : Int32))] 39 [(3, .int (x3 + (1 : Int32))), (2, .int (1 : Int32)), (0, .ref 0), (1, .int x1)] [] (wMo cy Ms Mb Mq MB My ML Mg MF MW MI MA Mr Ma Mp Mf Mt Ml Mo Mn Mm q2.2 MP Mv Mx Mz) (by decide +kernel) rfl rfl ?_
          refine G_goto C (off := -31) (tgt := 8) (by decide +kernel) rfl ?_
          refine G_lv [2, 3, 1, 0] (lv' := [(0, .ref 0), (1, .int x1), (2, .int (bI true)), (3, .int (x3 + (1 : Int32)))]) rfl ?_
          exact ih x1 true (x3 + (1 : Int32)) Ms Mb Mq MB My ML Mg MF MW MI MA Mr Ma Mp Mf Mt Ml Mo Mn Mm q2.2 MP Mv Mx Mz res h hex
set_option maxHeartbeats 4000000 in
set_option maxRecDepth 100000 in
theorem c_X7_isPositive (cy : Nat → ClassId) (Ms : Int32) (Mb : Int32) (Mq : Int32) (MB : Int64) (My : Int32) (ML : Int32) (Mg : Int32) (MF : Int32) (MW : Bool) (MI : Bool) (MA : Int32) (Mr : Nat → Int32) (Ma : Nat → Int32) (Mp : Nat → Int32) (Mf : Nat → Int32) (Mt : Nat → Int32) (Ml : Nat → Int32) (Mo : Nat → Int32) (Mn : Nat → Int32) (Mm : Nat → Int64) (MT : Nat → Int64) (MP : Nat → Int64) (Mv : Nat → Int32) (Mx : Nat → Int64) (Mz : Nat → Int64) (x1 : Int32) (res : (Bool × (Nat → Int64))) (h : f_X7_isPositive x1 Mr MT = some res) : MG cy yX7_isPositive cX7_isPositive 4 (some .boolean) 3 75 [.ref 0, .int x1] (wMo cy Ms Mb Mq MB My ML Mg MF MW MI MA Mr Ma Mp Mf Mt Ml Mo Mn Mm MT MP Mv Mx Mz) (some (.int (bI res.1))) (wMo cy Ms Mb Mq MB My ML Mg MF MW MI MA Mr Ma Mp Mf Mt Ml Mo Mn Mm res.2 MP Mv Mx Mz) := by
  refine MG_of (o := 7) (lv := [(0, .ref 0), (1, .int x1)]) ⟨by decide +kernel, rfl⟩ (Nat.le_of_ble_eq_true rfl) rfl (fun k C hR => ?_)
  rw [f_X7_isPositive] at h
  refine G_r C [(.aload_n 0, 1, 0, 0, .null), (.iload_n 1, 1, 0, 0, .null)] 2 [(0, .ref 0), (1, .int x1)] [.int x1, .ref 0] (wMo cy Ms Mb Mq MB My ML Mg MF MW MI MA Mr Ma Mp Mf Mt Ml Mo Mn Mm MT MP Mv Mx Mz) (by decide +kernel) rfl rfl ?_
  obtain ⟨q1, hq1, h⟩ := obd h
  refine G_c0 C lk_7_162 ⟨Nat.le_of_ble_eq_true rfl, Nat.le_of_ble_eq_true rfl⟩ (by decide +kernel) [.int (bI q1.1)] (c_X7_isPoly cy Ms Mb Mq MB My ML Mg MF MW MI MA Mr Ma Mp Mf Mt Ml Mo Mn Mm MT MP Mv Mx Mz x1 q1 hq1) rfl rfl (Nat.le_of_ble_eq_true rfl) ⟨rfl, rfl⟩ rfl ?_
  refine G_r C [(.istore_n 2, 1, 0, 0, .null), (.iconst 0, 1, 0, 0, .int (0 : Int32)), (.istore_n 3, 1, 0, 0, .null)] 8 [(3, .int (0 : Int32)), (2, .int (bI q1.1)), (0, .ref 0), (1, .int x1)] [] (wMo cy Ms Mb Mq MB My ML Mg MF MW MI MA Mr Ma Mp Mf Mt Ml Mo Mn Mm q1.2 MP Mv Mx Mz) (by decide +kernel) rfl rfl ?_
  obtain ⟨q3, hq3, h⟩ := obd h
  refine G_lv [2, 3, 1, 0] (lv' := [(0, .ref 0), (1, .int x1), (2, .int (bI q1.1)), (3, .int (0 : Int32))]) rfl ?_
  refine g_X7_isPositive_L8 C 200 x1 q1.1 (0 : Int32) Ms Mb Mq MB My ML Mg MF MW MI MA Mr Ma Mp Mf Mt Ml Mo Mn Mm q1.2 MP Mv Mx Mz q3 hq3 ?_
  refine G_r C [(.iload_n 2, 1, 0, 0, .null)] 43 [(2, .int (bI q3.1))] [.int (bI q3.1)] (wMo cy Ms Mb Mq MB My ML Mg MF MW MI MA Mr Ma Mp Mf Mt Ml Mo Mn Mm q3.2 MP Mv Mx Mz) (by decide +kernel) rfl rfl ?_
  have h := Option.some.inj h
  subst h
  exact G_zret C (v := q3.1) hR (by decide +kernel)
def f_X7_belowSpot_L12 : Nat → Int32 → Int32 → Int32 → Int32 → Int32 → Int32 → Int32 → Int64 → (Nat → Int32) → (Nat → Int64) → (Nat → Int64) → Option (Int32 × Int32 × Int64 × (Nat → Int64) × (Nat → Int64))
  | 0, _, _, _, _, _, _, _, _, _, _, _ => none
  | fu + 1, x1, x2, x3, x4, x5, x6, x7, MB, Mr, MT, MP => if x1 < x7 then (some (x4, x6, MB, MT, MP)) else ((f_X7_makePoly x7 Mr MT MP).bind fun q1 => (f_X7_polyAt x7 x2 x3 q1.2.2).bind fun q2 => if q2 ≤ (0 : Int64) then (if (0 : Int64) ≤ q2 then (if (0 : Int32) = (-x5) then (f_X7_belowSpot_L12 fu x1 x2 x3 (x4 + (1 : Int32)) x5 (1 : Int32) (x7 + (1 : Int32)) q1.1 Mr q1.2.1 q1.2.2) else (f_X7_belowSpot_L12 fu x1 x2 x3 (x4 + (0 : Int32)) x5 (1 : Int32) (x7 + (1 : Int32)) q1.1 Mr q1.2.1 q1.2.2)) else (if (-1 : Int32) = (-x5) then (f_X7_belowSpot_L12 fu x1 x2 x3 (x4 + (1 : Int32)) (-1 : Int32) (0 : Int32) (x7 + (1 : Int32)) q1.1 Mr q1.2.1 q1.2.2) else (f_X7_belowSpot_L12 fu x1 x2 x3 (x4 + (0 : Int32)) (-1 : Int32) (0 : Int32) (x7 + (1 : Int32)) q1.1 Mr q1.2.1 q1.2.2))) else (if (1 : Int32) = (-x5) then (f_X7_belowSpot_L12 fu x1 x2 x3 (x4 + (1 : Int32)) (1 : Int32) (0 : Int32) (x7 + (1 : Int32)) q1.1 Mr q1.2.1 q1.2.2) else (f_X7_belowSpot_L12 fu x1 x2 x3 (x4 + (0 : Int32)) (1 : Int32) (0 : Int32) (x7 + (1 : Int32)) q1.1 Mr q1.2.1 q1.2.2)))
def f_X7_belowSpot (x1 : Int32) (x2 : Int32) (x3 : Int32) (MB : Int64) (Mr : Nat → Int32) (MT : Nat → Int64) (MP : Nat → Int64) : Option (Int32 × Int64 × (Nat → Int64) × (Nat → Int64)) := (f_X7_belowSpot_L12 200 x1 x2 x3 (0 : Int32) (1 : Int32) (0 : Int32) (1 : Int32) MB Mr MT MP).bind fun q3 => if q3.2.1 = 0 then (some (((x1 - q3.1) - (0 : Int32)), q3.2.2.1, q3.2.2.2.1, q3.2.2.2.2)) else (some (((x1 - q3.1) - (1 : Int32)), q3.2.2.1, q3.2.2.2.1, q3.2.2.2.2))
set_option maxHeartbeats 4000000 in
set_option maxRecDepth 100000 in
theorem g_X7_belowSpot_L12 {k : KX} {cy : Nat → ClassId} (C : OK k cX7_belowSpot 7 11 cy 3 78) : ∀ (fu : Nat) (x1 : Int32) (x2 : Int32) (x3 : Int32) (x4 : Int32) (x5 : Int32) (x6 : Int32) (x7 : Int32) (Ms : Int32) (Mb : Int32) (Mq : Int32) (MB : Int64) (My : Int32) (ML : Int32) (Mg : Int32) (MF : Int32) (MW : Bool) (MI : Bool) (MA : Int32) (Mr : Nat → Int32) (Ma : Nat → Int32) (Mp : Nat → Int32) (Mf : Nat → Int32) (Mt : Nat → Int32) (Ml : Nat → Int32) (Mo : Nat → Int32) (Mn : Nat → Int32) (Mm : Nat → Int64) (MT : Nat → Int64) (MP : Nat → Int64) (Mv : Nat → Int32) (Mx : Nat → Int64) (Mz : Nat → Int64) (res : (Int32 × Int32 × Int64 × (Nat → Int64) × (Nat → Int64))), (f_X7_belowSpot_L12 fu x1 x2 x3 x4 x5 x6 x7 MB Mr MT MP = some res) → G k 11 109 [(1, .int x1), (4, .int res.1), (6, .int res.2.1)] [] (wMo cy Ms Mb Mq res.2.2.1 My ML Mg MF MW MI MA Mr Ma Mp Mf Mt Ml Mo Mn Mm res.2.2.2.1 res.2.2.2.2 Mv Mx Mz) → G k 11 12 [(0, .ref 0), (1, .int x1), (2, .int x2), (3, .int x3), (4, .int x4), (5, .int x5), (6, .int x6), (7, .int x7)] [] (wMo cy Ms Mb Mq MB My ML Mg MF MW MI MA Mr Ma Mp Mf Mt Ml Mo Mn Mm MT MP Mv Mx Mz) := by
  intro fu
  induction fu with
  | zero =>
    intro x1 x2 x3 x4 x5 x6 x7 Ms Mb Mq MB My ML Mg MF MW MI MA Mr Ma Mp Mf Mt Ml Mo Mn Mm MT MP Mv Mx Mz res h hex
    rw [f_X7_belowSpot_L12] at h
    cases h
  | succ fu ih =>
    intro x1 x2 x3 x4 x5 x6 x7 Ms Mb Mq MB My ML Mg MF MW MI MA Mr Ma Mp Mf Mt Ml Mo Mn Mm MT MP Mv Mx Mz res h hex
    rw [f_X7_belowSpot_L12] at h
    refine G_r C [(.iload 7, 2, 0, 0, .null), (.iload_n 1, 1, 0, 0, .null)] 15 [(0, .ref 0), (1, .int x1), (2, .int x2), (3, .int x3), (4, .int x4), (5, .int x5), (6, .int x6), (7, .int x7)] [.int x1, .int x7] (wMo cy Ms Mb Mq MB My ML Mg MF MW MI MA Mr Ma Mp Mf Mt Ml Mo Mn Mm MT MP Mv Mx Mz) (by decide +kernel) rfl rfl ?_
    refine G_icmp_gt C (off := 94) (tgt := 109) (by decide +kernel) rfl (fun c => ?_) (fun c => ?_)
    · rw [if_pos c] at h
      have h := Option.some.inj h
      subst h
      refine G_lv [1, 4, 6] (lv' := [(1, .int x1), (4, .int x4), (6, .int x6)]) rfl ?_
      exact hex
    · rw [if_neg c] at h
      refine G_r C [(.aload_n 0, 1, 0, 0, .null), (.iload 7, 2, 0, 0, .null)] 21 [(0, .ref 0), (1, .int x1), (2, .int x2), (3, .int x3), (4, .int x4), (5, .int x5), (6, .int x6), (7, .int x7)] [.int x7, .ref 0] (wMo cy Ms Mb Mq MB My ML Mg MF MW MI MA Mr Ma Mp Mf Mt Ml Mo Mn Mm MT MP Mv Mx Mz) (by decide +kernel) rfl rfl ?_
      obtain ⟨q1, hq1, h⟩ := obd h
      refine G_c0 C lk_7_165 ⟨Nat.le_of_ble_eq_true rfl, Nat.le_of_ble_eq_true rfl⟩ (by decide +kernel) [] (c_X7_makePoly cy Ms Mb Mq MB My ML Mg MF MW MI MA Mr Ma Mp Mf Mt Ml Mo Mn Mm MT MP Mv Mx Mz x7 q1 hq1) rfl rfl (Nat.le_of_ble_eq_true rfl) ⟨rfl, rfl⟩ rfl ?_
      refine G_r C [(.aload_n 0, 1, 0, 0, .null), (.iload 7, 2, 0, 0, .null), (.iload_n 2, 1, 0, 0, .null), (.iload_n 3, 1, 0, 0, .null)] 29 [(0, .ref 0), (1, .int x1), (2, .int x2), (3, .int x3), (4, .int x4), (5, .int x5), (6, .int x6), (7, .int x7)] [.int x3, .int x2, .int x7, .ref 0] (wMo cy Ms Mb Mq q1.1 My ML Mg MF MW MI MA Mr Ma Mp Mf Mt Ml Mo Mn Mm q1.2.1 q1.2.2 Mv Mx Mz) (by decide +kernel) rfl rfl ?_
      obtain ⟨q2, hq2, h⟩ := obd h
      refine G_c0 C lk_7_187 ⟨Nat.le_of_ble_eq_true rfl, Nat.le_of_ble_eq_true rfl⟩ (by decide +kernel) [.long q2] (c_X7_polyAt cy Ms Mb Mq q1.1 My ML Mg MF MW MI MA Mr Ma Mp Mf Mt Ml Mo Mn Mm q1.2.1 q1.2.2 Mv Mx Mz x7 x2 x3 q2 hq2) rfl rfl (Nat.le_of_ble_eq_true rfl) ⟨rfl, rfl⟩ rfl ?_
      refine G_r C [(.lstore 8, 2, 0, 0, .null), (.lload 8, 2, 0, 0, .null), (.lconst 0, 1, 0, 0, .long (0 : Int64))] 37 [(8, .long q2), (0, .ref 0), (1, .int x1), (2, .int x2), (3, .int x3), (4, .int x4), (5, .int x5), (6, .int x6), (7, .int x7)] [.long (0 : Int64), .long q2] (wMo cy Ms Mb Mq q1.1 My ML Mg MF MW MI MA Mr Ma Mp Mf Mt Ml Mo Mn Mm q1.2.1 q1.2.2 Mv Mx Mz) (by decide +kernel) rfl rfl ?_
      refine G_lcmp_le C (off := 7) (tgt := 45) (by decide +kernel) (by decide +kernel) rfl (fun c => ?_) (fun c => ?_)
      · rw [if_pos c] at h
        refine G_r C [(.lload 8, 2, 0, 0, .null), (.lconst 0, 1, 0, 0, .long (0 : Int64))] 48 [(8, .long q2), (0, .ref 0), (1, .int x1), (2, .int x2), (3, .int x3), (4, .int x4), (5, .int x5), (6, .int x6), (7, .int x7)] [.long (0 : Int64), .long q2] (wMo cy Ms Mb Mq q1.1 My ML Mg MF MW MI MA Mr Ma Mp Mf Mt Ml Mo Mn Mm q1.2.1 q1.2.2 Mv Mx Mz) (by decide +kernel) rfl rfl ?_
        refine G_lcmp_ge C (off := 7) (tgt := 56) (by decide +kernel) (by decide +kernel) rfl (fun c => ?_) (fun c => ?_)
        · rw [if_pos c] at h
          refine G_r C [(.iconst 0, 1, 0, 0, .int (0 : Int32)), (.istore 10, 2, 0, 0, .null), (.iload 4, 2, 0, 0, .null), (.iload 10, 2, 0, 0, .null), (.iload 5, 2, 0, 0, .null), (.ineg, 1, 0, 0, .null)] 66 [(10, .int (0 : Int32)), (8, .long q2), (0, .ref 0), (1, .int x1), (2, .int x2), (3, .int x3), (4, .int x4), (5, .int x5), (6, .int x6), (7, .int x7)] [.int (-x5), .int (0 : Int32), .int x4] (wMo cy Ms Mb Mq q1.1 My ML Mg MF MW MI MA Mr Ma Mp Mf Mt Ml Mo Mn Mm q1.2.1 q1.2.2 Mv Mx Mz) (by decide +kernel) rfl rfl ?_
          refine G_icmp_ne C (off := 7) (tgt := 73) (by decide +kernel) rfl (fun c => ?_) (fun c => ?_)
          · rw [if_neg c] at h
            refine G_r C [(.iconst 0, 1, 0, 0, .int (0 : Int32)), (.iadd, 1, 0, 0, .null), (.istore 4, 2, 0, 0, .null), (.iload 10, 2, 0, 0, .null)] 79 [(4, .int (x4 + (0 : Int32))), (10, .int (0 : Int32)), (8, .long q2), (0, .ref 0), (1, .int x1), (2, .int x2), (3, .int x3), (5, .int x5), (6, .int x6), (7, .int x7)] [.int (0 : Int32)] (wMo cy Ms Mb Mq q1.1 My ML Mg MF MW MI MA Mr Ma Mp Mf Mt Ml Mo Mn Mm q1.2.1 q1.2.2 Mv Mx Mz) (by decide +kernel) rfl rfl ?_
            refine G_if_ne C (off := 8) (tgt := 87) (by decide +kernel) rfl (fun c => absurd (by decide) c) (fun _ => ?_)
            refine G_r C [(.iload 5, 2, 0, 0, .null)] 84 [(4, .int (x4 + (0 : Int32))), (10, .int (0 : Int32)), (8, .long q2), (0, .ref 0), (1, .int x1), (2, .int x2), (3, .int x3), (5, .int x5), (6, .int x6), (7, .int x7)] [.int x5] (wMo cy Ms Mb Mq q1.1 My ML Mg MF MW MI MA Mr Ma Mp Mf Mt Ml Mo Mn Mm q1.2.1 q1.2.2 Mv Mx Mz) (by decide +kernel) rfl rfl ?_
            refine G_goto C (off := 5) (tgt := 89) (by decide +kernel) rfl ?_
            refine G_r C [(.istore 5, 2, 0, 0, .null), (.iload 10, 2, 0, 0, .null)] 93 [(5, .int x5), (4, .int (x4 + (0 : Int32))), (10, .int (0 : Int32)), (8, .long q2), (0, .ref 0), (1, .int x1), (2, .int x2), (3, .int x3), (6, .int x6), (7, .int x7)] [.int (0 : Int32)] (wMo cy Ms Mb Mq q1.1 My ML Mg MF MW MI MA Mr Ma Mp Mf Mt Ml Mo Mn Mm q1.2.1 q1.2.2 Mv Mx Mz) (by decide +kernel) rfl rfl ?_
            refine G_if_ne C (off := 7) (tgt := 100) (by decide +kernel) rfl (fun c => absurd (by decide) c) (fun _ => ?_)
            refine G_r C [(.iconst 1, 1, 0, 0, .int (1 : Int32))] 97 [(5, .int x5), (4, .int (x4 + (0 : Int32))), (10, .int (0 : Int32)), (8, .long q2), (0, .ref 0), (1, .int x1), (2, .int x2), (3, .int x3), (6, .int x6), (7, .int x7)] [.int (1 : Int32)] (wMo cy Ms Mb Mq q1.1 My ML Mg MF MW MI MA Mr Ma Mp Mf Mt Ml Mo Mn Mm q1.2.1 q1.2.2 Mv Mx Mz) (by decide +kernel) rfl rfl ?_
            refine G_goto C (off := 4) (tgt := 101) (by decide +kernel) rfl ?_
            refine G_r C [(.istore 6, 2, 0, 0, .null), (.iinc 7 1, 3, 0, 0, .int (1 : Int32))] 106 [(7, .int (x7 + (1 : Int32))), (6, .int (1 : Int32)), (5, .int x5), (4, .int (x4 + (0 : Int32))), (10, .int (0 : Int32)), (8, .long q2), (0, .ref 0), (1, .int x1), (2, .int x2), (3, .int x3)] [] (wMo cy Ms Mb Mq q1.1 My ML Mg MF MW MI MA Mr Ma Mp Mf Mt Ml Mo Mn Mm q1.2.1 q1.2.2 Mv Mx Mz) (by decide +kernel) rfl rfl ?_
            refine G_goto C (off := -94) (tgt := 12) (by decide +kernel) rfl ?_
            refine G_lv [6, 7, 8, 9, 3, 2, 1, 0] (lv' := [(0, .ref 0), (1, .int x1), (2, .int x2), (3, .int x3), (4, .int (x4 + (0 : Int32))), (5, .int x5), (6, .int (1 : Int32)), (7, .int (x7 + (1 : Int32)))]) rfl ?_
            exact ih x1 x2 x3 (x4 + (0 : Int32)) x5 (1 : Int32) (x7 + (1 : Int32)) Ms Mb Mq q1.1 My ML Mg MF MW MI MA Mr Ma Mp Mf Mt Ml Mo Mn Mm q1.2.1 q1.2.2 Mv Mx Mz res h hex
          · rw [if_pos c] at h
            refine G_r C [(.iconst 1, 1, 0, 0, .int (1 : Int32))] 70 [(10, .int (0 : Int32)), (8, .long q2), (0, .ref 0), (1, .int x1), (2, .int x2), (3, .int x3), (4, .int x4), (5, .int x5), (6, .int x6), (7, .int x7)] [.int (1 : Int32), .int x4] (wMo cy Ms Mb Mq q1.1 My ML Mg MF MW MI MA Mr Ma Mp Mf Mt Ml Mo Mn Mm q1.2.1 q1.2.2 Mv Mx Mz) (by decide +kernel) rfl rfl ?_
            refine G_goto C (off := 4) (tgt := 74) (by decide +kernel) rfl ?_
            refine G_r C [(.iadd, 1, 0, 0, .null), (.istore 4, 2, 0, 0, .null), (.iload 10, 2, 0, 0, .null)] 79 [(4, .int (x4 + (1 : Int32))), (10, .int (0 : Int32)), (8, .long q2), (0, .ref 0), (1, .int x1), (2, .int x2), (3, .int x3), (5, .int x5), (6, .int x6), (7, .int x7)] [.int (0 : Int32)] (wMo cy Ms Mb Mq q1.1 My ML Mg MF MW MI MA Mr Ma Mp Mf Mt Ml Mo Mn Mm q1.2.1 q1.2.2 Mv Mx Mz) (by decide +kernel) rfl rfl ?_
            refine G_if_ne C (off := 8) (tgt := 87) (by decide +kernel) rfl (fun c => absurd (by decide) c) (fun _ => ?_)
            refine G_r C [(.iload 5, 2, 0, 0, .null)] 84 [(4, .int (x4 + (1 : Int32))), (10, .int (0 : Int32)), (8, .long q2), (0, .ref 0), (1, .int x1), (2, .int x2), (3, .int x3), (5, .int x5), (6, .int x6), (7, .int x7)] [.int x5] (wMo cy Ms Mb Mq q1.1 My ML Mg MF MW MI MA Mr Ma Mp Mf Mt Ml Mo Mn Mm q1.2.1 q1.2.2 Mv Mx Mz) (by decide +kernel) rfl rfl ?_
            refine G_goto C (off := 5) (tgt := 89) (by decide +kernel) rfl ?_
            refine G_r C [(.istore 5, 2, 0, 0, .null), (.iload 10, 2, 0, 0, .null)] 93 [(5, .int x5), (4, .int (x4 + (1 : Int32))), (10, .int (0 : Int32)), (8, .long q2), (0, .ref 0), (1, .int x1), (2, .int x2), (3, .int x3), (6, .int x6), (7, .int x7)] [.int (0 : Int32)] (wMo cy Ms Mb Mq q1.1 My ML Mg MF MW MI MA Mr Ma Mp Mf Mt Ml Mo Mn Mm q1.2.1 q1.2.2 Mv Mx Mz) (by decide +kernel) rfl rfl ?_
            refine G_if_ne C (off := 7) (tgt := 100) (by decide +kernel) rfl (fun c => absurd (by decide) c) (fun _ => ?_)
            refine G_r C [(.iconst 1, 1, 0, 0, .int (1 : Int32))] 97 [(5, .int x5), (4, .int (x4 + (1 : Int32))), (10, .int (0 : Int32)), (8, .long q2), (0, .ref 0), (1, .int x1), (2, .int x2), (3, .int x3), (6, .int x6), (7, .int x7)] [.int (1 : Int32)] (wMo cy Ms Mb Mq q1.1 My ML Mg MF MW MI MA Mr Ma Mp Mf Mt Ml Mo Mn Mm q1.2.1 q1.2.2 Mv Mx Mz) (by decide +kernel) rfl rfl ?_
            refine G_goto C (off := 4) (tgt := 101) (by decide +kernel) rfl ?_
            refine G_r C [(.istore 6, 2, 0, 0, .null), (.iinc 7 1, 3, 0, 0, .int (1 : Int32))] 106 [(7, .int (x7 + (1 : Int32))), (6, .int (1 : Int32)), (5, .int x5), (4, .int (x4 + (1 : Int32))), (10, .int (0 : Int32)), (8, .long q2), (0, .ref 0), (1, .int x1), (2, .int x2), (3, .int x3)] [] (wMo cy Ms Mb Mq q1.1 My ML Mg MF MW MI MA Mr Ma Mp Mf Mt Ml Mo Mn Mm q1.2.1 q1.2.2 Mv Mx Mz) (by decide +kernel) rfl rfl ?_
            refine G_goto C (off := -94) (tgt := 12) (by decide +kernel) rfl ?_
            refine G_lv [6, 7, 8, 9, 3, 2, 1, 0] (lv' := [(0, .ref 0), (1, .int x1), (2, .int x2), (3, .int x3), (4, .int (x4 + (1 : Int32))), (5, .int x5), (6, .int (1 : Int32)), (7, .int (x7 + (1 : Int32)))]) rfl ?_
            exact ih x1 x2 x3 (x4 + (1 : Int32)) x5 (1 : Int32) (x7 + (1 : Int32)) Ms Mb Mq q1.1 My ML Mg MF MW MI MA Mr Ma Mp Mf Mt Ml Mo Mn Mm q1.2.1 q1.2.2 Mv Mx Mz res h hex
        · rw [if_neg c] at h
          refine G_r C [(.iconst (-1), 1, 0, 0, .int (-1 : Int32))] 53 [(8, .long q2), (0, .ref 0), (1, .int x1), (2, .int x2), (3, .int x3), (4, .int x4), (5, .int x5), (6, .int x6), (7, .int x7)] [.int (-1 : Int32)] (wMo cy Ms Mb Mq q1.1 My ML Mg MF MW MI MA Mr Ma Mp Mf Mt Ml Mo Mn Mm q1.2.1 q1.2.2 Mv Mx Mz) (by decide +kernel) rfl rfl ?_
          refine G_goto C (off := 4) (tgt := 57) (by decide +kernel) rfl ?_
          refine G_r C [(.istore 10, 2, 0, 0, .null), (.iload 4, 2, 0, 0, .null), (.iload 10, 2, 0, 0, .null), (.iload 5, 2, 0, 0, .null), (.ineg, 1, 0, 0, .null)] 66 [(10, .int (-1 : Int32)), (8, .long q2), (0, .ref 0), (1, .int x1), (2, .int x2), (3, .int x3), (4, .int x4), (5, .int x5), (6, .int x6), (7, .int x7)] [.int (-x5), .int (-1 : Int32), .int x4] (wMo cy Ms Mb Mq q1.1 My ML Mg MF MW MI MA Mr Ma Mp Mf Mt Ml Mo Mn Mm q1.2.1 q1.2.2 Mv Mx Mz) (by decide +kernel) rfl rfl ?_
          refine G_icmp_ne C (off := 7) (tgt := 73) (by decide +kernel) rfl (fun c => ?_) (fun c => ?_)
          · rw [if_neg c] at h
            refine G_r C [(.iconst 0, 1, 0, 0, .int (0 : Int32)), (.iadd, 1, 0, 0, .null), (.istore 4, 2, 0, 0, .null), (.iload 10, 2, 0, 0, .null)] 79 [(4, .int (x4 + (0 : Int32))), (10, .int (-1 : Int32)), (8, .long q2), (0, .ref 0), (1, .int x1), (2, .int x2), (3, .int x3), (5, .int x5), (6, .int x6), (7, .int x7)] [.int (-1 : Int32)] (wMo cy Ms Mb Mq q1.1 My ML Mg MF MW MI MA Mr Ma Mp Mf Mt Ml Mo Mn Mm q1.2.1 q1.2.2 Mv Mx Mz) (by decide +kernel) rfl rfl ?_
            refine G_if_ne C (off := 8) (tgt := 87) (by decide +kernel) rfl (fun _ => ?_) (fun c => absurd c (by decide))
            refine G_r C [(.iload 10, 2, 0, 0, .null), (.istore 5, 2, 0, 0, .null), (.iload 10, 2, 0, 0, .null)] 93 [(5, .int (-1 : Int32)), (4, .int (x4 + (0 : Int32))), (10, .int (-1 : Int32)), (8, .long q2), (0, .ref 0), (1, .int x1), (2, .int x2), (3, .int x3), (6, .int x6), (7, .int x7)] [.int (-1 : Int32)] (wMo cy Ms Mb Mq q1.1 My ML Mg MF MW MI MA Mr Ma Mp Mf Mt Ml Mo Mn Mm q1.2.1 q1.2.2 Mv Mx Mz) (by decide +kernel) rfl rfl ?_
            refine G_if_ne C (off := 7) (tgt := 100) (by decide +kernel) rfl (fun _ => ?_) (fun c => absurd c (by decide))
            refine G_r C [(.iconst 0, 1, 0, 0, .int (0 : Int32)), (.istore 6, 2, 0, 0, .null), (.iinc 7 1, 3, 0, 0, .int (1 : Int32))] 106 [(7, .int (x7 + (1 : Int32))), (6, .int (0 : Int32)), (5, .int (-1 : Int32)), (4, .int (x4 + (0 : Int32))), (10, .int (-1 : Int32)), (8, .long q2), (0, .ref 0), (1, .int x1), (2, .int x2), (3, .int x3)] [] (wMo cy Ms Mb Mq q1.1 My ML Mg MF MW MI MA Mr Ma Mp Mf Mt Ml Mo Mn Mm q1.2.1 q1.2.2 Mv Mx Mz) (by decide +kernel) rfl rfl ?_
            refine G_goto C (off := -94) (tgt := 12) (by decide +kernel) rfl ?_
            refine G_lv [6, 7, 8, 9, 3, 2, 1, 0] (lv' := [(0, .ref 0), (1, .int x1), (2, .int x2), (3, .int x3), (4, .int (x4 + (0 : Int32))), (5, .int (-1 : Int32)), (6, .int (0 : Int32)), (7, .int (x7 + (1 : Int32)))]) rfl ?_
            exact ih x1 x2 x3 (x4 + (0 : Int32)) (-1 : Int32) (0 : Int32) (x7 + (1 : Int32)) Ms Mb Mq q1.1 My ML Mg MF MW MI MA Mr Ma Mp Mf Mt Ml Mo Mn Mm q1.2.1 q1.2.2 Mv Mx Mz res h hex
          · rw [if_pos c] at h
            refine G_r C [(.iconst 1, 1, 0, 0, .int (1 : Int32))] 70 [(10, .int (-1 : Int32)), (8, .long q2), (0, .ref 0), (1, .int x1), (2, .int x2), (3, .int x3), (4, .int x4), (5, .int x5), (6, .int x6), (7, .int x7)] [.int (1 : Int32), .int x4] (wMo cy Ms Mb Mq q1.1 My ML Mg MF MW MI MA Mr Ma Mp Mf Mt Ml Mo Mn Mm q1.2.1 q1.2.2 Mv Mx Mz) (by decide +kernel) rfl rfl ?_
            refine G_goto C (off := 4) (tgt := 74) (by decide +kernel) rfl ?_
            refine G_r C [(.iadd, 1, 0, 0, .null), (.istore 4, 2, 0, 0, .null), (.iload 10, 2, 0, 0, .null)] 79 [(4, .int (x4 + (1 : Int32))), (10, .int (-1 : Int32)), (8, .long q2), (0, .ref 0), (1, .int x1), (2, .int x2), (3, .int x3), (5, .int x5), (6, .int x6), (7, .int x7)] [.int (-1 : Int32)] (wMo cy Ms Mb Mq q1.1 My ML Mg MF MW MI MA Mr Ma Mp Mf Mt Ml Mo Mn Mm q1.2.1 q1.2.2 Mv Mx Mz) (by decide +kernel) rfl rfl ?_
            refine G_if_ne C (off := 8) (tgt := 87) (by decide +kernel) rfl (fun _ => ?_) (fun c => absurd c (by decide))
            refine G_r C [(.iload 10, 2, 0, 0, .null), (.istore 5, 2, 0, 0, .null), (.iload 10, 2, 0, 0, .null)] 93 [(5, .int (-1 : Int32)), (4, .int (x4 + (1 : Int32))), (10, .int (-1 : Int32)), (8, .long q2), (0, .ref 0), (1, .int x1), (2, .int x2), (3, .int x3), (6, .int x6), (7, .int x7)] [.int (-1 : Int32)] (wMo cy Ms Mb Mq q1.1 My ML Mg MF MW MI MA Mr Ma Mp Mf Mt Ml Mo Mn Mm q1.2.1 q1.2.2 Mv Mx Mz) (by decide +kernel) rfl rfl ?_
            refine G_if_ne C (off := 7) (tgt := 100) (by decide +kernel) rfl (fun _ => ?_) (fun c => absurd c (by decide))
            refine G_r C [(.iconst 0, 1, 0, 0, .int (0 : Int32)), (.istore 6, 2, 0, 0, .null), (.iinc 7 1, 3, 0, 0, .int (1 : Int32))] 106 [(7, .int (x7 + (1 : Int32))), (6, .int (0 : Int32)), (5, .int (-1 : Int32)), (4, .int (x4 + (1 : Int32))), (10, .int (-1 : Int32)), (8, .long q2), (0, .ref 0), (1, .int x1), (2, .int x2), (3, .int x3)] [] (wMo cy Ms Mb Mq q1.1 My ML Mg MF MW MI MA Mr Ma Mp Mf Mt Ml Mo Mn Mm q1.2.1 q1.2.2 Mv Mx Mz) (by decide +kernel) rfl rfl ?_
            refine G_goto C (off := -94) (tgt := 12) (by decide +kernel) rfl ?_
            refine G_lv [6, 7, 8, 9, 3, 2, 1, 0] (lv' := [(0, .ref 0), (1, .int x1), (2, .int x2), (3, .int x3), (4, .int (x4 + (1 : Int32))), (5, .int (-1 : Int32)), (6, .int (0 : Int32)), (7, .int (x7 + (1 : Int32)))]) rfl ?_
            exact ih x1 x2 x3 (x4 + (1 : Int32)) (-1 : Int32) (0 : Int32) (x7 + (1 : Int32)) Ms Mb Mq q1.1 My ML Mg MF MW MI MA Mr Ma Mp Mf Mt Ml Mo Mn Mm q1.2.1 q1.2.2 Mv Mx Mz res h hex
      · rw [if_neg c] at h
        refine G_r C [(.iconst 1, 1, 0, 0, .int (1 : Int32))] 42 [(8, .long q2), (0, .ref 0), (1, .int x1), (2, .int x2), (3, .int x3), (4, .int x4), (5, .int x5), (6, .int x6), (7, .int x7)] [.int (1 : Int32)] (wMo cy Ms Mb Mq q1.1 My ML Mg MF MW MI MA Mr Ma Mp Mf Mt Ml Mo Mn Mm q1.2.1 q1.2.2 Mv Mx Mz) (by decide +kernel) rfl rfl ?_
        refine G_goto C (off := 15) (tgt := 57) (by decide +kernel) rfl ?_
        refine G_r C [(.istore 10, 2, 0, 0, .null), (.iload 4, 2, 0, 0, .null), (.iload 10, 2, 0, 0, .null), (.iload 5, 2, 0, 0, .null), (.ineg, 1, 0, 0, .null)] 66 [(10, .int (1 : Int32)), (8, .long q2), (0, .ref 0), (1, .int x1), (2, .int x2), (3, .int x3), (4, .int x4), (5, .int x5), (6, .int x6), (7, .int x7)] [.int (-x5), .int (1 : Int32), .int x4] (wMo cy Ms Mb Mq q1.1 My ML Mg MF MW MI MA Mr Ma Mp Mf Mt Ml Mo Mn Mm q1.2.1 q1.2.2 Mv Mx Mz) (by decide +kernel) rfl rfl ?_
        refine G_icmp_ne C (off := 7) (tgt := 73) (by decide +kernel) rfl (fun c => ?_) (fun c => ?_)
        · rw [if_neg c] at h
          refine G_r C [(.iconst 0, 1, 0, 0, .int (0 : Int32)), (.iadd, 1, 0, 0, .null), (.istore 4, 2, 0, 0, .null), (.iload 10, 2, 0, 0, .null)] 79 [(4, .int (x4 + (0 : Int32))), (10, .int (1 : Int32)), (8, .long q2), (0, .ref 0), (1, .int x1), (2, .int x2), (3, .int x3), (5, .int x5), (6, .int x6), (7, .int x7)] [.int (1 : Int32)] (wMo cy Ms Mb Mq q1.1 My ML Mg MF MW MI MA Mr Ma Mp Mf Mt Ml Mo Mn Mm q1.2.1 q1.2.2 Mv Mx Mz) (by decide +kernel) rfl rfl ?_
          refine G_if_ne C (off := 8) (tgt := 87) (by decide +kernel) rfl (fun _ => ?_) (fun c => absurd c (by decide))
          refine G_r C [(.iload 10, 2, 0, 0, .null), (.istore 5, 2, 0, 0, .null), (.iload 10, 2, 0, 0, .null)] 93 [(5, .int (1 : Int32)), (4, .int (x4 + (0 : Int32))), (10, .int (1 : Int32)), (8, .long q2), (0, .ref 0), (1, .int x1), (2, .int x2), (3, .int x3), (6, .int x6), (7, .int x7)] [.int (1 : Int32)] (wMo cy Ms Mb Mq q1.1 My ML Mg MF MW MI MA Mr Ma Mp Mf Mt Ml Mo Mn Mm q1.2.1 q1.2.2 Mv Mx Mz) (by decide +kernel) rfl rfl ?_
          refine G_if_ne C (off := 7) (tgt := 100) (by decide +kernel) rfl (fun _ => ?_) (fun c => absurd c (by decide))
          refine G_r C [(.iconst 0, 1, 0, 0, .int (0 : Int32)), (.istore 6, 2, 0, 0, .null), (.iinc 7 1, 3, 0, 0, .int (1 : Int32))] 106 [(7, .int (x7 + (1 : Int32))), (6, .int (0 : Int32)), (5, .int (1 : Int32)), (4, .int (x4 + (0 : Int32))), (10, .int (1 : Int32)), (8, .long q2), (0, .ref 0), (1, .int x1), (2, .int x2), (3, .int x3)] [] (wMo cy Ms Mb Mq q1.1 My ML Mg MF MW MI MA Mr Ma Mp Mf Mt Ml Mo Mn Mm q1.2.1 q1.2.2 Mv Mx Mz) (by decide +kernel) rfl rfl ?_
          refine G_goto C (off := -94) (tgt := 12) (by decide +kernel) rfl ?_
          refine G_lv [6, 7, 8, 9, 3, 2, 1, 0] (lv' := [(0, .ref 0), (1, .int x1), (2, .int x2), (3, .int x3), (4, .int (x4 + (0 : Int32))), (5, .int (1 : Int32)), (6, .int (0 : Int32)), (7, .int (x7 + (1 : Int32)))]) rfl ?_
          exact ih x1 x2 x3 (x4 + (0 : Int32)) (1 : Int32) (0 : Int32) (x7 + (1 : Int32)) Ms Mb Mq q1.1 My ML Mg MF MW MI MA Mr Ma Mp Mf Mt Ml Mo Mn Mm q1.2.1 q1.2.2 Mv Mx Mz res h hex
        · rw [if_pos c] at h
          refine G_r C [(.iconst 1, 1, 0, 0, .int (1 : Int32))] 70 [(10, .int (1 : Int32)), (8, .long q2), (0, .ref 0), (1, .int x1), (2, .int x2), (3, .int x3), (4, .int x4), (5, .int x5), (6, .int x6), (7, .int x7)] [.int (1 : Int32), .int x4] (wMo cy Ms Mb Mq q1.1 My ML Mg MF MW MI MA Mr Ma Mp Mf Mt Ml Mo Mn Mm q1.2.1 q1.2.2 Mv Mx Mz) (by decide +kernel) rfl rfl ?_
          refine G_goto C (off := 4) (tgt := 74) (by decide +kernel) rfl ?_
          refine G_r C [(.iadd, 1, 0, 0, .null), (.istore 4, 2, 0, 0, .null), (.iload 10, 2, 0, 0, .null)] 79 [(4, .int (x4 + (1 : Int32))), (10, .int (1 : Int32)), (8, .long q2), (0, .ref 0), (1, .int x1), (2, .int x2), (3, .int x3), (5, .int x5), (6, .int x6), (7, .int x7)] [.int (1 : Int32)] (wMo cy Ms Mb Mq q1.1 My ML Mg MF MW MI MA Mr Ma Mp Mf Mt Ml Mo Mn Mm q1.2.1 q1.2.2 Mv Mx Mz) (by decide +kernel) rfl rfl ?_
          refine G_if_ne C (off := 8) (tgt := 87) (by decide +kernel) rfl (fun _ => ?_) (fun c => absurd c (by decide))
          refine G_r C [(.iload 10, 2, 0, 0, .null), (.istore 5, 2, 0, 0, .null), (.iload 10, 2, 0, 0, .null)] 93 [(5, .int (1 : Int32)), (4, .int (x4 + (1 : Int32))), (10, .int (1 : Int32)), (8, .long q2), (0, .ref 0), (1, .int x1), (2, .int x2), (3, .int x3), (6, .int x6), (7, .int x7)] [.int (1 : Int32)] (wMo cy Ms Mb Mq q1.1 My ML Mg MF MW MI MA Mr Ma Mp Mf Mt Ml Mo Mn Mm q1.2.1 q1.2.2 Mv Mx Mz) (by decide +kernel) rfl rfl ?_
          refine G_if_ne C (off := 7) (tgt := 100) (by decide +kernel) rfl (fun _ => ?_) (fun c => absurd c (by decide))
          refine G_r C [(.iconst 0, 1, 0, 0, .int (0 : Int32)), (.istore 6, 2, 0, 0, .null), (.iinc 7 1, 3, 0, 0, .int (1 : Int32))] 106 [(7, .int (x7 + (1 : Int32))), (6, .int (0 : Int32)), (5, .int (1 : Int32)), (4, .int (x4 + (1 : Int32))), (10, .int (1 : Int32)), (8, .long q2), (0, .ref 0), (1, .int x1), (2, .int x2), (3, .int x3)] [] (wMo cy Ms Mb Mq q1.1 My ML Mg MF MW MI MA Mr Ma Mp Mf Mt Ml Mo Mn Mm q1.2.1 q1.2.2 Mv Mx Mz) (by decide +kernel) rfl rfl ?_
          refine G_goto C (off := -94) (tgt := 12) (by decide +kernel) rfl ?_
          refine G_lv [6, 7, 8, 9, 3, 2, 1, 0] (lv' := [(0, .ref 0), (1, .int x1), (2, .int x2), (3, .int x3), (4, .int (x4 + (1 : Int32))), (5, .int (1 : Int32)), (6, .int (0 : Int32)), (7, .int (x7 + (1 : Int32)))]) rfl ?_
          exact ih x1 x2 x3 (x4 + (1 : Int32)) (1 : Int32) (0 : Int32) (x7 + (1 : Int32)) Ms Mb Mq q1.1 My ML Mg MF MW MI MA Mr Ma Mp Mf Mt Ml Mo Mn Mm q1.2.1 q1.2.2 Mv Mx Mz res h hex
set_option maxHeartbeats 4000000 in
set_option maxRecDepth 100000 in
theorem c_X7_belowSpot (cy : Nat → ClassId) (Ms : Int32) (Mb : Int32) (Mq : Int32) (MB : Int64) (My : Int32) (ML : Int32) (Mg : Int32) (MF : Int32) (MW : Bool) (MI : Bool) (MA : Int32) (Mr : Nat → Int32) (Ma : Nat → Int32) (Mp : Nat → Int32) (Mf : Nat → Int32) (Mt : Nat → Int32) (Ml : Nat → Int32) (Mo : Nat → Int32) (Mn : Nat → Int32) (Mm : Nat → Int64) (MT : Nat → Int64) (MP : Nat → Int64) (Mv : Nat → Int32) (Mx : Nat → Int64) (Mz : Nat → Int64) (x1 : Int32) (x2 : Int32) (x3 : Int32) (res : (Int32 × Int64 × (Nat → Int64) × (Nat → Int64))) (h : f_X7_belowSpot x1 x2 x3 MB Mr MT MP = some res) : MG cy yX7_belowSpot cX7_belowSpot 11 (some .int) 3 78 [.ref 0, .int x1, .int x2, .int x3] (wMo cy Ms Mb Mq MB My ML Mg MF MW MI MA Mr Ma Mp Mf Mt Ml Mo Mn Mm MT MP Mv Mx Mz) (some (.int res.1)) (wMo cy Ms Mb Mq res.2.1 My ML Mg MF MW MI MA Mr Ma Mp Mf Mt Ml Mo Mn Mm res.2.2.1 res.2.2.2 Mv Mx Mz) := by
  refine MG_of (o := 7) (lv := [(0, .ref 0), (1, .int x1), (2, .int x2), (3, .int x3)]) ⟨by decide +kernel, rfl⟩ (Nat.le_of_ble_eq_true rfl) rfl (fun k C hR => ?_)
  rw [f_X7_belowSpot] at h
  refine G_r C [(.iconst 0, 1, 0, 0, .int (0 : Int32)), (.istore 4, 2, 0, 0, .null), (.iconst 1, 1, 0, 0, .int (1 : Int32)), (.istore 5, 2, 0, 0, .null), (.iconst 0, 1, 0, 0, .int (0 : Int32)), (.istore 6, 2, 0, 0, .null), (.iconst 1, 1, 0, 0, .int (1 : Int32)), (.istore 7, 2, 0, 0, .null)] 12 [(7, .int (1 : Int32)), (6, .int (0 : Int32)), (5, .int (1 : Int32)), (4, .int (0 : Int32)), (0, .ref 0), (1, .int x1), (2, .int x2), (3, .int x3)] [] (wMo cy Ms Mb Mq MB My ML Mg MF MW MI MA Mr Ma Mp Mf Mt Ml Mo Mn Mm MT MP Mv Mx Mz) (by decide +kernel) rfl rfl ?_
  obtain ⟨q3, hq3, h⟩ := obd h
  refine G_lv [4, 5, 6, 7, 3, 2, 1, 0] (lv' := [(0, .ref 0), (1, .int x1), (2, .int x2), (3, .int x3), (4, .int (0 : Int32)), (5, .int (1 : Int32)), (6, .int (0 : Int32)), (7, .int (1 : Int32))]) rfl ?_
  refine g_X7_belowSpot_L12 C 200 x1 x2 x3 (0 : Int32) (1 : Int32) (0 : Int32) (1 : Int32) Ms Mb Mq MB My ML Mg MF MW MI MA Mr Ma Mp Mf Mt Ml Mo Mn Mm MT MP Mv Mx Mz q3 hq3 ?_
  refine G_r C [(.iload_n 1, 1, 0, 0, .null), (.iload 4, 2, 0, 0, .null), (.isub, 1, 0, 0, .null), (.iload 6, 2, 0, 0, .null)] 115 [(1, .int x1), (4, .int q3.1), (6, .int q3.2.1)] [.int q3.2.1, .int (x1 - q3.1)] (wMo cy Ms Mb Mq q3.2.2.1 My ML Mg MF MW MI MA Mr Ma Mp Mf Mt Ml Mo Mn Mm q3.2.2.2.1 q3.2.2.2.2 Mv Mx Mz) (by decide +kernel) rfl rfl ?_
  refine G_if_eq C (off := 7) (tgt := 122) (by decide +kernel) rfl (fun c => ?_) (fun c => ?_)
  · rw [if_pos c] at h
    refine G_r C [(.iconst 0, 1, 0, 0, .int (0 : Int32)), (.isub, 1, 0, 0, .null)] 124 [(1, .int x1), (4, .int q3.1), (6, .int q3.2.1)] [.int ((x1 - q3.1) - (0 : Int32))] (wMo cy Ms Mb Mq q3.2.2.1 My ML Mg MF MW MI MA Mr Ma Mp Mf Mt Ml Mo Mn Mm q3.2.2.2.1 q3.2.2.2.2 Mv Mx Mz) (by decide +kernel) rfl rfl ?_
    have h := Option.some.inj h
    subst h
    exact G_iret C hR (by decide +kernel)
  · rw [if_neg c] at h
    refine G_r C [(.iconst 1, 1, 0, 0, .int (1 : Int32))] 119 [(1, .int x1), (4, .int q3.1), (6, .int q3.2.1)] [.int (1 : Int32), .int (x1 - q3.1)] (wMo cy Ms Mb Mq q3.2.2.1 My ML Mg MF MW MI MA Mr Ma Mp Mf Mt Ml Mo Mn Mm q3.2.2.2.1 q3.2.2.2.2 Mv Mx Mz) (by decide +kernel) rfl rfl ?_
    refine G_goto C (off := 4) (tgt := 123) (by decide +kernel) rfl ?_
    refine G_r C [(.isub, 1, 0, 0, .null)] 124 [(1, .int x1), (4, .int q3.1), (6, .int q3.2.1)] [.int ((x1 - q3.1) - (1 : Int32))] (wMo cy Ms Mb Mq q3.2.2.1 My ML Mg MF MW MI MA Mr Ma Mp Mf Mt Ml Mo Mn Mm q3.2.2.2.1 q3.2.2.2.2 Mv Mx Mz) (by decide +kernel) rfl rfl ?_
    have h := Option.some.inj h
    subst h
    exact G_iret C hR (by decide +kernel)
def f_X7_under (x1 : Int32) (x2 : Int32) (x3 : Int32) (MB : Int64) (Mr : Nat → Int32) (Mf : Nat → Int32) (MT : Nat → Int64) (MP : Nat → Int64) : Option (Int32 × Int64 × (Nat → Int32) × (Nat → Int64) × (Nat → Int64)) := (f_X7_in x1.toInt64 (1 : Int64) (3 : Int64)).bind fun q1 => if (bI q1) = 0 then ((f_X7_bad Mf).bind fun q2 => some (q2.1, MB, q2.2, MT, MP)) else ((f_X7_isSpot x2 x3).bind fun q3 => if (bI q3) = 0 then ((f_X7_bad Mf).bind fun q7 => some (q7.1, MB, q7.2, MT, MP)) else ((f_X7_isPositive x1 Mr MT).bind fun q4 => if (bI q4.1) = 0 then ((f_X7_no Mf).bind fun q5 => some (q5.1, MB, q5.2, q4.2, MP)) else ((f_X7_belowSpot x1 x2 x3 MB Mr q4.2 MP).bind fun q6 => some (q6.1, q6.2.1, Mf, q6.2.2.1, q6.2.2.2))))
set_option maxHeartbeats 4000000 in
set_option maxRecDepth 100000 in
theorem c_X7_under (cy : Nat → ClassId) (Ms : Int32) (Mb : Int32) (Mq : Int32) (MB : Int64) (My : Int32) (ML : Int32) (Mg : Int32) (MF : Int32) (MW : Bool) (MI : Bool) (MA : Int32) (Mr : Nat → Int32) (Ma : Nat → Int32) (Mp : Nat → Int32) (Mf : Nat → Int32) (Mt : Nat → Int32) (Ml : Nat → Int32) (Mo : Nat → Int32) (Mn : Nat → Int32) (Mm : Nat → Int64) (MT : Nat → Int64) (MP : Nat → Int64) (Mv : Nat → Int32) (Mx : Nat → Int64) (Mz : Nat → Int64) (x1 : Int32) (x2 : Int32) (x3 : Int32) (res : (Int32 × Int64 × (Nat → Int32) × (Nat → Int64) × (Nat → Int64))) (h : f_X7_under x1 x2 x3 MB Mr Mf MT MP = some res) : MG cy yX7_under cX7_under 4 (some .int) 4 108 [.ref 0, .int x1, .int x2, .int x3] (wMo cy Ms Mb Mq MB My ML Mg MF MW MI MA Mr Ma Mp Mf Mt Ml Mo Mn Mm MT MP Mv Mx Mz) (some (.int res.1)) (wMo cy Ms Mb Mq res.2.1 My ML Mg MF MW MI MA Mr Ma Mp res.2.2.1 Mt Ml Mo Mn Mm res.2.2.2.1 res.2.2.2.2 Mv Mx Mz) := by
  refine MG_of (o := 7) (lv := [(0, .ref 0), (1, .int x1), (2, .int x2), (3, .int x3)]) ⟨by decide +kernel, rfl⟩ (Nat.le_of_ble_eq_true rfl) rfl (fun k C hR => ?_)
  rw [f_X7_under] at h
  refine G_r C [(.iload_n 1, 1, 0, 0, .null), (.i2l, 1, 0, 0, .null), (.lconst 1, 1, 0, 0, .long (1 : Int64))] 3 [(0, .ref 0), (1, .int x1), (2, .int x2), (3, .int x3)] [.long (1 : Int64), .long x1.toInt64] (wMo cy Ms Mb Mq MB My ML Mg MF MW MI MA Mr Ma Mp Mf Mt Ml Mo Mn Mm MT MP Mv Mx Mz) (by decide +kernel) rfl rfl ?_
  refine G_ldc2 C co_7_157 (by decide +kernel) ?_
  obtain ⟨q1, hq1, h⟩ := obd h
  refine G_cS C lk_7_64 ⟨Nat.le_of_ble_eq_true rfl, Nat.le_of_ble_eq_true rfl⟩ (by decide +kernel) [.int (bI q1)] (c_X7_in cy x1.toInt64 (1 : Int64) (3 : Int64) q1 hq1) rfl rfl (Nat.le_of_ble_eq_true rfl) rfl ?_
  refine G_if_eq C (off := 11) (tgt := 20) (by decide +kernel) rfl (fun c => ?_) (fun c => ?_)
  · rw [if_pos c] at h
    refine G_r C [(.aload_n 0, 1, 0, 0, .null)] 21 [(0, .ref 0), (1, .int x1), (2, .int x2), (3, .int x3)] [.ref 0] (wMo cy Ms Mb Mq MB My ML Mg MF MW MI MA Mr Ma Mp Mf Mt Ml Mo Mn Mm MT MP Mv Mx Mz) (by decide +kernel) rfl rfl ?_
    obtain ⟨q2, hq2, h⟩ := obd h
    refine G_c0 C lk_7_72 ⟨Nat.le_of_ble_eq_true rfl, Nat.le_of_ble_eq_true rfl⟩ (by decide +kernel) [.int q2.1] (c_X7_bad cy Ms Mb Mq MB My ML Mg MF MW MI MA Mr Ma Mp Mf Mt Ml Mo Mn Mm MT MP Mv Mx Mz q2 hq2) rfl rfl (Nat.le_of_ble_eq_true rfl) ⟨rfl, rfl⟩ rfl ?_
    have h := Option.some.inj h
    subst h
    exact G_iret C hR (by decide +kernel)
  · rw [if_neg c] at h
    refine G_r C [(.iload_n 2, 1, 0, 0, .null), (.iload_n 3, 1, 0, 0, .null)] 14 [(0, .ref 0), (1, .int x1), (2, .int x2), (3, .int x3)] [.int x3, .int x2] (wMo cy Ms Mb Mq MB My ML Mg MF MW MI MA Mr Ma Mp Mf Mt Ml Mo Mn Mm MT MP Mv Mx Mz) (by decide +kernel) rfl rfl ?_
    obtain ⟨q3, hq3, h⟩ := obd h
    refine G_cS C lk_7_184 ⟨Nat.le_of_ble_eq_true rfl, Nat.le_of_ble_eq_true rfl⟩ (by decide +kernel) [.int (bI q3)] (c_X7_isSpot cy x2 x3 q3 hq3) rfl rfl (Nat.le_of_ble_eq_true rfl) rfl ?_
    refine G_if_ne C (off := 8) (tgt := 25) (by decide +kernel) rfl (fun c => ?_) (fun c => ?_)
    · rw [if_neg c] at h
      refine G_r C [(.aload_n 0, 1, 0, 0, .null), (.iload_n 1, 1, 0, 0, .null)] 27 [(0, .ref 0), (1, .int x1), (2, .int x2), (3, .int x3)] [.int x1, .ref 0] (wMo cy Ms Mb Mq MB My ML Mg MF MW MI MA Mr Ma Mp Mf Mt Ml Mo Mn Mm MT MP Mv Mx Mz) (by decide +kernel) rfl rfl ?_
      obtain ⟨q4, hq4, h⟩ := obd h
      refine G_c0 C lk_7_191 ⟨Nat.le_of_ble_eq_true rfl, Nat.le_of_ble_eq_true rfl⟩ (by decide +kernel) [.int (bI q4.1)] (c_X7_isPositive cy Ms Mb Mq MB My ML Mg MF MW MI MA Mr Ma Mp Mf Mt Ml Mo Mn Mm MT MP Mv Mx Mz x1 q4 hq4) rfl rfl (Nat.le_of_ble_eq_true rfl) ⟨rfl, rfl⟩ rfl ?_
      refine G_if_eq C (off := 13) (tgt := 43) (by decide +kernel) rfl (fun c => ?_) (fun c => ?_)
      · rw [if_pos c] at h
        refine G_r C [(.aload_n 0, 1, 0, 0, .null)] 44 [(0, .ref 0), (1, .int x1), (2, .int x2), (3, .int x3)] [.ref 0] (wMo cy Ms Mb Mq MB My ML Mg MF MW MI MA Mr Ma Mp Mf Mt Ml Mo Mn Mm q4.2 MP Mv Mx Mz) (by decide +kernel) rfl rfl ?_
        obtain ⟨q5, hq5, h⟩ := obd h
        refine G_c0 C lk_7_87 ⟨Nat.le_of_ble_eq_true rfl, Nat.le_of_ble_eq_true rfl⟩ (by decide +kernel) [.int q5.1] (c_X7_no cy Ms Mb Mq MB My ML Mg MF MW MI MA Mr Ma Mp Mf Mt Ml Mo Mn Mm q4.2 MP Mv Mx Mz q5 hq5) rfl rfl (Nat.le_of_ble_eq_true rfl) ⟨rfl, rfl⟩ rfl ?_
        have h := Option.some.inj h
        subst h
        exact G_iret C hR (by decide +kernel)
      · rw [if_neg c] at h
        refine G_r C [(.aload_n 0, 1, 0, 0, .null), (.iload_n 1, 1, 0, 0, .null), (.iload_n 2, 1, 0, 0, .null), (.iload_n 3, 1, 0, 0, .null)] 37 [(0, .ref 0), (1, .int x1), (2, .int x2), (3, .int x3)] [.int x3, .int x2, .int x1, .ref 0] (wMo cy Ms Mb Mq MB My ML Mg MF MW MI MA Mr Ma Mp Mf Mt Ml Mo Mn Mm q4.2 MP Mv Mx Mz) (by decide +kernel) rfl rfl ?_
        obtain ⟨q6, hq6, h⟩ := obd h
        refine G_c0 C lk_7_194 ⟨Nat.le_of_ble_eq_true rfl, Nat.le_of_ble_eq_true rfl⟩ (by decide +kernel) [.int q6.1] (c_X7_belowSpot cy Ms Mb Mq MB My ML Mg MF MW MI MA Mr Ma Mp Mf Mt Ml Mo Mn Mm q4.2 MP Mv Mx Mz x1 x2 x3 q6 hq6) rfl rfl (Nat.le_of_ble_eq_true rfl) ⟨rfl, rfl⟩ rfl ?_
        refine G_goto C (off := 7) (tgt := 47) (by decide +kernel) rfl ?_
        have h := Option.some.inj h
        subst h
        exact G_iret C hR (by decide +kernel)
    · rw [if_pos c] at h
      refine G_r C [(.aload_n 0, 1, 0, 0, .null)] 21 [(0, .ref 0), (1, .int x1), (2, .int x2), (3, .int x3)] [.ref 0] (wMo cy Ms Mb Mq MB My ML Mg MF MW MI MA Mr Ma Mp Mf Mt Ml Mo Mn Mm MT MP Mv Mx Mz) (by decide +kernel) rfl rfl ?_
      obtain ⟨q7, hq7, h⟩ := obd h
      refine G_c0 C lk_7_72 ⟨Nat.le_of_ble_eq_true rfl, Nat.le_of_ble_eq_true rfl⟩ (by decide +kernel) [.int q7.1] (c_X7_bad cy Ms Mb Mq MB My ML Mg MF MW MI MA Mr Ma Mp Mf Mt Ml Mo Mn Mm MT MP Mv Mx Mz q7 hq7) rfl rfl (Nat.le_of_ble_eq_true rfl) ⟨rfl, rfl⟩ rfl ?_
      have h := Option.some.inj h
      subst h
      exact G_iret C hR (by decide +kernel)
def f_X7_zero_L94 : Nat → Int32 → Int32 → Int32 → Int32 → Int32 → Int64 → (Nat → Int32) → (Nat → Int64) → (Nat → Int64) → Option (Int32 × Int64 × (Nat → Int64) × (Nat → Int64))
  | 0, _, _, _, _, _, _, _, _, _ => none
  | fu + 1, x1, x2, x3, x4, x5, MB, Mr, MT, MP => if (x5 - x4) ≤ (1 : Int32) then (some (x4, MB, MT, MP)) else (if (2 : Int32) = 0 then none else (f_X7_belowSpot x1 (x4 + ((x5 - x4) / (2 : Int32))) x3 MB Mr MT MP).bind fun q9 => if x2 < q9.1 then (f_X7_zero_L94 fu x1 x2 x3 x4 (x4 + ((x5 - x4) / (2 : Int32))) q9.2.1 Mr q9.2.2.1 q9.2.2.2) else (f_X7_zero_L94 fu x1 x2 x3 (x4 + ((x5 - x4) / (2 : Int32))) x5 q9.2.1 Mr q9.2.2.1 q9.2.2.2))
def f_X7_zero (x1 : Int32) (x2 : Int32) (x3 : Int32) (MB : Int64) (Mr : Nat → Int32) (Mf : Nat → Int32) (MT : Nat → Int64) (MP : Nat → Int64) : Option (Int32 × Int64 × (Nat → Int32) × (Nat → Int64) × (Nat → Int64)) := (f_X7_in x1.toInt64 (1 : Int64) (3 : Int64)).bind fun q1 => if (bI q1) = 0 then ((f_X7_bad Mf).bind fun q2 => some (q2.1, MB, q2.2, MT, MP)) else ((f_X7_in x2.toInt64 (0 : Int64) ((x1 - (1 : Int32)).toInt64)).bind fun q3 => if (bI q3) = 0 then ((f_X7_bad Mf).bind fun q4 => some (q4.1, MB, q4.2, MT, MP)) else ((f_X7_in x3.toInt64 (1 : Int64) (9 : Int64)).bind fun q5 => if (bI q5) = 0 then ((f_X7_bad Mf).bind fun q12 => some (q12.1, MB, q12.2, MT, MP)) else ((f_X7_isPositive x1 Mr MT).bind fun q6 => if (bI q6.1) = 0 then ((f_X7_no Mf).bind fun q11 => some (q11.1, MB, q11.2, q6.2, MP)) else ((f_X7_belowSpot x1 ((-99 : Int32) * x3) x3 MB Mr q6.2 MP).bind fun q7 => if x2 < q7.1 then (some ((-1000000 : Int32), q7.2.1, Mf, q7.2.2.1, q7.2.2.2)) else ((f_X7_belowSpot x1 ((99 : Int32) * x3) x3 q7.2.1 Mr q7.2.2.1 q7.2.2.2).bind fun q8 => if x2 < q8.1 then ((f_X7_zero_L94 200 x1 x2 x3 ((-99 : Int32) * x3) ((99 : Int32) * x3) q8.2.1 Mr q8.2.2.1 q8.2.2.2).bind fun q10 => some (q10.1, q10.2.1, Mf, q10.2.2.1, q10.2.2.2)) else (some ((-1000000 : Int32), q8.2.1, Mf, q8.2.2.1, q8.2.2.2)))))))
set_option maxHeartbeats 4000000 in
set_option maxRecDepth 100000 in
theorem g_X7_zero_L94 {k : KX} {cy : Nat → ClassId} (C : OK k cX7_zero 7 7 cy 4 108) : ∀ (fu : Nat) (x1 : Int32) (x2 : Int32) (x3 : Int32) (x4 : Int32) (x5 : Int32) (Ms : Int32) (Mb : Int32) (Mq : Int32) (MB : Int64) (My : Int32) (ML : Int32) (Mg : Int32) (MF : Int32) (MW : Bool) (MI : Bool) (MA : Int32) (Mr : Nat → Int32) (Ma : Nat → Int32) (Mp : Nat → Int32) (Mf : Nat → Int32) (Mt : Nat → Int32) (Ml : Nat → Int32) (Mo : Nat → Int32) (Mn : Nat → Int32) (Mm : Nat → Int64) (MT : Nat → Int64) (MP : Nat → Int64) (Mv : Nat → Int32) (Mx : Nat → Int64) (Mz : Nat → Int64) (res : (Int32 × Int64 × (Nat → Int64) × (Nat → Int64))), (f_X7_zero_L94 fu x1 x2 x3 x4 x5 MB Mr MT MP = some res) → G k 7 141 [(4, .int res.1)] [] (wMo cy Ms Mb Mq res.2.1 My ML Mg MF MW MI MA Mr Ma Mp Mf Mt Ml Mo Mn Mm res.2.2.1 res.2.2.2 Mv Mx Mz) → G k 7 94 [(0, .ref 0), (1, .int x1), (2, .int x2), (3, .int x3), (4, .int x4), (5, .int x5)] [] (wMo cy Ms Mb Mq MB My ML Mg MF MW MI MA Mr Ma Mp Mf Mt Ml Mo Mn Mm MT MP Mv Mx Mz) := by
  intro fu
  induction fu with
  | zero =>
    intro x1 x2 x3 x4 x5 Ms Mb Mq MB My ML Mg MF MW MI MA Mr Ma Mp Mf Mt Ml Mo Mn Mm MT MP Mv Mx Mz res h hex
    rw [f_X7_zero_L94] at h
    cases h
  | succ fu ih =>
    intro x1 x2 x3 x4 x5 Ms Mb Mq MB My ML Mg MF MW MI MA Mr Ma Mp Mf Mt Ml Mo Mn Mm MT MP Mv Mx Mz res h hex
    rw [f_X7_zero_L94] at h
    refine G_r C [(.iload 5, 2, 0, 0, .null), (.iload 4, 2, 0, 0, .null), (.isub, 1, 0, 0, .null), (.iconst 1, 1, 0, 0, .int (1 : Int32))] 100 [(0, .ref 0), (1, .int x1), (2, .int x2), (3, .int x3), (4, .int x4), (5, .int x5)] [.int (1 : Int32), .int (x5 - x4)] (wMo cy Ms Mb Mq MB My ML Mg MF MW MI MA Mr Ma Mp Mf Mt Ml Mo Mn Mm MT MP Mv Mx Mz) (by decide +kernel) rfl rfl ?_
    refine G_icmp_le C (off := 41) (tgt := 141) (by decide +kernel) rfl (fun c => ?_) (fun c => ?_)
    · rw [if_pos c] at h
      have h := Option.some.inj h
      subst h
      refine G_lv [4] (lv' := [(4, .int x4)]) rfl ?_
      exact hex
    · rw [if_neg c] at h
      refine G_r C [(.iload 4, 2, 0, 0, .null), (.iload 5, 2, 0, 0, .null), (.iload 4, 2, 0, 0, .null), (.isub, 1, 0, 0, .null), (.iconst 2, 1, 0, 0, .int (2 : Int32))] 111 [(0, .ref 0), (1, .int x1), (2, .int x2), (3, .int x3), (4, .int x4), (5, .int x5)] [.int (2 : Int32), .int (x5 - x4), .int x4] (wMo cy Ms Mb Mq MB My ML Mg MF MW MI MA Mr Ma Mp Mf Mt Ml Mo Mn Mm MT MP Mv Mx Mz) (by decide +kernel) rfl rfl ?_
      obtain ⟨cg, h⟩ := oob h
      refine G_idiv C (by decide +kernel) cg ?_
      refine G_r C [(.iadd, 1, 0, 0, .null), (.istore 6, 2, 0, 0, .null), (.aload_n 0, 1, 0, 0, .null), (.iload_n 1, 1, 0, 0, .null), (.iload 6, 2, 0, 0, .null), (.iload_n 3, 1, 0, 0, .null)] 120 [(6, .int (x4 + ((x5 - x4) / (2 : Int32)))), (0, .ref 0), (1, .int x1), (2, .int x2), (3, .int x3), (4, .int x4), (5, .int x5)] [.int x3, .int (x4 + ((x5 - x4) / (2 : Int32))), .int x1, .ref 0] (wMo cy Ms Mb Mq MB My ML Mg MF MW MI MA Mr Ma Mp Mf Mt Ml Mo Mn Mm MT MP Mv Mx Mz) (by decide +kernel) rfl rfl ?_
      obtain ⟨q9, hq9, h⟩ := obd h
      refine G_c0 C lk_7_194 ⟨Nat.le_of_ble_eq_true rfl, Nat.le_of_ble_eq_true rfl⟩ (by decide +kernel) [.int q9.1] (c_X7_belowSpot cy Ms Mb Mq MB My ML Mg MF MW MI MA Mr Ma Mp Mf Mt Ml Mo Mn Mm MT MP Mv Mx Mz x1 (x4 + ((x5 - x4) / (2 : Int32))) x3 q9 hq9) rfl rfl (Nat.le_of_ble_eq_true rfl) ⟨rfl, rfl⟩ rfl ?_
      refine G_r C [(.iload_n 2, 1, 0, 0, .null)] 124 [(6, .int (x4 + ((x5 - x4) / (2 : Int32)))), (0, .ref 0), (1, .int x1), (2, .int x2), (3, .int x3), (4, .int x4), (5, .int x5)] [.int x2, .int q9.1] (wMo cy Ms Mb Mq q9.2.1 My ML Mg MF MW MI MA Mr Ma Mp Mf Mt Ml Mo Mn Mm q9.2.2.1 q9.2.2.2 Mv Mx Mz) (by decide +kernel) rfl rfl ?_
      refine G_icmp_gt C (off := 10) (tgt := 134) (by decide +kernel) rfl (fun c => ?_) (fun c => ?_)
      · rw [if_pos c] at h
        refine G_r C [(.iload 6, 2, 0, 0, .null), (.istore 5, 2, 0, 0, .null)] 138 [(5, .int (x4 + ((x5 - x4) / (2 : Int32)))), (6, .int (x4 + ((x5 - x4) / (2 : Int32)))), (0, .ref 0), (1, .int x1), (2, .int x2), (3, .int x3), (4, .int x4)] [] (wMo cy Ms Mb Mq q9.2.1 My ML Mg MF MW MI MA Mr Ma Mp Mf Mt Ml Mo Mn Mm q9.2.2.1 q9.2.2.2 Mv Mx Mz) (by decide +kernel) rfl rfl ?_
        refine G_goto C (off := -44) (tgt := 94) (by decide +kernel) rfl ?_
        refine G_lv [2, 3, 4, 5, 6, 0] (lv' := [(0, .ref 0), (1, .int x1), (2, .int x2), (3, .int x3), (4, .int x4), (5, .int (x4 + ((x5 - x4) / (2 : Int32))))]) rfl ?_
        exact ih x1 x2 x3 x4 (x4 + ((x5 - x4) / (2 : Int32))) Ms Mb Mq q9.2.1 My ML Mg MF MW MI MA Mr Ma Mp Mf Mt Ml Mo Mn Mm q9.2.2.1 q9.2.2.2 Mv Mx Mz res h hex
      · rw [if_neg c] at h
        refine G_r C [(.iload 6, 2, 0, 0, .null), (.istore 4, 2, 0, 0, .null)] 131 [(4, .int (x4 + ((x5 - x4) / (2 : Int32)))), (6, .int (x4 + ((x5 - x4) / (2 : Int32)))), (0, .ref 0), (1, .int x1), (2, .int x2), (3, .int x3), (5, .int x5)] [] (wMo cy Ms Mb Mq q9.2.1 My ML Mg MF MW MI MA Mr Ma Mp Mf Mt Ml Mo Mn Mm q9.2.2.1 q9.2.2.2 Mv Mx Mz) (by decide +kernel) rfl rfl ?_
        refine G_goto C (off := 7) (tgt := 138) (by decide +kernel) rfl ?_
        refine G_goto C (off := -44) (tgt := 94) (by decide +kernel) rfl ?_
        refine G_lv [2, 3, 4, 5, 0, 6] (lv' := [(0, .ref 0), (1, .int x1), (2, .int x2), (3, .int x3), (4, .int (x4 + ((x5 - x4) / (2 : Int32)))), (5, .int x5)]) rfl ?_
        exact ih x1 x2 x3 (x4 + ((x5 - x4) / (2 : Int32))) x5 Ms Mb Mq q9.2.1 My ML Mg MF MW MI MA Mr Ma Mp Mf Mt Ml Mo Mn Mm q9.2.2.1 q9.2.2.2 Mv Mx Mz res h hex
set_option maxHeartbeats 4000000 in
set_option maxRecDepth 100000 in
theorem c_X7_zero (cy : Nat → ClassId) (Ms : Int32) (Mb : Int32) (Mq : Int32) (MB : Int64) (My : Int32) (ML : Int32) (Mg : Int32) (MF : Int32) (MW : Bool) (MI : Bool) (MA : Int32) (Mr : Nat → Int32) (Ma : Nat → Int32) (Mp : Nat → Int32) (Mf : Nat → Int32) (Mt : Nat → Int32) (Ml : Nat → Int32) (Mo : Nat → Int32) (Mn : Nat → Int32) (Mm : Nat → Int64) (MT : Nat → Int64) (MP : Nat → Int64) (Mv : Nat → Int32) (Mx : Nat → Int64) (Mz : Nat → Int64) (x1 : Int32) (x2 : Int32) (x3 : Int32) (res : (Int32 × Int64 × (Nat → Int32) × (Nat → Int64) × (Nat → Int64))) (h : f_X7_zero x1 x2 x3 MB Mr Mf MT MP = some res) : MG cy yX7_zero cX7_zero 7 (some .int) 4 108 [.ref 0, .int x1, .int x2, .int x3] (wMo cy Ms Mb Mq MB My ML Mg MF MW MI MA Mr Ma Mp Mf Mt Ml Mo Mn Mm MT MP Mv Mx Mz) (some (.int res.1)) (wMo cy Ms Mb Mq res.2.1 My ML Mg MF MW MI MA Mr Ma Mp res.2.2.1 Mt Ml Mo Mn Mm res.2.2.2.1 res.2.2.2.2 Mv Mx Mz) := by
  refine MG_of (o := 7) (lv := [(0, .ref 0), (1, .int x1), (2, .int x2), (3, .int x3)]) ⟨by decide +kernel, rfl⟩ (Nat.le_of_ble_eq_true rfl) rfl (fun k C hR => ?_)
  rw [f_X7_zero] at h
  refine G_r C [(.iload_n 1, 1, 0, 0, .null), (.i2l, 1, 0, 0, .null), (.lconst 1, 1, 0, 0, .long (1 : Int64))] 3 [(0, .ref 0), (1, .int x1), (2, .int x2), (3, .int x3)] [.long (1 : Int64), .long x1.toInt64] (wMo cy Ms Mb Mq MB My ML Mg MF MW MI MA Mr Ma Mp Mf Mt Ml Mo Mn Mm MT MP Mv Mx Mz) (by decide +kernel) rfl rfl ?_
  refine G_ldc2 C co_7_157 (by decide +kernel) ?_
  obtain ⟨q1, hq1, h⟩ := obd h
  refine G_cS C lk_7_64 ⟨Nat.le_of_ble_eq_true rfl, Nat.le_of_ble_eq_true rfl⟩ (by decide +kernel) [.int (bI q1)] (c_X7_in cy x1.toInt64 (1 : Int64) (3 : Int64) q1 hq1) rfl rfl (Nat.le_of_ble_eq_true rfl) rfl ?_
  refine G_if_eq C (off := 28) (tgt := 37) (by decide +kernel) rfl (fun c => ?_) (fun c => ?_)
  · rw [if_pos c] at h
    refine G_r C [(.aload_n 0, 1, 0, 0, .null)] 38 [(0, .ref 0), (1, .int x1), (2, .int x2), (3, .int x3)] [.ref 0] (wMo cy Ms Mb Mq MB My ML Mg MF MW MI MA Mr Ma Mp Mf Mt Ml Mo Mn Mm MT MP Mv Mx Mz) (by decide +kernel) rfl rfl ?_
    obtain ⟨q2, hq2, h⟩ := obd h
    refine G_c0 C lk_7_72 ⟨Nat.le_of_ble_eq_true rfl, Nat.le_of_ble_eq_true rfl⟩ (by decide +kernel) [.int q2.1] (c_X7_bad cy Ms Mb Mq MB My ML Mg MF MW MI MA Mr Ma Mp Mf Mt Ml Mo Mn Mm MT MP Mv Mx Mz q2 hq2) rfl rfl (Nat.le_of_ble_eq_true rfl) ⟨rfl, rfl⟩ rfl ?_
    have h := Option.some.inj h
    subst h
    exact G_iret C hR (by decide +kernel)
  · rw [if_neg c] at h
    refine G_r C [(.iload_n 2, 1, 0, 0, .null), (.i2l, 1, 0, 0, .null), (.lconst 0, 1, 0, 0, .long (0 : Int64)), (.iload_n 1, 1, 0, 0, .null), (.iconst 1, 1, 0, 0, .int (1 : Int32)), (.isub, 1, 0, 0, .null), (.i2l, 1, 0, 0, .null)] 19 [(0, .ref 0), (1, .int x1), (2, .int x2), (3, .int x3)] [.long ((x1 - (1 : Int32)).toInt64), .long (0 : Int64), .long x2.toInt64] (wMo cy Ms Mb Mq MB My ML Mg MF MW MI MA Mr Ma Mp Mf Mt Ml Mo Mn Mm MT MP Mv Mx Mz) (by decide +kernel) rfl rfl ?_
    obtain ⟨q3, hq3, h⟩ := obd h
    refine G_cS C lk_7_64 ⟨Nat.le_of_ble_eq_true rfl, Nat.le_of_ble_eq_true rfl⟩ (by decide +kernel) [.int (bI q3)] (c_X7_in cy x2.toInt64 (0 : Int64) ((x1 - (1 : Int32)).toInt64) q3 hq3) rfl rfl (Nat.le_of_ble_eq_true rfl) rfl ?_
    refine G_if_eq C (off := 15) (tgt := 37) (by decide +kernel) rfl (fun c => ?_) (fun c => ?_)
    · rw [if_pos c] at h
      refine G_r C [(.aload_n 0, 1, 0, 0, .null)] 38 [(0, .ref 0), (1, .int x1), (2, .int x2), (3, .int x3)] [.ref 0] (wMo cy Ms Mb Mq MB My ML Mg MF MW MI MA Mr Ma Mp Mf Mt Ml Mo Mn Mm MT MP Mv Mx Mz) (by decide +kernel) rfl rfl ?_
      obtain ⟨q4, hq4, h⟩ := obd h
      refine G_c0 C lk_7_72 ⟨Nat.le_of_ble_eq_true rfl, Nat.le_of_ble_eq_true rfl⟩ (by decide +kernel) [.int q4.1] (c_X7_bad cy Ms Mb Mq MB My ML Mg MF MW MI MA Mr Ma Mp Mf Mt Ml Mo Mn Mm MT MP Mv Mx Mz q4 hq4) rfl rfl (Nat.le_of_ble_eq_true rfl) ⟨rfl, rfl⟩ rfl ?_
      have h := Option.some.inj h
      subst h
      exact G_iret C hR (by decide +kernel)
    · rw [if_neg c] at h
      refine G_r C [(.iload_n 3, 1, 0, 0, .null), (.i2l, 1, 0, 0, .null), (.lconst 1, 1, 0, 0, .long (1 : Int64))] 28 [(0, .ref 0), (1, .int x1), (2, .int x2), (3, .int x3)] [.long (1 : Int64), .long x3.toInt64] (wMo cy Ms Mb Mq MB My ML Mg MF MW MI MA Mr Ma Mp Mf Mt Ml Mo Mn Mm MT MP Mv Mx Mz) (by decide +kernel) rfl rfl ?_
      refine G_ldc2 C co_7_107 (by decide +kernel) ?_
      obtain ⟨q5, hq5, h⟩ := obd h
      refine G_cS C lk_7_64 ⟨Nat.le_of_ble_eq_true rfl, Nat.le_of_ble_eq_true rfl⟩ (by decide +kernel) [.int (bI q5)] (c_X7_in cy x3.toInt64 (1 : Int64) (9 : Int64) q5 hq5) rfl rfl (Nat.le_of_ble_eq_true rfl) rfl ?_
      refine G_if_ne C (off := 8) (tgt := 42) (by decide +kernel) rfl (fun c => ?_) (fun c => ?_)
      · rw [if_neg c] at h
        refine G_r C [(.aload_n 0, 1, 0, 0, .null), (.iload_n 1, 1, 0, 0, .null)] 44 [(0, .ref 0), (1, .int x1), (2, .int x2), (3, .int x3)] [.int x1, .ref 0] (wMo cy Ms Mb Mq MB My ML Mg MF MW MI MA Mr Ma Mp Mf Mt Ml Mo Mn Mm MT MP Mv Mx Mz) (by decide +kernel) rfl rfl ?_
        obtain ⟨q6, hq6, h⟩ := obd h
        refine G_c0 C lk_7_191 ⟨Nat.le_of_ble_eq_true rfl, Nat.le_of_ble_eq_true rfl⟩ (by decide +kernel) [.int (bI q6.1)] (c_X7_isPositive cy Ms Mb Mq MB My ML Mg MF MW MI MA Mr Ma Mp Mf Mt Ml Mo Mn Mm MT MP Mv Mx Mz x1 q6 hq6) rfl rfl (Nat.le_of_ble_eq_true rfl) ⟨rfl, rfl⟩ rfl ?_
        refine G_if_ne C (off := 8) (tgt := 55) (by decide +kernel) rfl (fun c => ?_) (fun c => ?_)
        · rw [if_neg c] at h
          refine G_r C [(.bipush (-99), 2, 0, 0, .int (-99 : Int32)), (.iload_n 3, 1, 0, 0, .null), (.imul, 1, 0, 0, .null), (.istore 4, 2, 0, 0, .null), (.bipush 99, 2, 0, 0, .int (99 : Int32)), (.iload_n 3, 1, 0, 0, .null), (.imul, 1, 0, 0, .null), (.istore 5, 2, 0, 0, .null), (.aload_n 0, 1, 0, 0, .null), (.iload_n 1, 1, 0, 0, .null), (.iload 4, 2, 0, 0, .null), (.iload_n 3, 1, 0, 0, .null)] 72 [(5, .int ((99 : Int32) * x3)), (4, .int ((-99 : Int32) * x3)), (0, .ref 0), (1, .int x1), (2, .int x2), (3, .int x3)] [.int x3, .int ((-99 : Int32) * x3), .int x1, .ref 0] (wMo cy Ms Mb Mq MB My ML Mg MF MW MI MA Mr Ma Mp Mf Mt Ml Mo Mn Mm q6.2 MP Mv Mx Mz) (by decide +kernel) rfl rfl ?_
          obtain ⟨q7, hq7, h⟩ := obd h
          refine G_c0 C lk_7_194 ⟨Nat.le_of_ble_eq_true rfl, Nat.le_of_ble_eq_true rfl⟩ (by decide +kernel) [.int q7.1] (c_X7_belowSpot cy Ms Mb Mq MB My ML Mg MF MW MI MA Mr Ma Mp Mf Mt Ml Mo Mn Mm q6.2 MP Mv Mx Mz x1 ((-99 : Int32) * x3) x3 q7 hq7) rfl rfl (Nat.le_of_ble_eq_true rfl) ⟨rfl, rfl⟩ rfl ?_
          refine G_r C [(.iload_n 2, 1, 0, 0, .null)] 76 [(5, .int ((99 : Int32) * x3)), (4, .int ((-99 : Int32) * x3)), (0, .ref 0), (1, .int x1), (2, .int x2), (3, .int x3)] [.int x2, .int q7.1] (wMo cy Ms Mb Mq q7.2.1 My ML Mg MF MW MI MA Mr Ma Mp Mf Mt Ml Mo Mn Mm q7.2.2.1 q7.2.2.2 Mv Mx Mz) (by decide +kernel) rfl rfl ?_
          refine G_icmp_gt C (off := 15) (tgt := 91) (by decide +kernel) rfl (fun c => ?_) (fun c => ?_)
          · rw [if_pos c] at h
            refine G_ldc C co_7_177 (by decide +kernel) ?_
            have h := Option.some.inj h
            subst h
            exact G_iret C hR (by decide +kernel)
          · rw [if_neg c] at h
            refine G_r C [(.aload_n 0, 1, 0, 0, .null), (.iload_n 1, 1, 0, 0, .null), (.iload 5, 2, 0, 0, .null), (.iload_n 3, 1, 0, 0, .null)] 84 [(5, .int ((99 : Int32) * x3)), (4, .int ((-99 : Int32) * x3)), (0, .ref 0), (1, .int x1), (2, .int x2), (3, .int x3)] [.int x3, .int ((99 : Int32) * x3), .int x1, .ref 0] (wMo cy Ms Mb Mq q7.2.1 My ML Mg MF MW MI MA Mr Ma Mp Mf Mt Ml Mo Mn Mm q7.2.2.1 q7.2.2.2 Mv Mx Mz) (by decide +kernel) rfl rfl ?_
            obtain ⟨q8, hq8, h⟩ := obd h
            refine G_c0 C lk_7_194 ⟨Nat.le_of_ble_eq_true rfl, Nat.le_of_ble_eq_true rfl⟩ (by decide +kernel) [.int q8.1] (c_X7_belowSpot cy Ms Mb Mq q7.2.1 My ML Mg MF MW MI MA Mr Ma Mp Mf Mt Ml Mo Mn Mm q7.2.2.1 q7.2.2.2 Mv Mx Mz x1 ((99 : Int32) * x3) x3 q8 hq8) rfl rfl (Nat.le_of_ble_eq_true rfl) ⟨rfl, rfl⟩ rfl ?_
            refine G_r C [(.iload_n 2, 1, 0, 0, .null)] 88 [(5, .int ((99 : Int32) * x3)), (4, .int ((-99 : Int32) * x3)), (0, .ref 0), (1, .int x1), (2, .int x2), (3, .int x3)] [.int x2, .int q8.1] (wMo cy Ms Mb Mq q8.2.1 My ML Mg MF MW MI MA Mr Ma Mp Mf Mt Ml Mo Mn Mm q8.2.2.1 q8.2.2.2 Mv Mx Mz) (by decide +kernel) rfl rfl ?_
            refine G_icmp_gt C (off := 6) (tgt := 94) (by decide +kernel) rfl (fun c => ?_) (fun c => ?_)
            · rw [if_pos c] at h
              obtain ⟨q10, hq10, h⟩ := obd h
              refine G_lv [2, 3, 4, 5, 1, 0] (lv' := [(0, .ref 0), (1, .int x1), (2, .int x2), (3, .int x3), (4, .int ((-99 : Int32) * x3)), (5, .int ((99 : Int32) * x3))]) rfl ?_
              refine g_X7_zero_L94 C 200 x1 x2 x3 ((-99 : Int32) * x3) ((99 : Int32) * x3) Ms Mb Mq q8.2.1 My ML Mg MF MW MI MA Mr Ma Mp Mf Mt Ml Mo Mn Mm q8.2.2.1 q8.2.2.2 Mv Mx Mz q10 hq10 ?_
              refine G_r C [(.iload 4, 2, 0, 0, .null)] 143 [(4, .int q10.1)] [.int q10.1] (wMo cy Ms Mb Mq q10.2.1 My ML Mg MF MW MI MA Mr Ma Mp Mf Mt Ml Mo Mn Mm q10.2.2.1 q10.2.2.2 Mv Mx Mz) (by decide +kernel) rfl rfl ?_
              have h := Option.some.inj h
              subst h
              exact G_iret C hR (by decide +kernel)
            · rw [if_neg c] at h
              refine G_ldc C co_7_177 (by decide +kernel) ?_
              have h := Option.some.inj h
              subst h
              exact G_iret C hR (by decide +kernel)
        · rw [if_pos c] at h
          refine G_r C [(.aload_n 0, 1, 0, 0, .null)] 51 [(0, .ref 0), (1, .int x1), (2, .int x2), (3, .int x3)] [.ref 0] (wMo cy Ms Mb Mq MB My ML Mg MF MW MI MA Mr Ma Mp Mf Mt Ml Mo Mn Mm q6.2 MP Mv Mx Mz) (by decide +kernel) rfl rfl ?_
          obtain ⟨q11, hq11, h⟩ := obd h
          refine G_c0 C lk_7_87 ⟨Nat.le_of_ble_eq_true rfl, Nat.le_of_ble_eq_true rfl⟩ (by decide +kernel) [.int q11.1] (c_X7_no cy Ms Mb Mq MB My ML Mg MF MW MI MA Mr Ma Mp Mf Mt Ml Mo Mn Mm q6.2 MP Mv Mx Mz q11 hq11) rfl rfl (Nat.le_of_ble_eq_true rfl) ⟨rfl, rfl⟩ rfl ?_
          have h := Option.some.inj h
          subst h
          exact G_iret C hR (by decide +kernel)
      · rw [if_pos c] at h
        refine G_r C [(.aload_n 0, 1, 0, 0, .null)] 38 [(0, .ref 0), (1, .int x1), (2, .int x2), (3, .int x3)] [.ref 0] (wMo cy Ms Mb Mq MB My ML Mg MF MW MI MA Mr Ma Mp Mf Mt Ml Mo Mn Mm MT MP Mv Mx Mz) (by decide +kernel) rfl rfl ?_
        obtain ⟨q12, hq12, h⟩ := obd h
        refine G_c0 C lk_7_72 ⟨Nat.le_of_ble_eq_true rfl, Nat.le_of_ble_eq_true rfl⟩ (by decide +kernel) [.int q12.1] (c_X7_bad cy Ms Mb Mq MB My ML Mg MF MW MI MA Mr Ma Mp Mf Mt Ml Mo Mn Mm MT MP Mv Mx Mz q12 hq12) rfl rfl (Nat.le_of_ble_eq_true rfl) ⟨rfl, rfl⟩ rfl ?_
        have h := Option.some.inj h
        subst h
        exact G_iret C hR (by decide +kernel)
def f_X7_size_L4 : Nat → Int32 → Int32 → Int32 → Option Int32
  | 0, _, _, _ => none
  | fu + 1, x0, x1, x2 => if (19 : Int32) ≤ x2 then (some x1) else (f_X7_size_L4 fu x0 (x1 + ((x0 >>> (x2 &&& 31)) &&& (1 : Int32))) (x2 + (1 : Int32)))
def f_X7_size (x0 : Int32) : Option Int32 := (f_X7_size_L4 200 x0 (0 : Int32) (0 : Int32)).bind fun q1 => some q1
set_option maxHeartbeats 4000000 in
set_option maxRecDepth 100000 in
theorem g_X7_size_L4 {k : KX} {cy : Nat → ClassId} (C : OK k cX7_size 7 3 cy 0 0) : ∀ (fu : Nat) (x0 : Int32) (x1 : Int32) (x2 : Int32) (res : Int32), (f_X7_size_L4 fu x0 x1 x2 = some res) → G k 3 24 [(1, .int res)] [] [] → G k 3 4 [(0, .int x0), (1, .int x1), (2, .int x2)] [] [] := by
  intro fu
  induction fu with
  | zero =>
    intro x0 x1 x2 res h hex
    rw [f_X7_size_L4] at h
    cases h
  | succ fu ih =>
    intro x0 x1 x2 res h hex
    rw [f_X7_size_L4] at h
    refine G_r C [(.iload_n 2, 1, 0, 0, .null), (.bipush 19, 2, 0, 0, .int (19 : Int32))] 7 [(0, .int x0), (1, .int x1), (2, .int x2)] [.int (19 : Int32), .int x2] [] (by decide +kernel) rfl rfl ?_
    refine G_icmp_ge C (off := 17) (tgt := 24) (by decide +kernel) rfl (fun c => ?_) (fun c => ?_)
    · rw [if_pos c] at h
      have h := Option.some.inj h
      subst h
      refine G_lv [1] (lv' := [(1, .int x1)]) rfl ?_
      exact hex
    · rw [if_neg c] at h
      refine G_r C [(.iload_n 1, 1, 0, 0, .null), (.iload_n 0, 1, 0, 0, .null), (.iload_n 2, 1, 0, 0, .null), (.ishr, 1, 0, 0, .null), (.iconst 1, 1, 0, 0, .int (1 : Int32)), (.iand, 1, 0, 0, .null), (.iadd, 1, 0, 0, .null), (.istore_n 1, 1, 0, 0, .null), (.iinc 2 1, 3, 0, 0, .int (1 : Int32))] 21 [(2, .int (x2 + (1 : Int32))), (1, .int (x1 + ((x0 >>> (x2 &&& 31)) &&& (1 : Int32)))), (0, .int x0)] [] [] (by decide +kernel) rfl rfl ?_
      refine G_goto C (off := -17) (tgt := 4) (by decide +kernel) rfl ?_
      refine G_lv [2, 1, 0] (lv' := [(0, .int x0), (1, .int (x1 + ((x0 >>> (x2 &&& 31)) &&& (1 : Int32)))), (2, .int (x2 + (1 : Int32)))]) rfl ?_
      exact ih x0 (x1 + ((x0 >>> (x2 &&& 31)) &&& (1 : Int32))) (x2 + (1 : Int32))  res h hex
set_option maxHeartbeats 4000000 in
set_option maxRecDepth 100000 in
theorem c_X7_size (cy : Nat → ClassId)  (x0 : Int32) (res : Int32) (h : f_X7_size x0 = some res) : MG cy yX7_size cX7_size 3 (some .int) 0 0 [.int x0] [] (some (.int res)) [] := by
  refine MG_of (o := 7) (lv := [(0, .int x0)]) ⟨by decide +kernel, rfl⟩ (Nat.le_of_ble_eq_true rfl) rfl (fun k C hR => ?_)
  rw [f_X7_size] at h
  refine G_r C [(.iconst 0, 1, 0, 0, .int (0 : Int32)), (.istore_n 1, 1, 0, 0, .null), (.iconst 0, 1, 0, 0, .int (0 : Int32)), (.istore_n 2, 1, 0, 0, .null)] 4 [(2, .int (0 : Int32)), (1, .int (0 : Int32)), (0, .int x0)] [] [] (by decide +kernel) rfl rfl ?_
  obtain ⟨q1, hq1, h⟩ := obd h
  refine G_lv [2, 1, 0] (lv' := [(0, .int x0), (1, .int (0 : Int32)), (2, .int (0 : Int32))]) rfl ?_
  refine g_X7_size_L4 C 200 x0 (0 : Int32) (0 : Int32)  q1 hq1 ?_
  refine G_r C [(.iload_n 1, 1, 0, 0, .null)] 25 [(1, .int q1)] [.int q1] [] (by decide +kernel) rfl rfl ?_
  have h := Option.some.inj h
  subst h
  exact G_iret C hR (by decide +kernel)
def f_X7_isSet (x0 : Int32) : Option Bool := (f_X7_in x0.toInt64 (1 : Int64) (524287 : Int64)).bind fun q1 => if (bI q1) = 0 then (some false) else ((f_X7_size x0).bind fun q2 => if (7 : Int32) < q2 then (some false) else (some true))
set_option maxHeartbeats 4000000 in
set_option maxRecDepth 100000 in
theorem c_X7_isSet (cy : Nat → ClassId)  (x0 : Int32) (res : Bool) (h : f_X7_isSet x0 = some res) : MG cy yX7_isSet cX7_isSet 1 (some .boolean) 1 25 [.int x0] [] (some (.int (bI res))) [] := by
  refine MG_of (o := 7) (lv := [(0, .int x0)]) ⟨by decide +kernel, rfl⟩ (Nat.le_of_ble_eq_true rfl) rfl (fun k C hR => ?_)
  rw [f_X7_isSet] at h
  refine G_r C [(.iload_n 0, 1, 0, 0, .null), (.i2l, 1, 0, 0, .null), (.lconst 1, 1, 0, 0, .long (1 : Int64))] 3 [(0, .int x0)] [.long (1 : Int64), .long x0.toInt64] [] (by decide +kernel) rfl rfl ?_
  refine G_ldc2 C co_7_198 (by decide +kernel) ?_
  obtain ⟨q1, hq1, h⟩ := obd h
  refine G_cS C lk_7_64 ⟨Nat.le_of_ble_eq_true rfl, Nat.le_of_ble_eq_true rfl⟩ (by decide +kernel) [.int (bI q1)] (c_X7_in cy x0.toInt64 (1 : Int64) (524287 : Int64) q1 hq1) rfl rfl (Nat.le_of_ble_eq_true rfl) rfl ?_
  refine G_if_eq C (off := 16) (tgt := 25) (by decide +kernel) rfl (fun c => ?_) (fun c => ?_)
  · rw [if_pos c] at h
    refine G_r C [(.iconst 0, 1, 0, 0, .int (0 : Int32))] 26 [(0, .int x0)] [.int (0 : Int32)] [] (by decide +kernel) rfl rfl ?_
    have h := Option.some.inj h
    subst h
    exact G_zret C (v := false) hR (by decide +kernel)
  · rw [if_neg c] at h
    refine G_r C [(.iload_n 0, 1, 0, 0, .null)] 13 [(0, .int x0)] [.int x0] [] (by decide +kernel) rfl rfl ?_
    obtain ⟨q2, hq2, h⟩ := obd h
    refine G_cS C lk_7_200 ⟨Nat.le_of_ble_eq_true rfl, Nat.le_of_ble_eq_true rfl⟩ (by decide +kernel) [.int q2] (c_X7_size cy x0 q2 hq2) rfl rfl (Nat.le_of_ble_eq_true rfl) rfl ?_
    refine G_r C [(.bipush 7, 2, 0, 0, .int (7 : Int32))] 18 [(0, .int x0)] [.int (7 : Int32), .int q2] [] (by decide +kernel) rfl rfl ?_
    refine G_icmp_gt C (off := 7) (tgt := 25) (by decide +kernel) rfl (fun c => ?_) (fun c => ?_)
    · rw [if_pos c] at h
      refine G_r C [(.iconst 0, 1, 0, 0, .int (0 : Int32))] 26 [(0, .int x0)] [.int (0 : Int32)] [] (by decide +kernel) rfl rfl ?_
      have h := Option.some.inj h
      subst h
      exact G_zret C (v := false) hR (by decide +kernel)
    · rw [if_neg c] at h
      refine G_r C [(.iconst 1, 1, 0, 0, .int (1 : Int32))] 22 [(0, .int x0)] [.int (1 : Int32)] [] (by decide +kernel) rfl rfl ?_
      refine G_goto C (off := 4) (tgt := 26) (by decide +kernel) rfl ?_
      have h := Option.some.inj h
      subst h
      exact G_zret C (v := true) hR (by decide +kernel)
