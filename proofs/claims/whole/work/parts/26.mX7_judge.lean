def f_X7_judge_L156 : Nat → Int32 → Int64 → Int32 → (Nat → Int32) → (Nat → Int64) → (Nat → Int32) → Option (Nat → Int32)
  | 0, _, _, _, _, _, _ => none
  | fu + 1, x1, x2, x4, Mr, MP, Mv => if x4 ≤ x1 then (some Mv) else (if x2 = (0 : Int64) then ((f_X7_meanWith x1 x4 Mr MP).bind fun q3 => if q3 = (0 : Int64) then (f_X7_judge_L156 fu x1 x2 (x4 + (-1 : Int32)) Mr MP Mv) else (if (0 : Int32) < 0 ∨ 4 ≤ (0 : Int32).toNatClampNeg then none else if (2 : Int32) < 0 ∨ 4 ≤ (2 : Int32).toNatClampNeg then none else if (3 : Int32) < 0 ∨ 4 ≤ (3 : Int32).toNatClampNeg then none else f_X7_judge_L156 fu x1 x2 (x4 + (-1 : Int32)) Mr MP (upd (upd (upd Mv (0 : Int32).toNatClampNeg (0 : Int32)) (2 : Int32).toNatClampNeg (1 : Int32)) (3 : Int32).toNatClampNeg x4))) else (some Mv))
def f_X7_judge_L30 : Nat → Int64 → (Nat → Int32) → (Nat → Int64) → (Nat → Int64) → (Nat → Int32) → Option (Int64 × (Nat → Int64) × (Nat → Int64) × (Nat → Int32))
  | 0, _, _, _, _, _ => none
  | fu + 1, MB, Mr, MT, MP, Mv => if (0 : Int32) < 0 ∨ 4 ≤ (0 : Int32).toNatClampNeg then none else if (Mv (0 : Int32).toNatClampNeg) = (2 : Int32) then (if (1 : Int32) < 0 ∨ 4 ≤ (1 : Int32).toNatClampNeg then none else if (3 : Int32) < (Mv (1 : Int32).toNatClampNeg) then (some (MB, MT, MP, Mv)) else (if (7 : Int32) < 0 ∨ 8 ≤ (7 : Int32).toNatClampNeg then none else if (1 : Int32) < 0 ∨ 4 ≤ (1 : Int32).toNatClampNeg then none else if (Mr (7 : Int32).toNatClampNeg) ≤ ((2 : Int32) * (Mv (1 : Int32).toNatClampNeg)) then (some (MB, MT, MP, Mv)) else (if (1 : Int32) < 0 ∨ 4 ≤ (1 : Int32).toNatClampNeg then none else (f_X7_detOf (0 : Int32) ((Mv (1 : Int32).toNatClampNeg) + (1 : Int32)) Mr MT).bind fun q1 => if q1.1 ≤ (0 : Int64) then (if (0 : Int64) ≤ q1.1 then (if (0 : Int32) < 0 ∨ 4 ≤ (0 : Int32).toNatClampNeg then none else if (0 : Int64) ≤ q1.1 then (if (2 : Int32) < 0 ∨ 4 ≤ (2 : Int32).toNatClampNeg then none else (f_X7_makePoly (Mv (1 : Int32).toNatClampNeg) Mr q1.2 MP).bind fun q2 => if (7 : Int32) < 0 ∨ 8 ≤ (7 : Int32).toNatClampNeg then none else (f_X7_judge_L156 200 (Mv (1 : Int32).toNatClampNeg) q1.1 (((Mr (7 : Int32).toNatClampNeg) - (1 : Int32)) - (Mv (1 : Int32).toNatClampNeg)) Mr q2.2.2 (upd (upd Mv (0 : Int32).toNatClampNeg (1 : Int32)) (2 : Int32).toNatClampNeg (-1000000 : Int32))).bind fun q4 => f_X7_judge_L30 fu q2.1 Mr q2.2.1 q2.2.2 q4) else (if (2 : Int32) < 0 ∨ 4 ≤ (2 : Int32).toNatClampNeg then none else (f_X7_makePoly (Mv (1 : Int32).toNatClampNeg) Mr q1.2 MP).bind fun q5 => if (7 : Int32) < 0 ∨ 8 ≤ (7 : Int32).toNatClampNeg then none else (f_X7_judge_L156 200 (Mv (1 : Int32).toNatClampNeg) q1.1 (((Mr (7 : Int32).toNatClampNeg) - (1 : Int32)) - (Mv (1 : Int32).toNatClampNeg)) Mr q5.2.2 (upd (upd Mv (0 : Int32).toNatClampNeg (1 : Int32)) (2 : Int32).toNatClampNeg (0 : Int32))).bind fun q6 => f_X7_judge_L30 fu q5.1 Mr q5.2.1 q5.2.2 q6)) else (if (0 : Int32) < 0 ∨ 4 ≤ (0 : Int32).toNatClampNeg then none else if (0 : Int64) ≤ q1.1 then (if (2 : Int32) < 0 ∨ 4 ≤ (2 : Int32).toNatClampNeg then none else (f_X7_makePoly (Mv (1 : Int32).toNatClampNeg) Mr q1.2 MP).bind fun q7 => if (7 : Int32) < 0 ∨ 8 ≤ (7 : Int32).toNatClampNeg then none else (f_X7_judge_L156 200 (Mv (1 : Int32).toNatClampNeg) q1.1 (((Mr (7 : Int32).toNatClampNeg) - (1 : Int32)) - (Mv (1 : Int32).toNatClampNeg)) Mr q7.2.2 (upd (upd Mv (0 : Int32).toNatClampNeg (0 : Int32)) (2 : Int32).toNatClampNeg (-1000000 : Int32))).bind fun q8 => f_X7_judge_L30 fu q7.1 Mr q7.2.1 q7.2.2 q8) else (if (2 : Int32) < 0 ∨ 4 ≤ (2 : Int32).toNatClampNeg then none else (f_X7_makePoly (Mv (1 : Int32).toNatClampNeg) Mr q1.2 MP).bind fun q9 => if (7 : Int32) < 0 ∨ 8 ≤ (7 : Int32).toNatClampNeg then none else (f_X7_judge_L156 200 (Mv (1 : Int32).toNatClampNeg) q1.1 (((Mr (7 : Int32).toNatClampNeg) - (1 : Int32)) - (Mv (1 : Int32).toNatClampNeg)) Mr q9.2.2 (upd (upd Mv (0 : Int32).toNatClampNeg (0 : Int32)) (2 : Int32).toNatClampNeg (0 : Int32))).bind fun q10 => f_X7_judge_L30 fu q9.1 Mr q9.2.1 q9.2.2 q10))) else (if (1 : Int32) < 0 ∨ 4 ≤ (1 : Int32).toNatClampNeg then none else if (1 : Int32) < 0 ∨ 4 ≤ (1 : Int32).toNatClampNeg then none else f_X7_judge_L30 fu MB Mr q1.2 MP (upd Mv (1 : Int32).toNatClampNeg ((Mv (1 : Int32).toNatClampNeg) + (1 : Int32))))))) else (some (MB, MT, MP, Mv))
def f_X7_judge (MB : Int64) (Mr : Nat → Int32) (MT : Nat → Int64) (MP : Nat → Int64) (Mv : Nat → Int32) : Option (Int64 × (Nat → Int64) × (Nat → Int64) × (Nat → Int32)) := if (0 : Int32) < 0 ∨ 4 ≤ (0 : Int32).toNatClampNeg then none else if (1 : Int32) < 0 ∨ 4 ≤ (1 : Int32).toNatClampNeg then none else if (2 : Int32) < 0 ∨ 4 ≤ (2 : Int32).toNatClampNeg then none else if (3 : Int32) < 0 ∨ 4 ≤ (3 : Int32).toNatClampNeg then none else (f_X7_judge_L30 200 MB Mr MT MP (upd (upd (upd (upd Mv (0 : Int32).toNatClampNeg (2 : Int32)) (1 : Int32).toNatClampNeg (0 : Int32)) (2 : Int32).toNatClampNeg (-1000000 : Int32)) (3 : Int32).toNatClampNeg (-1000000 : Int32))).bind fun q11 => some (q11.1, q11.2.1, q11.2.2.1, q11.2.2.2)
set_option maxHeartbeats 4000000 in
set_option maxRecDepth 100000 in
theorem g_X7_judge_L156 {k : KX} {cy : Nat → ClassId} (C : OK k cX7_judge 7 5 cy 3 78) : ∀ (fu : Nat) (x1 : Int32) (x2 : Int64) (x4 : Int32) (Ms : Int32) (Mb : Int32) (Mq : Int32) (MB : Int64) (My : Int32) (ML : Int32) (Mg : Int32) (MF : Int32) (MW : Bool) (MI : Bool) (MA : Int32) (Mr : Nat → Int32) (Ma : Nat → Int32) (Mp : Nat → Int32) (Mf : Nat → Int32) (Mt : Nat → Int32) (Ml : Nat → Int32) (Mo : Nat → Int32) (Mn : Nat → Int32) (Mm : Nat → Int64) (MT : Nat → Int64) (MP : Nat → Int64) (Mv : Nat → Int32) (Mx : Nat → Int64) (Mz : Nat → Int64) (res : (Nat → Int32)), (f_X7_judge_L156 fu x1 x2 x4 Mr MP Mv = some res) → G k 5 208 [(0, .ref 0)] [] (wMo cy Ms Mb Mq MB My ML Mg MF MW MI MA Mr Ma Mp Mf Mt Ml Mo Mn Mm MT MP res Mx Mz) → G k 5 156 [(0, .ref 0), (1, .int x1), (2, .long x2), (4, .int x4)] [] (wMo cy Ms Mb Mq MB My ML Mg MF MW MI MA Mr Ma Mp Mf Mt Ml Mo Mn Mm MT MP Mv Mx Mz) := by
  intro fu
  induction fu with
  | zero =>
    intro x1 x2 x4 Ms Mb Mq MB My ML Mg MF MW MI MA Mr Ma Mp Mf Mt Ml Mo Mn Mm MT MP Mv Mx Mz res h hex
    rw [f_X7_judge_L156] at h
    cases h
  | succ fu ih =>
    intro x1 x2 x4 Ms Mb Mq MB My ML Mg MF MW MI MA Mr Ma Mp Mf Mt Ml Mo Mn Mm MT MP Mv Mx Mz res h hex
    rw [f_X7_judge_L156] at h
    refine G_r C [(.iload 4, 2, 0, 0, .null), (.iload_n 1, 1, 0, 0, .null)] 159 [(0, .ref 0), (1, .int x1), (2, .long x2), (4, .int x4)] [.int x1, .int x4] (wMo cy Ms Mb Mq MB My ML Mg MF MW MI MA Mr Ma Mp Mf Mt Ml Mo Mn Mm MT MP Mv Mx Mz) (by decide +kernel) rfl rfl ?_
    refine G_icmp_le C (off := 49) (tgt := 208) (by decide +kernel) rfl (fun c => ?_) (fun c => ?_)
    · rw [if_pos c] at h
      have h := Option.some.inj h
      subst h
      refine G_lv [0] (lv' := [(0, .ref 0)]) rfl ?_
      exact hex
    · rw [if_neg c] at h
      refine G_r C [(.lload_n 2, 1, 0, 0, .null), (.lconst 0, 1, 0, 0, .long (0 : Int64))] 164 [(0, .ref 0), (1, .int x1), (2, .long x2), (4, .int x4)] [.long (0 : Int64), .long x2] (wMo cy Ms Mb Mq MB My ML Mg MF MW MI MA Mr Ma Mp Mf Mt Ml Mo Mn Mm MT MP Mv Mx Mz) (by decide +kernel) rfl rfl ?_
      refine G_lcmp_ne C (off := 43) (tgt := 208) (by decide +kernel) (by decide +kernel) rfl (fun c => ?_) (fun c => ?_)
      · rw [if_neg c] at h
        have h := Option.some.inj h
        subst h
        refine G_lv [0] (lv' := [(0, .ref 0)]) rfl ?_
        exact hex
      · rw [if_pos c] at h
        refine G_r C [(.aload_n 0, 1, 0, 0, .null), (.iload_n 1, 1, 0, 0, .null), (.iload 4, 2, 0, 0, .null)] 172 [(0, .ref 0), (1, .int x1), (2, .long x2), (4, .int x4)] [.int x4, .int x1, .ref 0] (wMo cy Ms Mb Mq MB My ML Mg MF MW MI MA Mr Ma Mp Mf Mt Ml Mo Mn Mm MT MP Mv Mx Mz) (by decide +kernel) rfl rfl ?_
        obtain ⟨q3, hq3, h⟩ := obd h
        refine G_c0 C lk_7_178 ⟨Nat.le_of_ble_eq_true rfl, Nat.le_of_ble_eq_true rfl⟩ (by decide +kernel) [.long q3] (c_X7_meanWith cy Ms Mb Mq MB My ML Mg MF MW MI MA Mr Ma Mp Mf Mt Ml Mo Mn Mm MT MP Mv Mx Mz x1 x4 q3 hq3) rfl rfl (Nat.le_of_ble_eq_true rfl) ⟨rfl, rfl⟩ rfl ?_
        refine G_r C [(.lconst 0, 1, 0, 0, .long (0 : Int64))] 176 [(0, .ref 0), (1, .int x1), (2, .long x2), (4, .int x4)] [.long (0 : Int64), .long q3] (wMo cy Ms Mb Mq MB My ML Mg MF MW MI MA Mr Ma Mp Mf Mt Ml Mo Mn Mm MT MP Mv Mx Mz) (by decide +kernel) rfl rfl ?_
        refine G_lcmp_eq C (off := 25) (tgt := 202) (by decide +kernel) (by decide +kernel) rfl (fun c => ?_) (fun c => ?_)
        · rw [if_pos c] at h
          refine G_r C [(.iinc 4 (-1), 3, 0, 0, .int (-1 : Int32))] 205 [(4, .int (x4 + (-1 : Int32))), (0, .ref 0), (1, .int x1), (2, .long x2)] [] (wMo cy Ms Mb Mq MB My ML Mg MF MW MI MA Mr Ma Mp Mf Mt Ml Mo Mn Mm MT MP Mv Mx Mz) (by decide +kernel) rfl rfl ?_
          refine G_goto C (off := -49) (tgt := 156) (by decide +kernel) rfl ?_
          refine G_lv [1, 2, 3, 0] (lv' := [(0, .ref 0), (1, .int x1), (2, .long x2), (4, .int (x4 + (-1 : Int32)))]) rfl ?_
          exact ih x1 x2 (x4 + (-1 : Int32)) Ms Mb Mq MB My ML Mg MF MW MI MA Mr Ma Mp Mf Mt Ml Mo Mn Mm MT MP Mv Mx Mz res h hex
        · rw [if_neg c] at h
          refine G_r C [(.aload_n 0, 1, 0, 0, .null), (.getfield 44, 3, 7, 15, .null), (.iconst 0, 1, 0, 0, .int (0 : Int32)), (.iconst 0, 1, 0, 0, .int (0 : Int32))] 186 [(0, .ref 0), (1, .int x1), (2, .long x2), (4, .int x4)] [.int (0 : Int32), .int (0 : Int32), .ref 12] (wMo cy Ms Mb Mq MB My ML Mg MF MW MI MA Mr Ma Mp Mf Mt Ml Mo Mn Mm MT MP Mv Mx Mz) (by decide +kernel) rfl rfl ?_
          obtain ⟨cg, h⟩ := oob h
          refine G_iast C (a := 12) (w' := (wMo cy Ms Mb Mq MB My ML Mg MF MW MI MA Mr Ma Mp Mf Mt Ml Mo Mn Mm MT MP (upd Mv (0 : Int32).toNatClampNeg (0 : Int32)) Mx Mz)) rfl cg (by decide +kernel) rfl ?_
          refine G_r C [(.aload_n 0, 1, 0, 0, .null), (.getfield 44, 3, 7, 15, .null), (.iconst 2, 1, 0, 0, .int (2 : Int32)), (.iconst 1, 1, 0, 0, .int (1 : Int32))] 193 [(0, .ref 0), (1, .int x1), (2, .long x2), (4, .int x4)] [.int (1 : Int32), .int (2 : Int32), .ref 12] (wMo cy Ms Mb Mq MB My ML Mg MF MW MI MA Mr Ma Mp Mf Mt Ml Mo Mn Mm MT MP (upd Mv (0 : Int32).toNatClampNeg (0 : Int32)) Mx Mz) (by decide +kernel) rfl rfl ?_
          obtain ⟨cg, h⟩ := oob h
          refine G_iast C (a := 12) (w' := (wMo cy Ms Mb Mq MB My ML Mg MF MW MI MA Mr Ma Mp Mf Mt Ml Mo Mn Mm MT MP (upd (upd Mv (0 : Int32).toNatClampNeg (0 : Int32)) (2 : Int32).toNatClampNeg (1 : Int32)) Mx Mz)) rfl cg (by decide +kernel) rfl ?_
          refine G_r C [(.aload_n 0, 1, 0, 0, .null), (.getfield 44, 3, 7, 15, .null), (.iconst 3, 1, 0, 0, .int (3 : Int32)), (.iload 4, 2, 0, 0, .null)] 201 [(0, .ref 0), (1, .int x1), (2, .long x2), (4, .int x4)] [.int x4, .int (3 : Int32), .ref 12] (wMo cy Ms Mb Mq MB My ML Mg MF MW MI MA Mr Ma Mp Mf Mt Ml Mo Mn Mm MT MP (upd (upd Mv (0 : Int32).toNatClampNeg (0 : Int32)) (2 : Int32).toNatClampNeg (1 : Int32)) Mx Mz) (by decide +kernel) rfl rfl ?_
          obtain ⟨cg, h⟩ := oob h
          refine G_iast C (a := 12) (w' := (wMo cy Ms Mb Mq MB My ML Mg MF MW MI MA Mr Ma Mp Mf Mt Ml Mo Mn Mm MT MP (upd (upd (upd Mv (0 : Int32).toNatClampNeg (0 : Int32)) (2 : Int32).toNatClampNeg (1 : Int32)) (3 : Int32).toNatClampNeg x4) Mx Mz)) rfl cg (by decide +kernel) rfl ?_
          refine G_r C [(.iinc 4 (-1), 3, 0, 0, .int (-1 : Int32))] 205 [(4, .int (x4 + (-1 : Int32))), (0, .ref 0), (1, .int x1), (2, .long x2)] [] (wMo cy Ms Mb Mq MB My ML Mg MF MW MI MA Mr Ma Mp Mf Mt Ml Mo Mn Mm MT MP (upd (upd (upd Mv (0 : Int32).toNatClampNeg (0 : Int32)) (2 : Int32).toNatClampNeg (1 : Int32)) (3 : Int32).toNatClampNeg x4) Mx Mz) (by decide +kernel) rfl rfl ?_
          refine G_goto C (off := -49) (tgt := 156) (by decide +kernel) rfl ?_
          refine G_lv [1, 2, 3, 0] (lv' := [(0, .ref 0), (1, .int x1), (2, .long x2), (4, .int (x4 + (-1 : Int32)))]) rfl ?_
          exact ih x1 x2 (x4 + (-1 : Int32)) Ms Mb Mq MB My ML Mg MF MW MI MA Mr Ma Mp Mf Mt Ml Mo Mn Mm MT MP (upd (upd (upd Mv (0 : Int32).toNatClampNeg (0 : Int32)) (2 : Int32).toNatClampNeg (1 : Int32)) (3 : Int32).toNatClampNeg x4) Mx Mz res h hex
set_option maxHeartbeats 4000000 in
set_option maxRecDepth 100000 in
theorem g_X7_judge_L30 {k : KX} {cy : Nat → ClassId} (C : OK k cX7_judge 7 5 cy 3 78) : ∀ (fu : Nat) (Ms : Int32) (Mb : Int32) (Mq : Int32) (MB : Int64) (My : Int32) (ML : Int32) (Mg : Int32) (MF : Int32) (MW : Bool) (MI : Bool) (MA : Int32) (Mr : Nat → Int32) (Ma : Nat → Int32) (Mp : Nat → Int32) (Mf : Nat → Int32) (Mt : Nat → Int32) (Ml : Nat → Int32) (Mo : Nat → Int32) (Mn : Nat → Int32) (Mm : Nat → Int64) (MT : Nat → Int64) (MP : Nat → Int64) (Mv : Nat → Int32) (Mx : Nat → Int64) (Mz : Nat → Int64) (res : (Int64 × (Nat → Int64) × (Nat → Int64) × (Nat → Int32))), (f_X7_judge_L30 fu MB Mr MT MP Mv = some res) → G k 5 211 [] [] (wMo cy Ms Mb Mq res.1 My ML Mg MF MW MI MA Mr Ma Mp Mf Mt Ml Mo Mn Mm res.2.1 res.2.2.1 res.2.2.2 Mx Mz) → G k 5 30 [(0, .ref 0)] [] (wMo cy Ms Mb Mq MB My ML Mg MF MW MI MA Mr Ma Mp Mf Mt Ml Mo Mn Mm MT MP Mv Mx Mz) := by
  intro fu
  induction fu with
  | zero =>
    intro Ms Mb Mq MB My ML Mg MF MW MI MA Mr Ma Mp Mf Mt Ml Mo Mn Mm MT MP Mv Mx Mz res h hex
    rw [f_X7_judge_L30] at h
    cases h
  | succ fu ih =>
    intro Ms Mb Mq MB My ML Mg MF MW MI MA Mr Ma Mp Mf Mt Ml Mo Mn Mm MT MP Mv Mx Mz res h hex
    rw [f_X7_judge_L30] at h
    refine G_r C [(.aload_n 0, 1, 0, 0, .null), (.getfield 44, 3, 7, 15, .null), (.iconst 0, 1, 0, 0, .int (0 : Int32))] 35 [(0, .ref 0)] [.int (0 : Int32), .ref 12] (wMo cy Ms Mb Mq MB My ML Mg MF MW MI MA Mr Ma Mp Mf Mt Ml Mo Mn Mm MT MP Mv Mx Mz) (by decide +kernel) rfl rfl ?_
    obtain ⟨cg, h⟩ := oob h
    refine G_iald C (a := 12) rfl cg (by decide +kernel) ?_
    refine G_r C [(.iconst 2, 1, 0, 0, .int (2 : Int32))] 37 [(0, .ref 0)] [.int (2 : Int32), .int (Mv (0 : Int32).toNatClampNeg)] (wMo cy Ms Mb Mq MB My ML Mg MF MW MI MA Mr Ma Mp Mf Mt Ml Mo Mn Mm MT MP Mv Mx Mz) (by decide +kernel) rfl rfl ?_
    refine G_icmp_ne C (off := 174) (tgt := 211) (by decide +kernel) rfl (fun c => ?_) (fun c => ?_)
    · rw [if_neg c] at h
      have h := Option.some.inj h
      subst h
      refine G_lv [] (lv' := []) rfl ?_
      exact hex
    · rw [if_pos c] at h
      refine G_r C [(.aload_n 0, 1, 0, 0, .null), (.getfield 44, 3, 7, 15, .null), (.iconst 1, 1, 0, 0, .int (1 : Int32))] 45 [(0, .ref 0)] [.int (1 : Int32), .ref 12] (wMo cy Ms Mb Mq MB My ML Mg MF MW MI MA Mr Ma Mp Mf Mt Ml Mo Mn Mm MT MP Mv Mx Mz) (by decide +kernel) rfl rfl ?_
      obtain ⟨cg, h⟩ := oob h
      refine G_iald C (a := 12) rfl cg (by decide +kernel) ?_
      refine G_r C [(.iconst 3, 1, 0, 0, .int (3 : Int32))] 47 [(0, .ref 0)] [.int (3 : Int32), .int (Mv (1 : Int32).toNatClampNeg)] (wMo cy Ms Mb Mq MB My ML Mg MF MW MI MA Mr Ma Mp Mf Mt Ml Mo Mn Mm MT MP Mv Mx Mz) (by decide +kernel) rfl rfl ?_
      refine G_icmp_gt C (off := 164) (tgt := 211) (by decide +kernel) rfl (fun c => ?_) (fun c => ?_)
      · rw [if_pos c] at h
        have h := Option.some.inj h
        subst h
        refine G_lv [] (lv' := []) rfl ?_
        exact hex
      · rw [if_neg c] at h
        refine G_r C [(.aload_n 0, 1, 0, 0, .null), (.getfield 7, 3, 7, 0, .null), (.bipush 7, 2, 0, 0, .int (7 : Int32))] 56 [(0, .ref 0)] [.int (7 : Int32), .ref 1] (wMo cy Ms Mb Mq MB My ML Mg MF MW MI MA Mr Ma Mp Mf Mt Ml Mo Mn Mm MT MP Mv Mx Mz) (by decide +kernel) rfl rfl ?_
        obtain ⟨cg, h⟩ := oob h
        refine G_iald C (a := 1) rfl cg (by decide +kernel) ?_
        refine G_r C [(.iconst 2, 1, 0, 0, .int (2 : Int32)), (.aload_n 0, 1, 0, 0, .null), (.getfield 44, 3, 7, 15, .null), (.iconst 1, 1, 0, 0, .int (1 : Int32))] 63 [(0, .ref 0)] [.int (1 : Int32), .ref 12, .int (2 : Int32), .int (Mr (7 : Int32).toNatClampNeg)] (wMo cy Ms Mb Mq MB My ML Mg MF MW MI MA Mr Ma Mp Mf Mt Ml Mo Mn Mm MT MP Mv Mx Mz) (by decide +kernel) rfl rfl ?_
        obtain ⟨cg, h⟩ := oob h
        refine G_iald C (a := 12) rfl cg (by decide +kernel) ?_
        refine G_r C [(.imul, 1, 0, 0, .null)] 65 [(0, .ref 0)] [.int ((2 : Int32) * (Mv (1 : Int32).toNatClampNeg)), .int (Mr (7 : Int32).toNatClampNeg)] (wMo cy Ms Mb Mq MB My ML Mg MF MW MI MA Mr Ma Mp Mf Mt Ml Mo Mn Mm MT MP Mv Mx Mz) (by decide +kernel) rfl rfl ?_
        refine G_icmp_le C (off := 146) (tgt := 211) (by decide +kernel) rfl (fun c => ?_) (fun c => ?_)
        · rw [if_pos c] at h
          have h := Option.some.inj h
          subst h
          refine G_lv [] (lv' := []) rfl ?_
          exact hex
        · rw [if_neg c] at h
          refine G_r C [(.aload_n 0, 1, 0, 0, .null), (.getfield 44, 3, 7, 15, .null), (.iconst 1, 1, 0, 0, .int (1 : Int32))] 73 [(0, .ref 0)] [.int (1 : Int32), .ref 12] (wMo cy Ms Mb Mq MB My ML Mg MF MW MI MA Mr Ma Mp Mf Mt Ml Mo Mn Mm MT MP Mv Mx Mz) (by decide +kernel) rfl rfl ?_
          obtain ⟨cg, h⟩ := oob h
          refine G_iald C (a := 12) rfl cg (by decide +kernel) ?_
          refine G_r C [(.istore_n 1, 1, 0, 0, .null), (.aload_n 0, 1, 0, 0, .null), (.iconst 0, 1, 0, 0, .int (0 : Int32)), (.iload_n 1, 1, 0, 0, .null), (.iconst 1, 1, 0, 0, .int (1 : Int32)), (.iadd, 1, 0, 0, .null)] 80 [(1, .int (Mv (1 : Int32).toNatClampNeg)), (0, .ref 0)] [.int ((Mv (1 : Int32).toNatClampNeg) + (1 : Int32)), .int (0 : Int32), .ref 0] (wMo cy Ms Mb Mq MB My ML Mg MF MW MI MA Mr Ma Mp Mf Mt Ml Mo Mn Mm MT MP Mv Mx Mz) (by decide +kernel) rfl rfl ?_
          obtain ⟨q1, hq1, h⟩ := obd h
          refine G_c0 C lk_7_146 ⟨Nat.le_of_ble_eq_true rfl, Nat.le_of_ble_eq_true rfl⟩ (by decide +kernel) [.long q1.1] (c_X7_detOf cy Ms Mb Mq MB My ML Mg MF MW MI MA Mr Ma Mp Mf Mt Ml Mo Mn Mm MT MP Mv Mx Mz (0 : Int32) ((Mv (1 : Int32).toNatClampNeg) + (1 : Int32)) q1 hq1) rfl rfl (Nat.le_of_ble_eq_true rfl) ⟨rfl, rfl⟩ rfl ?_
          refine G_r C [(.lstore_n 2, 1, 0, 0, .null), (.lload_n 2, 1, 0, 0, .null), (.lconst 0, 1, 0, 0, .long (0 : Int64))] 86 [(2, .long q1.1), (1, .int (Mv (1 : Int32).toNatClampNeg)), (0, .ref 0)] [.long (0 : Int64), .long q1.1] (wMo cy Ms Mb Mq MB My ML Mg MF MW MI MA Mr Ma Mp Mf Mt Ml Mo Mn Mm q1.2 MP Mv Mx Mz) (by decide +kernel) rfl rfl ?_
          refine G_lcmp_le C (off := 16) (tgt := 103) (by decide +kernel) (by decide +kernel) rfl (fun c => ?_) (fun c => ?_)
          · rw [if_pos c] at h
            refine G_r C [(.aload_n 0, 1, 0, 0, .null), (.getfield 44, 3, 7, 15, .null), (.iconst 0, 1, 0, 0, .int (0 : Int32)), (.lload_n 2, 1, 0, 0, .null), (.lconst 0, 1, 0, 0, .long (0 : Int64))] 110 [(2, .long q1.1), (1, .int (Mv (1 : Int32).toNatClampNeg)), (0, .ref 0)] [.long (0 : Int64), .long q1.1, .int (0 : Int32), .ref 12] (wMo cy Ms Mb Mq MB My ML Mg MF MW MI MA Mr Ma Mp Mf Mt Ml Mo Mn Mm q1.2 MP Mv Mx Mz) (by decide +kernel) rfl rfl ?_
            refine G_lcmp_ge C (off := 7) (tgt := 118) (by decide +kernel) (by decide +kernel) rfl (fun c => ?_) (fun c => ?_)
            · rw [if_pos c] at h
              refine G_r C [(.iconst 1, 1, 0, 0, .int (1 : Int32))] 119 [(2, .long q1.1), (1, .int (Mv (1 : Int32).toNatClampNeg)), (0, .ref 0)] [.int (1 : Int32), .int (0 : Int32), .ref 12] (wMo cy Ms Mb Mq MB My ML Mg MF MW MI MA Mr Ma Mp Mf Mt Ml Mo Mn Mm q1.2 MP Mv Mx Mz) (by decide +kernel) rfl rfl ?_
              obtain ⟨cg, h⟩ := oob h
              refine G_iast C (a := 12) (w' := (wMo cy Ms Mb Mq MB My ML Mg MF MW MI MA Mr Ma Mp Mf Mt Ml Mo Mn Mm q1.2 MP (upd Mv (0 : Int32).toNatClampNeg (1 : Int32)) Mx Mz)) rfl cg (by decide +kernel) rfl ?_
              refine G_r C [(.aload_n 0, 1, 0, 0, .null), (.getfield 44, 3, 7, 15, .null), (.iconst 2, 1, 0, 0, .int (2 : Int32)), (.lload_n 2, 1, 0, 0, .null), (.lconst 0, 1, 0, 0, .long (0 : Int64))] 127 [(2, .long q1.1), (1, .int (Mv (1 : Int32).toNatClampNeg)), (0, .ref 0)] [.long (0 : Int64), .long q1.1, .int (2 : Int32), .ref 12] (wMo cy Ms Mb Mq MB My ML Mg MF MW MI MA Mr Ma Mp Mf Mt Ml Mo Mn Mm q1.2 MP (upd Mv (0 : Int32).toNatClampNeg (1 : Int32)) Mx Mz) (by decide +kernel) rfl rfl ?_
              refine G_lcmp_ge C (off := 7) (tgt := 135) (by decide +kernel) (by decide +kernel) rfl (fun c => ?_) (fun c => ?_)
              · rw [if_pos c] at h
                refine G_ldc C co_7_177 (by decide +kernel) ?_
                obtain ⟨cg, h⟩ := oob h
                refine G_iast C (a := 12) (w' := (wMo cy Ms Mb Mq MB My ML Mg MF MW MI MA Mr Ma Mp Mf Mt Ml Mo Mn Mm q1.2 MP (upd (upd Mv (0 : Int32).toNatClampNeg (1 : Int32)) (2 : Int32).toNatClampNeg (-1000000 : Int32)) Mx Mz)) rfl cg (by decide +kernel) rfl ?_
                refine G_r C [(.aload_n 0, 1, 0, 0, .null), (.iload_n 1, 1, 0, 0, .null)] 140 [(2, .long q1.1), (1, .int (Mv (1 : Int32).toNatClampNeg)), (0, .ref 0)] [.int (Mv (1 : Int32).toNatClampNeg), .ref 0] (wMo cy Ms Mb Mq MB My ML Mg MF MW MI MA Mr Ma Mp Mf Mt Ml Mo Mn Mm q1.2 MP (upd (upd Mv (0 : Int32).toNatClampNeg (1 : Int32)) (2 : Int32).toNatClampNeg (-1000000 : Int32)) Mx Mz) (by decide +kernel) rfl rfl ?_
                obtain ⟨q2, hq2, h⟩ := obd h
                refine G_c0 C lk_7_165 ⟨Nat.le_of_ble_eq_true rfl, Nat.le_of_ble_eq_true rfl⟩ (by decide +kernel) [] (c_X7_makePoly cy Ms Mb Mq MB My ML Mg MF MW MI MA Mr Ma Mp Mf Mt Ml Mo Mn Mm q1.2 MP (upd (upd Mv (0 : Int32).toNatClampNeg (1 : Int32)) (2 : Int32).toNatClampNeg (-1000000 : Int32)) Mx Mz (Mv (1 : Int32).toNatClampNeg) q2 hq2) rfl rfl (Nat.le_of_ble_eq_true rfl) ⟨rfl, rfl⟩ rfl ?_
                refine G_r C [(.aload_n 0, 1, 0, 0, .null), (.getfield 7, 3, 7, 0, .null), (.bipush 7, 2, 0, 0, .int (7 : Int32))] 149 [(2, .long q1.1), (1, .int (Mv (1 : Int32).toNatClampNeg)), (0, .ref 0)] [.int (7 : Int32), .ref 1] (wMo cy Ms Mb Mq q2.1 My ML Mg MF MW MI MA Mr Ma Mp Mf Mt Ml Mo Mn Mm q2.2.1 q2.2.2 (upd (upd Mv (0 : Int32).toNatClampNeg (1 : Int32)) (2 : Int32).toNatClampNeg (-1000000 : Int32)) Mx Mz) (by decide +kernel) rfl rfl ?_
                obtain ⟨cg, h⟩ := oob h
                refine G_iald C (a := 1) rfl cg (by decide +kernel) ?_
                refine G_r C [(.iconst 1, 1, 0, 0, .int (1 : Int32)), (.isub, 1, 0, 0, .null), (.iload_n 1, 1, 0, 0, .null), (.isub, 1, 0, 0, .null), (.istore 4, 2, 0, 0, .null)] 156 [(4, .int (((Mr (7 : Int32).toNatClampNeg) - (1 : Int32)) - (Mv (1 : Int32).toNatClampNeg))), (2, .long q1.1), (1, .int (Mv (1 : Int32).toNatClampNeg)), (0, .ref 0)] [] (wMo cy Ms Mb Mq q2.1 My ML Mg MF MW MI MA Mr Ma Mp Mf Mt Ml Mo Mn Mm q2.2.1 q2.2.2 (upd (upd Mv (0 : Int32).toNatClampNeg (1 : Int32)) (2 : Int32).toNatClampNeg (-1000000 : Int32)) Mx Mz) (by decide +kernel) rfl rfl ?_
                obtain ⟨q4, hq4, h⟩ := obd h
                refine G_lv [3, 2, 1, 0] (lv' := [(0, .ref 0), (1, .int (Mv (1 : Int32).toNatClampNeg)), (2, .long q1.1), (4, .int (((Mr (7 : Int32).toNatClampNeg) - (1 : Int32)) - (Mv (1 : Int32).toNatClampNeg)))]) rfl ?_
                refine g_X7_judge_L156 C 200 (Mv (1 : Int32).toNatClampNeg) q1.1 (((Mr (7 : Int32).toNatClampNeg) - (1 : Int32)) - (Mv (1 : Int32).toNatClampNeg)) Ms Mb Mq q2.1 My ML Mg MF MW MI MA Mr Ma Mp Mf Mt Ml Mo Mn Mm q2.2.1 q2.2.2 (upd (upd Mv (0 : Int32).toNatClampNeg (1 : Int32)) (2 : Int32).toNatClampNeg (-1000000 : Int32)) Mx Mz q4 hq4 ?_
                refine G_goto C (off := -178) (tgt := 30) (by decide +kernel) rfl ?_
                refine G_lv [0] (lv' := [(0, .ref 0)]) rfl ?_
                exact ih  Ms Mb Mq q2.1 My ML Mg MF MW MI MA Mr Ma Mp Mf Mt Ml Mo Mn Mm q2.2.1 q2.2.2 q4 Mx Mz res h hex
              · rw [if_neg c] at h
                refine G_r C [(.iconst 0, 1, 0, 0, .int (0 : Int32))] 132 [(2, .long q1.1), (1, .int (Mv (1 : Int32).toNatClampNeg)), (0, .ref 0)] [.int (0 : Int32), .int (2 : Int32), .ref 12] (wMo cy Ms Mb Mq MB My ML Mg MF MW MI MA Mr Ma Mp Mf Mt Ml Mo Mn Mm q1.2 MP (upd Mv (0 : Int32).toNatClampNeg (1 : Int32)) Mx Mz) (by decide +kernel) rfl rfl ?_
                refine G_goto C (off := 5) (tgt := 137) (by decide +kernel) rfl ?_
                obtain ⟨cg, h⟩ := oob h
                refine G_iast C (a := 12) (w' := (wMo cy Ms Mb Mq MB My ML Mg MF MW MI MA Mr Ma Mp Mf Mt Ml Mo Mn Mm q1.2 MP (upd (upd Mv (0 : Int32).toNatClampNeg (1 : Int32)) (2 : Int32).toNatClampNeg (0 : Int32)) Mx Mz)) rfl cg (by decide +kernel) rfl ?_
                refine G_r C [(.aload_n 0, 1, 0, 0, .null), (.iload_n 1, 1, 0, 0, .null)] 140 [(2, .long q1.1), (1, .int (Mv (1 : Int32).toNatClampNeg)), (0, .ref 0)] [.int (Mv (1 : Int32).toNatClampNeg), .ref 0] (wMo cy Ms Mb Mq MB My ML Mg MF MW MI MA Mr Ma Mp Mf Mt Ml Mo Mn Mm q1.2 MP (upd (upd Mv (0 : Int32).toNatClampNeg (1 : Int32)) (2 : Int32).toNatClampNeg (0 : Int32)) Mx Mz) (by decide +kernel) rfl rfl ?_
                obtain ⟨q5, hq5, h⟩ := obd h
                refine G_c0 C lk_7_165 ⟨Nat.le_of_ble_eq_true rfl, Nat.le_of_ble_eq_true rfl⟩ (by decide +kernel) [] (c_X7_makePoly cy Ms Mb Mq MB My ML Mg MF MW MI MA Mr Ma Mp Mf Mt Ml Mo Mn Mm q1.2 MP (upd (upd Mv (0 : Int32).toNatClampNeg (1 : Int32)) (2 : Int32).toNatClampNeg (0 : Int32)) Mx Mz (Mv (1 : Int32).toNatClampNeg) q5 hq5) rfl rfl (Nat.le_of_ble_eq_true rfl) ⟨rfl, rfl⟩ rfl ?_
                refine G_r C [(.aload_n 0, 1, 0, 0, .null), (.getfield 7, 3, 7, 0, .null), (.bipush 7, 2, 0, 0, .int (7 : Int32))] 149 [(2, .long q1.1), (1, .int (Mv (1 : Int32).toNatClampNeg)), (0, .ref 0)] [.int (7 : Int32), .ref 1] (wMo cy Ms Mb Mq q5.1 My ML Mg MF MW MI MA Mr Ma Mp Mf Mt Ml Mo Mn Mm q5.2.1 q5.2.2 (upd (upd Mv (0 : Int32).toNatClampNeg (1 : Int32)) (2 : Int32).toNatClampNeg (0 : Int32)) Mx Mz) (by decide +kernel) rfl rfl ?_
                obtain ⟨cg, h⟩ := oob h
                refine G_iald C (a := 1) rfl cg (by decide +kernel) ?_
                refine G_r C [(.iconst 1, 1, 0, 0, .int (1 : Int32)), (.isub, 1, 0, 0, .null), (.iload_n 1, 1, 0, 0, .null), (.isub, 1, 0, 0, .null), (.istore 4, 2, 0, 0, .null)] 156 [(4, .int (((Mr (7 : Int32).toNatClampNeg) - (1 : Int32)) - (Mv (1 : Int32).toNatClampNeg))), (2, .long q1.1), (1, .int (Mv (1 : Int32).toNatClampNeg)), (0, .ref 0)] [] (wMo cy Ms Mb Mq q5.1 My ML Mg MF MW MI MA Mr Ma Mp Mf Mt Ml Mo Mn Mm q5.2.1 q5.2.2 (upd (upd Mv (0 : Int32).toNatClampNeg (1 : Int32)) (2 : Int32).toNatClampNeg (0 : Int32)) Mx Mz) (by decide +kernel) rfl rfl ?_
                obtain ⟨q6, hq6, h⟩ := obd h
                refine G_lv [3, 2, 1, 0] (lv' := [(0, .ref 0), (1, .int (Mv (1 : Int32).toNatClampNeg)), (2, .long q1.1), (4, .int (((Mr (7 : Int32).toNatClampNeg) - (1 : Int32)) - (Mv (1 : Int32).toNatClampNeg)))]) rfl ?_
                refine g_X7_judge_L156 C 200 (Mv (1 : Int32).toNatClampNeg) q1.1 (((Mr (7 : Int32).toNatClampNeg) - (1 : Int32)) - (Mv (1 : Int32).toNatClampNeg)) Ms Mb Mq q5.1 My ML Mg MF MW MI MA Mr Ma Mp Mf Mt Ml Mo Mn Mm q5.2.1 q5.2.2 (upd (upd Mv (0 : Int32).toNatClampNeg (1 : Int32)) (2 : Int32).toNatClampNeg (0 : Int32)) Mx Mz q6 hq6 ?_
                refine G_goto C (off := -178) (tgt := 30) (by decide +kernel) rfl ?_
                refine G_lv [0] (lv' := [(0, .ref 0)]) rfl ?_
                exact ih  Ms Mb Mq q5.1 My ML Mg MF MW MI MA Mr Ma Mp Mf Mt Ml Mo Mn Mm q5.2.1 q5.2.2 q6 Mx Mz res h hex
            · rw [if_neg c] at h
              refine G_r C [(.iconst 0, 1, 0, 0, .int (0 : Int32))] 115 [(2, .long q1.1), (1, .int (Mv (1 : Int32).toNatClampNeg)), (0, .ref 0)] [.int (0 : Int32), .int (0 : Int32), .ref 12] (wMo cy Ms Mb Mq MB My ML Mg MF MW MI MA Mr Ma Mp Mf Mt Ml Mo Mn Mm q1.2 MP Mv Mx Mz) (by decide +kernel) rfl rfl ?_
              refine G_goto C (off := 4) (tgt := 119) (by decide +kernel) rfl ?_
              obtain ⟨cg, h⟩ := oob h
              refine G_iast C (a := 12) (w' := (wMo cy Ms Mb Mq MB My ML Mg MF MW MI MA Mr Ma Mp Mf Mt Ml Mo Mn Mm q1.2 MP (upd Mv (0 : Int32).toNatClampNeg (0 : Int32)) Mx Mz)) rfl cg (by decide +kernel) rfl ?_
              refine G_r C [(.aload_n 0, 1, 0, 0, .null), (.getfield 44, 3, 7, 15, .null), (.iconst 2, 1, 0, 0, .int (2 : Int32)), (.lload_n 2, 1, 0, 0, .null), (.lconst 0, 1, 0, 0, .long (0 : Int64))] 127 [(2, .long q1.1), (1, .int (Mv (1 : Int32).toNatClampNeg)), (0, .ref 0)] [.long (0 : Int64), .long q1.1, .int (2 : Int32), .ref 12] (wMo cy Ms Mb Mq MB My ML Mg MF MW MI MA Mr Ma Mp Mf Mt Ml Mo Mn Mm q1.2 MP (upd Mv (0 : Int32).toNatClampNeg (0 : Int32)) Mx Mz) (by decide +kernel) rfl rfl ?_
              refine G_lcmp_ge C (off := 7) (tgt := 135) (by decide +kernel) (by decide +kernel) rfl (fun c => ?_) (fun c => ?_)
              · rw [if_pos c] at h
                refine G_ldc C co_7_177 (by decide +kernel) ?_
                obtain ⟨cg, h⟩ := oob h
                refine G_iast C (a := 12) (w' := (wMo cy Ms Mb Mq MB My ML Mg MF MW MI MA Mr Ma Mp Mf Mt Ml Mo Mn Mm q1.2 MP (upd (upd Mv (0 : Int32).toNatClampNeg (0 : Int32)) (2 : Int32).toNatClampNeg (-1000000 : Int32)) Mx Mz)) rfl cg (by decide +kernel) rfl ?_
                refine G_r C [(.aload_n 0, 1, 0, 0, .null), (.iload_n 1, 1, 0, 0, .null)] 140 [(2, .long q1.1), (1, .int (Mv (1 : Int32).toNatClampNeg)), (0, .ref 0)] [.int (Mv (1 : Int32).toNatClampNeg), .ref 0] (wMo cy Ms Mb Mq MB My ML Mg MF MW MI MA Mr Ma Mp Mf Mt Ml Mo Mn Mm q1.2 MP (upd (upd Mv (0 : Int32).toNatClampNeg (0 : Int32)) (2 : Int32).toNatClampNeg (-1000000 : Int32)) Mx Mz) (by decide +kernel) rfl rfl ?_
                obtain ⟨q7, hq7, h⟩ := obd h
                refine G_c0 C lk_7_165 ⟨Nat.le_of_ble_eq_true rfl, Nat.le_of_ble_eq_true rfl⟩ (by decide +kernel) [] (c_X7_makePoly cy Ms Mb Mq MB My ML Mg MF MW MI MA Mr Ma Mp Mf Mt Ml Mo Mn Mm q1.2 MP (upd (upd Mv (0 : Int32).toNatClampNeg (0 : Int32)) (2 : Int32).toNatClampNeg (-1000000 : Int32)) Mx Mz (Mv (1 : Int32).toNatClampNeg) q7 hq7) rfl rfl (Nat.le_of_ble_eq_true rfl) ⟨rfl, rfl⟩ rfl ?_
                refine G_r C [(.aload_n 0, 1, 0, 0, .null), (.getfield 7, 3, 7, 0, .null), (.bipush 7, 2, 0, 0, .int (7 : Int32))] 149 [(2, .long q1.1), (1, .int (Mv (1 : Int32).toNatClampNeg)), (0, .ref 0)] [.int (7 : Int32), .ref 1] (wMo cy Ms Mb Mq q7.1 My ML Mg MF MW MI MA Mr Ma Mp Mf Mt Ml Mo Mn Mm q7.2.1 q7.2.2 (upd (upd Mv (0 : Int32).toNatClampNeg (0 : Int32)) (2 : Int32).toNatClampNeg (-1000000 : Int32)) Mx Mz) (by decide +kernel) rfl rfl ?_
                obtain ⟨cg, h⟩ := oob h
                refine G_iald C (a := 1) rfl cg (by decide +kernel) ?_
                refine G_r C [(.iconst 1, 1, 0, 0, .int (1 : Int32)), (.isub, 1, 0, 0, .null), (.iload_n 1, 1, 0, 0, .null), (.isub, 1, 0, 0, .null), (.istore 4, 2, 0, 0, .null)] 156 [(4, .int (((Mr (7 : Int32).toNatClampNeg) - (1 : Int32)) - (Mv (1 : Int32).toNatClampNeg))), (2, .long q1.1), (1, .int (Mv (1 : Int32).toNatClampNeg)), (0, .ref 0)] [] (wMo cy Ms Mb Mq q7.1 My ML Mg MF MW MI MA Mr Ma Mp Mf Mt Ml Mo Mn Mm q7.2.1 q7.2.2 (upd (upd Mv (0 : Int32).toNatClampNeg (0 : Int32)) (2 : Int32).toNatClampNeg (-1000000 : Int32)) Mx Mz) (by decide +kernel) rfl rfl ?_
                obtain ⟨q8, hq8, h⟩ := obd h
                refine G_lv [3, 2, 1, 0] (lv' := [(0, .ref 0), (1, .int (Mv (1 : Int32).toNatClampNeg)), (2, .long q1.1), (4, .int (((Mr (7 : Int32).toNatClampNeg) - (1 : Int32)) - (Mv (1 : Int32).toNatClampNeg)))]) rfl ?_
                refine g_X7_judge_L156 C 200 (Mv (1 : Int32).toNatClampNeg) q1.1 (((Mr (7 : Int32).toNatClampNeg) - (1 : Int32)) - (Mv (1 : Int32).toNatClampNeg)) Ms Mb Mq q7.1 My ML Mg MF MW MI MA Mr Ma Mp Mf Mt Ml Mo Mn Mm q7.2.1 q7.2.2 (upd (upd Mv (0 : Int32).toNatClampNeg (0 : Int32)) (2 : Int32).toNatClampNeg (-1000000 : Int32)) Mx Mz q8 hq8 ?_
                refine G_goto C (off := -178) (tgt := 30) (by decide +kernel) rfl ?_
                refine G_lv [0] (lv' := [(0, .ref 0)]) rfl ?_
                exact ih  Ms Mb Mq q7.1 My ML Mg MF MW MI MA Mr Ma Mp Mf Mt Ml Mo Mn Mm q7.2.1 q7.2.2 q8 Mx Mz res h hex
              · rw [if_neg c] at h
                refine G_r C [(.iconst 0, 1, 0, 0, .int (0 : Int32))] 132 [(2, .long q1.1), (1, .int (Mv (1 : Int32).toNatClampNeg)), (0, .ref 0)] [.int (0 : Int32), .int (2 : Int32), .ref 12] (wMo cy Ms Mb Mq MB My ML Mg MF MW MI MA Mr Ma Mp Mf Mt Ml Mo Mn Mm q1.2 MP (upd Mv (0 : Int32).toNatClampNeg (0 : Int32)) Mx Mz) (by decide +kernel) rfl rfl ?_
                refine G_goto C (off := 5) (tgt := 137) (by decide +kernel) rfl ?_
                obtain ⟨cg, h⟩ := oob h
                refine G_iast C (a := 12) (w' := (wMo cy Ms Mb Mq MB My ML Mg MF MW MI MA Mr Ma Mp Mf Mt Ml Mo Mn Mm q1.2 MP (upd (upd Mv (0 : Int32).toNatClampNeg (0 : Int32)) (2 : Int32).toNatClampNeg (0 : Int32)) Mx Mz)) rfl cg (by decide +kernel) rfl ?_
                refine G_r C [(.aload_n 0, 1, 0, 0, .null), (.iload_n 1, 1, 0, 0, .null)] 140 [(2, .long q1.1), (1, .int (Mv (1 : Int32).toNatClampNeg)), (0, .ref 0)] [.int (Mv (1 : Int32).toNatClampNeg), .ref 0] (wMo cy Ms Mb Mq MB My ML Mg MF MW MI MA Mr Ma Mp Mf Mt Ml Mo Mn Mm q1.2 MP (upd (upd Mv (0 : Int32).toNatClampNeg (0 : Int32)) (2 : Int32).toNatClampNeg (0 : Int32)) Mx Mz) (by decide +kernel) rfl rfl ?_
                obtain ⟨q9, hq9, h⟩ := obd h
                refine G_c0 C lk_7_165 ⟨Nat.le_of_ble_eq_true rfl, Nat.le_of_ble_eq_true rfl⟩ (by decide +kernel) [] (c_X7_makePoly cy Ms Mb Mq MB My ML Mg MF MW MI MA Mr Ma Mp Mf Mt Ml Mo Mn Mm q1.2 MP (upd (upd Mv (0 : Int32).toNatClampNeg (0 : Int32)) (2 : Int32).toNatClampNeg (0 : Int32)) Mx Mz (Mv (1 : Int32).toNatClampNeg) q9 hq9) rfl rfl (Nat.le_of_ble_eq_true rfl) ⟨rfl, rfl⟩ rfl ?_
                refine G_r C [(.aload_n 0, 1, 0, 0, .null), (.getfield 7, 3, 7, 0, .null), (.bipush 7, 2, 0, 0, .int (7 : Int32))] 149 [(2, .long q1.1), (1, .int (Mv (1 : Int32).toNatClampNeg)), (0, .ref 0)] [.int (7 : Int32), .ref 1] (wMo cy Ms Mb Mq q9.1 My ML Mg MF MW MI MA Mr Ma Mp Mf Mt Ml Mo Mn Mm q9.2.1 q9.2.2 (upd (upd Mv (0 : Int32).toNatClampNeg (0 : Int32)) (2 : Int32).toNatClampNeg (0 : Int32)) Mx Mz) (by decide +kernel) rfl rfl ?_
                obtain ⟨cg, h⟩ := oob h
                refine G_iald C (a := 1) rfl cg (by decide +kernel) ?_
                refine G_r C [(.iconst 1, 1, 0, 0, .int (1 : Int32)), (.isub, 1, 0, 0, .null), (.iload_n 1, 1, 0, 0, .null), (.isub, 1, 0, 0, .null), (.istore 4, 2, 0, 0, .null)] 156 [(4, .int (((Mr (7 : Int32).toNatClampNeg) - (1 : Int32)) - (Mv (1 : Int32).toNatClampNeg))), (2, .long q1.1), (1, .int (Mv (1 : Int32).toNatClampNeg)), (0, .ref 0)] [] (wMo cy Ms Mb Mq q9.1 My ML Mg MF MW MI MA Mr Ma Mp Mf Mt Ml Mo Mn Mm q9.2.1 q9.2.2 (upd (upd Mv (0 : Int32).toNatClampNeg (0 : Int32)) (2 : Int32).toNatClampNeg (0 : Int32)) Mx Mz) (by decide +kernel) rfl rfl ?_
                obtain ⟨q10, hq10, h⟩ := obd h
                refine G_lv [3, 2, 1, 0] (lv' := [(0, .ref 0), (1, .int (Mv (1 : Int32).toNatClampNeg)), (2, .long q1.1), (4, .int (((Mr (7 : Int32).toNatClampNeg) - (1 : Int32)) - (Mv (1 : Int32).toNatClampNeg)))]) rfl ?_
                refine g_X7_judge_L156 C 200 (Mv (1 : Int32).toNatClampNeg) q1.1 (((Mr (7 : Int32).toNatClampNeg) - (1 : Int32)) - (Mv (1 : Int32).toNatClampNeg)) Ms Mb Mq q9.1 My ML Mg MF MW MI MA Mr Ma Mp Mf Mt Ml Mo Mn Mm q9.2.1 q9.2.2 (upd (upd Mv (0 : Int32).toNatClampNeg (0 : Int32)) (2 : Int32).toNatClampNeg (0 : Int32)) Mx Mz q10 hq10 ?_
                refine G_goto C (off := -178) (tgt := 30) (by decide +kernel) rfl ?_
                refine G_lv [0] (lv' := [(0, .ref 0)]) rfl ?_
                exact ih  Ms Mb Mq q9.1 My ML Mg MF MW MI MA Mr Ma Mp Mf Mt Ml Mo Mn Mm q9.2.1 q9.2.2 q10 Mx Mz res h hex
          · rw [if_neg c] at h
            refine G_r C [(.aload_n 0, 1, 0, 0, .null), (.getfield 44, 3, 7, 15, .null), (.iconst 1, 1, 0, 0, .int (1 : Int32)), (.dup2, 1, 0, 0, .null)] 96 [(2, .long q1.1), (1, .int (Mv (1 : Int32).toNatClampNeg)), (0, .ref 0)] [.int (1 : Int32), .ref 12, .int (1 : Int32), .ref 12] (wMo cy Ms Mb Mq MB My ML Mg MF MW MI MA Mr Ma Mp Mf Mt Ml Mo Mn Mm q1.2 MP Mv Mx Mz) (by decide +kernel) rfl rfl ?_
            obtain ⟨cg, h⟩ := oob h
            refine G_iald C (a := 12) rfl cg (by decide +kernel) ?_
            refine G_r C [(.iconst 1, 1, 0, 0, .int (1 : Int32)), (.iadd, 1, 0, 0, .null)] 99 [(2, .long q1.1), (1, .int (Mv (1 : Int32).toNatClampNeg)), (0, .ref 0)] [.int ((Mv (1 : Int32).toNatClampNeg) + (1 : Int32)), .int (1 : Int32), .ref 12] (wMo cy Ms Mb Mq MB My ML Mg MF MW MI MA Mr Ma Mp Mf Mt Ml Mo Mn Mm q1.2 MP Mv Mx Mz) (by decide +kernel) rfl rfl ?_
            obtain ⟨cg, h⟩ := oob h
            refine G_iast C (a := 12) (w' := (wMo cy Ms Mb Mq MB My ML Mg MF MW MI MA Mr Ma Mp Mf Mt Ml Mo Mn Mm q1.2 MP (upd Mv (1 : Int32).toNatClampNeg ((Mv (1 : Int32).toNatClampNeg) + (1 : Int32))) Mx Mz)) rfl cg (by decide +kernel) rfl ?_
            refine G_goto C (off := 108) (tgt := 208) (by decide +kernel) rfl ?_
            refine G_goto C (off := -178) (tgt := 30) (by decide +kernel) rfl ?_
            refine G_lv [2] (lv' := [(0, .ref 0)]) rfl ?_
            exact ih  Ms Mb Mq MB My ML Mg MF MW MI MA Mr Ma Mp Mf Mt Ml Mo Mn Mm q1.2 MP (upd Mv (1 : Int32).toNatClampNeg ((Mv (1 : Int32).toNatClampNeg) + (1 : Int32))) Mx Mz res h hex
set_option maxHeartbeats 4000000 in
set_option maxRecDepth 100000 in
theorem c_X7_judge (cy : Nat → ClassId) (Ms : Int32) (Mb : Int32) (Mq : Int32) (MB : Int64) (My : Int32) (ML : Int32) (Mg : Int32) (MF : Int32) (MW : Bool) (MI : Bool) (MA : Int32) (Mr : Nat → Int32) (Ma : Nat → Int32) (Mp : Nat → Int32) (Mf : Nat → Int32) (Mt : Nat → Int32) (Ml : Nat → Int32) (Mo : Nat → Int32) (Mn : Nat → Int32) (Mm : Nat → Int64) (MT : Nat → Int64) (MP : Nat → Int64) (Mv : Nat → Int32) (Mx : Nat → Int64) (Mz : Nat → Int64)  (res : (Int64 × (Nat → Int64) × (Nat → Int64) × (Nat → Int32))) (h : f_X7_judge MB Mr MT MP Mv = some res) : MG cy yX7_judge cX7_judge 5 none 3 78 [.ref 0] (wMo cy Ms Mb Mq MB My ML Mg MF MW MI MA Mr Ma Mp Mf Mt Ml Mo Mn Mm MT MP Mv Mx Mz) none (wMo cy Ms Mb Mq res.1 My ML Mg MF MW MI MA Mr Ma Mp Mf Mt Ml Mo Mn Mm res.2.1 res.2.2.1 res.2.2.2 Mx Mz) := by
  refine MG_of (o := 7) (lv := [(0, .ref 0)]) ⟨by decide +kernel, rfl⟩ (Nat.le_of_ble_eq_true rfl) rfl (fun k C hR => ?_)
  rw [f_X7_judge] at h
  refine G_r C [(.aload_n 0, 1, 0, 0, .null), (.getfield 44, 3, 7, 15, .null), (.iconst 0, 1, 0, 0, .int (0 : Int32)), (.iconst 2, 1, 0, 0, .int (2 : Int32))] 6 [(0, .ref 0)] [.int (2 : Int32), .int (0 : Int32), .ref 12] (wMo cy Ms Mb Mq MB My ML Mg MF MW MI MA Mr Ma Mp Mf Mt Ml Mo Mn Mm MT MP Mv Mx Mz) (by decide +kernel) rfl rfl ?_
  obtain ⟨cg, h⟩ := oob h
  refine G_iast C (a := 12) (w' := (wMo cy Ms Mb Mq MB My ML Mg MF MW MI MA Mr Ma Mp Mf Mt Ml Mo Mn Mm MT MP (upd Mv (0 : Int32).toNatClampNeg (2 : Int32)) Mx Mz)) rfl cg (by decide +kernel) rfl ?_
  refine G_r C [(.aload_n 0, 1, 0, 0, .null), (.getfield 44, 3, 7, 15, .null), (.iconst 1, 1, 0, 0, .int (1 : Int32)), (.iconst 0, 1, 0, 0, .int (0 : Int32))] 13 [(0, .ref 0)] [.int (0 : Int32), .int (1 : Int32), .ref 12] (wMo cy Ms Mb Mq MB My ML Mg MF MW MI MA Mr Ma Mp Mf Mt Ml Mo Mn Mm MT MP (upd Mv (0 : Int32).toNatClampNeg (2 : Int32)) Mx Mz) (by decide +kernel) rfl rfl ?_
  obtain ⟨cg, h⟩ := oob h
  refine G_iast C (a := 12) (w' := (wMo cy Ms Mb Mq MB My ML Mg MF MW MI MA Mr Ma Mp Mf Mt Ml Mo Mn Mm MT MP (upd (upd Mv (0 : Int32).toNatClampNeg (2 : Int32)) (1 : Int32).toNatClampNeg (0 : Int32)) Mx Mz)) rfl cg (by decide +kernel) rfl ?_
  refine G_r C [(.aload_n 0, 1, 0, 0, .null), (.getfield 44, 3, 7, 15, .null), (.iconst 2, 1, 0, 0, .int (2 : Int32))] 19 [(0, .ref 0)] [.int (2 : Int32), .ref 12] (wMo cy Ms Mb Mq MB My ML Mg MF MW MI MA Mr Ma Mp Mf Mt Ml Mo Mn Mm MT MP (upd (upd Mv (0 : Int32).toNatClampNeg (2 : Int32)) (1 : Int32).toNatClampNeg (0 : Int32)) Mx Mz) (by decide +kernel) rfl rfl ?_
  refine G_ldc C co_7_177 (by decide +kernel) ?_
  obtain ⟨cg, h⟩ := oob h
  refine G_iast C (a := 12) (w' := (wMo cy Ms Mb Mq MB My ML Mg MF MW MI MA Mr Ma Mp Mf Mt Ml Mo Mn Mm MT MP (upd (upd (upd Mv (0 : Int32).toNatClampNeg (2 : Int32)) (1 : Int32).toNatClampNeg (0 : Int32)) (2 : Int32).toNatClampNeg (-1000000 : Int32)) Mx Mz)) rfl cg (by decide +kernel) rfl ?_
  refine G_r C [(.aload_n 0, 1, 0, 0, .null), (.getfield 44, 3, 7, 15, .null), (.iconst 3, 1, 0, 0, .int (3 : Int32))] 27 [(0, .ref 0)] [.int (3 : Int32), .ref 12] (wMo cy Ms Mb Mq MB My ML Mg MF MW MI MA Mr Ma Mp Mf Mt Ml Mo Mn Mm MT MP (upd (upd (upd Mv (0 : Int32).toNatClampNeg (2 : Int32)) (1 : Int32).toNatClampNeg (0 : Int32)) (2 : Int32).toNatClampNeg (-1000000 : Int32)) Mx Mz) (by decide +kernel) rfl rfl ?_
  refine G_ldc C co_7_177 (by decide +kernel) ?_
  obtain ⟨cg, h⟩ := oob h
  refine G_iast C (a := 12) (w' := (wMo cy Ms Mb Mq MB My ML Mg MF MW MI MA Mr Ma Mp Mf Mt Ml Mo Mn Mm MT MP (upd (upd (upd (upd Mv (0 : Int32).toNatClampNeg (2 : Int32)) (1 : Int32).toNatClampNeg (0 : Int32)) (2 : Int32).toNatClampNeg (-1000000 : Int32)) (3 : Int32).toNatClampNeg (-1000000 : Int32)) Mx Mz)) rfl cg (by decide +kernel) rfl ?_
  obtain ⟨q11, hq11, h⟩ := obd h
  refine G_lv [0] (lv' := [(0, .ref 0)]) rfl ?_
  refine g_X7_judge_L30 C 200  Ms Mb Mq MB My ML Mg MF MW MI MA Mr Ma Mp Mf Mt Ml Mo Mn Mm MT MP (upd (upd (upd (upd Mv (0 : Int32).toNatClampNeg (2 : Int32)) (1 : Int32).toNatClampNeg (0 : Int32)) (2 : Int32).toNatClampNeg (-1000000 : Int32)) (3 : Int32).toNatClampNeg (-1000000 : Int32)) Mx Mz q11 hq11 ?_
  have h := Option.some.inj h
  subst h
  exact G_vret C hR (by decide +kernel)
def f_X7_verdict (x1 : Int32) (MB : Int64) (Mr : Nat → Int32) (Mf : Nat → Int32) (MT : Nat → Int64) (MP : Nat → Int64) (Mv : Nat → Int32) : Option (Int32 × Int64 × (Nat → Int32) × (Nat → Int64) × (Nat → Int64) × (Nat → Int32)) := (f_X7_in x1.toInt64 (0 : Int64) (3 : Int64)).bind fun q1 => if (bI q1) = 0 then ((f_X7_bad Mf).bind fun q3 => some (q3.1, MB, q3.2, MT, MP, Mv)) else ((f_X7_judge MB Mr MT MP Mv).bind fun q2 => if x1 < 0 ∨ 4 ≤ x1.toNatClampNeg then none else some ((q2.2.2.2 x1.toNatClampNeg), q2.1, Mf, q2.2.1, q2.2.2.1, q2.2.2.2))
set_option maxHeartbeats 4000000 in
set_option maxRecDepth 100000 in
theorem c_X7_verdict (cy : Nat → ClassId) (Ms : Int32) (Mb : Int32) (Mq : Int32) (MB : Int64) (My : Int32) (ML : Int32) (Mg : Int32) (MF : Int32) (MW : Bool) (MI : Bool) (MA : Int32) (Mr : Nat → Int32) (Ma : Nat → Int32) (Mp : Nat → Int32) (Mf : Nat → Int32) (Mt : Nat → Int32) (Ml : Nat → Int32) (Mo : Nat → Int32) (Mn : Nat → Int32) (Mm : Nat → Int64) (MT : Nat → Int64) (MP : Nat → Int64) (Mv : Nat → Int32) (Mx : Nat → Int64) (Mz : Nat → Int64) (x1 : Int32) (res : (Int32 × Int64 × (Nat → Int32) × (Nat → Int64) × (Nat → Int64) × (Nat → Int32))) (h : f_X7_verdict x1 MB Mr Mf MT MP Mv = some res) : MG cy yX7_verdict cX7_verdict 2 (some .int) 4 102 [.ref 0, .int x1] (wMo cy Ms Mb Mq MB My ML Mg MF MW MI MA Mr Ma Mp Mf Mt Ml Mo Mn Mm MT MP Mv Mx Mz) (some (.int res.1)) (wMo cy Ms Mb Mq res.2.1 My ML Mg MF MW MI MA Mr Ma Mp res.2.2.1 Mt Ml Mo Mn Mm res.2.2.2.1 res.2.2.2.2.1 res.2.2.2.2.2 Mx Mz) := by
  refine MG_of (o := 7) (lv := [(0, .ref 0), (1, .int x1)]) ⟨by decide +kernel, rfl⟩ (Nat.le_of_ble_eq_true rfl) rfl (fun k C hR => ?_)
  rw [f_X7_verdict] at h
  refine G_r C [(.iload_n 1, 1, 0, 0, .null), (.i2l, 1, 0, 0, .null), (.lconst 0, 1, 0, 0, .long (0 : Int64))] 3 [(0, .ref 0), (1, .int x1)] [.long (0 : Int64), .long x1.toInt64] (wMo cy Ms Mb Mq MB My ML Mg MF MW MI MA Mr Ma Mp Mf Mt Ml Mo Mn Mm MT MP Mv Mx Mz) (by decide +kernel) rfl rfl ?_
  refine G_ldc2 C co_7_157 (by decide +kernel) ?_
  obtain ⟨q1, hq1, h⟩ := obd h
  refine G_cS C lk_7_64 ⟨Nat.le_of_ble_eq_true rfl, Nat.le_of_ble_eq_true rfl⟩ (by decide +kernel) [.int (bI q1)] (c_X7_in cy x1.toInt64 (0 : Int64) (3 : Int64) q1 hq1) rfl rfl (Nat.le_of_ble_eq_true rfl) rfl ?_
  refine G_if_ne C (off := 8) (tgt := 17) (by decide +kernel) rfl (fun c => ?_) (fun c => ?_)
  · rw [if_neg c] at h
    refine G_r C [(.aload_n 0, 1, 0, 0, .null)] 18 [(0, .ref 0), (1, .int x1)] [.ref 0] (wMo cy Ms Mb Mq MB My ML Mg MF MW MI MA Mr Ma Mp Mf Mt Ml Mo Mn Mm MT MP Mv Mx Mz) (by decide +kernel) rfl rfl ?_
    obtain ⟨q2, hq2, h⟩ := obd h
    refine G_c0 C lk_7_181 ⟨Nat.le_of_ble_eq_true rfl, Nat.le_of_ble_eq_true rfl⟩ (by decide +kernel) [] (c_X7_judge cy Ms Mb Mq MB My ML Mg MF MW MI MA Mr Ma Mp Mf Mt Ml Mo Mn Mm MT MP Mv Mx Mz q2 hq2) rfl rfl (Nat.le_of_ble_eq_true rfl) ⟨rfl, rfl⟩ rfl ?_
    refine G_r C [(.aload_n 0, 1, 0, 0, .null), (.getfield 44, 3, 7, 15, .null), (.iload_n 1, 1, 0, 0, .null)] 26 [(0, .ref 0), (1, .int x1)] [.int x1, .ref 12] (wMo cy Ms Mb Mq q2.1 My ML Mg MF MW MI MA Mr Ma Mp Mf Mt Ml Mo Mn Mm q2.2.1 q2.2.2.1 q2.2.2.2 Mx Mz) (by decide +kernel) rfl rfl ?_
    obtain ⟨cg, h⟩ := oob h
    refine G_iald C (a := 12) rfl cg (by decide +kernel) ?_
    have h := Option.some.inj h
    subst h
    exact G_iret C hR (by decide +kernel)
  · rw [if_pos c] at h
    refine G_r C [(.aload_n 0, 1, 0, 0, .null)] 13 [(0, .ref 0), (1, .int x1)] [.ref 0] (wMo cy Ms Mb Mq MB My ML Mg MF MW MI MA Mr Ma Mp Mf Mt Ml Mo Mn Mm MT MP Mv Mx Mz) (by decide +kernel) rfl rfl ?_
    obtain ⟨q3, hq3, h⟩ := obd h
    refine G_c0 C lk_7_72 ⟨Nat.le_of_ble_eq_true rfl, Nat.le_of_ble_eq_true rfl⟩ (by decide +kernel) [.int q3.1] (c_X7_bad cy Ms Mb Mq MB My ML Mg MF MW MI MA Mr Ma Mp Mf Mt Ml Mo Mn Mm MT MP Mv Mx Mz q3 hq3) rfl rfl (Nat.le_of_ble_eq_true rfl) ⟨rfl, rfl⟩ rfl ?_
    have h := Option.some.inj h
    subst h
    exact G_iret C hR (by decide +kernel)
def f_X7_isSpot (x0 : Int32) (x1 : Int32) : Option Bool := (f_X7_in x0.toInt64 (-99 : Int64) (99 : Int64)).bind fun q1 => if (bI q1) = 0 then (some false) else ((f_X7_in x1.toInt64 (1 : Int64) (9 : Int64)).bind fun q2 => if (bI q2) = 0 then (some false) else (some true))
set_option maxHeartbeats 4000000 in
set_option maxRecDepth 100000 in
theorem c_X7_isSpot (cy : Nat → ClassId)  (x0 : Int32) (x1 : Int32) (res : Bool) (h : f_X7_isSpot x0 x1 = some res) : MG cy yX7_isSpot cX7_isSpot 2 (some .boolean) 1 25 [.int x0, .int x1] [] (some (.int (bI res))) [] := by
  refine MG_of (o := 7) (lv := [(0, .int x0), (1, .int x1)]) ⟨by decide +kernel, rfl⟩ (Nat.le_of_ble_eq_true rfl) rfl (fun k C hR => ?_)
  rw [f_X7_isSpot] at h
  refine G_r C [(.iload_n 0, 1, 0, 0, .null), (.i2l, 1, 0, 0, .null)] 2 [(0, .int x0), (1, .int x1)] [.long x0.toInt64] [] (by decide +kernel) rfl rfl ?_
  refine G_ldc2 C co_7_109 (by decide +kernel) ?_
  refine G_ldc2 C co_7_111 (by decide +kernel) ?_
  obtain ⟨q1, hq1, h⟩ := obd h
  refine G_cS C lk_7_64 ⟨Nat.le_of_ble_eq_true rfl, Nat.le_of_ble_eq_true rfl⟩ (by decide +kernel) [.int (bI q1)] (c_X7_in cy x0.toInt64 (-99 : Int64) (99 : Int64) q1 hq1) rfl rfl (Nat.le_of_ble_eq_true rfl) rfl ?_
  refine G_if_eq C (off := 19) (tgt := 30) (by decide +kernel) rfl (fun c => ?_) (fun c => ?_)
  · rw [if_pos c] at h
    refine G_r C [(.iconst 0, 1, 0, 0, .int (0 : Int32))] 31 [(0, .int x0), (1, .int x1)] [.int (0 : Int32)] [] (by decide +kernel) rfl rfl ?_
    have h := Option.some.inj h
    subst h
    exact G_zret C (v := false) hR (by decide +kernel)
  · rw [if_neg c] at h
    refine G_r C [(.iload_n 1, 1, 0, 0, .null), (.i2l, 1, 0, 0, .null), (.lconst 1, 1, 0, 0, .long (1 : Int64))] 17 [(0, .int x0), (1, .int x1)] [.long (1 : Int64), .long x1.toInt64] [] (by decide +kernel) rfl rfl ?_
    refine G_ldc2 C co_7_107 (by decide +kernel) ?_
    obtain ⟨q2, hq2, h⟩ := obd h
    refine G_cS C lk_7_64 ⟨Nat.le_of_ble_eq_true rfl, Nat.le_of_ble_eq_true rfl⟩ (by decide +kernel) [.int (bI q2)] (c_X7_in cy x1.toInt64 (1 : Int64) (9 : Int64) q2 hq2) rfl rfl (Nat.le_of_ble_eq_true rfl) rfl ?_
    refine G_if_eq C (off := 7) (tgt := 30) (by decide +kernel) rfl (fun c => ?_) (fun c => ?_)
    · rw [if_pos c] at h
      refine G_r C [(.iconst 0, 1, 0, 0, .int (0 : Int32))] 31 [(0, .int x0), (1, .int x1)] [.int (0 : Int32)] [] (by decide +kernel) rfl rfl ?_
      have h := Option.some.inj h
      subst h
      exact G_zret C (v := false) hR (by decide +kernel)
    · rw [if_neg c] at h
      refine G_r C [(.iconst 1, 1, 0, 0, .int (1 : Int32))] 27 [(0, .int x0), (1, .int x1)] [.int (1 : Int32)] [] (by decide +kernel) rfl rfl ?_
      refine G_goto C (off := 4) (tgt := 31) (by decide +kernel) rfl ?_
      have h := Option.some.inj h
      subst h
      exact G_zret C (v := true) hR (by decide +kernel)
def f_X7_polyAt_L6 : Nat → Int32 → Int32 → Int32 → Int64 → Int32 → (Nat → Int64) → Option Int64
  | 0, _, _, _, _, _, _ => none
  | fu + 1, x1, x2, x3, x4, x6, MP => if x1 < x6 then (some x4) else (if x6 < 0 ∨ 4 ≤ x6.toNatClampNeg then none else (f_X7_power x2.toInt64 x6).bind fun q1 => (f_X7_power x3.toInt64 (x1 - x6)).bind fun q2 => f_X7_polyAt_L6 fu x1 x2 x3 (x4 + (((MP x6.toNatClampNeg) * q1) * q2)) (x6 + (1 : Int32)) MP)
def f_X7_polyAt (x1 : Int32) (x2 : Int32) (x3 : Int32) (MP : Nat → Int64) : Option Int64 := (f_X7_polyAt_L6 200 x1 x2 x3 (0 : Int64) (0 : Int32) MP).bind fun q3 => some q3
set_option maxHeartbeats 4000000 in
set_option maxRecDepth 100000 in
theorem g_X7_polyAt_L6 {k : KX} {cy : Nat → ClassId} (C : OK k cX7_polyAt 7 7 cy 1 25) : ∀ (fu : Nat) (x1 : Int32) (x2 : Int32) (x3 : Int32) (x4 : Int64) (x6 : Int32) (Ms : Int32) (Mb : Int32) (Mq : Int32) (MB : Int64) (My : Int32) (ML : Int32) (Mg : Int32) (MF : Int32) (MW : Bool) (MI : Bool) (MA : Int32) (Mr : Nat → Int32) (Ma : Nat → Int32) (Mp : Nat → Int32) (Mf : Nat → Int32) (Mt : Nat → Int32) (Ml : Nat → Int32) (Mo : Nat → Int32) (Mn : Nat → Int32) (Mm : Nat → Int64) (MT : Nat → Int64) (MP : Nat → Int64) (Mv : Nat → Int32) (Mx : Nat → Int64) (Mz : Nat → Int64) (res : Int64), (f_X7_polyAt_L6 fu x1 x2 x3 x4 x6 MP = some res) → G k 7 48 [(4, .long res)] [] (wMo cy Ms Mb Mq MB My ML Mg MF MW MI MA Mr Ma Mp Mf Mt Ml Mo Mn Mm MT MP Mv Mx Mz) → G k 7 6 [(0, .ref 0), (1, .int x1), (2, .int x2), (3, .int x3), (4, .long x4), (6, .int x6)] [] (wMo cy Ms Mb Mq MB My ML Mg MF MW MI MA Mr Ma Mp Mf Mt Ml Mo Mn Mm MT MP Mv Mx Mz) := by
  intro fu
  induction fu with
  | zero =>
    intro x1 x2 x3 x4 x6 Ms Mb Mq MB My ML Mg MF MW MI MA Mr Ma Mp Mf Mt Ml Mo Mn Mm MT MP Mv Mx Mz res h hex
    rw [f_X7_polyAt_L6] at h
    cases h
  | succ fu ih =>
    intro x1 x2 x3 x4 x6 Ms Mb Mq MB My ML Mg MF MW MI MA Mr Ma Mp Mf Mt Ml Mo Mn Mm MT MP Mv Mx Mz res h hex
    rw [f_X7_polyAt_L6] at h
    refine G_r C [(.iload 6, 2, 0, 0, .null), (.iload_n 1, 1, 0, 0, .null)] 9 [(0, .ref 0), (1, .int x1), (2, .int x2), (3, .int x3), (4, .long x4), (6, .int x6)] [.int x1, .int x6] (wMo cy Ms Mb Mq MB My ML Mg MF MW MI MA Mr Ma Mp Mf Mt Ml Mo Mn Mm MT MP Mv Mx Mz) (by decide +kernel) rfl rfl ?_
    refine G_icmp_gt C (off := 39) (tgt := 48) (by decide +kernel) rfl (fun c => ?_) (fun c => ?_)
    · rw [if_pos c] at h
      have h := Option.some.inj h
      subst h
      refine G_lv [4] (lv' := [(4, .long x4)]) rfl ?_
      exact hex
    · rw [if_neg c] at h
      refine G_r C [(.lload 4, 2, 0, 0, .null), (.aload_n 0, 1, 0, 0, .null), (.getfield 41, 3, 7, 13, .null), (.iload 6, 2, 0, 0, .null)] 20 [(0, .ref 0), (1, .int x1), (2, .int x2), (3, .int x3), (4, .long x4), (6, .int x6)] [.int x6, .ref 11, .long x4] (wMo cy Ms Mb Mq MB My ML Mg MF MW MI MA Mr Ma Mp Mf Mt Ml Mo Mn Mm MT MP Mv Mx Mz) (by decide +kernel) rfl rfl ?_
      obtain ⟨cg, h⟩ := oob h
      refine G_lald C (a := 11) rfl cg (by decide +kernel) ?_
      refine G_r C [(.iload_n 2, 1, 0, 0, .null), (.i2l, 1, 0, 0, .null), (.iload 6, 2, 0, 0, .null)] 25 [(0, .ref 0), (1, .int x1), (2, .int x2), (3, .int x3), (4, .long x4), (6, .int x6)] [.int x6, .long x2.toInt64, .long (MP x6.toNatClampNeg), .long x4] (wMo cy Ms Mb Mq MB My ML Mg MF MW MI MA Mr Ma Mp Mf Mt Ml Mo Mn Mm MT MP Mv Mx Mz) (by decide +kernel) rfl rfl ?_
      obtain ⟨q1, hq1, h⟩ := obd h
      refine G_cS C lk_7_93 ⟨Nat.le_of_ble_eq_true rfl, Nat.le_of_ble_eq_true rfl⟩ (by decide +kernel) [.long q1, .long (MP x6.toNatClampNeg), .long x4] (c_X7_power cy x2.toInt64 x6 q1 hq1) rfl rfl (Nat.le_of_ble_eq_true rfl) rfl ?_
      refine G_r C [(.lmul, 1, 0, 0, .null), (.iload_n 3, 1, 0, 0, .null), (.i2l, 1, 0, 0, .null), (.iload_n 1, 1, 0, 0, .null), (.iload 6, 2, 0, 0, .null), (.isub, 1, 0, 0, .null)] 35 [(0, .ref 0), (1, .int x1), (2, .int x2), (3, .int x3), (4, .long x4), (6, .int x6)] [.int (x1 - x6), .long x3.toInt64, .long ((MP x6.toNatClampNeg) * q1), .long x4] (wMo cy Ms Mb Mq MB My ML Mg MF MW MI MA Mr Ma Mp Mf Mt Ml Mo Mn Mm MT MP Mv Mx Mz) (by decide +kernel) rfl rfl ?_
      obtain ⟨q2, hq2, h⟩ := obd h
      refine G_cS C lk_7_93 ⟨Nat.le_of_ble_eq_true rfl, Nat.le_of_ble_eq_true rfl⟩ (by decide +kernel) [.long q2, .long ((MP x6.toNatClampNeg) * q1), .long x4] (c_X7_power cy x3.toInt64 (x1 - x6) q2 hq2) rfl rfl (Nat.le_of_ble_eq_true rfl) rfl ?_
      refine G_r C [(.lmul, 1, 0, 0, .null), (.ladd, 1, 0, 0, .null), (.lstore 4, 2, 0, 0, .null), (.iinc 6 1, 3, 0, 0, .int (1 : Int32))] 45 [(6, .int (x6 + (1 : Int32))), (4, .long (x4 + (((MP x6.toNatClampNeg) * q1) * q2))), (0, .ref 0), (1, .int x1), (2, .int x2), (3, .int x3)] [] (wMo cy Ms Mb Mq MB My ML Mg MF MW MI MA Mr Ma Mp Mf Mt Ml Mo Mn Mm MT MP Mv Mx Mz) (by decide +kernel) rfl rfl ?_
      refine G_goto C (off := -39) (tgt := 6) (by decide +kernel) rfl ?_
      refine G_lv [2, 3, 4, 5, 1, 0] (lv' := [(0, .ref 0), (1, .int x1), (2, .int x2), (3, .int x3), (4, .long (x4 + (((MP x6.toNatClampNeg) * q1) * q2))), (6, .int (x6 + (1 : Int32)))]) rfl ?_
      exact ih x1 x2 x3 (x4 + (((MP x6.toNatClampNeg) * q1) * q2)) (x6 + (1 : Int32)) Ms Mb Mq MB My ML Mg MF MW MI MA Mr Ma Mp Mf Mt Ml Mo Mn Mm MT MP Mv Mx Mz res h hex
set_option maxHeartbeats 4000000 in
set_option maxRecDepth 100000 in
theorem c_X7_polyAt (cy : Nat → ClassId) (Ms : Int32) (Mb : Int32) (Mq : Int32) (MB : Int64) (My : Int32) (ML : Int32) (Mg : Int32) (MF : Int32) (MW : Bool) (MI : Bool) (MA : Int32) (Mr : Nat → Int32) (Ma : Nat → Int32) (Mp : Nat → Int32) (Mf : Nat → Int32) (Mt : Nat → Int32) (Ml : Nat → Int32) (Mo : Nat → Int32) (Mn : Nat → Int32) (Mm : Nat → Int64) (MT : Nat → Int64) (MP : Nat → Int64) (Mv : Nat → Int32) (Mx : Nat → Int64) (Mz : Nat → Int64) (x1 : Int32) (x2 : Int32) (x3 : Int32) (res : Int64) (h : f_X7_polyAt x1 x2 x3 MP = some res) : MG cy yX7_polyAt cX7_polyAt 7 (some .long) 1 25 [.ref 0, .int x1, .int x2, .int x3] (wMo cy Ms Mb Mq MB My ML Mg MF MW MI MA Mr Ma Mp Mf Mt Ml Mo Mn Mm MT MP Mv Mx Mz) (some (.long res)) (wMo cy Ms Mb Mq MB My ML Mg MF MW MI MA Mr Ma Mp Mf Mt Ml Mo Mn Mm MT MP Mv Mx Mz) := by
  refine MG_of (o := 7) (lv := [(0, .ref 0), (1, .int x1), (2, .int x2), (3, .int x3)]) ⟨by decide +kernel, rfl⟩ (Nat.le_of_ble_eq_true rfl) rfl (fun k C hR => ?_)
  rw [f_X7_polyAt] at h
  refine G_r C [(.lconst 0, 1, 0, 0, .long (0 : Int64)), (.lstore 4, 2, 0, 0, .null), (.iconst 0, 1, 0, 0, .int (0 : Int32)), (.istore 6, 2, 0, 0, .null)] 6 [(6, .int (0 : Int32)), (4, .long (0 : Int64)), (0, .ref 0), (1, .int x1), (2, .int x2), (3, .int x3)] [] (wMo cy Ms Mb Mq MB My ML Mg MF MW MI MA Mr Ma Mp Mf Mt Ml Mo Mn Mm MT MP Mv Mx Mz) (by decide +kernel) rfl rfl ?_
  obtain ⟨q3, hq3, h⟩ := obd h
  refine G_lv [2, 3, 4, 5, 1, 0] (lv' := [(0, .ref 0), (1, .int x1), (2, .int x2), (3, .int x3), (4, .long (0 : Int64)), (6, .int (0 : Int32))]) rfl ?_
  refine g_X7_polyAt_L6 C 200 x1 x2 x3 (0 : Int64) (0 : Int32) Ms Mb Mq MB My ML Mg MF MW MI MA Mr Ma Mp Mf Mt Ml Mo Mn Mm MT MP Mv Mx Mz q3 hq3 ?_
  refine G_r C [(.lload 4, 2, 0, 0, .null)] 50 [(4, .long q3)] [.long q3] (wMo cy Ms Mb Mq MB My ML Mg MF MW MI MA Mr Ma Mp Mf Mt Ml Mo Mn Mm MT MP Mv Mx Mz) (by decide +kernel) rfl rfl ?_
  have h := Option.some.inj h
  subst h
  exact G_lret C hR (by decide +kernel)
def f_X7_value (x1 : Int32) (x2 : Int32) (x3 : Int32) (x4 : Int32) (MB : Int64) (Mr : Nat → Int32) (Mf : Nat → Int32) (MT : Nat → Int64) (MP : Nat → Int64) : Option (Int64 × Int64 × (Nat → Int32) × (Nat → Int64) × (Nat → Int64)) := (f_X7_in x1.toInt64 (0 : Int64) (3 : Int64)).bind fun q1 => if (bI q1) = 0 then ((f_X7_bad Mf).bind fun q2 => some (q2.1.toInt64, MB, q2.2, MT, MP)) else ((f_X7_isSpot x2 x3).bind fun q3 => if (bI q3) = 0 then ((f_X7_bad Mf).bind fun q4 => some (q4.1.toInt64, MB, q4.2, MT, MP)) else ((f_X7_isPart x4).bind fun q5 => if (bI q5) = 0 then ((f_X7_bad Mf).bind fun q12 => some (q12.1.toInt64, MB, q12.2, MT, MP)) else ((f_X7_isPoly x1 Mr MT).bind fun q6 => if (bI q6.1) = 0 then ((f_X7_no Mf).bind fun q11 => some (q11.1.toInt64, MB, q11.2, q6.2, MP)) else ((f_X7_makePoly x1 Mr q6.2 MP).bind fun q7 => (f_X7_power x3.toInt64 x1).bind fun q8 => (f_X7_polyAt x1 x2 x3 q7.2.2).bind fun q9 => (f_X7_part q9 (q7.1 * q8) x4).bind fun q10 => some (q10, q7.1, Mf, q7.2.1, q7.2.2)))))
set_option maxHeartbeats 4000000 in
set_option maxRecDepth 100000 in
theorem c_X7_value (cy : Nat → ClassId) (Ms : Int32) (Mb : Int32) (Mq : Int32) (MB : Int64) (My : Int32) (ML : Int32) (Mg : Int32) (MF : Int32) (MW : Bool) (MI : Bool) (MA : Int32) (Mr : Nat → Int32) (Ma : Nat → Int32) (Mp : Nat → Int32) (Mf : Nat → Int32) (Mt : Nat → Int32) (Ml : Nat → Int32) (Mo : Nat → Int32) (Mn : Nat → Int32) (Mm : Nat → Int64) (MT : Nat → Int64) (MP : Nat → Int64) (Mv : Nat → Int32) (Mx : Nat → Int64) (Mz : Nat → Int64) (x1 : Int32) (x2 : Int32) (x3 : Int32) (x4 : Int32) (res : (Int64 × Int64 × (Nat → Int32) × (Nat → Int64) × (Nat → Int64))) (h : f_X7_value x1 x2 x3 x4 MB Mr Mf MT MP = some res) : MG cy yX7_value cX7_value 7 (some .long) 3 78 [.ref 0, .int x1, .int x2, .int x3, .int x4] (wMo cy Ms Mb Mq MB My ML Mg MF MW MI MA Mr Ma Mp Mf Mt Ml Mo Mn Mm MT MP Mv Mx Mz) (some (.long res.1)) (wMo cy Ms Mb Mq res.2.1 My ML Mg MF MW MI MA Mr Ma Mp res.2.2.1 Mt Ml Mo Mn Mm res.2.2.2.1 res.2.2.2.2 Mv Mx Mz) := by
  refine MG_of (o := 7) (lv := [(0, .ref 0), (1, .int x1), (2, .int x2), (3, .int x3), (4, .int x4)]) ⟨by decide +kernel, rfl⟩ (Nat.le_of_ble_eq_true rfl) rfl (fun k C hR => ?_)
  rw [f_X7_value] at h
  refine G_r C [(.iload_n 1, 1, 0, 0, .null), (.i2l, 1, 0, 0, .null), (.lconst 0, 1, 0, 0, .long (0 : Int64))] 3 [(0, .ref 0), (1, .int x1), (2, .int x2), (3, .int x3), (4, .int x4)] [.long (0 : Int64), .long x1.toInt64] (wMo cy Ms Mb Mq MB My ML Mg MF MW MI MA Mr Ma Mp Mf Mt Ml Mo Mn Mm MT MP Mv Mx Mz) (by decide +kernel) rfl rfl ?_
  refine G_ldc2 C co_7_157 (by decide +kernel) ?_
  obtain ⟨q1, hq1, h⟩ := obd h
  refine G_cS C lk_7_64 ⟨Nat.le_of_ble_eq_true rfl, Nat.le_of_ble_eq_true rfl⟩ (by decide +kernel) [.int (bI q1)] (c_X7_in cy x1.toInt64 (0 : Int64) (3 : Int64) q1 hq1) rfl rfl (Nat.le_of_ble_eq_true rfl) rfl ?_
  refine G_if_eq C (off := 19) (tgt := 28) (by decide +kernel) rfl (fun c => ?_) (fun c => ?_)
  · rw [if_pos c] at h
    refine G_r C [(.aload_n 0, 1, 0, 0, .null)] 29 [(0, .ref 0), (1, .int x1), (2, .int x2), (3, .int x3), (4, .int x4)] [.ref 0] (wMo cy Ms Mb Mq MB My ML Mg MF MW MI MA Mr Ma Mp Mf Mt Ml Mo Mn Mm MT MP Mv Mx Mz) (by decide +kernel) rfl rfl ?_
    obtain ⟨q2, hq2, h⟩ := obd h
    refine G_c0 C lk_7_72 ⟨Nat.le_of_ble_eq_true rfl, Nat.le_of_ble_eq_true rfl⟩ (by decide +kernel) [.int q2.1] (c_X7_bad cy Ms Mb Mq MB My ML Mg MF MW MI MA Mr Ma Mp Mf Mt Ml Mo Mn Mm MT MP Mv Mx Mz q2 hq2) rfl rfl (Nat.le_of_ble_eq_true rfl) ⟨rfl, rfl⟩ rfl ?_
    refine G_r C [(.i2l, 1, 0, 0, .null)] 33 [(0, .ref 0), (1, .int x1), (2, .int x2), (3, .int x3), (4, .int x4)] [.long q2.1.toInt64] (wMo cy Ms Mb Mq MB My ML Mg MF MW MI MA Mr Ma Mp q2.2 Mt Ml Mo Mn Mm MT MP Mv Mx Mz) (by decide +kernel) rfl rfl ?_
    have h := Option.some.inj h
    subst h
    exact G_lret C hR (by decide +kernel)
  · rw [if_neg c] at h
    refine G_r C [(.iload_n 2, 1, 0, 0, .null), (.iload_n 3, 1, 0, 0, .null)] 14 [(0, .ref 0), (1, .int x1), (2, .int x2), (3, .int x3), (4, .int x4)] [.int x3, .int x2] (wMo cy Ms Mb Mq MB My ML Mg MF MW MI MA Mr Ma Mp Mf Mt Ml Mo Mn Mm MT MP Mv Mx Mz) (by decide +kernel) rfl rfl ?_
    obtain ⟨q3, hq3, h⟩ := obd h
    refine G_cS C lk_7_184 ⟨Nat.le_of_ble_eq_true rfl, Nat.le_of_ble_eq_true rfl⟩ (by decide +kernel) [.int (bI q3)] (c_X7_isSpot cy x2 x3 q3 hq3) rfl rfl (Nat.le_of_ble_eq_true rfl) rfl ?_
    refine G_if_eq C (off := 11) (tgt := 28) (by decide +kernel) rfl (fun c => ?_) (fun c => ?_)
    · rw [if_pos c] at h
      refine G_r C [(.aload_n 0, 1, 0, 0, .null)] 29 [(0, .ref 0), (1, .int x1), (2, .int x2), (3, .int x3), (4, .int x4)] [.ref 0] (wMo cy Ms Mb Mq MB My ML Mg MF MW MI MA Mr Ma Mp Mf Mt Ml Mo Mn Mm MT MP Mv Mx Mz) (by decide +kernel) rfl rfl ?_
      obtain ⟨q4, hq4, h⟩ := obd h
      refine G_c0 C lk_7_72 ⟨Nat.le_of_ble_eq_true rfl, Nat.le_of_ble_eq_true rfl⟩ (by decide +kernel) [.int q4.1] (c_X7_bad cy Ms Mb Mq MB My ML Mg MF MW MI MA Mr Ma Mp Mf Mt Ml Mo Mn Mm MT MP Mv Mx Mz q4 hq4) rfl rfl (Nat.le_of_ble_eq_true rfl) ⟨rfl, rfl⟩ rfl ?_
      refine G_r C [(.i2l, 1, 0, 0, .null)] 33 [(0, .ref 0), (1, .int x1), (2, .int x2), (3, .int x3), (4, .int x4)] [.long q4.1.toInt64] (wMo cy Ms Mb Mq MB My ML Mg MF MW MI MA Mr Ma Mp q4.2 Mt Ml Mo Mn Mm MT MP Mv Mx Mz) (by decide +kernel) rfl rfl ?_
      have h := Option.some.inj h
      subst h
      exact G_lret C hR (by decide +kernel)
    · rw [if_neg c] at h
      refine G_r C [(.iload 4, 2, 0, 0, .null)] 22 [(0, .ref 0), (1, .int x1), (2, .int x2), (3, .int x3), (4, .int x4)] [.int x4] (wMo cy Ms Mb Mq MB My ML Mg MF MW MI MA Mr Ma Mp Mf Mt Ml Mo Mn Mm MT MP Mv Mx Mz) (by decide +kernel) rfl rfl ?_
      obtain ⟨q5, hq5, h⟩ := obd h
      refine G_cS C lk_7_159 ⟨Nat.le_of_ble_eq_true rfl, Nat.le_of_ble_eq_true rfl⟩ (by decide +kernel) [.int (bI q5)] (c_X7_isPart cy x4 q5 hq5) rfl rfl (Nat.le_of_ble_eq_true rfl) rfl ?_
      refine G_if_ne C (off := 9) (tgt := 34) (by decide +kernel) rfl (fun c => ?_) (fun c => ?_)
      · rw [if_neg c] at h
        refine G_r C [(.aload_n 0, 1, 0, 0, .null), (.iload_n 1, 1, 0, 0, .null)] 36 [(0, .ref 0), (1, .int x1), (2, .int x2), (3, .int x3), (4, .int x4)] [.int x1, .ref 0] (wMo cy Ms Mb Mq MB My ML Mg MF MW MI MA Mr Ma Mp Mf Mt Ml Mo Mn Mm MT MP Mv Mx Mz) (by decide +kernel) rfl rfl ?_
        obtain ⟨q6, hq6, h⟩ := obd h
        refine G_c0 C lk_7_162 ⟨Nat.le_of_ble_eq_true rfl, Nat.le_of_ble_eq_true rfl⟩ (by decide +kernel) [.int (bI q6.1)] (c_X7_isPoly cy Ms Mb Mq MB My ML Mg MF MW MI MA Mr Ma Mp Mf Mt Ml Mo Mn Mm MT MP Mv Mx Mz x1 q6 hq6) rfl rfl (Nat.le_of_ble_eq_true rfl) ⟨rfl, rfl⟩ rfl ?_
        refine G_if_ne C (off := 9) (tgt := 48) (by decide +kernel) rfl (fun c => ?_) (fun c => ?_)
        · rw [if_neg c] at h
          refine G_r C [(.aload_n 0, 1, 0, 0, .null), (.iload_n 1, 1, 0, 0, .null)] 50 [(0, .ref 0), (1, .int x1), (2, .int x2), (3, .int x3), (4, .int x4)] [.int x1, .ref 0] (wMo cy Ms Mb Mq MB My ML Mg MF MW MI MA Mr Ma Mp Mf Mt Ml Mo Mn Mm q6.2 MP Mv Mx Mz) (by decide +kernel) rfl rfl ?_
          obtain ⟨q7, hq7, h⟩ := obd h
          refine G_c0 C lk_7_165 ⟨Nat.le_of_ble_eq_true rfl, Nat.le_of_ble_eq_true rfl⟩ (by decide +kernel) [] (c_X7_makePoly cy Ms Mb Mq MB My ML Mg MF MW MI MA Mr Ma Mp Mf Mt Ml Mo Mn Mm q6.2 MP Mv Mx Mz x1 q7 hq7) rfl rfl (Nat.le_of_ble_eq_true rfl) ⟨rfl, rfl⟩ rfl ?_
          refine G_r C [(.aload_n 0, 1, 0, 0, .null), (.getfield 153, 3, 7, 14, .null), (.iload_n 3, 1, 0, 0, .null), (.i2l, 1, 0, 0, .null), (.iload_n 1, 1, 0, 0, .null)] 60 [(0, .ref 0), (1, .int x1), (2, .int x2), (3, .int x3), (4, .int x4)] [.int x1, .long x3.toInt64, .long q7.1] (wMo cy Ms Mb Mq q7.1 My ML Mg MF MW MI MA Mr Ma Mp Mf Mt Ml Mo Mn Mm q7.2.1 q7.2.2 Mv Mx Mz) (by decide +kernel) rfl rfl ?_
          obtain ⟨q8, hq8, h⟩ := obd h
          refine G_cS C lk_7_93 ⟨Nat.le_of_ble_eq_true rfl, Nat.le_of_ble_eq_true rfl⟩ (by decide +kernel) [.long q8, .long q7.1] (c_X7_power cy x3.toInt64 x1 q8 hq8) rfl rfl (Nat.le_of_ble_eq_true rfl) rfl ?_
          refine G_r C [(.lmul, 1, 0, 0, .null), (.lstore 5, 2, 0, 0, .null), (.aload_n 0, 1, 0, 0, .null), (.iload_n 1, 1, 0, 0, .null), (.iload_n 2, 1, 0, 0, .null), (.iload_n 3, 1, 0, 0, .null)] 70 [(5, .long (q7.1 * q8)), (0, .ref 0), (1, .int x1), (2, .int x2), (3, .int x3), (4, .int x4)] [.int x3, .int x2, .int x1, .ref 0] (wMo cy Ms Mb Mq q7.1 My ML Mg MF MW MI MA Mr Ma Mp Mf Mt Ml Mo Mn Mm q7.2.1 q7.2.2 Mv Mx Mz) (by decide +kernel) rfl rfl ?_
          obtain ⟨q9, hq9, h⟩ := obd h
          refine G_c0 C lk_7_187 ⟨Nat.le_of_ble_eq_true rfl, Nat.le_of_ble_eq_true rfl⟩ (by decide +kernel) [.long q9] (c_X7_polyAt cy Ms Mb Mq q7.1 My ML Mg MF MW MI MA Mr Ma Mp Mf Mt Ml Mo Mn Mm q7.2.1 q7.2.2 Mv Mx Mz x1 x2 x3 q9 hq9) rfl rfl (Nat.le_of_ble_eq_true rfl) ⟨rfl, rfl⟩ rfl ?_
          refine G_r C [(.lload 5, 2, 0, 0, .null), (.iload 4, 2, 0, 0, .null)] 77 [(5, .long (q7.1 * q8)), (0, .ref 0), (1, .int x1), (2, .int x2), (3, .int x3), (4, .int x4)] [.int x4, .long (q7.1 * q8), .long q9] (wMo cy Ms Mb Mq q7.1 My ML Mg MF MW MI MA Mr Ma Mp Mf Mt Ml Mo Mn Mm q7.2.1 q7.2.2 Mv Mx Mz) (by decide +kernel) rfl rfl ?_
          obtain ⟨q10, hq10, h⟩ := obd h
          refine G_cS C lk_7_168 ⟨Nat.le_of_ble_eq_true rfl, Nat.le_of_ble_eq_true rfl⟩ (by decide +kernel) [.long q10] (c_X7_part cy q9 (q7.1 * q8) x4 q10 hq10) rfl rfl (Nat.le_of_ble_eq_true rfl) rfl ?_
          have h := Option.some.inj h
          subst h
          exact G_lret C hR (by decide +kernel)
        · rw [if_pos c] at h
          refine G_r C [(.aload_n 0, 1, 0, 0, .null)] 43 [(0, .ref 0), (1, .int x1), (2, .int x2), (3, .int x3), (4, .int x4)] [.ref 0] (wMo cy Ms Mb Mq MB My ML Mg MF MW MI MA Mr Ma Mp Mf Mt Ml Mo Mn Mm q6.2 MP Mv Mx Mz) (by decide +kernel) rfl rfl ?_
          obtain ⟨q11, hq11, h⟩ := obd h
          refine G_c0 C lk_7_87 ⟨Nat.le_of_ble_eq_true rfl, Nat.le_of_ble_eq_true rfl⟩ (by decide +kernel) [.int q11.1] (c_X7_no cy Ms Mb Mq MB My ML Mg MF MW MI MA Mr Ma Mp Mf Mt Ml Mo Mn Mm q6.2 MP Mv Mx Mz q11 hq11) rfl rfl (Nat.le_of_ble_eq_true rfl) ⟨rfl, rfl⟩ rfl ?_
          refine G_r C [(.i2l, 1, 0, 0, .null)] 47 [(0, .ref 0), (1, .int x1), (2, .int x2), (3, .int x3), (4, .int x4)] [.long q11.1.toInt64] (wMo cy Ms Mb Mq MB My ML Mg MF MW MI MA Mr Ma Mp q11.2 Mt Ml Mo Mn Mm q6.2 MP Mv Mx Mz) (by decide +kernel) rfl rfl ?_
          have h := Option.some.inj h
          subst h
          exact G_lret C hR (by decide +kernel)
      · rw [if_pos c] at h
        refine G_r C [(.aload_n 0, 1, 0, 0, .null)] 29 [(0, .ref 0), (1, .int x1), (2, .int x2), (3, .int x3), (4, .int x4)] [.ref 0] (wMo cy Ms Mb Mq MB My ML Mg MF MW MI MA Mr Ma Mp Mf Mt Ml Mo Mn Mm MT MP Mv Mx Mz) (by decide +kernel) rfl rfl ?_
        obtain ⟨q12, hq12, h⟩ := obd h
        refine G_c0 C lk_7_72 ⟨Nat.le_of_ble_eq_true rfl, Nat.le_of_ble_eq_true rfl⟩ (by decide +kernel) [.int q12.1] (c_X7_bad cy Ms Mb Mq MB My ML Mg MF MW MI MA Mr Ma Mp Mf Mt Ml Mo Mn Mm MT MP Mv Mx Mz q12 hq12) rfl rfl (Nat.le_of_ble_eq_true rfl) ⟨rfl, rfl⟩ rfl ?_
        refine G_r C [(.i2l, 1, 0, 0, .null)] 33 [(0, .ref 0), (1, .int x1), (2, .int x2), (3, .int x3), (4, .int x4)] [.long q12.1.toInt64] (wMo cy Ms Mb Mq MB My ML Mg MF MW MI MA Mr Ma Mp q12.2 Mt Ml Mo Mn Mm MT MP Mv Mx Mz) (by decide +kernel) rfl rfl ?_
        have h := Option.some.inj h
        subst h
        exact G_lret C hR (by decide +kernel)
