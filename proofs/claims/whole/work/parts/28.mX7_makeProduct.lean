def f_X7_makeProduct_L58 : Nat → Int32 → Int32 → (Nat → Int64) → Option (Nat → Int64)
  | 0, _, _, _ => none
  | fu + 1, x3, x4, Mx => if x4 ≤ 0 then (some Mx) else (if (x4 - (1 : Int32)) < 0 ∨ 9 ≤ (x4 - (1 : Int32)).toNatClampNeg then none else if x4 < 0 ∨ 9 ≤ x4.toNatClampNeg then none else if x4 < 0 ∨ 9 ≤ x4.toNatClampNeg then none else f_X7_makeProduct_L58 fu x3 (x4 + (-1 : Int32)) (vp_updL Mx x4.toNatClampNeg ((Mx (x4 - (1 : Int32)).toNatClampNeg) - (x3.toInt64 * (Mx x4.toNatClampNeg)))))
def f_X7_makeProduct_L15 : Nat → Int32 → Int32 → Int32 → Int32 → (Nat → Int64) → Option (Int32 × (Nat → Int64))
  | 0, _, _, _, _, _ => none
  | fu + 1, x1, x2, x3, My, Mx => if (9 : Int32) < x3 then (some (My, Mx)) else (if ((x1 >>> ((x3 + (9 : Int32)) &&& 31)) &&& (1 : Int32)) = (1 : Int32) then (if x3 = x2 then (f_X7_makeProduct_L15 fu x1 x2 (x3 + (1 : Int32)) My Mx) else (if (My + (1 : Int32)) < 0 ∨ 9 ≤ (My + (1 : Int32)).toNatClampNeg then none else (f_X7_makeProduct_L58 200 x3 (My + (1 : Int32)) (vp_updL Mx (My + (1 : Int32)).toNatClampNeg (0 : Int64))).bind fun q1 => if (0 : Int32) < 0 ∨ 9 ≤ (0 : Int32).toNatClampNeg then none else if (0 : Int32) < 0 ∨ 9 ≤ (0 : Int32).toNatClampNeg then none else f_X7_makeProduct_L15 fu x1 x2 (x3 + (1 : Int32)) (My + (1 : Int32)) (vp_updL q1 (0 : Int32).toNatClampNeg ((q1 (0 : Int32).toNatClampNeg) * ((-x3).toInt64))))) else (f_X7_makeProduct_L15 fu x1 x2 (x3 + (1 : Int32)) My Mx))
def f_X7_makeProduct (x1 : Int32) (x2 : Int32) (Mx : Nat → Int64) : Option (Int32 × (Nat → Int64)) := if (0 : Int32) < 0 ∨ 9 ≤ (0 : Int32).toNatClampNeg then none else (f_X7_makeProduct_L15 200 x1 x2 (-9 : Int32) (0 : Int32) (vp_updL Mx (0 : Int32).toNatClampNeg (1 : Int64))).bind fun q2 => some (q2.1, q2.2)
set_option maxHeartbeats 4000000 in
set_option maxRecDepth 100000 in
theorem g_X7_makeProduct_L58 {k : KX} {cy : Nat → ClassId} (C : OK k cX7_makeProduct 7 5 cy 0 0) : ∀ (fu : Nat) (x1 : Int32) (x2 : Int32) (x3 : Int32) (x4 : Int32) (Ms : Int32) (Mb : Int32) (Mq : Int32) (MB : Int64) (My : Int32) (ML : Int32) (Mg : Int32) (MF : Int32) (MW : Bool) (MI : Bool) (MA : Int32) (Mr : Nat → Int32) (Ma : Nat → Int32) (Mp : Nat → Int32) (Mf : Nat → Int32) (Mt : Nat → Int32) (Ml : Nat → Int32) (Mo : Nat → Int32) (Mn : Nat → Int32) (Mm : Nat → Int64) (MT : Nat → Int64) (MP : Nat → Int64) (Mv : Nat → Int32) (Mx : Nat → Int64) (Mz : Nat → Int64) (res : (Nat → Int64)), (f_X7_makeProduct_L58 fu x3 x4 Mx = some res) → G k 5 96 [(0, .ref 0), (1, .int x1), (2, .int x2), (3, .int x3)] [] (wMo cy Ms Mb Mq MB My ML Mg MF MW MI MA Mr Ma Mp Mf Mt Ml Mo Mn Mm MT MP Mv res Mz) → G k 5 58 [(0, .ref 0), (1, .int x1), (2, .int x2), (3, .int x3), (4, .int x4)] [] (wMo cy Ms Mb Mq MB My ML Mg MF MW MI MA Mr Ma Mp Mf Mt Ml Mo Mn Mm MT MP Mv Mx Mz) := by
  intro fu
  induction fu with
  | zero =>
    intro x1 x2 x3 x4 Ms Mb Mq MB My ML Mg MF MW MI MA Mr Ma Mp Mf Mt Ml Mo Mn Mm MT MP Mv Mx Mz res h hex
    rw [f_X7_makeProduct_L58] at h
    cases h
  | succ fu ih =>
    intro x1 x2 x3 x4 Ms Mb Mq MB My ML Mg MF MW MI MA Mr Ma Mp Mf Mt Ml Mo Mn Mm MT MP Mv Mx Mz res h hex
    rw [f_X7_makeProduct_L58] at h
    refine G_r C [(.iload 4, 2, 0, 0, .null)] 60 [(0, .ref 0), (1, .int x1), (2, .int x2), (3, .int x3), (4, .int x4)] [.int x4] (wMo cy Ms Mb Mq MB My ML Mg MF MW MI MA Mr Ma Mp Mf Mt Ml Mo Mn Mm MT MP Mv Mx Mz) (by decide +kernel) rfl rfl ?_
    refine G_if_le C (off := 36) (tgt := 96) (by decide +kernel) rfl (fun c => ?_) (fun c => ?_)
    · rw [if_pos c] at h
      have h := Option.some.inj h
      subst h
      refine G_lv [0, 1, 2, 3] (lv' := [(0, .ref 0), (1, .int x1), (2, .int x2), (3, .int x3)]) rfl ?_
      exact hex
    · rw [if_neg c] at h
      refine G_r C [(.aload_n 0, 1, 0, 0, .null), (.getfield 47, 3, 7, 16, .null), (.iload 4, 2, 0, 0, .null), (.aload_n 0, 1, 0, 0, .null), (.getfield 47, 3, 7, 16, .null), (.iload 4, 2, 0, 0, .null), (.iconst 1, 1, 0, 0, .int (1 : Int32)), (.isub, 1, 0, 0, .null)] 77 [(0, .ref 0), (1, .int x1), (2, .int x2), (3, .int x3), (4, .int x4)] [.int (x4 - (1 : Int32)), .ref 13, .int x4, .ref 13] (wMo cy Ms Mb Mq MB My ML Mg MF MW MI MA Mr Ma Mp Mf Mt Ml Mo Mn Mm MT MP Mv Mx Mz) (by decide +kernel) rfl rfl ?_
      obtain ⟨cg, h⟩ := oob h
      refine G_lald C (a := 13) rfl cg (by decide +kernel) ?_
      refine G_r C [(.iload_n 3, 1, 0, 0, .null), (.i2l, 1, 0, 0, .null), (.aload_n 0, 1, 0, 0, .null), (.getfield 47, 3, 7, 16, .null), (.iload 4, 2, 0, 0, .null)] 86 [(0, .ref 0), (1, .int x1), (2, .int x2), (3, .int x3), (4, .int x4)] [.int x4, .ref 13, .long x3.toInt64, .long (Mx (x4 - (1 : Int32)).toNatClampNeg), .int x4, .ref 13] (wMo cy Ms Mb Mq MB My ML Mg MF MW MI MA Mr Ma Mp Mf Mt Ml Mo Mn Mm MT MP Mv Mx Mz) (by decide +kernel) rfl rfl ?_
      obtain ⟨cg, h⟩ := oob h
      refine G_lald C (a := 13) rfl cg (by decide +kernel) ?_
      refine G_r C [(.lmul, 1, 0, 0, .null), (.lsub, 1, 0, 0, .null)] 89 [(0, .ref 0), (1, .int x1), (2, .int x2), (3, .int x3), (4, .int x4)] [.long ((Mx (x4 - (1 : Int32)).toNatClampNeg) - (x3.toInt64 * (Mx x4.toNatClampNeg))), .int x4, .ref 13] (wMo cy Ms Mb Mq MB My ML Mg MF MW MI MA Mr Ma Mp Mf Mt Ml Mo Mn Mm MT MP Mv Mx Mz) (by decide +kernel) rfl rfl ?_
      obtain ⟨cg, h⟩ := oob h
      refine G_last C (a := 13) (w' := (wMo cy Ms Mb Mq MB My ML Mg MF MW MI MA Mr Ma Mp Mf Mt Ml Mo Mn Mm MT MP Mv (vp_updL Mx x4.toNatClampNeg ((Mx (x4 - (1 : Int32)).toNatClampNeg) - (x3.toInt64 * (Mx x4.toNatClampNeg)))) Mz)) rfl cg (by decide +kernel) rfl ?_
      refine G_r C [(.iinc 4 (-1), 3, 0, 0, .int (-1 : Int32))] 93 [(4, .int (x4 + (-1 : Int32))), (0, .ref 0), (1, .int x1), (2, .int x2), (3, .int x3)] [] (wMo cy Ms Mb Mq MB My ML Mg MF MW MI MA Mr Ma Mp Mf Mt Ml Mo Mn Mm MT MP Mv (vp_updL Mx x4.toNatClampNeg ((Mx (x4 - (1 : Int32)).toNatClampNeg) - (x3.toInt64 * (Mx x4.toNatClampNeg)))) Mz) (by decide +kernel) rfl rfl ?_
      refine G_goto C (off := -35) (tgt := 58) (by decide +kernel) rfl ?_
      refine G_lv [1, 2, 3, 4, 0] (lv' := [(0, .ref 0), (1, .int x1), (2, .int x2), (3, .int x3), (4, .int (x4 + (-1 : Int32)))]) rfl ?_
      exact ih x1 x2 x3 (x4 + (-1 : Int32)) Ms Mb Mq MB My ML Mg MF MW MI MA Mr Ma Mp Mf Mt Ml Mo Mn Mm MT MP Mv (vp_updL Mx x4.toNatClampNeg ((Mx (x4 - (1 : Int32)).toNatClampNeg) - (x3.toInt64 * (Mx x4.toNatClampNeg)))) Mz res h hex
set_option maxHeartbeats 4000000 in
set_option maxRecDepth 100000 in
theorem g_X7_makeProduct_L15 {k : KX} {cy : Nat → ClassId} (C : OK k cX7_makeProduct 7 5 cy 0 0) : ∀ (fu : Nat) (x1 : Int32) (x2 : Int32) (x3 : Int32) (Ms : Int32) (Mb : Int32) (Mq : Int32) (MB : Int64) (My : Int32) (ML : Int32) (Mg : Int32) (MF : Int32) (MW : Bool) (MI : Bool) (MA : Int32) (Mr : Nat → Int32) (Ma : Nat → Int32) (Mp : Nat → Int32) (Mf : Nat → Int32) (Mt : Nat → Int32) (Ml : Nat → Int32) (Mo : Nat → Int32) (Mn : Nat → Int32) (Mm : Nat → Int64) (MT : Nat → Int64) (MP : Nat → Int64) (Mv : Nat → Int32) (Mx : Nat → Int64) (Mz : Nat → Int64) (res : (Int32 × (Nat → Int64))), (f_X7_makeProduct_L15 fu x1 x2 x3 My Mx = some res) → G k 5 124 [] [] (wMo cy Ms Mb Mq MB res.1 ML Mg MF MW MI MA Mr Ma Mp Mf Mt Ml Mo Mn Mm MT MP Mv res.2 Mz) → G k 5 15 [(0, .ref 0), (1, .int x1), (2, .int x2), (3, .int x3)] [] (wMo cy Ms Mb Mq MB My ML Mg MF MW MI MA Mr Ma Mp Mf Mt Ml Mo Mn Mm MT MP Mv Mx Mz) := by
  intro fu
  induction fu with
  | zero =>
    intro x1 x2 x3 Ms Mb Mq MB My ML Mg MF MW MI MA Mr Ma Mp Mf Mt Ml Mo Mn Mm MT MP Mv Mx Mz res h hex
    rw [f_X7_makeProduct_L15] at h
    cases h
  | succ fu ih =>
    intro x1 x2 x3 Ms Mb Mq MB My ML Mg MF MW MI MA Mr Ma Mp Mf Mt Ml Mo Mn Mm MT MP Mv Mx Mz res h hex
    rw [f_X7_makeProduct_L15] at h
    refine G_r C [(.iload_n 3, 1, 0, 0, .null), (.bipush 9, 2, 0, 0, .int (9 : Int32))] 18 [(0, .ref 0), (1, .int x1), (2, .int x2), (3, .int x3)] [.int (9 : Int32), .int x3] (wMo cy Ms Mb Mq MB My ML Mg MF MW MI MA Mr Ma Mp Mf Mt Ml Mo Mn Mm MT MP Mv Mx Mz) (by decide +kernel) rfl rfl ?_
    refine G_icmp_gt C (off := 106) (tgt := 124) (by decide +kernel) rfl (fun c => ?_) (fun c => ?_)
    · rw [if_pos c] at h
      have h := Option.some.inj h
      subst h
      refine G_lv [] (lv' := []) rfl ?_
      exact hex
    · rw [if_neg c] at h
      refine G_r C [(.iload_n 1, 1, 0, 0, .null), (.iload_n 3, 1, 0, 0, .null), (.bipush 9, 2, 0, 0, .int (9 : Int32)), (.iadd, 1, 0, 0, .null), (.ishr, 1, 0, 0, .null), (.iconst 1, 1, 0, 0, .int (1 : Int32)), (.iand, 1, 0, 0, .null), (.iconst 1, 1, 0, 0, .int (1 : Int32))] 30 [(0, .ref 0), (1, .int x1), (2, .int x2), (3, .int x3)] [.int (1 : Int32), .int ((x1 >>> ((x3 + (9 : Int32)) &&& 31)) &&& (1 : Int32))] (wMo cy Ms Mb Mq MB My ML Mg MF MW MI MA Mr Ma Mp Mf Mt Ml Mo Mn Mm MT MP Mv Mx Mz) (by decide +kernel) rfl rfl ?_
      refine G_icmp_ne C (off := 88) (tgt := 118) (by decide +kernel) rfl (fun c => ?_) (fun c => ?_)
      · rw [if_neg c] at h
        refine G_r C [(.iinc 3 1, 3, 0, 0, .int (1 : Int32))] 121 [(3, .int (x3 + (1 : Int32))), (0, .ref 0), (1, .int x1), (2, .int x2)] [] (wMo cy Ms Mb Mq MB My ML Mg MF MW MI MA Mr Ma Mp Mf Mt Ml Mo Mn Mm MT MP Mv Mx Mz) (by decide +kernel) rfl rfl ?_
        refine G_goto C (off := -106) (tgt := 15) (by decide +kernel) rfl ?_
        refine G_lv [1, 2, 3, 0] (lv' := [(0, .ref 0), (1, .int x1), (2, .int x2), (3, .int (x3 + (1 : Int32)))]) rfl ?_
        exact ih x1 x2 (x3 + (1 : Int32)) Ms Mb Mq MB My ML Mg MF MW MI MA Mr Ma Mp Mf Mt Ml Mo Mn Mm MT MP Mv Mx Mz res h hex
      · rw [if_pos c] at h
        refine G_r C [(.iload_n 3, 1, 0, 0, .null), (.iload_n 2, 1, 0, 0, .null)] 35 [(0, .ref 0), (1, .int x1), (2, .int x2), (3, .int x3)] [.int x2, .int x3] (wMo cy Ms Mb Mq MB My ML Mg MF MW MI MA Mr Ma Mp Mf Mt Ml Mo Mn Mm MT MP Mv Mx Mz) (by decide +kernel) rfl rfl ?_
        refine G_icmp_eq C (off := 83) (tgt := 118) (by decide +kernel) rfl (fun c => ?_) (fun c => ?_)
        · rw [if_pos c] at h
          refine G_r C [(.iinc 3 1, 3, 0, 0, .int (1 : Int32))] 121 [(3, .int (x3 + (1 : Int32))), (0, .ref 0), (1, .int x1), (2, .int x2)] [] (wMo cy Ms Mb Mq MB My ML Mg MF MW MI MA Mr Ma Mp Mf Mt Ml Mo Mn Mm MT MP Mv Mx Mz) (by decide +kernel) rfl rfl ?_
          refine G_goto C (off := -106) (tgt := 15) (by decide +kernel) rfl ?_
          refine G_lv [1, 2, 3, 0] (lv' := [(0, .ref 0), (1, .int x1), (2, .int x2), (3, .int (x3 + (1 : Int32)))]) rfl ?_
          exact ih x1 x2 (x3 + (1 : Int32)) Ms Mb Mq MB My ML Mg MF MW MI MA Mr Ma Mp Mf Mt Ml Mo Mn Mm MT MP Mv Mx Mz res h hex
        · rw [if_neg c] at h
          refine G_r C [(.aload_n 0, 1, 0, 0, .null), (.getfield 47, 3, 7, 16, .null), (.aload_n 0, 1, 0, 0, .null), (.getfield 204, 3, 7, 17, .null), (.iconst 1, 1, 0, 0, .int (1 : Int32)), (.iadd, 1, 0, 0, .null), (.lconst 0, 1, 0, 0, .long (0 : Int64))] 49 [(0, .ref 0), (1, .int x1), (2, .int x2), (3, .int x3)] [.long (0 : Int64), .int (My + (1 : Int32)), .ref 13] (wMo cy Ms Mb Mq MB My ML Mg MF MW MI MA Mr Ma Mp Mf Mt Ml Mo Mn Mm MT MP Mv Mx Mz) (by decide +kernel) rfl rfl ?_
          obtain ⟨cg, h⟩ := oob h
          refine G_last C (a := 13) (w' := (wMo cy Ms Mb Mq MB My ML Mg MF MW MI MA Mr Ma Mp Mf Mt Ml Mo Mn Mm MT MP Mv (vp_updL Mx (My + (1 : Int32)).toNatClampNeg (0 : Int64)) Mz)) rfl cg (by decide +kernel) rfl ?_
          refine G_r C [(.aload_n 0, 1, 0, 0, .null), (.getfield 204, 3, 7, 17, .null), (.iconst 1, 1, 0, 0, .int (1 : Int32)), (.iadd, 1, 0, 0, .null), (.istore 4, 2, 0, 0, .null)] 58 [(4, .int (My + (1 : Int32))), (0, .ref 0), (1, .int x1), (2, .int x2), (3, .int x3)] [] (wMo cy Ms Mb Mq MB My ML Mg MF MW MI MA Mr Ma Mp Mf Mt Ml Mo Mn Mm MT MP Mv (vp_updL Mx (My + (1 : Int32)).toNatClampNeg (0 : Int64)) Mz) (by decide +kernel) rfl rfl ?_
          obtain ⟨q1, hq1, h⟩ := obd h
          refine G_lv [1, 2, 3, 4, 0] (lv' := [(0, .ref 0), (1, .int x1), (2, .int x2), (3, .int x3), (4, .int (My + (1 : Int32)))]) rfl ?_
          refine g_X7_makeProduct_L58 C 200 x1 x2 x3 (My + (1 : Int32)) Ms Mb Mq MB My ML Mg MF MW MI MA Mr Ma Mp Mf Mt Ml Mo Mn Mm MT MP Mv (vp_updL Mx (My + (1 : Int32)).toNatClampNeg (0 : Int64)) Mz q1 hq1 ?_
          refine G_r C [(.aload_n 0, 1, 0, 0, .null), (.getfield 47, 3, 7, 16, .null), (.iconst 0, 1, 0, 0, .int (0 : Int32)), (.dup2, 1, 0, 0, .null)] 102 [(0, .ref 0), (1, .int x1), (2, .int x2), (3, .int x3)] [.int (0 : Int32), .ref 13, .int (0 : Int32), .ref 13] (wMo cy Ms Mb Mq MB My ML Mg MF MW MI MA Mr Ma Mp Mf Mt Ml Mo Mn Mm MT MP Mv q1 Mz) (by decide +kernel) rfl rfl ?_
          obtain ⟨cg, h⟩ := oob h
          refine G_lald C (a := 13) rfl cg (by decide +kernel) ?_
          refine G_r C [(.iload_n 3, 1, 0, 0, .null), (.ineg, 1, 0, 0, .null), (.i2l, 1, 0, 0, .null), (.lmul, 1, 0, 0, .null)] 107 [(0, .ref 0), (1, .int x1), (2, .int x2), (3, .int x3)] [.long ((q1 (0 : Int32).toNatClampNeg) * ((-x3).toInt64)), .int (0 : Int32), .ref 13] (wMo cy Ms Mb Mq MB My ML Mg MF MW MI MA Mr Ma Mp Mf Mt Ml Mo Mn Mm MT MP Mv q1 Mz) (by decide +kernel) rfl rfl ?_
          obtain ⟨cg, h⟩ := oob h
          refine G_last C (a := 13) (w' := (wMo cy Ms Mb Mq MB My ML Mg MF MW MI MA Mr Ma Mp Mf Mt Ml Mo Mn Mm MT MP Mv (vp_updL q1 (0 : Int32).toNatClampNeg ((q1 (0 : Int32).toNatClampNeg) * ((-x3).toInt64))) Mz)) rfl cg (by decide +kernel) rfl ?_
          refine G_r C [(.aload_n 0, 1, 0, 0, .null), (.dup, 1, 0, 0, .null), (.getfield 204, 3, 7, 17, .null), (.iconst 1, 1, 0, 0, .int (1 : Int32)), (.iadd, 1, 0, 0, .null), (.putfield 204, 3, 7, 17, .null), (.iinc 3 1, 3, 0, 0, .int (1 : Int32))] 121 [(3, .int (x3 + (1 : Int32))), (0, .ref 0), (1, .int x1), (2, .int x2)] [] (wMo cy Ms Mb Mq MB (My + (1 : Int32)) ML Mg MF MW MI MA Mr Ma Mp Mf Mt Ml Mo Mn Mm MT MP Mv (vp_updL q1 (0 : Int32).toNatClampNeg ((q1 (0 : Int32).toNatClampNeg) * ((-x3).toInt64))) Mz) (by decide +kernel) rfl rfl ?_
          refine G_goto C (off := -106) (tgt := 15) (by decide +kernel) rfl ?_
          refine G_lv [1, 2, 3, 0] (lv' := [(0, .ref 0), (1, .int x1), (2, .int x2), (3, .int (x3 + (1 : Int32)))]) rfl ?_
          exact ih x1 x2 (x3 + (1 : Int32)) Ms Mb Mq MB (My + (1 : Int32)) ML Mg MF MW MI MA Mr Ma Mp Mf Mt Ml Mo Mn Mm MT MP Mv (vp_updL q1 (0 : Int32).toNatClampNeg ((q1 (0 : Int32).toNatClampNeg) * ((-x3).toInt64))) Mz res h hex
set_option maxHeartbeats 4000000 in
set_option maxRecDepth 100000 in
theorem c_X7_makeProduct (cy : Nat → ClassId) (Ms : Int32) (Mb : Int32) (Mq : Int32) (MB : Int64) (My : Int32) (ML : Int32) (Mg : Int32) (MF : Int32) (MW : Bool) (MI : Bool) (MA : Int32) (Mr : Nat → Int32) (Ma : Nat → Int32) (Mp : Nat → Int32) (Mf : Nat → Int32) (Mt : Nat → Int32) (Ml : Nat → Int32) (Mo : Nat → Int32) (Mn : Nat → Int32) (Mm : Nat → Int64) (MT : Nat → Int64) (MP : Nat → Int64) (Mv : Nat → Int32) (Mx : Nat → Int64) (Mz : Nat → Int64) (x1 : Int32) (x2 : Int32) (res : (Int32 × (Nat → Int64))) (h : f_X7_makeProduct x1 x2 Mx = some res) : MG cy yX7_makeProduct cX7_makeProduct 5 none 0 0 [.ref 0, .int x1, .int x2] (wMo cy Ms Mb Mq MB My ML Mg MF MW MI MA Mr Ma Mp Mf Mt Ml Mo Mn Mm MT MP Mv Mx Mz) none (wMo cy Ms Mb Mq MB res.1 ML Mg MF MW MI MA Mr Ma Mp Mf Mt Ml Mo Mn Mm MT MP Mv res.2 Mz) := by
  refine MG_of (o := 7) (lv := [(0, .ref 0), (1, .int x1), (2, .int x2)]) ⟨by decide +kernel, rfl⟩ (Nat.le_of_ble_eq_true rfl) rfl (fun k C hR => ?_)
  rw [f_X7_makeProduct] at h
  refine G_r C [(.aload_n 0, 1, 0, 0, .null), (.iconst 0, 1, 0, 0, .int (0 : Int32)), (.putfield 204, 3, 7, 17, .null), (.aload_n 0, 1, 0, 0, .null), (.getfield 47, 3, 7, 16, .null), (.iconst 0, 1, 0, 0, .int (0 : Int32)), (.lconst 1, 1, 0, 0, .long (1 : Int64))] 11 [(0, .ref 0), (1, .int x1), (2, .int x2)] [.long (1 : Int64), .int (0 : Int32), .ref 13] (wMo cy Ms Mb Mq MB (0 : Int32) ML Mg MF MW MI MA Mr Ma Mp Mf Mt Ml Mo Mn Mm MT MP Mv Mx Mz) (by decide +kernel) rfl rfl ?_
  obtain ⟨cg, h⟩ := oob h
  refine G_last C (a := 13) (w' := (wMo cy Ms Mb Mq MB (0 : Int32) ML Mg MF MW MI MA Mr Ma Mp Mf Mt Ml Mo Mn Mm MT MP Mv (vp_updL Mx (0 : Int32).toNatClampNeg (1 : Int64)) Mz)) rfl cg (by decide +kernel) rfl ?_
  refine G_r C [(.bipush (-9), 2, 0, 0, .int (-9 : Int32)), (.istore_n 3, 1, 0, 0, .null)] 15 [(3, .int (-9 : Int32)), (0, .ref 0), (1, .int x1), (2, .int x2)] [] (wMo cy Ms Mb Mq MB (0 : Int32) ML Mg MF MW MI MA Mr Ma Mp Mf Mt Ml Mo Mn Mm MT MP Mv (vp_updL Mx (0 : Int32).toNatClampNeg (1 : Int64)) Mz) (by decide +kernel) rfl rfl ?_
  obtain ⟨q2, hq2, h⟩ := obd h
  refine G_lv [1, 2, 3, 0] (lv' := [(0, .ref 0), (1, .int x1), (2, .int x2), (3, .int (-9 : Int32))]) rfl ?_
  refine g_X7_makeProduct_L15 C 200 x1 x2 (-9 : Int32) Ms Mb Mq MB (0 : Int32) ML Mg MF MW MI MA Mr Ma Mp Mf Mt Ml Mo Mn Mm MT MP Mv (vp_updL Mx (0 : Int32).toNatClampNeg (1 : Int64)) Mz q2 hq2 ?_
  have h := Option.some.inj h
  subst h
  exact G_vret C hR (by decide +kernel)
def f_X7_weight_L73 : Nat → Int32 → Int64 → Int64 → Int32 → Int32 → (Nat → Int32) → (Nat → Int64) → Option (Int64 × Int64)
  | 0, _, _, _, _, _, _, _ => none
  | fu + 1, x2, x4, x6, x8, My, Mr, Mx => if My < x8 then (some (x4, x6)) else (if x8 < 0 ∨ 9 ≤ x8.toNatClampNeg then none else if x8 < 0 ∨ 8 ≤ x8.toNatClampNeg then none else if x8 < 0 ∨ 9 ≤ x8.toNatClampNeg then none else (f_X7_power x2.toInt64 x8).bind fun q9 => f_X7_weight_L73 fu x2 (x4 + ((Mx x8.toNatClampNeg) * ((Mr x8.toNatClampNeg).toInt64))) (x6 + ((Mx x8.toNatClampNeg) * q9)) (x8 + (1 : Int32)) My Mr Mx)
def f_X7_weight (x1 : Int32) (x2 : Int32) (x3 : Int32) (My : Int32) (Mr : Nat → Int32) (Mf : Nat → Int32) (Mx : Nat → Int64) : Option (Int64 × Int32 × (Nat → Int32) × (Nat → Int64)) := (f_X7_isSet x1).bind fun q1 => if (bI q1) = 0 then ((f_X7_bad Mf).bind fun q2 => some (q2.1.toInt64, My, q2.2, Mx)) else ((f_X7_isPlace x2).bind fun q3 => if (bI q3) = 0 then ((f_X7_bad Mf).bind fun q4 => some (q4.1.toInt64, My, q4.2, Mx)) else (if ((x1 >>> ((x2 + (9 : Int32)) &&& 31)) &&& (1 : Int32)) = 0 then ((f_X7_bad Mf).bind fun q5 => some (q5.1.toInt64, My, q5.2, Mx)) else ((f_X7_isPart x3).bind fun q6 => if (bI q6) = 0 then ((f_X7_bad Mf).bind fun q13 => some (q13.1.toInt64, My, q13.2, Mx)) else ((f_X7_size x1).bind fun q7 => if (7 : Int32) < 0 ∨ 8 ≤ (7 : Int32).toNatClampNeg then none else if q7 ≤ (Mr (7 : Int32).toNatClampNeg) then ((f_X7_makeProduct x1 x2 Mx).bind fun q8 => (f_X7_weight_L73 200 x2 (0 : Int64) (0 : Int64) (0 : Int32) q8.1 Mr q8.2).bind fun q10 => (f_X7_part q10.1 q10.2 x3).bind fun q11 => some (q11, q8.1, Mf, q8.2)) else ((f_X7_no Mf).bind fun q12 => some (q12.1.toInt64, My, q12.2, Mx))))))
set_option maxHeartbeats 4000000 in
set_option maxRecDepth 100000 in
theorem g_X7_weight_L73 {k : KX} {cy : Nat → ClassId} (C : OK k cX7_weight 7 9 cy 2 55) : ∀ (fu : Nat) (x2 : Int32) (x3 : Int32) (x4 : Int64) (x6 : Int64) (x8 : Int32) (Ms : Int32) (Mb : Int32) (Mq : Int32) (MB : Int64) (My : Int32) (ML : Int32) (Mg : Int32) (MF : Int32) (MW : Bool) (MI : Bool) (MA : Int32) (Mr : Nat → Int32) (Ma : Nat → Int32) (Mp : Nat → Int32) (Mf : Nat → Int32) (Mt : Nat → Int32) (Ml : Nat → Int32) (Mo : Nat → Int32) (Mn : Nat → Int32) (Mm : Nat → Int64) (MT : Nat → Int64) (MP : Nat → Int64) (Mv : Nat → Int32) (Mx : Nat → Int64) (Mz : Nat → Int64) (res : (Int64 × Int64)), (f_X7_weight_L73 fu x2 x4 x6 x8 My Mr Mx = some res) → G k 9 129 [(3, .int x3), (4, .long res.1), (6, .long res.2)] [] (wMo cy Ms Mb Mq MB My ML Mg MF MW MI MA Mr Ma Mp Mf Mt Ml Mo Mn Mm MT MP Mv Mx Mz) → G k 9 73 [(0, .ref 0), (2, .int x2), (3, .int x3), (4, .long x4), (6, .long x6), (8, .int x8)] [] (wMo cy Ms Mb Mq MB My ML Mg MF MW MI MA Mr Ma Mp Mf Mt Ml Mo Mn Mm MT MP Mv Mx Mz) := by
  intro fu
  induction fu with
  | zero =>
    intro x2 x3 x4 x6 x8 Ms Mb Mq MB My ML Mg MF MW MI MA Mr Ma Mp Mf Mt Ml Mo Mn Mm MT MP Mv Mx Mz res h hex
    rw [f_X7_weight_L73] at h
    cases h
  | succ fu ih =>
    intro x2 x3 x4 x6 x8 Ms Mb Mq MB My ML Mg MF MW MI MA Mr Ma Mp Mf Mt Ml Mo Mn Mm MT MP Mv Mx Mz res h hex
    rw [f_X7_weight_L73] at h
    refine G_r C [(.iload 8, 2, 0, 0, .null), (.aload_n 0, 1, 0, 0, .null), (.getfield 204, 3, 7, 17, .null)] 79 [(0, .ref 0), (2, .int x2), (3, .int x3), (4, .long x4), (6, .long x6), (8, .int x8)] [.int My, .int x8] (wMo cy Ms Mb Mq MB My ML Mg MF MW MI MA Mr Ma Mp Mf Mt Ml Mo Mn Mm MT MP Mv Mx Mz) (by decide +kernel) rfl rfl ?_
    refine G_icmp_gt C (off := 50) (tgt := 129) (by decide +kernel) rfl (fun c => ?_) (fun c => ?_)
    · rw [if_pos c] at h
      have h := Option.some.inj h
      subst h
      refine G_lv [2, 3, 4] (lv' := [(3, .int x3), (4, .long x4), (6, .long x6)]) rfl ?_
      exact hex
    · rw [if_neg c] at h
      refine G_r C [(.lload 4, 2, 0, 0, .null), (.aload_n 0, 1, 0, 0, .null), (.getfield 47, 3, 7, 16, .null), (.iload 8, 2, 0, 0, .null)] 90 [(0, .ref 0), (2, .int x2), (3, .int x3), (4, .long x4), (6, .long x6), (8, .int x8)] [.int x8, .ref 13, .long x4] (wMo cy Ms Mb Mq MB My ML Mg MF MW MI MA Mr Ma Mp Mf Mt Ml Mo Mn Mm MT MP Mv Mx Mz) (by decide +kernel) rfl rfl ?_
      obtain ⟨cg, h⟩ := oob h
      refine G_lald C (a := 13) rfl cg (by decide +kernel) ?_
      refine G_r C [(.aload_n 0, 1, 0, 0, .null), (.getfield 7, 3, 7, 0, .null), (.iload 8, 2, 0, 0, .null)] 97 [(0, .ref 0), (2, .int x2), (3, .int x3), (4, .long x4), (6, .long x6), (8, .int x8)] [.int x8, .ref 1, .long (Mx x8.toNatClampNeg), .long x4] (wMo cy Ms Mb Mq MB My ML Mg MF MW MI MA Mr Ma Mp Mf Mt Ml Mo Mn Mm MT MP Mv Mx Mz) (by decide +kernel) rfl rfl ?_
      obtain ⟨cg, h⟩ := oob h
      refine G_iald C (a := 1) rfl cg (by decide +kernel) ?_
      refine G_r C [(.i2l, 1, 0, 0, .null), (.lmul, 1, 0, 0, .null), (.ladd, 1, 0, 0, .null), (.lstore 4, 2, 0, 0, .null), (.lload 6, 2, 0, 0, .null), (.aload_n 0, 1, 0, 0, .null), (.getfield 47, 3, 7, 16, .null), (.iload 8, 2, 0, 0, .null)] 111 [(4, .long (x4 + ((Mx x8.toNatClampNeg) * ((Mr x8.toNatClampNeg).toInt64)))), (0, .ref 0), (2, .int x2), (3, .int x3), (6, .long x6), (8, .int x8)] [.int x8, .ref 13, .long x6] (wMo cy Ms Mb Mq MB My ML Mg MF MW MI MA Mr Ma Mp Mf Mt Ml Mo Mn Mm MT MP Mv Mx Mz) (by decide +kernel) rfl rfl ?_
      obtain ⟨cg, h⟩ := oob h
      refine G_lald C (a := 13) rfl cg (by decide +kernel) ?_
      refine G_r C [(.iload_n 2, 1, 0, 0, .null), (.i2l, 1, 0, 0, .null), (.iload 8, 2, 0, 0, .null)] 116 [(4, .long (x4 + ((Mx x8.toNatClampNeg) * ((Mr x8.toNatClampNeg).toInt64)))), (0, .ref 0), (2, .int x2), (3, .int x3), (6, .long x6), (8, .int x8)] [.int x8, .long x2.toInt64, .long (Mx x8.toNatClampNeg), .long x6] (wMo cy Ms Mb Mq MB My ML Mg MF MW MI MA Mr Ma Mp Mf Mt Ml Mo Mn Mm MT MP Mv Mx Mz) (by decide +kernel) rfl rfl ?_
      obtain ⟨q9, hq9, h⟩ := obd h
      refine G_cS C lk_7_93 ⟨Nat.le_of_ble_eq_true rfl, Nat.le_of_ble_eq_true rfl⟩ (by decide +kernel) [.long q9, .long (Mx x8.toNatClampNeg), .long x6] (c_X7_power cy x2.toInt64 x8 q9 hq9) rfl rfl (Nat.le_of_ble_eq_true rfl) rfl ?_
      refine G_r C [(.lmul, 1, 0, 0, .null), (.ladd, 1, 0, 0, .null), (.lstore 6, 2, 0, 0, .null), (.iinc 8 1, 3, 0, 0, .int (1 : Int32))] 126 [(8, .int (x8 + (1 : Int32))), (6, .long (x6 + ((Mx x8.toNatClampNeg) * q9))), (4, .long (x4 + ((Mx x8.toNatClampNeg) * ((Mr x8.toNatClampNeg).toInt64)))), (0, .ref 0), (2, .int x2), (3, .int x3)] [] (wMo cy Ms Mb Mq MB My ML Mg MF MW MI MA Mr Ma Mp Mf Mt Ml Mo Mn Mm MT MP Mv Mx Mz) (by decide +kernel) rfl rfl ?_
      refine G_goto C (off := -53) (tgt := 73) (by decide +kernel) rfl ?_
      refine G_lv [3, 4, 5, 2, 1, 0] (lv' := [(0, .ref 0), (2, .int x2), (3, .int x3), (4, .long (x4 + ((Mx x8.toNatClampNeg) * ((Mr x8.toNatClampNeg).toInt64)))), (6, .long (x6 + ((Mx x8.toNatClampNeg) * q9))), (8, .int (x8 + (1 : Int32)))]) rfl ?_
      exact ih x2 x3 (x4 + ((Mx x8.toNatClampNeg) * ((Mr x8.toNatClampNeg).toInt64))) (x6 + ((Mx x8.toNatClampNeg) * q9)) (x8 + (1 : Int32)) Ms Mb Mq MB My ML Mg MF MW MI MA Mr Ma Mp Mf Mt Ml Mo Mn Mm MT MP Mv Mx Mz res h hex
set_option maxHeartbeats 4000000 in
set_option maxRecDepth 100000 in
theorem c_X7_weight (cy : Nat → ClassId) (Ms : Int32) (Mb : Int32) (Mq : Int32) (MB : Int64) (My : Int32) (ML : Int32) (Mg : Int32) (MF : Int32) (MW : Bool) (MI : Bool) (MA : Int32) (Mr : Nat → Int32) (Ma : Nat → Int32) (Mp : Nat → Int32) (Mf : Nat → Int32) (Mt : Nat → Int32) (Ml : Nat → Int32) (Mo : Nat → Int32) (Mn : Nat → Int32) (Mm : Nat → Int64) (MT : Nat → Int64) (MP : Nat → Int64) (Mv : Nat → Int32) (Mx : Nat → Int64) (Mz : Nat → Int64) (x1 : Int32) (x2 : Int32) (x3 : Int32) (res : (Int64 × Int32 × (Nat → Int32) × (Nat → Int64))) (h : f_X7_weight x1 x2 x3 My Mr Mf Mx = some res) : MG cy yX7_weight cX7_weight 9 (some .long) 2 55 [.ref 0, .int x1, .int x2, .int x3] (wMo cy Ms Mb Mq MB My ML Mg MF MW MI MA Mr Ma Mp Mf Mt Ml Mo Mn Mm MT MP Mv Mx Mz) (some (.long res.1)) (wMo cy Ms Mb Mq MB res.2.1 ML Mg MF MW MI MA Mr Ma Mp res.2.2.1 Mt Ml Mo Mn Mm MT MP Mv res.2.2.2 Mz) := by
  refine MG_of (o := 7) (lv := [(0, .ref 0), (1, .int x1), (2, .int x2), (3, .int x3)]) ⟨by decide +kernel, rfl⟩ (Nat.le_of_ble_eq_true rfl) rfl (fun k C hR => ?_)
  rw [f_X7_weight] at h
  refine G_r C [(.iload_n 1, 1, 0, 0, .null)] 1 [(0, .ref 0), (1, .int x1), (2, .int x2), (3, .int x3)] [.int x1] (wMo cy Ms Mb Mq MB My ML Mg MF MW MI MA Mr Ma Mp Mf Mt Ml Mo Mn Mm MT MP Mv Mx Mz) (by decide +kernel) rfl rfl ?_
  obtain ⟨q1, hq1, h⟩ := obd h
  refine G_cS C lk_7_207 ⟨Nat.le_of_ble_eq_true rfl, Nat.le_of_ble_eq_true rfl⟩ (by decide +kernel) [.int (bI q1)] (c_X7_isSet cy x1 q1 hq1) rfl rfl (Nat.le_of_ble_eq_true rfl) rfl ?_
  refine G_if_eq C (off := 28) (tgt := 32) (by decide +kernel) rfl (fun c => ?_) (fun c => ?_)
  · rw [if_pos c] at h
    refine G_r C [(.aload_n 0, 1, 0, 0, .null)] 33 [(0, .ref 0), (1, .int x1), (2, .int x2), (3, .int x3)] [.ref 0] (wMo cy Ms Mb Mq MB My ML Mg MF MW MI MA Mr Ma Mp Mf Mt Ml Mo Mn Mm MT MP Mv Mx Mz) (by decide +kernel) rfl rfl ?_
    obtain ⟨q2, hq2, h⟩ := obd h
    refine G_c0 C lk_7_72 ⟨Nat.le_of_ble_eq_true rfl, Nat.le_of_ble_eq_true rfl⟩ (by decide +kernel) [.int q2.1] (c_X7_bad cy Ms Mb Mq MB My ML Mg MF MW MI MA Mr Ma Mp Mf Mt Ml Mo Mn Mm MT MP Mv Mx Mz q2 hq2) rfl rfl (Nat.le_of_ble_eq_true rfl) ⟨rfl, rfl⟩ rfl ?_
    refine G_r C [(.i2l, 1, 0, 0, .null)] 37 [(0, .ref 0), (1, .int x1), (2, .int x2), (3, .int x3)] [.long q2.1.toInt64] (wMo cy Ms Mb Mq MB My ML Mg MF MW MI MA Mr Ma Mp q2.2 Mt Ml Mo Mn Mm MT MP Mv Mx Mz) (by decide +kernel) rfl rfl ?_
    have h := Option.some.inj h
    subst h
    exact G_lret C hR (by decide +kernel)
  · rw [if_neg c] at h
    refine G_r C [(.iload_n 2, 1, 0, 0, .null)] 8 [(0, .ref 0), (1, .int x1), (2, .int x2), (3, .int x3)] [.int x2] (wMo cy Ms Mb Mq MB My ML Mg MF MW MI MA Mr Ma Mp Mf Mt Ml Mo Mn Mm MT MP Mv Mx Mz) (by decide +kernel) rfl rfl ?_
    obtain ⟨q3, hq3, h⟩ := obd h
    refine G_cS C lk_7_113 ⟨Nat.le_of_ble_eq_true rfl, Nat.le_of_ble_eq_true rfl⟩ (by decide +kernel) [.int (bI q3)] (c_X7_isPlace cy x2 q3 hq3) rfl rfl (Nat.le_of_ble_eq_true rfl) rfl ?_
    refine G_if_eq C (off := 21) (tgt := 32) (by decide +kernel) rfl (fun c => ?_) (fun c => ?_)
    · rw [if_pos c] at h
      refine G_r C [(.aload_n 0, 1, 0, 0, .null)] 33 [(0, .ref 0), (1, .int x1), (2, .int x2), (3, .int x3)] [.ref 0] (wMo cy Ms Mb Mq MB My ML Mg MF MW MI MA Mr Ma Mp Mf Mt Ml Mo Mn Mm MT MP Mv Mx Mz) (by decide +kernel) rfl rfl ?_
      obtain ⟨q4, hq4, h⟩ := obd h
      refine G_c0 C lk_7_72 ⟨Nat.le_of_ble_eq_true rfl, Nat.le_of_ble_eq_true rfl⟩ (by decide +kernel) [.int q4.1] (c_X7_bad cy Ms Mb Mq MB My ML Mg MF MW MI MA Mr Ma Mp Mf Mt Ml Mo Mn Mm MT MP Mv Mx Mz q4 hq4) rfl rfl (Nat.le_of_ble_eq_true rfl) ⟨rfl, rfl⟩ rfl ?_
      refine G_r C [(.i2l, 1, 0, 0, .null)] 37 [(0, .ref 0), (1, .int x1), (2, .int x2), (3, .int x3)] [.long q4.1.toInt64] (wMo cy Ms Mb Mq MB My ML Mg MF MW MI MA Mr Ma Mp q4.2 Mt Ml Mo Mn Mm MT MP Mv Mx Mz) (by decide +kernel) rfl rfl ?_
      have h := Option.some.inj h
      subst h
      exact G_lret C hR (by decide +kernel)
    · rw [if_neg c] at h
      refine G_r C [(.iload_n 1, 1, 0, 0, .null), (.iload_n 2, 1, 0, 0, .null), (.bipush 9, 2, 0, 0, .int (9 : Int32)), (.iadd, 1, 0, 0, .null), (.ishr, 1, 0, 0, .null), (.iconst 1, 1, 0, 0, .int (1 : Int32)), (.iand, 1, 0, 0, .null)] 22 [(0, .ref 0), (1, .int x1), (2, .int x2), (3, .int x3)] [.int ((x1 >>> ((x2 + (9 : Int32)) &&& 31)) &&& (1 : Int32))] (wMo cy Ms Mb Mq MB My ML Mg MF MW MI MA Mr Ma Mp Mf Mt Ml Mo Mn Mm MT MP Mv Mx Mz) (by decide +kernel) rfl rfl ?_
      refine G_if_eq C (off := 10) (tgt := 32) (by decide +kernel) rfl (fun c => ?_) (fun c => ?_)
      · rw [if_pos c] at h
        refine G_r C [(.aload_n 0, 1, 0, 0, .null)] 33 [(0, .ref 0), (1, .int x1), (2, .int x2), (3, .int x3)] [.ref 0] (wMo cy Ms Mb Mq MB My ML Mg MF MW MI MA Mr Ma Mp Mf Mt Ml Mo Mn Mm MT MP Mv Mx Mz) (by decide +kernel) rfl rfl ?_
        obtain ⟨q5, hq5, h⟩ := obd h
        refine G_c0 C lk_7_72 ⟨Nat.le_of_ble_eq_true rfl, Nat.le_of_ble_eq_true rfl⟩ (by decide +kernel) [.int q5.1] (c_X7_bad cy Ms Mb Mq MB My ML Mg MF MW MI MA Mr Ma Mp Mf Mt Ml Mo Mn Mm MT MP Mv Mx Mz q5 hq5) rfl rfl (Nat.le_of_ble_eq_true rfl) ⟨rfl, rfl⟩ rfl ?_
        refine G_r C [(.i2l, 1, 0, 0, .null)] 37 [(0, .ref 0), (1, .int x1), (2, .int x2), (3, .int x3)] [.long q5.1.toInt64] (wMo cy Ms Mb Mq MB My ML Mg MF MW MI MA Mr Ma Mp q5.2 Mt Ml Mo Mn Mm MT MP Mv Mx Mz) (by decide +kernel) rfl rfl ?_
        have h := Option.some.inj h
        subst h
        exact G_lret C hR (by decide +kernel)
      · rw [if_neg c] at h
        refine G_r C [(.iload_n 3, 1, 0, 0, .null)] 26 [(0, .ref 0), (1, .int x1), (2, .int x2), (3, .int x3)] [.int x3] (wMo cy Ms Mb Mq MB My ML Mg MF MW MI MA Mr Ma Mp Mf Mt Ml Mo Mn Mm MT MP Mv Mx Mz) (by decide +kernel) rfl rfl ?_
        obtain ⟨q6, hq6, h⟩ := obd h
        refine G_cS C lk_7_159 ⟨Nat.le_of_ble_eq_true rfl, Nat.le_of_ble_eq_true rfl⟩ (by decide +kernel) [.int (bI q6)] (c_X7_isPart cy x3 q6 hq6) rfl rfl (Nat.le_of_ble_eq_true rfl) rfl ?_
        refine G_if_ne C (off := 9) (tgt := 38) (by decide +kernel) rfl (fun c => ?_) (fun c => ?_)
        · rw [if_neg c] at h
          refine G_r C [(.iload_n 1, 1, 0, 0, .null)] 39 [(0, .ref 0), (1, .int x1), (2, .int x2), (3, .int x3)] [.int x1] (wMo cy Ms Mb Mq MB My ML Mg MF MW MI MA Mr Ma Mp Mf Mt Ml Mo Mn Mm MT MP Mv Mx Mz) (by decide +kernel) rfl rfl ?_
          obtain ⟨q7, hq7, h⟩ := obd h
          refine G_cS C lk_7_200 ⟨Nat.le_of_ble_eq_true rfl, Nat.le_of_ble_eq_true rfl⟩ (by decide +kernel) [.int q7] (c_X7_size cy x1 q7 hq7) rfl rfl (Nat.le_of_ble_eq_true rfl) rfl ?_
          refine G_r C [(.aload_n 0, 1, 0, 0, .null), (.getfield 7, 3, 7, 0, .null), (.bipush 7, 2, 0, 0, .int (7 : Int32))] 48 [(0, .ref 0), (1, .int x1), (2, .int x2), (3, .int x3)] [.int (7 : Int32), .ref 1, .int q7] (wMo cy Ms Mb Mq MB My ML Mg MF MW MI MA Mr Ma Mp Mf Mt Ml Mo Mn Mm MT MP Mv Mx Mz) (by decide +kernel) rfl rfl ?_
          obtain ⟨cg, h⟩ := oob h
          refine G_iald C (a := 1) rfl cg (by decide +kernel) ?_
          refine G_icmp_le C (off := 9) (tgt := 58) (by decide +kernel) rfl (fun c => ?_) (fun c => ?_)
          · rw [if_pos c] at h
            refine G_r C [(.aload_n 0, 1, 0, 0, .null), (.iload_n 1, 1, 0, 0, .null), (.iload_n 2, 1, 0, 0, .null)] 61 [(0, .ref 0), (1, .int x1), (2, .int x2), (3, .int x3)] [.int x2, .int x1, .ref 0] (wMo cy Ms Mb Mq MB My ML Mg MF MW MI MA Mr Ma Mp Mf Mt Ml Mo Mn Mm MT MP Mv Mx Mz) (by decide +kernel) rfl rfl ?_
            obtain ⟨q8, hq8, h⟩ := obd h
            refine G_c0 C lk_7_210 ⟨Nat.le_of_ble_eq_true rfl, Nat.le_of_ble_eq_true rfl⟩ (by decide +kernel) [] (c_X7_makeProduct cy Ms Mb Mq MB My ML Mg MF MW MI MA Mr Ma Mp Mf Mt Ml Mo Mn Mm MT MP Mv Mx Mz x1 x2 q8 hq8) rfl rfl (Nat.le_of_ble_eq_true rfl) ⟨rfl, rfl⟩ rfl ?_
            refine G_r C [(.lconst 0, 1, 0, 0, .long (0 : Int64)), (.lstore 4, 2, 0, 0, .null), (.lconst 0, 1, 0, 0, .long (0 : Int64)), (.lstore 6, 2, 0, 0, .null), (.iconst 0, 1, 0, 0, .int (0 : Int32)), (.istore 8, 2, 0, 0, .null)] 73 [(8, .int (0 : Int32)), (6, .long (0 : Int64)), (4, .long (0 : Int64)), (0, .ref 0), (1, .int x1), (2, .int x2), (3, .int x3)] [] (wMo cy Ms Mb Mq MB q8.1 ML Mg MF MW MI MA Mr Ma Mp Mf Mt Ml Mo Mn Mm MT MP Mv q8.2 Mz) (by decide +kernel) rfl rfl ?_
            obtain ⟨q10, hq10, h⟩ := obd h
            refine G_lv [3, 5, 6, 2, 1, 0] (lv' := [(0, .ref 0), (2, .int x2), (3, .int x3), (4, .long (0 : Int64)), (6, .long (0 : Int64)), (8, .int (0 : Int32))]) rfl ?_
            refine g_X7_weight_L73 C 200 x2 x3 (0 : Int64) (0 : Int64) (0 : Int32) Ms Mb Mq MB q8.1 ML Mg MF MW MI MA Mr Ma Mp Mf Mt Ml Mo Mn Mm MT MP Mv q8.2 Mz q10 hq10 ?_
            refine G_r C [(.lload 4, 2, 0, 0, .null), (.lload 6, 2, 0, 0, .null), (.iload_n 3, 1, 0, 0, .null)] 134 [(3, .int x3), (4, .long q10.1), (6, .long q10.2)] [.int x3, .long q10.2, .long q10.1] (wMo cy Ms Mb Mq MB q8.1 ML Mg MF MW MI MA Mr Ma Mp Mf Mt Ml Mo Mn Mm MT MP Mv q8.2 Mz) (by decide +kernel) rfl rfl ?_
            obtain ⟨q11, hq11, h⟩ := obd h
            refine G_cS C lk_7_168 ⟨Nat.le_of_ble_eq_true rfl, Nat.le_of_ble_eq_true rfl⟩ (by decide +kernel) [.long q11] (c_X7_part cy q10.1 q10.2 x3 q11 hq11) rfl rfl (Nat.le_of_ble_eq_true rfl) rfl ?_
            have h := Option.some.inj h
            subst h
            exact G_lret C hR (by decide +kernel)
          · rw [if_neg c] at h
            refine G_r C [(.aload_n 0, 1, 0, 0, .null)] 53 [(0, .ref 0), (1, .int x1), (2, .int x2), (3, .int x3)] [.ref 0] (wMo cy Ms Mb Mq MB My ML Mg MF MW MI MA Mr Ma Mp Mf Mt Ml Mo Mn Mm MT MP Mv Mx Mz) (by decide +kernel) rfl rfl ?_
            obtain ⟨q12, hq12, h⟩ := obd h
            refine G_c0 C lk_7_87 ⟨Nat.le_of_ble_eq_true rfl, Nat.le_of_ble_eq_true rfl⟩ (by decide +kernel) [.int q12.1] (c_X7_no cy Ms Mb Mq MB My ML Mg MF MW MI MA Mr Ma Mp Mf Mt Ml Mo Mn Mm MT MP Mv Mx Mz q12 hq12) rfl rfl (Nat.le_of_ble_eq_true rfl) ⟨rfl, rfl⟩ rfl ?_
            refine G_r C [(.i2l, 1, 0, 0, .null)] 57 [(0, .ref 0), (1, .int x1), (2, .int x2), (3, .int x3)] [.long q12.1.toInt64] (wMo cy Ms Mb Mq MB My ML Mg MF MW MI MA Mr Ma Mp q12.2 Mt Ml Mo Mn Mm MT MP Mv Mx Mz) (by decide +kernel) rfl rfl ?_
            have h := Option.some.inj h
            subst h
            exact G_lret C hR (by decide +kernel)
        · rw [if_pos c] at h
          refine G_r C [(.aload_n 0, 1, 0, 0, .null)] 33 [(0, .ref 0), (1, .int x1), (2, .int x2), (3, .int x3)] [.ref 0] (wMo cy Ms Mb Mq MB My ML Mg MF MW MI MA Mr Ma Mp Mf Mt Ml Mo Mn Mm MT MP Mv Mx Mz) (by decide +kernel) rfl rfl ?_
          obtain ⟨q13, hq13, h⟩ := obd h
          refine G_c0 C lk_7_72 ⟨Nat.le_of_ble_eq_true rfl, Nat.le_of_ble_eq_true rfl⟩ (by decide +kernel) [.int q13.1] (c_X7_bad cy Ms Mb Mq MB My ML Mg MF MW MI MA Mr Ma Mp Mf Mt Ml Mo Mn Mm MT MP Mv Mx Mz q13 hq13) rfl rfl (Nat.le_of_ble_eq_true rfl) ⟨rfl, rfl⟩ rfl ?_
          refine G_r C [(.i2l, 1, 0, 0, .null)] 37 [(0, .ref 0), (1, .int x1), (2, .int x2), (3, .int x3)] [.long q13.1.toInt64] (wMo cy Ms Mb Mq MB My ML Mg MF MW MI MA Mr Ma Mp q13.2 Mt Ml Mo Mn Mm MT MP Mv Mx Mz) (by decide +kernel) rfl rfl ?_
          have h := Option.some.inj h
          subst h
          exact G_lret C hR (by decide +kernel)
def f_X7_exact_L42 : Nat → Int32 → Int32 → (Nat → Int64) → Option (Nat → Int64)
  | 0, _, _, _ => none
  | fu + 1, x2, x3, Mz => if x2 ≤ x3 then (some Mz) else (if x3 = (x2 - (1 : Int32)) then (if x3 < 0 ∨ 8 ≤ x3.toNatClampNeg then none else f_X7_exact_L42 fu x2 (x3 + (1 : Int32)) (vp_updL Mz x3.toNatClampNeg (1 : Int64))) else (if x3 < 0 ∨ 8 ≤ x3.toNatClampNeg then none else f_X7_exact_L42 fu x2 (x3 + (1 : Int32)) (vp_updL Mz x3.toNatClampNeg (0 : Int64))))
def f_X7_exact_L102 : Nat → Int64 → Int64 → Int32 → (Nat → Int32) → (Nat → Int64) → (Nat → Int64) → Option (Int64 × (Nat → Int64))
  | 0, _, _, _, _, _, _ => none
  | fu + 1, x4, x6, x8, Mr, Mx, Mz => if x8 < 0 then (some (x6, Mz)) else (if x8 = 0 then (if x8 < 0 ∨ 9 ≤ x8.toNatClampNeg then none else if x8 < 0 ∨ 8 ≤ x8.toNatClampNeg then none else if x8 < 0 ∨ 8 ≤ x8.toNatClampNeg then none else if x8 < 0 ∨ 8 ≤ x8.toNatClampNeg then none else (some (x6 + (((vp_updL Mz x8.toNatClampNeg ((0 : Int64) - (x4 * (Mx x8.toNatClampNeg)))) x8.toNatClampNeg) * ((Mr x8.toNatClampNeg).toInt64)))).bind fun (q6 : Int64) => f_X7_exact_L102 fu x4 q6 (x8 + (-1 : Int32)) Mr Mx (vp_updL Mz x8.toNatClampNeg ((0 : Int64) - (x4 * (Mx x8.toNatClampNeg))))) else (if (x8 - (1 : Int32)) < 0 ∨ 8 ≤ (x8 - (1 : Int32)).toNatClampNeg then none else if x8 < 0 ∨ 9 ≤ x8.toNatClampNeg then none else if x8 < 0 ∨ 8 ≤ x8.toNatClampNeg then none else if x8 < 0 ∨ 8 ≤ x8.toNatClampNeg then none else if x8 < 0 ∨ 8 ≤ x8.toNatClampNeg then none else (some (x6 + (((vp_updL Mz x8.toNatClampNeg ((Mz (x8 - (1 : Int32)).toNatClampNeg) - (x4 * (Mx x8.toNatClampNeg)))) x8.toNatClampNeg) * ((Mr x8.toNatClampNeg).toInt64)))).bind fun (q5 : Int64) => f_X7_exact_L102 fu x4 q5 (x8 + (-1 : Int32)) Mr Mx (vp_updL Mz x8.toNatClampNeg ((Mz (x8 - (1 : Int32)).toNatClampNeg) - (x4 * (Mx x8.toNatClampNeg))))))
def f_X7_exact_L73 : Nat → Int32 → Int32 → Int32 → (Nat → Int32) → (Nat → Int32) → (Nat → Int64) → (Nat → Int64) → Option (Int32 × Int32 × (Nat → Int32) × (Nat → Int64) × (Nat → Int64))
  | 0, _, _, _, _, _, _, _ => none
  | fu + 1, x2, x3, My, Mr, Mf, Mx, Mz => if (7 : Int32) < 0 ∨ 8 ≤ (7 : Int32).toNatClampNeg then none else if (Mr (7 : Int32).toNatClampNeg) ≤ x3 then (if (7 : Int32) < 0 ∨ 8 ≤ (7 : Int32).toNatClampNeg then none else some (((Mr (7 : Int32).toNatClampNeg) - (1 : Int32)), My, Mf, Mx, Mz)) else (if (x2 - (1 : Int32)) < 0 ∨ 8 ≤ (x2 - (1 : Int32)).toNatClampNeg then none else (f_X7_exact_L102 200 (Mz (x2 - (1 : Int32)).toNatClampNeg) (0 : Int64) (x2 - (1 : Int32)) Mr Mx Mz).bind fun q7 => if x3 < 0 ∨ 8 ≤ x3.toNatClampNeg then none else if q7.1 = ((Mr x3.toNatClampNeg).toInt64) then (f_X7_exact_L73 fu x2 (x3 + (1 : Int32)) My Mr Mf Mx q7.2) else (some ((x3 - (1 : Int32)), My, Mf, Mx, q7.2)))
def f_X7_exact (x1 : Int32) (My : Int32) (Mr : Nat → Int32) (Mf : Nat → Int32) (Mx : Nat → Int64) (Mz : Nat → Int64) : Option (Int32 × Int32 × (Nat → Int32) × (Nat → Int64) × (Nat → Int64)) := (f_X7_isSet x1).bind fun q1 => if (bI q1) = 0 then ((f_X7_bad Mf).bind fun q9 => some (q9.1, My, q9.2, Mx, Mz)) else ((f_X7_size x1).bind fun q2 => if (7 : Int32) < 0 ∨ 8 ≤ (7 : Int32).toNatClampNeg then none else if q2 ≤ (Mr (7 : Int32).toNatClampNeg) then ((f_X7_makeProduct x1 (99 : Int32) Mx).bind fun q3 => (f_X7_exact_L42 200 q2 (0 : Int32) Mz).bind fun q4 => f_X7_exact_L73 200 q2 q2 q3.1 Mr Mf q3.2 q4) else ((f_X7_no Mf).bind fun q8 => some (q8.1, My, q8.2, Mx, Mz)))
set_option maxHeartbeats 4000000 in
set_option maxRecDepth 100000 in
theorem g_X7_exact_L42 {k : KX} {cy : Nat → ClassId} (C : OK k cX7_exact 7 9 cy 2 45) : ∀ (fu : Nat) (x2 : Int32) (x3 : Int32) (Ms : Int32) (Mb : Int32) (Mq : Int32) (MB : Int64) (My : Int32) (ML : Int32) (Mg : Int32) (MF : Int32) (MW : Bool) (MI : Bool) (MA : Int32) (Mr : Nat → Int32) (Ma : Nat → Int32) (Mp : Nat → Int32) (Mf : Nat → Int32) (Mt : Nat → Int32) (Ml : Nat → Int32) (Mo : Nat → Int32) (Mn : Nat → Int32) (Mm : Nat → Int64) (MT : Nat → Int64) (MP : Nat → Int64) (Mv : Nat → Int32) (Mx : Nat → Int64) (Mz : Nat → Int64) (res : (Nat → Int64)), (f_X7_exact_L42 fu x2 x3 Mz = some res) → G k 9 71 [(0, .ref 0), (2, .int x2)] [] (wMo cy Ms Mb Mq MB My ML Mg MF MW MI MA Mr Ma Mp Mf Mt Ml Mo Mn Mm MT MP Mv Mx res) → G k 9 42 [(0, .ref 0), (2, .int x2), (3, .int x3)] [] (wMo cy Ms Mb Mq MB My ML Mg MF MW MI MA Mr Ma Mp Mf Mt Ml Mo Mn Mm MT MP Mv Mx Mz) := by
  intro fu
  induction fu with
  | zero =>
    intro x2 x3 Ms Mb Mq MB My ML Mg MF MW MI MA Mr Ma Mp Mf Mt Ml Mo Mn Mm MT MP Mv Mx Mz res h hex
    rw [f_X7_exact_L42] at h
    cases h
  | succ fu ih =>
    intro x2 x3 Ms Mb Mq MB My ML Mg MF MW MI MA Mr Ma Mp Mf Mt Ml Mo Mn Mm MT MP Mv Mx Mz res h hex
    rw [f_X7_exact_L42] at h
    refine G_r C [(.iload_n 3, 1, 0, 0, .null), (.iload_n 2, 1, 0, 0, .null)] 44 [(0, .ref 0), (2, .int x2), (3, .int x3)] [.int x2, .int x3] (wMo cy Ms Mb Mq MB My ML Mg MF MW MI MA Mr Ma Mp Mf Mt Ml Mo Mn Mm MT MP Mv Mx Mz) (by decide +kernel) rfl rfl ?_
    refine G_icmp_ge C (off := 27) (tgt := 71) (by decide +kernel) rfl (fun c => ?_) (fun c => ?_)
    · rw [if_pos c] at h
      have h := Option.some.inj h
      subst h
      refine G_lv [0, 1] (lv' := [(0, .ref 0), (2, .int x2)]) rfl ?_
      exact hex
    · rw [if_neg c] at h
      refine G_r C [(.aload_n 0, 1, 0, 0, .null), (.getfield 50, 3, 7, 18, .null), (.iload_n 3, 1, 0, 0, .null), (.iload_n 3, 1, 0, 0, .null), (.iload_n 2, 1, 0, 0, .null), (.iconst 1, 1, 0, 0, .int (1 : Int32)), (.isub, 1, 0, 0, .null)] 56 [(0, .ref 0), (2, .int x2), (3, .int x3)] [.int (x2 - (1 : Int32)), .int x3, .int x3, .ref 14] (wMo cy Ms Mb Mq MB My ML Mg MF MW MI MA Mr Ma Mp Mf Mt Ml Mo Mn Mm MT MP Mv Mx Mz) (by decide +kernel) rfl rfl ?_
      refine G_icmp_ne C (off := 7) (tgt := 63) (by decide +kernel) rfl (fun c => ?_) (fun c => ?_)
      · rw [if_neg c] at h
        refine G_r C [(.lconst 0, 1, 0, 0, .long (0 : Int64))] 64 [(0, .ref 0), (2, .int x2), (3, .int x3)] [.long (0 : Int64), .int x3, .ref 14] (wMo cy Ms Mb Mq MB My ML Mg MF MW MI MA Mr Ma Mp Mf Mt Ml Mo Mn Mm MT MP Mv Mx Mz) (by decide +kernel) rfl rfl ?_
        obtain ⟨cg, h⟩ := oob h
        refine G_last C (a := 14) (w' := (wMo cy Ms Mb Mq MB My ML Mg MF MW MI MA Mr Ma Mp Mf Mt Ml Mo Mn Mm MT MP Mv Mx (vp_updL Mz x3.toNatClampNeg (0 : Int64)))) rfl cg (by decide +kernel) rfl ?_
        refine G_r C [(.iinc 3 1, 3, 0, 0, .int (1 : Int32))] 68 [(3, .int (x3 + (1 : Int32))), (0, .ref 0), (2, .int x2)] [] (wMo cy Ms Mb Mq MB My ML Mg MF MW MI MA Mr Ma Mp Mf Mt Ml Mo Mn Mm MT MP Mv Mx (vp_updL Mz x3.toNatClampNeg (0 : Int64))) (by decide +kernel) rfl rfl ?_
        refine G_goto C (off := -26) (tgt := 42) (by decide +kernel) rfl ?_
        refine G_lv [1, 2, 0] (lv' := [(0, .ref 0), (2, .int x2), (3, .int (x3 + (1 : Int32)))]) rfl ?_
        exact ih x2 (x3 + (1 : Int32)) Ms Mb Mq MB My ML Mg MF MW MI MA Mr Ma Mp Mf Mt Ml Mo Mn Mm MT MP Mv Mx (vp_updL Mz x3.toNatClampNeg (0 : Int64)) res h hex
      · rw [if_pos c] at h
        refine G_r C [(.lconst 1, 1, 0, 0, .long (1 : Int64))] 60 [(0, .ref 0), (2, .int x2), (3, .int x3)] [.long (1 : Int64), .int x3, .ref 14] (wMo cy Ms Mb Mq MB My ML Mg MF MW MI MA Mr Ma Mp Mf Mt Ml Mo Mn Mm MT MP Mv Mx Mz) (by decide +kernel) rfl rfl ?_
        refine G_goto C (off := 4) (tgt := 64) (by decide +kernel) rfl ?_
        obtain ⟨cg, h⟩ := oob h
        refine G_last C (a := 14) (w' := (wMo cy Ms Mb Mq MB My ML Mg MF MW MI MA Mr Ma Mp Mf Mt Ml Mo Mn Mm MT MP Mv Mx (vp_updL Mz x3.toNatClampNeg (1 : Int64)))) rfl cg (by decide +kernel) rfl ?_
        refine G_r C [(.iinc 3 1, 3, 0, 0, .int (1 : Int32))] 68 [(3, .int (x3 + (1 : Int32))), (0, .ref 0), (2, .int x2)] [] (wMo cy Ms Mb Mq MB My ML Mg MF MW MI MA Mr Ma Mp Mf Mt Ml Mo Mn Mm MT MP Mv Mx (vp_updL Mz x3.toNatClampNeg (1 : Int64))) (by decide +kernel) rfl rfl ?_
        refine G_goto C (off := -26) (tgt := 42) (by decide +kernel) rfl ?_
        refine G_lv [1, 2, 0] (lv' := [(0, .ref 0), (2, .int x2), (3, .int (x3 + (1 : Int32)))]) rfl ?_
        exact ih x2 (x3 + (1 : Int32)) Ms Mb Mq MB My ML Mg MF MW MI MA Mr Ma Mp Mf Mt Ml Mo Mn Mm MT MP Mv Mx (vp_updL Mz x3.toNatClampNeg (1 : Int64)) res h hex
set_option maxHeartbeats 4000000 in
set_option maxRecDepth 100000 in
theorem g_X7_exact_L102 {k : KX} {cy : Nat → ClassId} (C : OK k cX7_exact 7 9 cy 2 45) : ∀ (fu : Nat) (x2 : Int32) (x3 : Int32) (x4 : Int64) (x6 : Int64) (x8 : Int32) (Ms : Int32) (Mb : Int32) (Mq : Int32) (MB : Int64) (My : Int32) (ML : Int32) (Mg : Int32) (MF : Int32) (MW : Bool) (MI : Bool) (MA : Int32) (Mr : Nat → Int32) (Ma : Nat → Int32) (Mp : Nat → Int32) (Mf : Nat → Int32) (Mt : Nat → Int32) (Ml : Nat → Int32) (Mo : Nat → Int32) (Mn : Nat → Int32) (Mm : Nat → Int64) (MT : Nat → Int64) (MP : Nat → Int64) (Mv : Nat → Int32) (Mx : Nat → Int64) (Mz : Nat → Int64) (res : (Int64 × (Nat → Int64))), (f_X7_exact_L102 fu x4 x6 x8 Mr Mx Mz = some res) → G k 9 170 [(0, .ref 0), (2, .int x2), (3, .int x3), (6, .long res.1)] [] (wMo cy Ms Mb Mq MB My ML Mg MF MW MI MA Mr Ma Mp Mf Mt Ml Mo Mn Mm MT MP Mv Mx res.2) → G k 9 102 [(0, .ref 0), (2, .int x2), (3, .int x3), (4, .long x4), (6, .long x6), (8, .int x8)] [] (wMo cy Ms Mb Mq MB My ML Mg MF MW MI MA Mr Ma Mp Mf Mt Ml Mo Mn Mm MT MP Mv Mx Mz) := by
  intro fu
  induction fu with
  | zero =>
    intro x2 x3 x4 x6 x8 Ms Mb Mq MB My ML Mg MF MW MI MA Mr Ma Mp Mf Mt Ml Mo Mn Mm MT MP Mv Mx Mz res h hex
    rw [f_X7_exact_L102] at h
    cases h
  | succ fu ih =>
    intro x2 x3 x4 x6 x8 Ms Mb Mq MB My ML Mg MF MW MI MA Mr Ma Mp Mf Mt Ml Mo Mn Mm MT MP Mv Mx Mz res h hex
    rw [f_X7_exact_L102] at h
    refine G_r C [(.iload 8, 2, 0, 0, .null)] 104 [(0, .ref 0), (2, .int x2), (3, .int x3), (4, .long x4), (6, .long x6), (8, .int x8)] [.int x8] (wMo cy Ms Mb Mq MB My ML Mg MF MW MI MA Mr Ma Mp Mf Mt Ml Mo Mn Mm MT MP Mv Mx Mz) (by decide +kernel) rfl rfl ?_
    refine G_if_lt C (off := 66) (tgt := 170) (by decide +kernel) rfl (fun c => ?_) (fun c => ?_)
    · rw [if_pos c] at h
      have h := Option.some.inj h
      subst h
      refine G_lv [0, 1, 2, 4] (lv' := [(0, .ref 0), (2, .int x2), (3, .int x3), (6, .long x6)]) rfl ?_
      exact hex
    · rw [if_neg c] at h
      refine G_r C [(.aload_n 0, 1, 0, 0, .null), (.getfield 50, 3, 7, 18, .null), (.iload 8, 2, 0, 0, .null), (.iload 8, 2, 0, 0, .null)] 115 [(0, .ref 0), (2, .int x2), (3, .int x3), (4, .long x4), (6, .long x6), (8, .int x8)] [.int x8, .int x8, .ref 14] (wMo cy Ms Mb Mq MB My ML Mg MF MW MI MA Mr Ma Mp Mf Mt Ml Mo Mn Mm MT MP Mv Mx Mz) (by decide +kernel) rfl rfl ?_
      refine G_if_ne C (off := 7) (tgt := 122) (by decide +kernel) rfl (fun c => ?_) (fun c => ?_)
      · rw [if_neg c] at h
        refine G_r C [(.aload_n 0, 1, 0, 0, .null), (.getfield 50, 3, 7, 18, .null), (.iload 8, 2, 0, 0, .null), (.iconst 1, 1, 0, 0, .int (1 : Int32)), (.isub, 1, 0, 0, .null)] 130 [(0, .ref 0), (2, .int x2), (3, .int x3), (4, .long x4), (6, .long x6), (8, .int x8)] [.int (x8 - (1 : Int32)), .ref 14, .int x8, .ref 14] (wMo cy Ms Mb Mq MB My ML Mg MF MW MI MA Mr Ma Mp Mf Mt Ml Mo Mn Mm MT MP Mv Mx Mz) (by decide +kernel) rfl rfl ?_
        obtain ⟨cg, h⟩ := oob h
        refine G_lald C (a := 14) rfl cg (by decide +kernel) ?_
        refine G_r C [(.lload 4, 2, 0, 0, .null), (.aload_n 0, 1, 0, 0, .null), (.getfield 47, 3, 7, 16, .null), (.iload 8, 2, 0, 0, .null)] 139 [(0, .ref 0), (2, .int x2), (3, .int x3), (4, .long x4), (6, .long x6), (8, .int x8)] [.int x8, .ref 13, .long x4, .long (Mz (x8 - (1 : Int32)).toNatClampNeg), .int x8, .ref 14] (wMo cy Ms Mb Mq MB My ML Mg MF MW MI MA Mr Ma Mp Mf Mt Ml Mo Mn Mm MT MP Mv Mx Mz) (by decide +kernel) rfl rfl ?_
        obtain ⟨cg, h⟩ := oob h
        refine G_lald C (a := 13) rfl cg (by decide +kernel) ?_
        refine G_r C [(.lmul, 1, 0, 0, .null), (.lsub, 1, 0, 0, .null)] 142 [(0, .ref 0), (2, .int x2), (3, .int x3), (4, .long x4), (6, .long x6), (8, .int x8)] [.long ((Mz (x8 - (1 : Int32)).toNatClampNeg) - (x4 * (Mx x8.toNatClampNeg))), .int x8, .ref 14] (wMo cy Ms Mb Mq MB My ML Mg MF MW MI MA Mr Ma Mp Mf Mt Ml Mo Mn Mm MT MP Mv Mx Mz) (by decide +kernel) rfl rfl ?_
        obtain ⟨cg, h⟩ := oob h
        refine G_last C (a := 14) (w' := (wMo cy Ms Mb Mq MB My ML Mg MF MW MI MA Mr Ma Mp Mf Mt Ml Mo Mn Mm MT MP Mv Mx (vp_updL Mz x8.toNatClampNeg ((Mz (x8 - (1 : Int32)).toNatClampNeg) - (x4 * (Mx x8.toNatClampNeg)))))) rfl cg (by decide +kernel) rfl ?_
        refine G_r C [(.lload 6, 2, 0, 0, .null), (.aload_n 0, 1, 0, 0, .null), (.getfield 50, 3, 7, 18, .null), (.iload 8, 2, 0, 0, .null)] 151 [(0, .ref 0), (2, .int x2), (3, .int x3), (4, .long x4), (6, .long x6), (8, .int x8)] [.int x8, .ref 14, .long x6] (wMo cy Ms Mb Mq MB My ML Mg MF MW MI MA Mr Ma Mp Mf Mt Ml Mo Mn Mm MT MP Mv Mx (vp_updL Mz x8.toNatClampNeg ((Mz (x8 - (1 : Int32)).toNatClampNeg) - (x4 * (Mx x8.toNatClampNeg))))) (by decide +kernel) rfl rfl ?_
        obtain ⟨cg, h⟩ := oob h
        refine G_lald C (a := 14) rfl cg (by decide +kernel) ?_
        refine G_r C [(.aload_n 0, 1, 0, 0, .null), (.getfield 7, 3, 7, 0, .null), (.iload 8, 2, 0, 0, .null)] 158 [(0, .ref 0), (2, .int x2), (3, .int x3), (4, .long x4), (6, .long x6), (8, .int x8)] [.int x8, .ref 1, .long ((vp_updL Mz x8.toNatClampNeg ((Mz (x8 - (1 : Int32)).toNatClampNeg) - (x4 * (Mx x8.toNatClampNeg)))) x8.toNatClampNeg), .long x6] (wMo cy Ms Mb Mq MB My ML Mg MF MW MI MA Mr Ma Mp Mf Mt Ml Mo Mn Mm MT MP Mv Mx (vp_updL Mz x8.toNatClampNeg ((Mz (x8 - (1 : Int32)).toNatClampNeg) - (x4 * (Mx x8.toNatClampNeg))))) (by decide +kernel) rfl rfl ?_
        obtain ⟨cg, h⟩ := oob h
        refine G_iald C (a := 1) rfl cg (by decide +kernel) ?_
        refine G_r C [(.i2l, 1, 0, 0, .null), (.lmul, 1, 0, 0, .null), (.ladd, 1, 0, 0, .null), (.lstore 6, 2, 0, 0, .null)] 164 [(6, .long (x6 + (((vp_updL Mz x8.toNatClampNeg ((Mz (x8 - (1 : Int32)).toNatClampNeg) - (x4 * (Mx x8.toNatClampNeg)))) x8.toNatClampNeg) * ((Mr x8.toNatClampNeg).toInt64)))), (0, .ref 0), (2, .int x2), (3, .int x3), (4, .long x4), (8, .int x8)] [] (wMo cy Ms Mb Mq MB My ML Mg MF MW MI MA Mr Ma Mp Mf Mt Ml Mo Mn Mm MT MP Mv Mx (vp_updL Mz x8.toNatClampNeg ((Mz (x8 - (1 : Int32)).toNatClampNeg) - (x4 * (Mx x8.toNatClampNeg))))) (by decide +kernel) rfl rfl ?_
        obtain ⟨q5, hq5, h⟩ := obd h
        have hq5 := Option.some.inj hq5
        rw [hq5]
        refine G_r C [(.iinc 8 (-1), 3, 0, 0, .int (-1 : Int32))] 167 [(8, .int (x8 + (-1 : Int32))), (6, .long q5), (0, .ref 0), (2, .int x2), (3, .int x3), (4, .long x4)] [] (wMo cy Ms Mb Mq MB My ML Mg MF MW MI MA Mr Ma Mp Mf Mt Ml Mo Mn Mm MT MP Mv Mx (vp_updL Mz x8.toNatClampNeg ((Mz (x8 - (1 : Int32)).toNatClampNeg) - (x4 * (Mx x8.toNatClampNeg))))) (by decide +kernel) rfl rfl ?_
        refine G_goto C (off := -65) (tgt := 102) (by decide +kernel) rfl ?_
        refine G_lv [2, 3, 4, 5, 1, 0] (lv' := [(0, .ref 0), (2, .int x2), (3, .int x3), (4, .long x4), (6, .long q5), (8, .int (x8 + (-1 : Int32)))]) rfl ?_
        exact ih x2 x3 x4 q5 (x8 + (-1 : Int32)) Ms Mb Mq MB My ML Mg MF MW MI MA Mr Ma Mp Mf Mt Ml Mo Mn Mm MT MP Mv Mx (vp_updL Mz x8.toNatClampNeg ((Mz (x8 - (1 : Int32)).toNatClampNeg) - (x4 * (Mx x8.toNatClampNeg)))) res h hex
      · rw [if_pos c] at h
        refine G_r C [(.lconst 0, 1, 0, 0, .long (0 : Int64))] 119 [(0, .ref 0), (2, .int x2), (3, .int x3), (4, .long x4), (6, .long x6), (8, .int x8)] [.long (0 : Int64), .int x8, .ref 14] (wMo cy Ms Mb Mq MB My ML Mg MF MW MI MA Mr Ma Mp Mf Mt Ml Mo Mn Mm MT MP Mv Mx Mz) (by decide +kernel) rfl rfl ?_
        refine G_goto C (off := 12) (tgt := 131) (by decide +kernel) rfl ?_
        refine G_r C [(.lload 4, 2, 0, 0, .null), (.aload_n 0, 1, 0, 0, .null), (.getfield 47, 3, 7, 16, .null), (.iload 8, 2, 0, 0, .null)] 139 [(0, .ref 0), (2, .int x2), (3, .int x3), (4, .long x4), (6, .long x6), (8, .int x8)] [.int x8, .ref 13, .long x4, .long (0 : Int64), .int x8, .ref 14] (wMo cy Ms Mb Mq MB My ML Mg MF MW MI MA Mr Ma Mp Mf Mt Ml Mo Mn Mm MT MP Mv Mx Mz) (by decide +kernel) rfl rfl ?_
        obtain ⟨cg, h⟩ := oob h
        refine G_lald C (a := 13) rfl cg (by decide +kernel) ?_
        refine G_r C [(.lmul, 1, 0, 0, .null), (.lsub, 1, 0, 0, .null)] 142 [(0, .ref 0), (2, .int x2), (3, .int x3), (4, .long x4), (6, .long x6), (8, .int x8)] [.long ((0 : Int64) - (x4 * (Mx x8.toNatClampNeg))), .int x8, .ref 14] (wMo cy Ms Mb Mq MB My ML Mg MF MW MI MA Mr Ma Mp Mf Mt Ml Mo Mn Mm MT MP Mv Mx Mz) (by decide +kernel) rfl rfl ?_
        obtain ⟨cg, h⟩ := oob h
        refine G_last C (a := 14) (w' := (wMo cy Ms Mb Mq MB My ML Mg MF MW MI MA Mr Ma Mp Mf Mt Ml Mo Mn Mm MT MP Mv Mx (vp_updL Mz x8.toNatClampNeg ((0 : Int64) - (x4 * (Mx x8.toNatClampNeg)))))) rfl cg (by decide +kernel) rfl ?_
        refine G_r C [(.lload 6, 2, 0, 0, .null), (.aload_n 0, 1, 0, 0, .null), (.getfield 50, 3, 7, 18, .null), (.iload 8, 2, 0, 0, .null)] 151 [(0, .ref 0), (2, .int x2), (3, .int x3), (4, .long x4), (6, .long x6), (8, .int x8)] [.int x8, .ref 14, .long x6] (wMo cy Ms Mb Mq MB My ML Mg MF MW MI MA Mr Ma Mp Mf Mt Ml Mo Mn Mm MT MP Mv Mx (vp_updL Mz x8.toNatClampNeg ((0 : Int64) - (x4 * (Mx x8.toNatClampNeg))))) (by decide +kernel) rfl rfl ?_
        obtain ⟨cg, h⟩ := oob h
        refine G_lald C (a := 14) rfl cg (by decide +kernel) ?_
        refine G_r C [(.aload_n 0, 1, 0, 0, .null), (.getfield 7, 3, 7, 0, .null), (.iload 8, 2, 0, 0, .null)] 158 [(0, .ref 0), (2, .int x2), (3, .int x3), (4, .long x4), (6, .long x6), (8, .int x8)] [.int x8, .ref 1, .long ((vp_updL Mz x8.toNatClampNeg ((0 : Int64) - (x4 * (Mx x8.toNatClampNeg)))) x8.toNatClampNeg), .long x6] (wMo cy Ms Mb Mq MB My ML Mg MF MW MI MA Mr Ma Mp Mf Mt Ml Mo Mn Mm MT MP Mv Mx (vp_updL Mz x8.toNatClampNeg ((0 : Int64) - (x4 * (Mx x8.toNatClampNeg))))) (by decide +kernel) rfl rfl ?_
        obtain ⟨cg, h⟩ := oob h
        refine G_iald C (a := 1) rfl cg (by decide +kernel) ?_
        refine G_r C [(.i2l, 1, 0, 0, .null), (.lmul, 1, 0, 0, .null), (.ladd, 1, 0, 0, .null), (.lstore 6, 2, 0, 0, .null)] 164 [(6, .long (x6 + (((vp_updL Mz x8.toNatClampNeg ((0 : Int64) - (x4 * (Mx x8.toNatClampNeg)))) x8.toNatClampNeg) * ((Mr x8.toNatClampNeg).toInt64)))), (0, .ref 0), (2, .int x2), (3, .int x3), (4, .long x4), (8, .int x8)] [] (wMo cy Ms Mb Mq MB My ML Mg MF MW MI MA Mr Ma Mp Mf Mt Ml Mo Mn Mm MT MP Mv Mx (vp_updL Mz x8.toNatClampNeg ((0 : Int64) - (x4 * (Mx x8.toNatClampNeg))))) (by decide +kernel) rfl rfl ?_
        obtain ⟨q6, hq6, h⟩ := obd h
        have hq6 := Option.some.inj hq6
        rw [hq6]
        refine G_r C [(.iinc 8 (-1), 3, 0, 0, .int (-1 : Int32))] 167 [(8, .int (x8 + (-1 : Int32))), (6, .long q6), (0, .ref 0), (2, .int x2), (3, .int x3), (4, .long x4)] [] (wMo cy Ms Mb Mq MB My ML Mg MF MW MI MA Mr Ma Mp Mf Mt Ml Mo Mn Mm MT MP Mv Mx (vp_updL Mz x8.toNatClampNeg ((0 : Int64) - (x4 * (Mx x8.toNatClampNeg))))) (by decide +kernel) rfl rfl ?_
        refine G_goto C (off := -65) (tgt := 102) (by decide +kernel) rfl ?_
        refine G_lv [2, 3, 4, 5, 1, 0] (lv' := [(0, .ref 0), (2, .int x2), (3, .int x3), (4, .long x4), (6, .long q6), (8, .int (x8 + (-1 : Int32)))]) rfl ?_
        exact ih x2 x3 x4 q6 (x8 + (-1 : Int32)) Ms Mb Mq MB My ML Mg MF MW MI MA Mr Ma Mp Mf Mt Ml Mo Mn Mm MT MP Mv Mx (vp_updL Mz x8.toNatClampNeg ((0 : Int64) - (x4 * (Mx x8.toNatClampNeg)))) res h hex
set_option maxHeartbeats 4000000 in
set_option maxRecDepth 100000 in
theorem g_X7_exact_L73 {k : KX} {cy : Nat → ClassId} (C : OK k cX7_exact 7 9 cy 2 45) : ∀ (fu : Nat) (x2 : Int32) (x3 : Int32) (Ms : Int32) (Mb : Int32) (Mq : Int32) (MB : Int64) (My : Int32) (ML : Int32) (Mg : Int32) (MF : Int32) (MW : Bool) (MI : Bool) (MA : Int32) (Mr : Nat → Int32) (Ma : Nat → Int32) (Mp : Nat → Int32) (Mf : Nat → Int32) (Mt : Nat → Int32) (Ml : Nat → Int32) (Mo : Nat → Int32) (Mn : Nat → Int32) (Mm : Nat → Int64) (MT : Nat → Int64) (MP : Nat → Int64) (Mv : Nat → Int32) (Mx : Nat → Int64) (Mz : Nat → Int64) (res : (Int32 × Int32 × (Nat → Int32) × (Nat → Int64) × (Nat → Int64))), RT k cy (some .int) (some (.int res.1)) (wMo cy Ms Mb Mq MB res.2.1 ML Mg MF MW MI MA Mr Ma Mp res.2.2.1 Mt Ml Mo Mn Mm MT MP Mv res.2.2.2.1 res.2.2.2.2) → (f_X7_exact_L73 fu x2 x3 My Mr Mf Mx Mz = some res) → G k 9 73 [(0, .ref 0), (2, .int x2), (3, .int x3)] [] (wMo cy Ms Mb Mq MB My ML Mg MF MW MI MA Mr Ma Mp Mf Mt Ml Mo Mn Mm MT MP Mv Mx Mz) := by
  intro fu
  induction fu with
  | zero =>
    intro x2 x3 Ms Mb Mq MB My ML Mg MF MW MI MA Mr Ma Mp Mf Mt Ml Mo Mn Mm MT MP Mv Mx Mz res hR h
    rw [f_X7_exact_L73] at h
    cases h
  | succ fu ih =>
    intro x2 x3 Ms Mb Mq MB My ML Mg MF MW MI MA Mr Ma Mp Mf Mt Ml Mo Mn Mm MT MP Mv Mx Mz res hR h
    rw [f_X7_exact_L73] at h
    refine G_r C [(.iload_n 3, 1, 0, 0, .null), (.aload_n 0, 1, 0, 0, .null), (.getfield 7, 3, 7, 0, .null), (.bipush 7, 2, 0, 0, .int (7 : Int32))] 80 [(0, .ref 0), (2, .int x2), (3, .int x3)] [.int (7 : Int32), .ref 1, .int x3] (wMo cy Ms Mb Mq MB My ML Mg MF MW MI MA Mr Ma Mp Mf Mt Ml Mo Mn Mm MT MP Mv Mx Mz) (by decide +kernel) rfl rfl ?_
    obtain ⟨cg, h⟩ := oob h
    refine G_iald C (a := 1) rfl cg (by decide +kernel) ?_
    refine G_icmp_ge C (off := 112) (tgt := 193) (by decide +kernel) rfl (fun c => ?_) (fun c => ?_)
    · rw [if_pos c] at h
      refine G_r C [(.aload_n 0, 1, 0, 0, .null), (.getfield 7, 3, 7, 0, .null), (.bipush 7, 2, 0, 0, .int (7 : Int32))] 199 [(0, .ref 0), (2, .int x2), (3, .int x3)] [.int (7 : Int32), .ref 1] (wMo cy Ms Mb Mq MB My ML Mg MF MW MI MA Mr Ma Mp Mf Mt Ml Mo Mn Mm MT MP Mv Mx Mz) (by decide +kernel) rfl rfl ?_
      obtain ⟨cg, h⟩ := oob h
      refine G_iald C (a := 1) rfl cg (by decide +kernel) ?_
      refine G_r C [(.iconst 1, 1, 0, 0, .int (1 : Int32)), (.isub, 1, 0, 0, .null)] 202 [(0, .ref 0), (2, .int x2), (3, .int x3)] [.int ((Mr (7 : Int32).toNatClampNeg) - (1 : Int32))] (wMo cy Ms Mb Mq MB My ML Mg MF MW MI MA Mr Ma Mp Mf Mt Ml Mo Mn Mm MT MP Mv Mx Mz) (by decide +kernel) rfl rfl ?_
      have h := Option.some.inj h
      subst h
      exact G_iret C hR (by decide +kernel)
    · rw [if_neg c] at h
      refine G_r C [(.aload_n 0, 1, 0, 0, .null), (.getfield 50, 3, 7, 18, .null), (.iload_n 2, 1, 0, 0, .null), (.iconst 1, 1, 0, 0, .int (1 : Int32)), (.isub, 1, 0, 0, .null)] 91 [(0, .ref 0), (2, .int x2), (3, .int x3)] [.int (x2 - (1 : Int32)), .ref 14] (wMo cy Ms Mb Mq MB My ML Mg MF MW MI MA Mr Ma Mp Mf Mt Ml Mo Mn Mm MT MP Mv Mx Mz) (by decide +kernel) rfl rfl ?_
      obtain ⟨cg, h⟩ := oob h
      refine G_lald C (a := 14) rfl cg (by decide +kernel) ?_
      refine G_r C [(.lstore 4, 2, 0, 0, .null), (.lconst 0, 1, 0, 0, .long (0 : Int64)), (.lstore 6, 2, 0, 0, .null), (.iload_n 2, 1, 0, 0, .null), (.iconst 1, 1, 0, 0, .int (1 : Int32)), (.isub, 1, 0, 0, .null), (.istore 8, 2, 0, 0, .null)] 102 [(8, .int (x2 - (1 : Int32))), (6, .long (0 : Int64)), (4, .long (Mz (x2 - (1 : Int32)).toNatClampNeg)), (0, .ref 0), (2, .int x2), (3, .int x3)] [] (wMo cy Ms Mb Mq MB My ML Mg MF MW MI MA Mr Ma Mp Mf Mt Ml Mo Mn Mm MT MP Mv Mx Mz) (by decide +kernel) rfl rfl ?_
      obtain ⟨q7, hq7, h⟩ := obd h
      refine G_lv [3, 4, 5, 2, 1, 0] (lv' := [(0, .ref 0), (2, .int x2), (3, .int x3), (4, .long (Mz (x2 - (1 : Int32)).toNatClampNeg)), (6, .long (0 : Int64)), (8, .int (x2 - (1 : Int32)))]) rfl ?_
      refine g_X7_exact_L102 C 200 x2 x3 (Mz (x2 - (1 : Int32)).toNatClampNeg) (0 : Int64) (x2 - (1 : Int32)) Ms Mb Mq MB My ML Mg MF MW MI MA Mr Ma Mp Mf Mt Ml Mo Mn Mm MT MP Mv Mx Mz q7 hq7 ?_
      refine G_r C [(.lload 6, 2, 0, 0, .null), (.aload_n 0, 1, 0, 0, .null), (.getfield 7, 3, 7, 0, .null), (.iload_n 3, 1, 0, 0, .null)] 177 [(0, .ref 0), (2, .int x2), (3, .int x3), (6, .long q7.1)] [.int x3, .ref 1, .long q7.1] (wMo cy Ms Mb Mq MB My ML Mg MF MW MI MA Mr Ma Mp Mf Mt Ml Mo Mn Mm MT MP Mv Mx q7.2) (by decide +kernel) rfl rfl ?_
      obtain ⟨cg, h⟩ := oob h
      refine G_iald C (a := 1) rfl cg (by decide +kernel) ?_
      refine G_r C [(.i2l, 1, 0, 0, .null)] 179 [(0, .ref 0), (2, .int x2), (3, .int x3), (6, .long q7.1)] [.long ((Mr x3.toNatClampNeg).toInt64), .long q7.1] (wMo cy Ms Mb Mq MB My ML Mg MF MW MI MA Mr Ma Mp Mf Mt Ml Mo Mn Mm MT MP Mv Mx q7.2) (by decide +kernel) rfl rfl ?_
      refine G_lcmp_eq C (off := 7) (tgt := 187) (by decide +kernel) (by decide +kernel) rfl (fun c => ?_) (fun c => ?_)
      · rw [if_pos c] at h
        refine G_r C [(.iinc 3 1, 3, 0, 0, .int (1 : Int32))] 190 [(3, .int (x3 + (1 : Int32))), (0, .ref 0), (2, .int x2), (6, .long q7.1)] [] (wMo cy Ms Mb Mq MB My ML Mg MF MW MI MA Mr Ma Mp Mf Mt Ml Mo Mn Mm MT MP Mv Mx q7.2) (by decide +kernel) rfl rfl ?_
        refine G_goto C (off := -117) (tgt := 73) (by decide +kernel) rfl ?_
        refine G_lv [1, 2, 0] (lv' := [(0, .ref 0), (2, .int x2), (3, .int (x3 + (1 : Int32)))]) rfl ?_
        exact ih x2 (x3 + (1 : Int32)) Ms Mb Mq MB My ML Mg MF MW MI MA Mr Ma Mp Mf Mt Ml Mo Mn Mm MT MP Mv Mx q7.2 res hR h
      · rw [if_neg c] at h
        refine G_r C [(.iload_n 3, 1, 0, 0, .null), (.iconst 1, 1, 0, 0, .int (1 : Int32)), (.isub, 1, 0, 0, .null)] 186 [(0, .ref 0), (2, .int x2), (3, .int x3), (6, .long q7.1)] [.int (x3 - (1 : Int32))] (wMo cy Ms Mb Mq MB My ML Mg MF MW MI MA Mr Ma Mp Mf Mt Ml Mo Mn Mm MT MP Mv Mx q7.2) (by decide +kernel) rfl rfl ?_
        have h := Option.some.inj h
        subst h
        exact G_iret C hR (by decide +kernel)
set_option maxHeartbeats 4000000 in
set_option maxRecDepth 100000 in
theorem c_X7_exact (cy : Nat → ClassId) (Ms : Int32) (Mb : Int32) (Mq : Int32) (MB : Int64) (My : Int32) (ML : Int32) (Mg : Int32) (MF : Int32) (MW : Bool) (MI : Bool) (MA : Int32) (Mr : Nat → Int32) (Ma : Nat → Int32) (Mp : Nat → Int32) (Mf : Nat → Int32) (Mt : Nat → Int32) (Ml : Nat → Int32) (Mo : Nat → Int32) (Mn : Nat → Int32) (Mm : Nat → Int64) (MT : Nat → Int64) (MP : Nat → Int64) (Mv : Nat → Int32) (Mx : Nat → Int64) (Mz : Nat → Int64) (x1 : Int32) (res : (Int32 × Int32 × (Nat → Int32) × (Nat → Int64) × (Nat → Int64))) (h : f_X7_exact x1 My Mr Mf Mx Mz = some res) : MG cy yX7_exact cX7_exact 9 (some .int) 2 45 [.ref 0, .int x1] (wMo cy Ms Mb Mq MB My ML Mg MF MW MI MA Mr Ma Mp Mf Mt Ml Mo Mn Mm MT MP Mv Mx Mz) (some (.int res.1)) (wMo cy Ms Mb Mq MB res.2.1 ML Mg MF MW MI MA Mr Ma Mp res.2.2.1 Mt Ml Mo Mn Mm MT MP Mv res.2.2.2.1 res.2.2.2.2) := by
  refine MG_of (o := 7) (lv := [(0, .ref 0), (1, .int x1)]) ⟨by decide +kernel, rfl⟩ (Nat.le_of_ble_eq_true rfl) rfl (fun k C hR => ?_)
  rw [f_X7_exact] at h
  refine G_r C [(.iload_n 1, 1, 0, 0, .null)] 1 [(0, .ref 0), (1, .int x1)] [.int x1] (wMo cy Ms Mb Mq MB My ML Mg MF MW MI MA Mr Ma Mp Mf Mt Ml Mo Mn Mm MT MP Mv Mx Mz) (by decide +kernel) rfl rfl ?_
  obtain ⟨q1, hq1, h⟩ := obd h
  refine G_cS C lk_7_207 ⟨Nat.le_of_ble_eq_true rfl, Nat.le_of_ble_eq_true rfl⟩ (by decide +kernel) [.int (bI q1)] (c_X7_isSet cy x1 q1 hq1) rfl rfl (Nat.le_of_ble_eq_true rfl) rfl ?_
  refine G_if_ne C (off := 8) (tgt := 12) (by decide +kernel) rfl (fun c => ?_) (fun c => ?_)
  · rw [if_neg c] at h
    refine G_r C [(.iload_n 1, 1, 0, 0, .null)] 13 [(0, .ref 0), (1, .int x1)] [.int x1] (wMo cy Ms Mb Mq MB My ML Mg MF MW MI MA Mr Ma Mp Mf Mt Ml Mo Mn Mm MT MP Mv Mx Mz) (by decide +kernel) rfl rfl ?_
    obtain ⟨q2, hq2, h⟩ := obd h
    refine G_cS C lk_7_200 ⟨Nat.le_of_ble_eq_true rfl, Nat.le_of_ble_eq_true rfl⟩ (by decide +kernel) [.int q2] (c_X7_size cy x1 q2 hq2) rfl rfl (Nat.le_of_ble_eq_true rfl) rfl ?_
    refine G_r C [(.istore_n 2, 1, 0, 0, .null), (.iload_n 2, 1, 0, 0, .null), (.aload_n 0, 1, 0, 0, .null), (.getfield 7, 3, 7, 0, .null), (.bipush 7, 2, 0, 0, .int (7 : Int32))] 24 [(2, .int q2), (0, .ref 0), (1, .int x1)] [.int (7 : Int32), .ref 1, .int q2] (wMo cy Ms Mb Mq MB My ML Mg MF MW MI MA Mr Ma Mp Mf Mt Ml Mo Mn Mm MT MP Mv Mx Mz) (by decide +kernel) rfl rfl ?_
    obtain ⟨cg, h⟩ := oob h
    refine G_iald C (a := 1) rfl cg (by decide +kernel) ?_
    refine G_icmp_le C (off := 8) (tgt := 33) (by decide +kernel) rfl (fun c => ?_) (fun c => ?_)
    · rw [if_pos c] at h
      refine G_r C [(.aload_n 0, 1, 0, 0, .null), (.iload_n 1, 1, 0, 0, .null), (.bipush 99, 2, 0, 0, .int (99 : Int32))] 37 [(2, .int q2), (0, .ref 0), (1, .int x1)] [.int (99 : Int32), .int x1, .ref 0] (wMo cy Ms Mb Mq MB My ML Mg MF MW MI MA Mr Ma Mp Mf Mt Ml Mo Mn Mm MT MP Mv Mx Mz) (by decide +kernel) rfl rfl ?_
      obtain ⟨q3, hq3, h⟩ := obd h
      refine G_c0 C lk_7_210 ⟨Nat.le_of_ble_eq_true rfl, Nat.le_of_ble_eq_true rfl⟩ (by decide +kernel) [] (c_X7_makeProduct cy Ms Mb Mq MB My ML Mg MF MW MI MA Mr Ma Mp Mf Mt Ml Mo Mn Mm MT MP Mv Mx Mz x1 (99 : Int32) q3 hq3) rfl rfl (Nat.le_of_ble_eq_true rfl) ⟨rfl, rfl⟩ rfl ?_
      refine G_r C [(.iconst 0, 1, 0, 0, .int (0 : Int32)), (.istore_n 3, 1, 0, 0, .null)] 42 [(3, .int (0 : Int32)), (2, .int q2), (0, .ref 0), (1, .int x1)] [] (wMo cy Ms Mb Mq MB q3.1 ML Mg MF MW MI MA Mr Ma Mp Mf Mt Ml Mo Mn Mm MT MP Mv q3.2 Mz) (by decide +kernel) rfl rfl ?_
      obtain ⟨q4, hq4, h⟩ := obd h
      refine G_lv [2, 1, 0] (lv' := [(0, .ref 0), (2, .int q2), (3, .int (0 : Int32))]) rfl ?_
      refine g_X7_exact_L42 C 200 q2 (0 : Int32) Ms Mb Mq MB q3.1 ML Mg MF MW MI MA Mr Ma Mp Mf Mt Ml Mo Mn Mm MT MP Mv q3.2 Mz q4 hq4 ?_
      refine G_r C [(.iload_n 2, 1, 0, 0, .null), (.istore_n 3, 1, 0, 0, .null)] 73 [(3, .int q2), (0, .ref 0), (2, .int q2)] [] (wMo cy Ms Mb Mq MB q3.1 ML Mg MF MW MI MA Mr Ma Mp Mf Mt Ml Mo Mn Mm MT MP Mv q3.2 q4) (by decide +kernel) rfl rfl ?_
      refine G_lv [1, 2, 0] (lv' := [(0, .ref 0), (2, .int q2), (3, .int q2)]) rfl ?_
      exact g_X7_exact_L73 C 200 q2 q2 Ms Mb Mq MB q3.1 ML Mg MF MW MI MA Mr Ma Mp Mf Mt Ml Mo Mn Mm MT MP Mv q3.2 q4 res hR h
    · rw [if_neg c] at h
      refine G_r C [(.aload_n 0, 1, 0, 0, .null)] 29 [(2, .int q2), (0, .ref 0), (1, .int x1)] [.ref 0] (wMo cy Ms Mb Mq MB My ML Mg MF MW MI MA Mr Ma Mp Mf Mt Ml Mo Mn Mm MT MP Mv Mx Mz) (by decide +kernel) rfl rfl ?_
      obtain ⟨q8, hq8, h⟩ := obd h
      refine G_c0 C lk_7_87 ⟨Nat.le_of_ble_eq_true rfl, Nat.le_of_ble_eq_true rfl⟩ (by decide +kernel) [.int q8.1] (c_X7_no cy Ms Mb Mq MB My ML Mg MF MW MI MA Mr Ma Mp Mf Mt Ml Mo Mn Mm MT MP Mv Mx Mz q8 hq8) rfl rfl (Nat.le_of_ble_eq_true rfl) ⟨rfl, rfl⟩ rfl ?_
      have h := Option.some.inj h
      subst h
      exact G_iret C hR (by decide +kernel)
  · rw [if_pos c] at h
    refine G_r C [(.aload_n 0, 1, 0, 0, .null)] 8 [(0, .ref 0), (1, .int x1)] [.ref 0] (wMo cy Ms Mb Mq MB My ML Mg MF MW MI MA Mr Ma Mp Mf Mt Ml Mo Mn Mm MT MP Mv Mx Mz) (by decide +kernel) rfl rfl ?_
    obtain ⟨q9, hq9, h⟩ := obd h
    refine G_c0 C lk_7_72 ⟨Nat.le_of_ble_eq_true rfl, Nat.le_of_ble_eq_true rfl⟩ (by decide +kernel) [.int q9.1] (c_X7_bad cy Ms Mb Mq MB My ML Mg MF MW MI MA Mr Ma Mp Mf Mt Ml Mo Mn Mm MT MP Mv Mx Mz q9 hq9) rfl rfl (Nat.le_of_ble_eq_true rfl) ⟨rfl, rfl⟩ rfl ?_
    have h := Option.some.inj h
    subst h
    exact G_iret C hR (by decide +kernel)
