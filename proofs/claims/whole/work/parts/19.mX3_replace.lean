def f_X3_replace_L16 : Nat → Int32 → Int32 → Int32 → (Nat → Int64) → Int32 → (Nat → Int32) → Option (Nat → Int64)
  | 0, _, _, _, _, _, _ => none
  | fu + 1, x2, x3, x4, rg, et, en => if x3 ≤ x4 then (some rg) else ((f_X2_number (x2 + x4) et en).bind fun q2 => if x4 < 0 ∨ 7 ≤ x4.toNatClampNeg then none else f_X3_replace_L16 fu x2 x3 (x4 + (1 : Int32)) (vp_updL rg x4.toNatClampNeg q2.toInt64) et en)
def f_X3_replace (x2 : Int32) (x3 : Int32) (rK : Int32) (rf : Nat → Int32) (rg : Nat → Int64) (et : Int32) (en : Nat → Int32) : Option (Int32 × Int32 × (Nat → Int32) × (Nat → Int64)) := (f_X6_isOutside x3 (1 : Int32) (7 : Int32)).bind fun q1 => if (bI q1) = 0 then ((f_X3_replace_L16 200 x2 x3 (0 : Int32) rg et en).bind fun q3 => (f_X3_takeNext x3 rK rf q3).bind fun q4 => some (q4.1, q4.2.1, q4.2.2, q3)) else (some ((-1000001 : Int32), rK, rf, rg))
set_option maxHeartbeats 4000000 in
set_option maxRecDepth 100000 in
theorem g_X3_replace_L16 {k : KX} {cy : Nat → ClassId} (C : OK k cX3_replace 3 5 cy 2 44) : ∀ (fu : Nat) (x2 : Int32) (x3 : Int32) (x4 : Int32) (rK : Int32) (rf : Nat → Int32) (rg : Nat → Int64) (rpd : Int32) (rpn : Nat → Int64) (eo : Int32) (et : Int32) (ed : Int32) (em : Bool) (ef : Int32) (ez : Int32) (ek : Nat → Int32) (es : Nat → Int32) (en : Nat → Int32) (res : (Nat → Int64)), (f_X3_replace_L16 fu x2 x3 x4 rg et en = some res) → G k 5 44 [(0, .ref 0), (3, .int x3)] [] ((wRow cy 0 rK rf res rpd rpn) ++ (wReader cy 5 eo et ed em ef ez ek es en)) → G k 5 16 [(0, .ref 0), (1, .ref 5), (2, .int x2), (3, .int x3), (4, .int x4)] [] ((wRow cy 0 rK rf rg rpd rpn) ++ (wReader cy 5 eo et ed em ef ez ek es en)) := by
  intro fu
  induction fu with
  | zero =>
    intro x2 x3 x4 rK rf rg rpd rpn eo et ed em ef ez ek es en res h hex
    rw [f_X3_replace_L16] at h
    cases h
  | succ fu ih =>
    intro x2 x3 x4 rK rf rg rpd rpn eo et ed em ef ez ek es en res h hex
    rw [f_X3_replace_L16] at h
    refine G_r C [(.iload 4, 2, 0, 0, .null), (.iload_n 3, 1, 0, 0, .null)] 19 [(0, .ref 0), (1, .ref 5), (2, .int x2), (3, .int x3), (4, .int x4)] [.int x3, .int x4] ((wRow cy 0 rK rf rg rpd rpn) ++ (wReader cy 5 eo et ed em ef ez ek es en)) (by decide +kernel) rfl rfl ?_
    refine G_icmp_ge C (off := 25) (tgt := 44) (by decide +kernel) rfl (fun c => ?_) (fun c => ?_)
    · rw [if_pos c] at h
      have h := Option.some.inj h
      subst h
      refine G_lv [0, 3] (lv' := [(0, .ref 0), (3, .int x3)]) rfl ?_
      exact hex
    · rw [if_neg c] at h
      refine G_r C [(.aload_n 0, 1, 0, 0, .null), (.getfield 15, 3, 3, 1, .null), (.iload 4, 2, 0, 0, .null), (.aload_n 1, 1, 0, 0, .null), (.iload_n 2, 1, 0, 0, .null), (.iload 4, 2, 0, 0, .null), (.iadd, 1, 0, 0, .null)] 33 [(0, .ref 0), (1, .ref 5), (2, .int x2), (3, .int x3), (4, .int x4)] [.int (x2 + x4), .ref 5, .int x4, .ref 2] ((wRow cy 0 rK rf rg rpd rpn) ++ (wReader cy 5 eo et ed em ef ez ek es en)) (by decide +kernel) rfl rfl ?_
      obtain ⟨q2, hq2, h⟩ := obd h
      refine G_cV C lk_3_73 ⟨Nat.le_of_ble_eq_true rfl, Nat.le_of_ble_eq_true rfl⟩ (by decide +kernel) [5, 6, 7, 8] [.int q2, .int x4, .ref 2] ((wRow cy 0 rK rf rg rpd rpn) ++ (wReader cy 5 eo et ed em ef ez ek es en)) (c_X2_number cy eo et ed em ef ez ek es en (x2 + x4) q2 hq2) rfl rfl (Nat.le_of_ble_eq_true rfl) rfl rfl ⟨rfl, rfl⟩ rfl rfl rfl ?_
      refine G_r C [(.i2l, 1, 0, 0, .null)] 37 [(0, .ref 0), (1, .ref 5), (2, .int x2), (3, .int x3), (4, .int x4)] [.long q2.toInt64, .int x4, .ref 2] ((wRow cy 0 rK rf rg rpd rpn) ++ (wReader cy 5 eo et ed em ef ez ek es en)) (by decide +kernel) rfl rfl ?_
      obtain ⟨cg, h⟩ := oob h
      refine G_last C (a := 2) (w' := ((wRow cy 0 rK rf (vp_updL rg x4.toNatClampNeg q2.toInt64) rpd rpn) ++ (wReader cy 5 eo et ed em ef ez ek es en))) rfl cg (by decide +kernel) rfl ?_
      refine G_r C [(.iinc 4 1, 3, 0, 0, .int (1 : Int32))] 41 [(4, .int (x4 + (1 : Int32))), (0, .ref 0), (1, .ref 5), (2, .int x2), (3, .int x3)] [] ((wRow cy 0 rK rf (vp_updL rg x4.toNatClampNeg q2.toInt64) rpd rpn) ++ (wReader cy 5 eo et ed em ef ez ek es en)) (by decide +kernel) rfl rfl ?_
      refine G_goto C (off := -25) (tgt := 16) (by decide +kernel) rfl ?_
      refine G_lv [1, 2, 3, 4, 0] (lv' := [(0, .ref 0), (1, .ref 5), (2, .int x2), (3, .int x3), (4, .int (x4 + (1 : Int32)))]) rfl ?_
      exact ih x2 x3 (x4 + (1 : Int32)) rK rf (vp_updL rg x4.toNatClampNeg q2.toInt64) rpd rpn eo et ed em ef ez ek es en res h hex
set_option maxHeartbeats 4000000 in
set_option maxRecDepth 100000 in
theorem c_X3_replace (cy : Nat → ClassId) (rK : Int32) (rf : Nat → Int32) (rg : Nat → Int64) (rpd : Int32) (rpn : Nat → Int64) (eo : Int32) (et : Int32) (ed : Int32) (em : Bool) (ef : Int32) (ez : Int32) (ek : Nat → Int32) (es : Nat → Int32) (en : Nat → Int32) (x2 : Int32) (x3 : Int32) (res : (Int32 × Int32 × (Nat → Int32) × (Nat → Int64))) (h : f_X3_replace x2 x3 rK rf rg et en = some res) : MG cy yX3_replace cX3_replace 5 (some .int) 2 44 [.ref 0, .ref 5, .int x2, .int x3] ((wRow cy 0 rK rf rg rpd rpn) ++ (wReader cy 5 eo et ed em ef ez ek es en)) (some (.int res.1)) ((wRow cy 0 res.2.1 res.2.2.1 res.2.2.2 rpd rpn) ++ (wReader cy 5 eo et ed em ef ez ek es en)) := by
  refine MG_of (o := 3) (lv := [(0, .ref 0), (1, .ref 5), (2, .int x2), (3, .int x3)]) ⟨by decide +kernel, rfl⟩ (Nat.le_of_ble_eq_true rfl) rfl (fun k C hR => ?_)
  rw [f_X3_replace] at h
  refine G_r C [(.iload_n 3, 1, 0, 0, .null), (.iconst 1, 1, 0, 0, .int (1 : Int32)), (.bipush 7, 2, 0, 0, .int (7 : Int32))] 4 [(0, .ref 0), (1, .ref 5), (2, .int x2), (3, .int x3)] [.int (7 : Int32), .int (1 : Int32), .int x3] ((wRow cy 0 rK rf rg rpd rpn) ++ (wReader cy 5 eo et ed em ef ez ek es en)) (by decide +kernel) rfl rfl ?_
  obtain ⟨q1, hq1, h⟩ := obd h
  refine G_cN C lk_3_45 ⟨Nat.le_of_ble_eq_true rfl, Nat.le_of_ble_eq_true rfl⟩ (by decide +kernel) [.int (bI q1)] (c_X6_isOutside cy x3 (1 : Int32) (7 : Int32) q1 hq1) rfl rfl (Nat.le_of_ble_eq_true rfl) rfl ?_
  refine G_if_eq C (off := 6) (tgt := 13) (by decide +kernel) rfl (fun c => ?_) (fun c => ?_)
  · rw [if_pos c] at h
    refine G_r C [(.iconst 0, 1, 0, 0, .int (0 : Int32)), (.istore 4, 2, 0, 0, .null)] 16 [(4, .int (0 : Int32)), (0, .ref 0), (1, .ref 5), (2, .int x2), (3, .int x3)] [] ((wRow cy 0 rK rf rg rpd rpn) ++ (wReader cy 5 eo et ed em ef ez ek es en)) (by decide +kernel) rfl rfl ?_
    obtain ⟨q3, hq3, h⟩ := obd h
    refine G_lv [1, 2, 3, 4, 0] (lv' := [(0, .ref 0), (1, .ref 5), (2, .int x2), (3, .int x3), (4, .int (0 : Int32))]) rfl ?_
    refine g_X3_replace_L16 C 200 x2 x3 (0 : Int32) rK rf rg rpd rpn eo et ed em ef ez ek es en q3 hq3 ?_
    refine G_r C [(.aload_n 0, 1, 0, 0, .null), (.iload_n 3, 1, 0, 0, .null)] 46 [(0, .ref 0), (3, .int x3)] [.int x3, .ref 0] ((wRow cy 0 rK rf q3 rpd rpn) ++ (wReader cy 5 eo et ed em ef ez ek es en)) (by decide +kernel) rfl rfl ?_
    obtain ⟨q4, hq4, h⟩ := obd h
    refine G_cV C lk_3_59 ⟨Nat.le_of_ble_eq_true rfl, Nat.le_of_ble_eq_true rfl⟩ (by decide +kernel) [0, 1, 2, 3, 4] [.int q4.1] ((wRow cy 0 q4.2.1 q4.2.2 q3 rpd rpn) ++ (wReader cy 5 eo et ed em ef ez ek es en)) (c_X3_takeNext cy rK rf q3 rpd rpn x3 q4 hq4) rfl rfl (Nat.le_of_ble_eq_true rfl) rfl rfl ⟨rfl, rfl⟩ rfl rfl rfl ?_
    have h := Option.some.inj h
    subst h
    exact G_iret C hR (by decide +kernel)
  · rw [if_neg c] at h
    refine G_ldc C co_3_53 (by decide +kernel) ?_
    have h := Option.some.inj h
    subst h
    exact G_iret C hR (by decide +kernel)
def f_X2_performOne (x2 : Int32) (et : Int32) (ek : Nat → Int32) (es : Nat → Int32) (en : Nat → Int32) (rK : Int32) (rf : Nat → Int32) (rg : Nat → Int64) (rpd : Int32) (rpn : Nat → Int64) : Option (Int32 × Int32 × (Nat → Int32) × (Nat → Int64) × Int32 × (Nat → Int64)) := (f_X6_isOutside x2 (0 : Int32) (49 : Int32)).bind fun q1 => if (bI q1) = 0 then (if x2 < 0 ∨ 51 ≤ x2.toNatClampNeg then none else if x2 < 0 ∨ 50 ≤ x2.toNatClampNeg then none else if (ek x2.toNatClampNeg) = (107 : Int32) then ((f_X2_number (es x2.toNatClampNeg) et en).bind fun q2 => (f_X3_append q2 rK rf).bind fun q3 => some (q3.1, q3.2.1, q3.2.2, rg, rpd, rpn)) else if (ek x2.toNatClampNeg) = (109 : Int32) then (if (x2 + (1 : Int32)) < 0 ∨ 51 ≤ (x2 + (1 : Int32)).toNatClampNeg then none else (f_X3_replace (es x2.toNatClampNeg) ((es (x2 + (1 : Int32)).toNatClampNeg) - (es x2.toNatClampNeg)) rK rf rg et en).bind fun q4 => some (q4.1, q4.2.1, q4.2.2.1, q4.2.2.2, rpd, rpn)) else if (ek x2.toNatClampNeg) = (112 : Int32) then ((f_X2_number (es x2.toNatClampNeg) et en).bind fun q5 => (f_X2_number ((es x2.toNatClampNeg) + (1 : Int32)) et en).bind fun q6 => (f_X3_addPlace q5 q6 rK rf rg).bind fun q7 => some (q7.1, q7.2.1, q7.2.2.1, q7.2.2.2, rpd, rpn)) else if (ek x2.toNatClampNeg) = (115 : Int32) then ((f_X2_number (es x2.toNatClampNeg) et en).bind fun q8 => (f_X3_scale q8 rK rf rg).bind fun q9 => some (q9.1, q9.2.1, q9.2.2.1, q9.2.2.2, rpd, rpn)) else if (ek x2.toNatClampNeg) = (118 : Int32) then ((f_X2_number (es x2.toNatClampNeg) et en).bind fun q10 => (f_X3_shift q10 rK rf rg rpd rpn).bind fun q11 => some (q11.1, q11.2.1, q11.2.2.1, q11.2.2.2.1, q11.2.2.2.2.1, q11.2.2.2.2.2)) else if (ek x2.toNatClampNeg) = (119 : Int32) then ((f_X2_number (es x2.toNatClampNeg) et en).bind fun q12 => (f_X3_reweigh q12 rK rf rg).bind fun q13 => some (q13.1, q13.2.1, q13.2.2.1, q13.2.2.2, rpd, rpn)) else ((f_X3_drop rK).bind fun q14 => some (q14.1, q14.2, rf, rg, rpd, rpn))) else (some ((-1000001 : Int32), rK, rf, rg, rpd, rpn))
theorem sw_X2_performOne_26 (z : Int) (h107 : ¬ z = 107) (h109 : ¬ z = 109) (h112 : ¬ z = 112) (h115 : ¬ z = 115) (h118 : ¬ z = 118) (h119 : ¬ z = 119) : ((26 : Nat) : Int) + tabOff 140 107 119 #[130, 140, 66, 140, 140, 83, 140, 140, 110, 140, 140, 100, 120] z = ((166 : Nat) : Int) := by
  unfold tabOff
  by_cases c : z < 107 ∨ 119 < z
  · rw [if_pos c]; rfl
  · rcases (by omega : z = 108 ∨ z = 110 ∨ z = 111 ∨ z = 113 ∨ z = 114 ∨ z = 116 ∨ z = 117) with rfl | rfl | rfl | rfl | rfl | rfl | rfl
    · rfl
    · rfl
    · rfl
    · rfl
    · rfl
    · rfl
    · rfl
set_option maxHeartbeats 4000000 in
set_option maxRecDepth 100000 in
theorem c_X2_performOne (cy : Nat → ClassId) (eo : Int32) (et : Int32) (ed : Int32) (em : Bool) (ef : Int32) (ez : Int32) (ek : Nat → Int32) (es : Nat → Int32) (en : Nat → Int32) (rK : Int32) (rf : Nat → Int32) (rg : Nat → Int64) (rpd : Int32) (rpn : Nat → Int64) (x2 : Int32) (res : (Int32 × Int32 × (Nat → Int32) × (Nat → Int64) × Int32 × (Nat → Int64))) (h : f_X2_performOne x2 et ek es en rK rf rg rpd rpn = some res) : MG cy yX2_performOne cX2_performOne 4 (some .int) 3 69 [.ref 0, .ref 4, .int x2] ((wReader cy 0 eo et ed em ef ez ek es en) ++ (wRow cy 4 rK rf rg rpd rpn)) (some (.int res.1)) ((wReader cy 0 eo et ed em ef ez ek es en) ++ (wRow cy 4 res.2.1 res.2.2.1 res.2.2.2.1 res.2.2.2.2.1 res.2.2.2.2.2)) := by
  refine MG_of (o := 2) (lv := [(0, .ref 0), (1, .ref 4), (2, .int x2)]) ⟨by decide +kernel, rfl⟩ (Nat.le_of_ble_eq_true rfl) rfl (fun k C hR => ?_)
  rw [f_X2_performOne] at h
  refine G_r C [(.iload_n 2, 1, 0, 0, .null), (.iconst 0, 1, 0, 0, .int (0 : Int32)), (.bipush 49, 2, 0, 0, .int (49 : Int32))] 4 [(0, .ref 0), (1, .ref 4), (2, .int x2)] [.int (49 : Int32), .int (0 : Int32), .int x2] ((wReader cy 0 eo et ed em ef ez ek es en) ++ (wRow cy 4 rK rf rg rpd rpn)) (by decide +kernel) rfl rfl ?_
  obtain ⟨q1, hq1, h⟩ := obd h
  refine G_cN C lk_2_84 ⟨Nat.le_of_ble_eq_true rfl, Nat.le_of_ble_eq_true rfl⟩ (by decide +kernel) [.int (bI q1)] (c_X6_isOutside cy x2 (0 : Int32) (49 : Int32) q1 hq1) rfl rfl (Nat.le_of_ble_eq_true rfl) rfl ?_
  refine G_if_eq C (off := 6) (tgt := 13) (by decide +kernel) rfl (fun c => ?_) (fun c => ?_)
  · rw [if_pos c] at h
    refine G_r C [(.aload_n 0, 1, 0, 0, .null), (.getfield 15, 3, 2, 1, .null), (.iload_n 2, 1, 0, 0, .null)] 18 [(0, .ref 0), (1, .ref 4), (2, .int x2)] [.int x2, .ref 2] ((wReader cy 0 eo et ed em ef ez ek es en) ++ (wRow cy 4 rK rf rg rpd rpn)) (by decide +kernel) rfl rfl ?_
    obtain ⟨cg, h⟩ := oob h
    refine G_iald C (a := 2) rfl cg (by decide +kernel) ?_
    refine G_r C [(.istore_n 3, 1, 0, 0, .null), (.aload_n 0, 1, 0, 0, .null), (.getfield 9, 3, 2, 0, .null), (.iload_n 2, 1, 0, 0, .null)] 25 [(3, .int (es x2.toNatClampNeg)), (0, .ref 0), (1, .ref 4), (2, .int x2)] [.int x2, .ref 1] ((wReader cy 0 eo et ed em ef ez ek es en) ++ (wRow cy 4 rK rf rg rpd rpn)) (by decide +kernel) rfl rfl ?_
    obtain ⟨cg, h⟩ := oob h
    refine G_iald C (a := 1) rfl cg (by decide +kernel) ?_
    by_cases c107 : (ek x2.toNatClampNeg) = (107 : Int32)
    · rw [if_pos c107] at h
      refine G_tab C (dflt := 140) (lo1 := 107) (hi := 119) (offs := #[130, 140, 66, 140, 140, 83, 140, 140, 110, 140, 140, 100, 120]) (len := 66) (tgt := 156) (by decide +kernel) rfl (by rw [c107]; rfl) ?_
      refine G_r C [(.aload_n 1, 1, 0, 0, .null), (.aload_n 0, 1, 0, 0, .null), (.iload_n 3, 1, 0, 0, .null)] 159 [(3, .int (es x2.toNatClampNeg)), (0, .ref 0), (1, .ref 4), (2, .int x2)] [.int (es x2.toNatClampNeg), .ref 0, .ref 4] ((wReader cy 0 eo et ed em ef ez ek es en) ++ (wRow cy 4 rK rf rg rpd rpn)) (by decide +kernel) rfl rfl ?_
      obtain ⟨q2, hq2, h⟩ := obd h
      refine G_cV C lk_2_95 ⟨Nat.le_of_ble_eq_true rfl, Nat.le_of_ble_eq_true rfl⟩ (by decide +kernel) [0, 1, 2, 3] [.int q2, .ref 4] ((wReader cy 0 eo et ed em ef ez ek es en) ++ (wRow cy 4 rK rf rg rpd rpn)) (c_X2_number cy eo et ed em ef ez ek es en (es x2.toNatClampNeg) q2 hq2) rfl rfl (Nat.le_of_ble_eq_true rfl) rfl rfl ⟨rfl, rfl⟩ rfl rfl rfl ?_
      obtain ⟨q3, hq3, h⟩ := obd h
      refine G_cV C lk_2_111 ⟨Nat.le_of_ble_eq_true rfl, Nat.le_of_ble_eq_true rfl⟩ (by decide +kernel) [4, 5, 6, 7, 8] [.int q3.1] ((wReader cy 0 eo et ed em ef ez ek es en) ++ (wRow cy 4 q3.2.1 q3.2.2 rg rpd rpn)) (c_X3_append cy rK rf rg rpd rpn q2 q3 hq3) rfl rfl (Nat.le_of_ble_eq_true rfl) rfl rfl ⟨rfl, rfl⟩ rfl rfl rfl ?_
      have h := Option.some.inj h
      subst h
      exact G_iret C hR (by decide +kernel)
    · rw [if_neg c107] at h
      by_cases c109 : (ek x2.toNatClampNeg) = (109 : Int32)
      · rw [if_pos c109] at h
        refine G_tab C (dflt := 140) (lo1 := 107) (hi := 119) (offs := #[130, 140, 66, 140, 140, 83, 140, 140, 110, 140, 140, 100, 120]) (len := 66) (tgt := 92) (by decide +kernel) rfl (by rw [c109]; rfl) ?_
        refine G_r C [(.aload_n 1, 1, 0, 0, .null), (.aload_n 0, 1, 0, 0, .null), (.iload_n 3, 1, 0, 0, .null), (.aload_n 0, 1, 0, 0, .null), (.getfield 15, 3, 2, 1, .null), (.iload_n 2, 1, 0, 0, .null), (.iconst 1, 1, 0, 0, .int (1 : Int32)), (.iadd, 1, 0, 0, .null)] 102 [(3, .int (es x2.toNatClampNeg)), (0, .ref 0), (1, .ref 4), (2, .int x2)] [.int (x2 + (1 : Int32)), .ref 2, .int (es x2.toNatClampNeg), .ref 0, .ref 4] ((wReader cy 0 eo et ed em ef ez ek es en) ++ (wRow cy 4 rK rf rg rpd rpn)) (by decide +kernel) rfl rfl ?_
        obtain ⟨cg, h⟩ := oob h
        refine G_iald C (a := 2) rfl cg (by decide +kernel) ?_
        refine G_r C [(.iload_n 3, 1, 0, 0, .null), (.isub, 1, 0, 0, .null)] 105 [(3, .int (es x2.toNatClampNeg)), (0, .ref 0), (1, .ref 4), (2, .int x2)] [.int ((es (x2 + (1 : Int32)).toNatClampNeg) - (es x2.toNatClampNeg)), .int (es x2.toNatClampNeg), .ref 0, .ref 4] ((wReader cy 0 eo et ed em ef ez ek es en) ++ (wRow cy 4 rK rf rg rpd rpn)) (by decide +kernel) rfl rfl ?_
        obtain ⟨q4, hq4, h⟩ := obd h
        refine G_cV C lk_2_89 ⟨Nat.le_of_ble_eq_true rfl, Nat.le_of_ble_eq_true rfl⟩ (by decide +kernel) [4, 5, 6, 7, 8, 0, 1, 2, 3] [.int q4.1] ((wReader cy 0 eo et ed em ef ez ek es en) ++ (wRow cy 4 q4.2.1 q4.2.2.1 q4.2.2.2 rpd rpn)) (c_X3_replace cy rK rf rg rpd rpn eo et ed em ef ez ek es en (es x2.toNatClampNeg) ((es (x2 + (1 : Int32)).toNatClampNeg) - (es x2.toNatClampNeg)) q4 hq4) rfl rfl (Nat.le_of_ble_eq_true rfl) rfl rfl ⟨rfl, rfl⟩ rfl rfl rfl ?_
        have h := Option.some.inj h
        subst h
        exact G_iret C hR (by decide +kernel)
      · rw [if_neg c109] at h
        by_cases c112 : (ek x2.toNatClampNeg) = (112 : Int32)
        · rw [if_pos c112] at h
          refine G_tab C (dflt := 140) (lo1 := 107) (hi := 119) (offs := #[130, 140, 66, 140, 140, 83, 140, 140, 110, 140, 140, 100, 120]) (len := 66) (tgt := 109) (by decide +kernel) rfl (by rw [c112]; rfl) ?_
          refine G_r C [(.aload_n 1, 1, 0, 0, .null), (.aload_n 0, 1, 0, 0, .null), (.iload_n 3, 1, 0, 0, .null)] 112 [(3, .int (es x2.toNatClampNeg)), (0, .ref 0), (1, .ref 4), (2, .int x2)] [.int (es x2.toNatClampNeg), .ref 0, .ref 4] ((wReader cy 0 eo et ed em ef ez ek es en) ++ (wRow cy 4 rK rf rg rpd rpn)) (by decide +kernel) rfl rfl ?_
          obtain ⟨q5, hq5, h⟩ := obd h
          refine G_cV C lk_2_95 ⟨Nat.le_of_ble_eq_true rfl, Nat.le_of_ble_eq_true rfl⟩ (by decide +kernel) [0, 1, 2, 3] [.int q5, .ref 4] ((wReader cy 0 eo et ed em ef ez ek es en) ++ (wRow cy 4 rK rf rg rpd rpn)) (c_X2_number cy eo et ed em ef ez ek es en (es x2.toNatClampNeg) q5 hq5) rfl rfl (Nat.le_of_ble_eq_true rfl) rfl rfl ⟨rfl, rfl⟩ rfl rfl rfl ?_
          refine G_r C [(.aload_n 0, 1, 0, 0, .null), (.iload_n 3, 1, 0, 0, .null), (.iconst 1, 1, 0, 0, .int (1 : Int32)), (.iadd, 1, 0, 0, .null)] 119 [(3, .int (es x2.toNatClampNeg)), (0, .ref 0), (1, .ref 4), (2, .int x2)] [.int ((es x2.toNatClampNeg) + (1 : Int32)), .ref 0, .int q5, .ref 4] ((wReader cy 0 eo et ed em ef ez ek es en) ++ (wRow cy 4 rK rf rg rpd rpn)) (by decide +kernel) rfl rfl ?_
          obtain ⟨q6, hq6, h⟩ := obd h
          refine G_cV C lk_2_95 ⟨Nat.le_of_ble_eq_true rfl, Nat.le_of_ble_eq_true rfl⟩ (by decide +kernel) [0, 1, 2, 3] [.int q6, .int q5, .ref 4] ((wReader cy 0 eo et ed em ef ez ek es en) ++ (wRow cy 4 rK rf rg rpd rpn)) (c_X2_number cy eo et ed em ef ez ek es en ((es x2.toNatClampNeg) + (1 : Int32)) q6 hq6) rfl rfl (Nat.le_of_ble_eq_true rfl) rfl rfl ⟨rfl, rfl⟩ rfl rfl rfl ?_
          obtain ⟨q7, hq7, h⟩ := obd h
          refine G_cV C lk_2_98 ⟨Nat.le_of_ble_eq_true rfl, Nat.le_of_ble_eq_true rfl⟩ (by decide +kernel) [4, 5, 6, 7, 8] [.int q7.1] ((wReader cy 0 eo et ed em ef ez ek es en) ++ (wRow cy 4 q7.2.1 q7.2.2.1 q7.2.2.2 rpd rpn)) (c_X3_addPlace cy rK rf rg rpd rpn q5 q6 q7 hq7) rfl rfl (Nat.le_of_ble_eq_true rfl) rfl rfl ⟨rfl, rfl⟩ rfl rfl rfl ?_
          have h := Option.some.inj h
          subst h
          exact G_iret C hR (by decide +kernel)
        · rw [if_neg c112] at h
          by_cases c115 : (ek x2.toNatClampNeg) = (115 : Int32)
          · rw [if_pos c115] at h
            refine G_tab C (dflt := 140) (lo1 := 107) (hi := 119) (offs := #[130, 140, 66, 140, 140, 83, 140, 140, 110, 140, 140, 100, 120]) (len := 66) (tgt := 136) (by decide +kernel) rfl (by rw [c115]; rfl) ?_
            refine G_r C [(.aload_n 1, 1, 0, 0, .null), (.aload_n 0, 1, 0, 0, .null), (.iload_n 3, 1, 0, 0, .null)] 139 [(3, .int (es x2.toNatClampNeg)), (0, .ref 0), (1, .ref 4), (2, .int x2)] [.int (es x2.toNatClampNeg), .ref 0, .ref 4] ((wReader cy 0 eo et ed em ef ez ek es en) ++ (wRow cy 4 rK rf rg rpd rpn)) (by decide +kernel) rfl rfl ?_
            obtain ⟨q8, hq8, h⟩ := obd h
            refine G_cV C lk_2_95 ⟨Nat.le_of_ble_eq_true rfl, Nat.le_of_ble_eq_true rfl⟩ (by decide +kernel) [0, 1, 2, 3] [.int q8, .ref 4] ((wReader cy 0 eo et ed em ef ez ek es en) ++ (wRow cy 4 rK rf rg rpd rpn)) (c_X2_number cy eo et ed em ef ez ek es en (es x2.toNatClampNeg) q8 hq8) rfl rfl (Nat.le_of_ble_eq_true rfl) rfl rfl ⟨rfl, rfl⟩ rfl rfl rfl ?_
            obtain ⟨q9, hq9, h⟩ := obd h
            refine G_cV C lk_2_105 ⟨Nat.le_of_ble_eq_true rfl, Nat.le_of_ble_eq_true rfl⟩ (by decide +kernel) [4, 5, 6, 7, 8] [.int q9.1] ((wReader cy 0 eo et ed em ef ez ek es en) ++ (wRow cy 4 q9.2.1 q9.2.2.1 q9.2.2.2 rpd rpn)) (c_X3_scale cy rK rf rg rpd rpn q8 q9 hq9) rfl rfl (Nat.le_of_ble_eq_true rfl) rfl rfl ⟨rfl, rfl⟩ rfl rfl rfl ?_
            have h := Option.some.inj h
            subst h
            exact G_iret C hR (by decide +kernel)
          · rw [if_neg c115] at h
            by_cases c118 : (ek x2.toNatClampNeg) = (118 : Int32)
            · rw [if_pos c118] at h
              refine G_tab C (dflt := 140) (lo1 := 107) (hi := 119) (offs := #[130, 140, 66, 140, 140, 83, 140, 140, 110, 140, 140, 100, 120]) (len := 66) (tgt := 126) (by decide +kernel) rfl (by rw [c118]; rfl) ?_
              refine G_r C [(.aload_n 1, 1, 0, 0, .null), (.aload_n 0, 1, 0, 0, .null), (.iload_n 3, 1, 0, 0, .null)] 129 [(3, .int (es x2.toNatClampNeg)), (0, .ref 0), (1, .ref 4), (2, .int x2)] [.int (es x2.toNatClampNeg), .ref 0, .ref 4] ((wReader cy 0 eo et ed em ef ez ek es en) ++ (wRow cy 4 rK rf rg rpd rpn)) (by decide +kernel) rfl rfl ?_
              obtain ⟨q10, hq10, h⟩ := obd h
              refine G_cV C lk_2_95 ⟨Nat.le_of_ble_eq_true rfl, Nat.le_of_ble_eq_true rfl⟩ (by decide +kernel) [0, 1, 2, 3] [.int q10, .ref 4] ((wReader cy 0 eo et ed em ef ez ek es en) ++ (wRow cy 4 rK rf rg rpd rpn)) (c_X2_number cy eo et ed em ef ez ek es en (es x2.toNatClampNeg) q10 hq10) rfl rfl (Nat.le_of_ble_eq_true rfl) rfl rfl ⟨rfl, rfl⟩ rfl rfl rfl ?_
              obtain ⟨q11, hq11, h⟩ := obd h
              refine G_cV C lk_2_102 ⟨Nat.le_of_ble_eq_true rfl, Nat.le_of_ble_eq_true rfl⟩ (by decide +kernel) [4, 5, 6, 7, 8] [.int q11.1] ((wReader cy 0 eo et ed em ef ez ek es en) ++ (wRow cy 4 q11.2.1 q11.2.2.1 q11.2.2.2.1 q11.2.2.2.2.1 q11.2.2.2.2.2)) (c_X3_shift cy rK rf rg rpd rpn q10 q11 hq11) rfl rfl (Nat.le_of_ble_eq_true rfl) rfl rfl ⟨rfl, rfl⟩ rfl rfl rfl ?_
              have h := Option.some.inj h
              subst h
              exact G_iret C hR (by decide +kernel)
            · rw [if_neg c118] at h
              by_cases c119 : (ek x2.toNatClampNeg) = (119 : Int32)
              · rw [if_pos c119] at h
                refine G_tab C (dflt := 140) (lo1 := 107) (hi := 119) (offs := #[130, 140, 66, 140, 140, 83, 140, 140, 110, 140, 140, 100, 120]) (len := 66) (tgt := 146) (by decide +kernel) rfl (by rw [c119]; rfl) ?_
                refine G_r C [(.aload_n 1, 1, 0, 0, .null), (.aload_n 0, 1, 0, 0, .null), (.iload_n 3, 1, 0, 0, .null)] 149 [(3, .int (es x2.toNatClampNeg)), (0, .ref 0), (1, .ref 4), (2, .int x2)] [.int (es x2.toNatClampNeg), .ref 0, .ref 4] ((wReader cy 0 eo et ed em ef ez ek es en) ++ (wRow cy 4 rK rf rg rpd rpn)) (by decide +kernel) rfl rfl ?_
                obtain ⟨q12, hq12, h⟩ := obd h
                refine G_cV C lk_2_95 ⟨Nat.le_of_ble_eq_true rfl, Nat.le_of_ble_eq_true rfl⟩ (by decide +kernel) [0, 1, 2, 3] [.int q12, .ref 4] ((wReader cy 0 eo et ed em ef ez ek es en) ++ (wRow cy 4 rK rf rg rpd rpn)) (c_X2_number cy eo et ed em ef ez ek es en (es x2.toNatClampNeg) q12 hq12) rfl rfl (Nat.le_of_ble_eq_true rfl) rfl rfl ⟨rfl, rfl⟩ rfl rfl rfl ?_
                obtain ⟨q13, hq13, h⟩ := obd h
                refine G_cV C lk_2_108 ⟨Nat.le_of_ble_eq_true rfl, Nat.le_of_ble_eq_true rfl⟩ (by decide +kernel) [4, 5, 6, 7, 8] [.int q13.1] ((wReader cy 0 eo et ed em ef ez ek es en) ++ (wRow cy 4 q13.2.1 q13.2.2.1 q13.2.2.2 rpd rpn)) (c_X3_reweigh cy rK rf rg rpd rpn q12 q13 hq13) rfl rfl (Nat.le_of_ble_eq_true rfl) rfl rfl ⟨rfl, rfl⟩ rfl rfl rfl ?_
                have h := Option.some.inj h
                subst h
                exact G_iret C hR (by decide +kernel)
              · rw [if_neg c119] at h
                refine G_tab C (dflt := 140) (lo1 := 107) (hi := 119) (offs := #[130, 140, 66, 140, 140, 83, 140, 140, 110, 140, 140, 100, 120]) (len := 66) (tgt := 166) (by decide +kernel) rfl (sw_X2_performOne_26 _ (neT c107) (neT c109) (neT c112) (neT c115) (neT c118) (neT c119)) ?_
                refine G_r C [(.aload_n 1, 1, 0, 0, .null)] 167 [(3, .int (es x2.toNatClampNeg)), (0, .ref 0), (1, .ref 4), (2, .int x2)] [.ref 4] ((wReader cy 0 eo et ed em ef ez ek es en) ++ (wRow cy 4 rK rf rg rpd rpn)) (by decide +kernel) rfl rfl ?_
                obtain ⟨q14, hq14, h⟩ := obd h
                refine G_cV C lk_2_114 ⟨Nat.le_of_ble_eq_true rfl, Nat.le_of_ble_eq_true rfl⟩ (by decide +kernel) [4, 5, 6, 7, 8] [.int q14.1] ((wReader cy 0 eo et ed em ef ez ek es en) ++ (wRow cy 4 q14.2 rf rg rpd rpn)) (c_X3_drop cy rK rf rg rpd rpn q14 hq14) rfl rfl (Nat.le_of_ble_eq_true rfl) rfl rfl ⟨rfl, rfl⟩ rfl rfl rfl ?_
                have h := Option.some.inj h
                subst h
                exact G_iret C hR (by decide +kernel)
  · rw [if_neg c] at h
    refine G_ldc C co_2_88 (by decide +kernel) ?_
    have h := Option.some.inj h
    subst h
    exact G_iret C hR (by decide +kernel)
def f_X2_perform_L2 : Nat → Int32 → Int32 → Int32 → (Nat → Int32) → (Nat → Int32) → (Nat → Int32) → Int32 → (Nat → Int32) → (Nat → Int64) → Int32 → (Nat → Int64) → Option (Int32 × Int32 × (Nat → Int32) × (Nat → Int64) × Int32 × (Nat → Int64))
  | 0, _, _, _, _, _, _, _, _, _, _, _ => none
  | fu + 1, x2, eo, et, ek, es, en, rK, rf, rg, rpd, rpn => if eo ≤ x2 then (some ((-1 : Int32), rK, rf, rg, rpd, rpn)) else ((f_X2_performOne x2 et ek es en rK rf rg rpd rpn).bind fun q1 => if q1.1 = 0 then (f_X2_perform_L2 fu (x2 + (1 : Int32)) eo et ek es en q1.2.1 q1.2.2.1 q1.2.2.2.1 q1.2.2.2.2.1 q1.2.2.2.2.2) else (some (x2, q1.2.1, q1.2.2.1, q1.2.2.2.1, q1.2.2.2.2.1, q1.2.2.2.2.2)))
def f_X2_perform (eo : Int32) (et : Int32) (ek : Nat → Int32) (es : Nat → Int32) (en : Nat → Int32) (rK : Int32) (rf : Nat → Int32) (rg : Nat → Int64) (rpd : Int32) (rpn : Nat → Int64) : Option (Int32 × Int32 × (Nat → Int32) × (Nat → Int64) × Int32 × (Nat → Int64)) := f_X2_perform_L2 200 (0 : Int32) eo et ek es en rK rf rg rpd rpn
set_option maxHeartbeats 4000000 in
set_option maxRecDepth 100000 in
theorem g_X2_perform_L2 {k : KX} {cy : Nat → ClassId} (C : OK k cX2_perform 2 3 cy 4 92) : ∀ (fu : Nat) (x2 : Int32) (eo : Int32) (et : Int32) (ed : Int32) (em : Bool) (ef : Int32) (ez : Int32) (ek : Nat → Int32) (es : Nat → Int32) (en : Nat → Int32) (rK : Int32) (rf : Nat → Int32) (rg : Nat → Int64) (rpd : Int32) (rpn : Nat → Int64) (res : (Int32 × Int32 × (Nat → Int32) × (Nat → Int64) × Int32 × (Nat → Int64))), RT k cy (some .int) (some (.int res.1)) ((wReader cy 0 eo et ed em ef ez ek es en) ++ (wRow cy 4 res.2.1 res.2.2.1 res.2.2.2.1 res.2.2.2.2.1 res.2.2.2.2.2)) → (f_X2_perform_L2 fu x2 eo et ek es en rK rf rg rpd rpn = some res) → G k 3 2 [(0, .ref 0), (1, .ref 4), (2, .int x2)] [] ((wReader cy 0 eo et ed em ef ez ek es en) ++ (wRow cy 4 rK rf rg rpd rpn)) := by
  intro fu
  induction fu with
  | zero =>
    intro x2 eo et ed em ef ez ek es en rK rf rg rpd rpn res hR h
    rw [f_X2_perform_L2] at h
    cases h
  | succ fu ih =>
    intro x2 eo et ed em ef ez ek es en rK rf rg rpd rpn res hR h
    rw [f_X2_perform_L2] at h
    refine G_r C [(.iload_n 2, 1, 0, 0, .null), (.aload_n 0, 1, 0, 0, .null), (.getfield 21, 3, 2, 3, .null)] 7 [(0, .ref 0), (1, .ref 4), (2, .int x2)] [.int eo, .int x2] ((wReader cy 0 eo et ed em ef ez ek es en) ++ (wRow cy 4 rK rf rg rpd rpn)) (by decide +kernel) rfl rfl ?_
    refine G_icmp_ge C (off := 20) (tgt := 27) (by decide +kernel) rfl (fun c => ?_) (fun c => ?_)
    · rw [if_pos c] at h
      refine G_r C [(.iconst (-1), 1, 0, 0, .int (-1 : Int32))] 28 [(0, .ref 0), (1, .ref 4), (2, .int x2)] [.int (-1 : Int32)] ((wReader cy 0 eo et ed em ef ez ek es en) ++ (wRow cy 4 rK rf rg rpd rpn)) (by decide +kernel) rfl rfl ?_
      have h := Option.some.inj h
      subst h
      exact G_iret C hR (by decide +kernel)
    · rw [if_neg c] at h
      refine G_r C [(.aload_n 0, 1, 0, 0, .null), (.aload_n 1, 1, 0, 0, .null), (.iload_n 2, 1, 0, 0, .null)] 13 [(0, .ref 0), (1, .ref 4), (2, .int x2)] [.int x2, .ref 4, .ref 0] ((wReader cy 0 eo et ed em ef ez ek es en) ++ (wRow cy 4 rK rf rg rpd rpn)) (by decide +kernel) rfl rfl ?_
      obtain ⟨q1, hq1, h⟩ := obd h
      refine G_c0 C lk_2_80 ⟨Nat.le_of_ble_eq_true rfl, Nat.le_of_ble_eq_true rfl⟩ (by decide +kernel) [.int q1.1] (c_X2_performOne cy eo et ed em ef ez ek es en rK rf rg rpd rpn x2 q1 hq1) rfl rfl (Nat.le_of_ble_eq_true rfl) ⟨rfl, rfl⟩ rfl ?_
      refine G_if_eq C (off := 5) (tgt := 21) (by decide +kernel) rfl (fun c => ?_) (fun c => ?_)
      · rw [if_pos c] at h
        refine G_r C [(.iinc 2 1, 3, 0, 0, .int (1 : Int32))] 24 [(2, .int (x2 + (1 : Int32))), (0, .ref 0), (1, .ref 4)] [] ((wReader cy 0 eo et ed em ef ez ek es en) ++ (wRow cy 4 q1.2.1 q1.2.2.1 q1.2.2.2.1 q1.2.2.2.2.1 q1.2.2.2.2.2)) (by decide +kernel) rfl rfl ?_
        refine G_goto C (off := -22) (tgt := 2) (by decide +kernel) rfl ?_
        refine G_lv [1, 2, 0] (lv' := [(0, .ref 0), (1, .ref 4), (2, .int (x2 + (1 : Int32)))]) rfl ?_
        exact ih (x2 + (1 : Int32)) eo et ed em ef ez ek es en q1.2.1 q1.2.2.1 q1.2.2.2.1 q1.2.2.2.2.1 q1.2.2.2.2.2 res hR h
      · rw [if_neg c] at h
        refine G_r C [(.iload_n 2, 1, 0, 0, .null)] 20 [(0, .ref 0), (1, .ref 4), (2, .int x2)] [.int x2] ((wReader cy 0 eo et ed em ef ez ek es en) ++ (wRow cy 4 q1.2.1 q1.2.2.1 q1.2.2.2.1 q1.2.2.2.2.1 q1.2.2.2.2.2)) (by decide +kernel) rfl rfl ?_
        have h := Option.some.inj h
        subst h
        exact G_iret C hR (by decide +kernel)
set_option maxHeartbeats 4000000 in
set_option maxRecDepth 100000 in
theorem c_X2_perform (cy : Nat → ClassId) (eo : Int32) (et : Int32) (ed : Int32) (em : Bool) (ef : Int32) (ez : Int32) (ek : Nat → Int32) (es : Nat → Int32) (en : Nat → Int32) (rK : Int32) (rf : Nat → Int32) (rg : Nat → Int64) (rpd : Int32) (rpn : Nat → Int64)  (res : (Int32 × Int32 × (Nat → Int32) × (Nat → Int64) × Int32 × (Nat → Int64))) (h : f_X2_perform eo et ek es en rK rf rg rpd rpn = some res) : MG cy yX2_perform cX2_perform 3 (some .int) 4 92 [.ref 0, .ref 4] ((wReader cy 0 eo et ed em ef ez ek es en) ++ (wRow cy 4 rK rf rg rpd rpn)) (some (.int res.1)) ((wReader cy 0 eo et ed em ef ez ek es en) ++ (wRow cy 4 res.2.1 res.2.2.1 res.2.2.2.1 res.2.2.2.2.1 res.2.2.2.2.2)) := by
  refine MG_of (o := 2) (lv := [(0, .ref 0), (1, .ref 4)]) ⟨by decide +kernel, rfl⟩ (Nat.le_of_ble_eq_true rfl) rfl (fun k C hR => ?_)
  rw [f_X2_perform] at h
  refine G_r C [(.iconst 0, 1, 0, 0, .int (0 : Int32)), (.istore_n 2, 1, 0, 0, .null)] 2 [(2, .int (0 : Int32)), (0, .ref 0), (1, .ref 4)] [] ((wReader cy 0 eo et ed em ef ez ek es en) ++ (wRow cy 4 rK rf rg rpd rpn)) (by decide +kernel) rfl rfl ?_
  refine G_lv [1, 2, 0] (lv' := [(0, .ref 0), (1, .ref 4), (2, .int (0 : Int32))]) rfl ?_
  exact g_X2_perform_L2 C 200 (0 : Int32) eo et ed em ef ez ek es en rK rf rg rpd rpn res hR h
def f_X2_orders (eo : Int32) : Option Int32 := some eo
set_option maxHeartbeats 4000000 in
set_option maxRecDepth 100000 in
theorem c_X2_orders (cy : Nat → ClassId) (eo : Int32) (et : Int32) (ed : Int32) (em : Bool) (ef : Int32) (ez : Int32) (ek : Nat → Int32) (es : Nat → Int32) (en : Nat → Int32)  (res : Int32) (h : f_X2_orders eo = some res) : MG cy yX2_orders cX2_orders 1 (some .int) 0 0 [.ref 0] (wReader cy 0 eo et ed em ef ez ek es en) (some (.int res)) (wReader cy 0 eo et ed em ef ez ek es en) := by
  refine MG_of (o := 2) (lv := [(0, .ref 0)]) ⟨by decide +kernel, rfl⟩ (Nat.le_of_ble_eq_true rfl) rfl (fun k C hR => ?_)
  rw [f_X2_orders] at h
  refine G_r C [(.aload_n 0, 1, 0, 0, .null), (.getfield 21, 3, 2, 3, .null)] 4 [(0, .ref 0)] [.int eo] (wReader cy 0 eo et ed em ef ez ek es en) (by decide +kernel) rfl rfl ?_
  have h := Option.some.inj h
  subst h
  exact G_iret C hR (by decide +kernel)
def f_X6_reads (rK : Int32) (rf : Nat → Int32) (sK : Int32) (sf : Nat → Int32) (sg : Nat → Int64) (spd : Int32) (spn : Nat → Int64) (vo : Int32) (vd : Int32) (vs : Nat → Int32) (tl : Int32) (tb : Nat → Int32) (ek : Nat → Int32) (es : Nat → Int32) (en : Nat → Int32) : Option (Int32 × Int32 × (Nat → Int32) × Int32 × (Nat → Int32) × (Nat → Int64) × Int32 × (Nat → Int64) × Int32 × Int32 × (Nat → Int32) × Int32 × Int32 × Int32 × Bool × Int32 × Int32 × (Nat → Int32) × (Nat → Int32) × (Nat → Int32)) := (f_X2_scan ek es en tl tb).bind fun q1 => if q1.1 = (-1 : Int32) then ((f_X3_copy sf rK rf).bind fun q2 => (f_X2_perform q1.2.1 q1.2.2.1 q1.2.2.2.2.2.2.2.1 q1.2.2.2.2.2.2.2.2.1 q1.2.2.2.2.2.2.2.2.2 q2.1 q2.2 sg spd spn).bind fun q3 => if q3.1 = (-1 : Int32) then ((f_X6_keepTrial rK rf q3.2.1 q3.2.2.1 vo vd vs).bind fun q4 => (f_X2_orders q1.2.1).bind fun q5 => some (q5, q4.1, q4.2.1, q3.2.1, q3.2.2.1, q3.2.2.2.1, q3.2.2.2.2.1, q3.2.2.2.2.2, q4.2.2.1, q4.2.2.2.1, q4.2.2.2.2, q1.2.1, q1.2.2.1, q1.2.2.2.1, q1.2.2.2.2.1, q1.2.2.2.2.2.1, q1.2.2.2.2.2.2.1, q1.2.2.2.2.2.2.2.1, q1.2.2.2.2.2.2.2.2.1, q1.2.2.2.2.2.2.2.2.2)) else (some (((-1000 : Int32) - q3.1), rK, rf, q3.2.1, q3.2.2.1, q3.2.2.2.1, q3.2.2.2.2.1, q3.2.2.2.2.2, vo, vd, vs, q1.2.1, q1.2.2.1, q1.2.2.2.1, q1.2.2.2.2.1, q1.2.2.2.2.2.1, q1.2.2.2.2.2.2.1, q1.2.2.2.2.2.2.2.1, q1.2.2.2.2.2.2.2.2.1, q1.2.2.2.2.2.2.2.2.2))) else (some (((-10 : Int32) - q1.1), rK, rf, sK, sf, sg, spd, spn, vo, vd, vs, q1.2.1, q1.2.2.1, q1.2.2.2.1, q1.2.2.2.2.1, q1.2.2.2.2.2.1, q1.2.2.2.2.2.2.1, q1.2.2.2.2.2.2.2.1, q1.2.2.2.2.2.2.2.2.1, q1.2.2.2.2.2.2.2.2.2))
set_option maxHeartbeats 4000000 in
set_option maxRecDepth 100000 in
theorem c_X6_reads (cy : Nat → ClassId) (kb : Int32) (kn : Int32) (kf : Int32) (rK : Int32) (rf : Nat → Int32) (rg : Nat → Int64) (rpd : Int32) (rpn : Nat → Int64) (sK : Int32) (sf : Nat → Int32) (sg : Nat → Int64) (spd : Int32) (spn : Nat → Int64) (mc : Int32) (mm : Nat → Int64) (nc : Int32) (nm : Nat → Int64) (pd : Int32) (pn : Nat → Int64) (vo : Int32) (vd : Int32) (vs : Nat → Int32) (tl : Int32) (tb : Nat → Int32) (eo : Int32) (et : Int32) (ed : Int32) (em : Bool) (ef : Int32) (ez : Int32) (ek : Nat → Int32) (es : Nat → Int32) (en : Nat → Int32) (fi : Nat → Int32)  (res : (Int32 × Int32 × (Nat → Int32) × Int32 × (Nat → Int32) × (Nat → Int64) × Int32 × (Nat → Int64) × Int32 × Int32 × (Nat → Int32) × Int32 × Int32 × Int32 × Bool × Int32 × Int32 × (Nat → Int32) × (Nat → Int32) × (Nat → Int32))) (h : f_X6_reads rK rf sK sf sg spd spn vo vd vs tl tb ek es en = some res) : MG cy yX6_reads cX6_reads 3 (some .int) 5 114 [.ref 0] (wSR cy kb kn kf rK rf rg rpd rpn sK sf sg spd spn mc mm nc nm pd pn vo vd vs tl tb eo et ed em ef ez ek es en fi) (some (.int res.1)) (wSR cy kb kn kf res.2.1 res.2.2.1 rg rpd rpn res.2.2.2.1 res.2.2.2.2.1 res.2.2.2.2.2.1 res.2.2.2.2.2.2.1 res.2.2.2.2.2.2.2.1 mc mm nc nm pd pn res.2.2.2.2.2.2.2.2.1 res.2.2.2.2.2.2.2.2.2.1 res.2.2.2.2.2.2.2.2.2.2.1 tl tb res.2.2.2.2.2.2.2.2.2.2.2.1 res.2.2.2.2.2.2.2.2.2.2.2.2.1 res.2.2.2.2.2.2.2.2.2.2.2.2.2.1 res.2.2.2.2.2.2.2.2.2.2.2.2.2.2.1 res.2.2.2.2.2.2.2.2.2.2.2.2.2.2.2.1 res.2.2.2.2.2.2.2.2.2.2.2.2.2.2.2.2.1 res.2.2.2.2.2.2.2.2.2.2.2.2.2.2.2.2.2.1 res.2.2.2.2.2.2.2.2.2.2.2.2.2.2.2.2.2.2.1 res.2.2.2.2.2.2.2.2.2.2.2.2.2.2.2.2.2.2.2 fi) := by
  refine MG_of (o := 6) (lv := [(0, .ref 0)]) ⟨by decide +kernel, rfl⟩ (Nat.le_of_ble_eq_true rfl) rfl (fun k C hR => ?_)
  rw [f_X6_reads] at h
  refine G_r C [(.aload_n 0, 1, 0, 0, .null), (.getfield 53, 3, 6, 7, .null), (.aload_n 0, 1, 0, 0, .null), (.getfield 46, 3, 6, 6, .null)] 8 [(0, .ref 0)] [.ref 19, .ref 21] (wSR cy kb kn kf rK rf rg rpd rpn sK sf sg spd spn mc mm nc nm pd pn vo vd vs tl tb eo et ed em ef ez ek es en fi) (by decide +kernel) rfl rfl ?_
  obtain ⟨q1, hq1, h⟩ := obd h
  refine G_cV C lk_6_192 ⟨Nat.le_of_ble_eq_true rfl, Nat.le_of_ble_eq_true rfl⟩ (by decide +kernel) [21, 22, 23, 24, 19, 20] [.int q1.1] (wSR cy kb kn kf rK rf rg rpd rpn sK sf sg spd spn mc mm nc nm pd pn vo vd vs tl tb q1.2.1 q1.2.2.1 q1.2.2.2.1 q1.2.2.2.2.1 q1.2.2.2.2.2.1 q1.2.2.2.2.2.2.1 q1.2.2.2.2.2.2.2.1 q1.2.2.2.2.2.2.2.2.1 q1.2.2.2.2.2.2.2.2.2 fi) (c_X2_scan cy eo et ed em ef ez ek es en tl tb q1 hq1) rfl rfl (Nat.le_of_ble_eq_true rfl) rfl rfl ⟨rfl, rfl⟩ rfl rfl rfl ?_
  refine G_r C [(.istore_n 1, 1, 0, 0, .null), (.iload_n 1, 1, 0, 0, .null), (.iconst (-1), 1, 0, 0, .int (-1 : Int32))] 14 [(1, .int q1.1), (0, .ref 0)] [.int (-1 : Int32), .int q1.1] (wSR cy kb kn kf rK rf rg rpd rpn sK sf sg spd spn mc mm nc nm pd pn vo vd vs tl tb q1.2.1 q1.2.2.1 q1.2.2.2.1 q1.2.2.2.2.1 q1.2.2.2.2.2.1 q1.2.2.2.2.2.2.1 q1.2.2.2.2.2.2.2.1 q1.2.2.2.2.2.2.2.2.1 q1.2.2.2.2.2.2.2.2.2 fi) (by decide +kernel) rfl rfl ?_
  refine G_icmp_eq C (off := 8) (tgt := 22) (by decide +kernel) rfl (fun c => ?_) (fun c => ?_)
  · rw [if_pos c] at h
    refine G_r C [(.aload_n 0, 1, 0, 0, .null), (.getfield 16, 3, 6, 1, .null), (.aload_n 0, 1, 0, 0, .null), (.getfield 12, 3, 6, 0, .null)] 30 [(1, .int q1.1), (0, .ref 0)] [.ref 1, .ref 6] (wSR cy kb kn kf rK rf rg rpd rpn sK sf sg spd spn mc mm nc nm pd pn vo vd vs tl tb q1.2.1 q1.2.2.1 q1.2.2.2.1 q1.2.2.2.2.1 q1.2.2.2.2.2.1 q1.2.2.2.2.2.2.1 q1.2.2.2.2.2.2.2.1 q1.2.2.2.2.2.2.2.2.1 q1.2.2.2.2.2.2.2.2.2 fi) (by decide +kernel) rfl rfl ?_
    obtain ⟨q2, hq2, h⟩ := obd h
    refine G_cV C lk_6_65 ⟨Nat.le_of_ble_eq_true rfl, Nat.le_of_ble_eq_true rfl⟩ (by decide +kernel) [6, 7, 8, 9, 10, 1, 2, 3, 4, 5] [] (wSR cy kb kn kf rK rf rg rpd rpn q2.1 q2.2 sg spd spn mc mm nc nm pd pn vo vd vs tl tb q1.2.1 q1.2.2.1 q1.2.2.2.1 q1.2.2.2.2.1 q1.2.2.2.2.2.1 q1.2.2.2.2.2.2.1 q1.2.2.2.2.2.2.2.1 q1.2.2.2.2.2.2.2.2.1 q1.2.2.2.2.2.2.2.2.2 fi) (c_X3_copy cy sK sf sg spd spn rK rf rg rpd rpn q2 hq2) rfl rfl (Nat.le_of_ble_eq_true rfl) rfl rfl ⟨rfl, rfl⟩ rfl rfl rfl ?_
    refine G_r C [(.aload_n 0, 1, 0, 0, .null), (.getfield 53, 3, 6, 7, .null), (.aload_n 0, 1, 0, 0, .null), (.getfield 16, 3, 6, 1, .null)] 41 [(1, .int q1.1), (0, .ref 0)] [.ref 6, .ref 21] (wSR cy kb kn kf rK rf rg rpd rpn q2.1 q2.2 sg spd spn mc mm nc nm pd pn vo vd vs tl tb q1.2.1 q1.2.2.1 q1.2.2.2.1 q1.2.2.2.2.1 q1.2.2.2.2.2.1 q1.2.2.2.2.2.2.1 q1.2.2.2.2.2.2.2.1 q1.2.2.2.2.2.2.2.2.1 q1.2.2.2.2.2.2.2.2.2 fi) (by decide +kernel) rfl rfl ?_
    obtain ⟨q3, hq3, h⟩ := obd h
    refine G_cV C lk_6_196 ⟨Nat.le_of_ble_eq_true rfl, Nat.le_of_ble_eq_true rfl⟩ (by decide +kernel) [21, 22, 23, 24, 6, 7, 8, 9, 10] [.int q3.1] (wSR cy kb kn kf rK rf rg rpd rpn q3.2.1 q3.2.2.1 q3.2.2.2.1 q3.2.2.2.2.1 q3.2.2.2.2.2 mc mm nc nm pd pn vo vd vs tl tb q1.2.1 q1.2.2.1 q1.2.2.2.1 q1.2.2.2.2.1 q1.2.2.2.2.2.1 q1.2.2.2.2.2.2.1 q1.2.2.2.2.2.2.2.1 q1.2.2.2.2.2.2.2.2.1 q1.2.2.2.2.2.2.2.2.2 fi) (c_X2_perform cy q1.2.1 q1.2.2.1 q1.2.2.2.1 q1.2.2.2.2.1 q1.2.2.2.2.2.1 q1.2.2.2.2.2.2.1 q1.2.2.2.2.2.2.2.1 q1.2.2.2.2.2.2.2.2.1 q1.2.2.2.2.2.2.2.2.2 q2.1 q2.2 sg spd spn q3 hq3) rfl rfl (Nat.le_of_ble_eq_true rfl) rfl rfl ⟨rfl, rfl⟩ rfl rfl rfl ?_
    refine G_r C [(.istore_n 2, 1, 0, 0, .null), (.iload_n 2, 1, 0, 0, .null), (.iconst (-1), 1, 0, 0, .int (-1 : Int32))] 47 [(2, .int q3.1), (1, .int q1.1), (0, .ref 0)] [.int (-1 : Int32), .int q3.1] (wSR cy kb kn kf rK rf rg rpd rpn q3.2.1 q3.2.2.1 q3.2.2.2.1 q3.2.2.2.2.1 q3.2.2.2.2.2 mc mm nc nm pd pn vo vd vs tl tb q1.2.1 q1.2.2.1 q1.2.2.2.1 q1.2.2.2.2.1 q1.2.2.2.2.2.1 q1.2.2.2.2.2.2.1 q1.2.2.2.2.2.2.2.1 q1.2.2.2.2.2.2.2.2.1 q1.2.2.2.2.2.2.2.2.2 fi) (by decide +kernel) rfl rfl ?_
    refine G_icmp_eq C (off := 9) (tgt := 56) (by decide +kernel) rfl (fun c => ?_) (fun c => ?_)
    · rw [if_pos c] at h
      refine G_r C [(.aload_n 0, 1, 0, 0, .null)] 57 [(2, .int q3.1), (1, .int q1.1), (0, .ref 0)] [.ref 0] (wSR cy kb kn kf rK rf rg rpd rpn q3.2.1 q3.2.2.1 q3.2.2.2.1 q3.2.2.2.2.1 q3.2.2.2.2.2 mc mm nc nm pd pn vo vd vs tl tb q1.2.1 q1.2.2.1 q1.2.2.2.1 q1.2.2.2.2.1 q1.2.2.2.2.2.1 q1.2.2.2.2.2.2.1 q1.2.2.2.2.2.2.2.1 q1.2.2.2.2.2.2.2.2.1 q1.2.2.2.2.2.2.2.2.2 fi) (by decide +kernel) rfl rfl ?_
      obtain ⟨q4, hq4, h⟩ := obd h
      refine G_c0 C lk_6_76 ⟨Nat.le_of_ble_eq_true rfl, Nat.le_of_ble_eq_true rfl⟩ (by decide +kernel) [] (c_X6_keepTrial cy kb kn kf rK rf rg rpd rpn q3.2.1 q3.2.2.1 q3.2.2.2.1 q3.2.2.2.2.1 q3.2.2.2.2.2 mc mm nc nm pd pn vo vd vs tl tb q1.2.1 q1.2.2.1 q1.2.2.2.1 q1.2.2.2.2.1 q1.2.2.2.2.2.1 q1.2.2.2.2.2.2.1 q1.2.2.2.2.2.2.2.1 q1.2.2.2.2.2.2.2.2.1 q1.2.2.2.2.2.2.2.2.2 fi q4 hq4) rfl rfl (Nat.le_of_ble_eq_true rfl) ⟨rfl, rfl⟩ rfl ?_
      refine G_r C [(.aload_n 0, 1, 0, 0, .null), (.getfield 53, 3, 6, 7, .null)] 64 [(2, .int q3.1), (1, .int q1.1), (0, .ref 0)] [.ref 21] (wSR cy kb kn kf q4.1 q4.2.1 rg rpd rpn q3.2.1 q3.2.2.1 q3.2.2.2.1 q3.2.2.2.2.1 q3.2.2.2.2.2 mc mm nc nm pd pn q4.2.2.1 q4.2.2.2.1 q4.2.2.2.2 tl tb q1.2.1 q1.2.2.1 q1.2.2.2.1 q1.2.2.2.2.1 q1.2.2.2.2.2.1 q1.2.2.2.2.2.2.1 q1.2.2.2.2.2.2.2.1 q1.2.2.2.2.2.2.2.2.1 q1.2.2.2.2.2.2.2.2.2 fi) (by decide +kernel) rfl rfl ?_
      obtain ⟨q5, hq5, h⟩ := obd h
      refine G_cV C lk_6_200 ⟨Nat.le_of_ble_eq_true rfl, Nat.le_of_ble_eq_true rfl⟩ (by decide +kernel) [21, 22, 23, 24] [.int q5] (wSR cy kb kn kf q4.1 q4.2.1 rg rpd rpn q3.2.1 q3.2.2.1 q3.2.2.2.1 q3.2.2.2.2.1 q3.2.2.2.2.2 mc mm nc nm pd pn q4.2.2.1 q4.2.2.2.1 q4.2.2.2.2 tl tb q1.2.1 q1.2.2.1 q1.2.2.2.1 q1.2.2.2.2.1 q1.2.2.2.2.2.1 q1.2.2.2.2.2.2.1 q1.2.2.2.2.2.2.2.1 q1.2.2.2.2.2.2.2.2.1 q1.2.2.2.2.2.2.2.2.2 fi) (c_X2_orders cy q1.2.1 q1.2.2.1 q1.2.2.2.1 q1.2.2.2.2.1 q1.2.2.2.2.2.1 q1.2.2.2.2.2.2.1 q1.2.2.2.2.2.2.2.1 q1.2.2.2.2.2.2.2.2.1 q1.2.2.2.2.2.2.2.2.2 q5 hq5) rfl rfl (Nat.le_of_ble_eq_true rfl) rfl rfl ⟨rfl, rfl⟩ rfl rfl rfl ?_
      have h := Option.some.inj h
      subst h
      exact G_iret C hR (by decide +kernel)
    · rw [if_neg c] at h
      refine G_r C [(.sipush (-1000), 3, 0, 0, .int (-1000 : Int32)), (.iload_n 2, 1, 0, 0, .null), (.isub, 1, 0, 0, .null)] 55 [(2, .int q3.1), (1, .int q1.1), (0, .ref 0)] [.int ((-1000 : Int32) - q3.1)] (wSR cy kb kn kf rK rf rg rpd rpn q3.2.1 q3.2.2.1 q3.2.2.2.1 q3.2.2.2.2.1 q3.2.2.2.2.2 mc mm nc nm pd pn vo vd vs tl tb q1.2.1 q1.2.2.1 q1.2.2.2.1 q1.2.2.2.2.1 q1.2.2.2.2.2.1 q1.2.2.2.2.2.2.1 q1.2.2.2.2.2.2.2.1 q1.2.2.2.2.2.2.2.2.1 q1.2.2.2.2.2.2.2.2.2 fi) (by decide +kernel) rfl rfl ?_
      have h := Option.some.inj h
      subst h
      exact G_iret C hR (by decide +kernel)
  · rw [if_neg c] at h
    refine G_r C [(.bipush (-10), 2, 0, 0, .int (-10 : Int32)), (.iload_n 1, 1, 0, 0, .null), (.isub, 1, 0, 0, .null)] 21 [(1, .int q1.1), (0, .ref 0)] [.int ((-10 : Int32) - q1.1)] (wSR cy kb kn kf rK rf rg rpd rpn sK sf sg spd spn mc mm nc nm pd pn vo vd vs tl tb q1.2.1 q1.2.2.1 q1.2.2.2.1 q1.2.2.2.2.1 q1.2.2.2.2.2.1 q1.2.2.2.2.2.2.1 q1.2.2.2.2.2.2.2.1 q1.2.2.2.2.2.2.2.2.1 q1.2.2.2.2.2.2.2.2.2 fi) (by decide +kernel) rfl rfl ?_
    have h := Option.some.inj h
    subst h
    exact G_iret C hR (by decide +kernel)
def f_X4_depth (vd : Int32) : Option Int32 := some vd
set_option maxHeartbeats 4000000 in
set_option maxRecDepth 100000 in
theorem c_X4_depth (cy : Nat → ClassId) (vo : Int32) (vd : Int32) (vs : Nat → Int32)  (res : Int32) (h : f_X4_depth vd = some res) : MG cy yX4_depth cX4_depth 1 (some .int) 0 0 [.ref 0] (wStates cy 0 vo vd vs) (some (.int res)) (wStates cy 0 vo vd vs) := by
  refine MG_of (o := 4) (lv := [(0, .ref 0)]) ⟨by decide +kernel, rfl⟩ (Nat.le_of_ble_eq_true rfl) rfl (fun k C hR => ?_)
  rw [f_X4_depth] at h
  refine G_r C [(.aload_n 0, 1, 0, 0, .null), (.getfield 15, 3, 4, 2, .null)] 4 [(0, .ref 0)] [.int vd] (wStates cy 0 vo vd vs) (by decide +kernel) rfl rfl ?_
  have h := Option.some.inj h
  subst h
  exact G_iret C hR (by decide +kernel)
def f_X3_load_L37 : Nat → Int32 → Int32 → (Nat → Int32) → (Nat → Int32) → Option (Nat → Int32)
  | 0, _, _, _, _ => none
  | fu + 1, x2, x3, rf, ar => if (7 : Int32) ≤ x3 then (some rf) else (if ((x2 + (1 : Int32)) + x3) < 0 ∨ 48 ≤ ((x2 + (1 : Int32)) + x3).toNatClampNeg then none else if x3 < 0 ∨ 7 ≤ x3.toNatClampNeg then none else f_X3_load_L37 fu x2 (x3 + (1 : Int32)) (upd rf x3.toNatClampNeg (ar ((x2 + (1 : Int32)) + x3).toNatClampNeg)) ar)
def f_X3_load (x2 : Int32) (rK : Int32) (rf : Nat → Int32) (ar : Nat → Int32) : Option (Int32 × (Nat → Int32)) := if x2 < 0 then (some (rK, rf)) else (if (((48 : Int32) - (1 : Int32)) - (7 : Int32)) < x2 then (some (rK, rf)) else (if x2 < 0 ∨ 48 ≤ x2.toNatClampNeg then none else (f_X6_isOutside (ar x2.toNatClampNeg) (1 : Int32) (7 : Int32)).bind fun q1 => if (bI q1) = 0 then (if x2 < 0 ∨ 48 ≤ x2.toNatClampNeg then none else (f_X3_load_L37 200 x2 (0 : Int32) rf ar).bind fun q2 => some ((ar x2.toNatClampNeg), q2)) else (some (rK, rf))))
set_option maxHeartbeats 4000000 in
set_option maxRecDepth 100000 in
theorem g_X3_load_L37 {k : KX} {cy : Nat → ClassId} (C : OK k cX3_load 3 4 cy 1 22) : ∀ (fu : Nat) (x2 : Int32) (x3 : Int32) (rK : Int32) (rf : Nat → Int32) (rg : Nat → Int64) (rpd : Int32) (rpn : Nat → Int64) (ar : Nat → Int32) (res : (Nat → Int32)), (f_X3_load_L37 fu x2 x3 rf ar = some res) → G k 4 62 [] [] ((wRow cy 0 rK res rg rpd rpn) ++ (wArr cy 5 ar)) → G k 4 37 [(0, .ref 0), (1, .ref 5), (2, .int x2), (3, .int x3)] [] ((wRow cy 0 rK rf rg rpd rpn) ++ (wArr cy 5 ar)) := by
  intro fu
  induction fu with
  | zero =>
    intro x2 x3 rK rf rg rpd rpn ar res h hex
    rw [f_X3_load_L37] at h
    cases h
  | succ fu ih =>
    intro x2 x3 rK rf rg rpd rpn ar res h hex
    rw [f_X3_load_L37] at h
    refine G_r C [(.iload_n 3, 1, 0, 0, .null), (.bipush 7, 2, 0, 0, .int (7 : Int32))] 40 [(0, .ref 0), (1, .ref 5), (2, .int x2), (3, .int x3)] [.int (7 : Int32), .int x3] ((wRow cy 0 rK rf rg rpd rpn) ++ (wArr cy 5 ar)) (by decide +kernel) rfl rfl ?_
    refine G_icmp_ge C (off := 22) (tgt := 62) (by decide +kernel) rfl (fun c => ?_) (fun c => ?_)
    · rw [if_pos c] at h
      have h := Option.some.inj h
      subst h
      refine G_lv [] (lv' := []) rfl ?_
      exact hex
    · rw [if_neg c] at h
      refine G_r C [(.aload_n 0, 1, 0, 0, .null), (.getfield 9, 3, 3, 0, .null), (.iload_n 3, 1, 0, 0, .null), (.aload_n 1, 1, 0, 0, .null), (.iload_n 2, 1, 0, 0, .null), (.iconst 1, 1, 0, 0, .int (1 : Int32)), (.iadd, 1, 0, 0, .null), (.iload_n 3, 1, 0, 0, .null), (.iadd, 1, 0, 0, .null)] 54 [(0, .ref 0), (1, .ref 5), (2, .int x2), (3, .int x3)] [.int ((x2 + (1 : Int32)) + x3), .ref 5, .int x3, .ref 1] ((wRow cy 0 rK rf rg rpd rpn) ++ (wArr cy 5 ar)) (by decide +kernel) rfl rfl ?_
      obtain ⟨cg, h⟩ := oob h
      refine G_iald C (a := 5) rfl cg (by decide +kernel) ?_
      obtain ⟨cg, h⟩ := oob h
      refine G_iast C (a := 1) (w' := ((wRow cy 0 rK (upd rf x3.toNatClampNeg (ar ((x2 + (1 : Int32)) + x3).toNatClampNeg)) rg rpd rpn) ++ (wArr cy 5 ar))) rfl cg (by decide +kernel) rfl ?_
      refine G_r C [(.iinc 3 1, 3, 0, 0, .int (1 : Int32))] 59 [(3, .int (x3 + (1 : Int32))), (0, .ref 0), (1, .ref 5), (2, .int x2)] [] ((wRow cy 0 rK (upd rf x3.toNatClampNeg (ar ((x2 + (1 : Int32)) + x3).toNatClampNeg)) rg rpd rpn) ++ (wArr cy 5 ar)) (by decide +kernel) rfl rfl ?_
      refine G_goto C (off := -22) (tgt := 37) (by decide +kernel) rfl ?_
      refine G_lv [1, 2, 3, 0] (lv' := [(0, .ref 0), (1, .ref 5), (2, .int x2), (3, .int (x3 + (1 : Int32)))]) rfl ?_
      exact ih x2 (x3 + (1 : Int32)) rK (upd rf x3.toNatClampNeg (ar ((x2 + (1 : Int32)) + x3).toNatClampNeg)) rg rpd rpn ar res h hex
set_option maxHeartbeats 4000000 in
set_option maxRecDepth 100000 in
theorem c_X3_load (cy : Nat → ClassId) (rK : Int32) (rf : Nat → Int32) (rg : Nat → Int64) (rpd : Int32) (rpn : Nat → Int64) (ar : Nat → Int32) (x2 : Int32) (res : (Int32 × (Nat → Int32))) (h : f_X3_load x2 rK rf ar = some res) : MG cy yX3_load cX3_load 4 none 1 22 [.ref 0, .ref 5, .int x2] ((wRow cy 0 rK rf rg rpd rpn) ++ (wArr cy 5 ar)) none ((wRow cy 0 res.1 res.2 rg rpd rpn) ++ (wArr cy 5 ar)) := by
  refine MG_of (o := 3) (lv := [(0, .ref 0), (1, .ref 5), (2, .int x2)]) ⟨by decide +kernel, rfl⟩ (Nat.le_of_ble_eq_true rfl) rfl (fun k C hR => ?_)
  rw [f_X3_load] at h
  refine G_r C [(.iload_n 2, 1, 0, 0, .null)] 1 [(0, .ref 0), (1, .ref 5), (2, .int x2)] [.int x2] ((wRow cy 0 rK rf rg rpd rpn) ++ (wArr cy 5 ar)) (by decide +kernel) rfl rfl ?_
  refine G_if_lt C (off := 26) (tgt := 27) (by decide +kernel) rfl (fun c => ?_) (fun c => ?_)
  · rw [if_pos c] at h
    have h := Option.some.inj h
    subst h
    exact G_vret C hR (by decide +kernel)
  · rw [if_neg c] at h
    refine G_r C [(.iload_n 2, 1, 0, 0, .null), (.aload_n 1, 1, 0, 0, .null)] 6 [(0, .ref 0), (1, .ref 5), (2, .int x2)] [.ref 5, .int x2] ((wRow cy 0 rK rf rg rpd rpn) ++ (wArr cy 5 ar)) (by decide +kernel) rfl rfl ?_
    refine G_alen C (t0 := 0) (v := (48 : Int32)) rfl rfl rfl (by decide +kernel) ?_
    refine G_r C [(.iconst 1, 1, 0, 0, .int (1 : Int32)), (.isub, 1, 0, 0, .null), (.bipush 7, 2, 0, 0, .int (7 : Int32)), (.isub, 1, 0, 0, .null)] 12 [(0, .ref 0), (1, .ref 5), (2, .int x2)] [.int (((48 : Int32) - (1 : Int32)) - (7 : Int32)), .int x2] ((wRow cy 0 rK rf rg rpd rpn) ++ (wArr cy 5 ar)) (by decide +kernel) rfl rfl ?_
    refine G_icmp_gt C (off := 15) (tgt := 27) (by decide +kernel) rfl (fun c => ?_) (fun c => ?_)
    · rw [if_pos c] at h
      have h := Option.some.inj h
      subst h
      exact G_vret C hR (by decide +kernel)
    · rw [if_neg c] at h
      refine G_r C [(.aload_n 1, 1, 0, 0, .null), (.iload_n 2, 1, 0, 0, .null)] 17 [(0, .ref 0), (1, .ref 5), (2, .int x2)] [.int x2, .ref 5] ((wRow cy 0 rK rf rg rpd rpn) ++ (wArr cy 5 ar)) (by decide +kernel) rfl rfl ?_
      obtain ⟨cg, h⟩ := oob h
      refine G_iald C (a := 5) rfl cg (by decide +kernel) ?_
      refine G_r C [(.iconst 1, 1, 0, 0, .int (1 : Int32)), (.bipush 7, 2, 0, 0, .int (7 : Int32))] 21 [(0, .ref 0), (1, .ref 5), (2, .int x2)] [.int (7 : Int32), .int (1 : Int32), .int (ar x2.toNatClampNeg)] ((wRow cy 0 rK rf rg rpd rpn) ++ (wArr cy 5 ar)) (by decide +kernel) rfl rfl ?_
      obtain ⟨q1, hq1, h⟩ := obd h
      refine G_cN C lk_3_45 ⟨Nat.le_of_ble_eq_true rfl, Nat.le_of_ble_eq_true rfl⟩ (by decide +kernel) [.int (bI q1)] (c_X6_isOutside cy (ar x2.toNatClampNeg) (1 : Int32) (7 : Int32) q1 hq1) rfl rfl (Nat.le_of_ble_eq_true rfl) rfl ?_
      refine G_if_eq C (off := 4) (tgt := 28) (by decide +kernel) rfl (fun c => ?_) (fun c => ?_)
      · rw [if_pos c] at h
        refine G_r C [(.aload_n 0, 1, 0, 0, .null), (.aload_n 1, 1, 0, 0, .null), (.iload_n 2, 1, 0, 0, .null)] 31 [(0, .ref 0), (1, .ref 5), (2, .int x2)] [.int x2, .ref 5, .ref 0] ((wRow cy 0 rK rf rg rpd rpn) ++ (wArr cy 5 ar)) (by decide +kernel) rfl rfl ?_
        obtain ⟨cg, h⟩ := oob h
        refine G_iald C (a := 5) rfl cg (by decide +kernel) ?_
        refine G_r C [(.putfield 26, 3, 3, 3, .null), (.iconst 0, 1, 0, 0, .int (0 : Int32)), (.istore_n 3, 1, 0, 0, .null)] 37 [(3, .int (0 : Int32)), (0, .ref 0), (1, .ref 5), (2, .int x2)] [] ((wRow cy 0 (ar x2.toNatClampNeg) rf rg rpd rpn) ++ (wArr cy 5 ar)) (by decide +kernel) rfl rfl ?_
        obtain ⟨q2, hq2, h⟩ := obd h
        refine G_lv [1, 2, 3, 0] (lv' := [(0, .ref 0), (1, .ref 5), (2, .int x2), (3, .int (0 : Int32))]) rfl ?_
        refine g_X3_load_L37 C 200 x2 (0 : Int32) (ar x2.toNatClampNeg) rf rg rpd rpn ar q2 hq2 ?_
        have h := Option.some.inj h
        subst h
        exact G_vret C hR (by decide +kernel)
      · rw [if_neg c] at h
        have h := Option.some.inj h
        subst h
        exact G_vret C hR (by decide +kernel)
def f_X4_pop (vo : Int32) (vd : Int32) (vs : Nat → Int32) (rK : Int32) (rf : Nat → Int32) : Option (Int32 × Int32 × (Nat → Int32)) := if 0 < vd then ((f_X4_place (vd - (1 : Int32)) vo).bind fun q1 => (f_X3_load q1 rK rf vs).bind fun q2 => some ((vd - (1 : Int32)), q2.1, q2.2)) else (some (vd, rK, rf))
set_option maxHeartbeats 4000000 in
set_option maxRecDepth 100000 in
theorem c_X4_pop (cy : Nat → ClassId) (vo : Int32) (vd : Int32) (vs : Nat → Int32) (rK : Int32) (rf : Nat → Int32) (rg : Nat → Int64) (rpd : Int32) (rpn : Nat → Int64)  (res : (Int32 × Int32 × (Nat → Int32))) (h : f_X4_pop vo vd vs rK rf = some res) : MG cy yX4_pop cX4_pop 2 none 2 45 [.ref 0, .ref 2] ((wStates cy 0 vo vd vs) ++ (wRow cy 2 rK rf rg rpd rpn)) none ((wStates cy 0 vo res.1 vs) ++ (wRow cy 2 res.2.1 res.2.2 rg rpd rpn)) := by
  refine MG_of (o := 4) (lv := [(0, .ref 0), (1, .ref 2)]) ⟨by decide +kernel, rfl⟩ (Nat.le_of_ble_eq_true rfl) rfl (fun k C hR => ?_)
  rw [f_X4_pop] at h
  refine G_r C [(.aload_n 0, 1, 0, 0, .null), (.getfield 15, 3, 4, 2, .null)] 4 [(0, .ref 0), (1, .ref 2)] [.int vd] ((wStates cy 0 vo vd vs) ++ (wRow cy 2 rK rf rg rpd rpn)) (by decide +kernel) rfl rfl ?_
  refine G_if_gt C (off := 4) (tgt := 8) (by decide +kernel) rfl (fun c => ?_) (fun c => ?_)
  · rw [if_pos c] at h
    refine G_r C [(.aload_n 0, 1, 0, 0, .null), (.dup, 1, 0, 0, .null), (.getfield 15, 3, 4, 2, .null), (.iconst 1, 1, 0, 0, .int (1 : Int32)), (.isub, 1, 0, 0, .null), (.putfield 15, 3, 4, 2, .null), (.aload_n 1, 1, 0, 0, .null), (.aload_n 0, 1, 0, 0, .null), (.getfield 11, 3, 4, 0, .null), (.aload_n 0, 1, 0, 0, .null), (.aload_n 0, 1, 0, 0, .null), (.getfield 15, 3, 4, 2, .null)] 28 [(0, .ref 0), (1, .ref 2)] [.int (vd - (1 : Int32)), .ref 0, .ref 1, .ref 2] ((wStates cy 0 vo (vd - (1 : Int32)) vs) ++ (wRow cy 2 rK rf rg rpd rpn)) (by decide +kernel) rfl rfl ?_
    obtain ⟨q1, hq1, h⟩ := obd h
    refine G_cV C lk_4_22 ⟨Nat.le_of_ble_eq_true rfl, Nat.le_of_ble_eq_true rfl⟩ (by decide +kernel) [0, 1] [.int q1, .ref 1, .ref 2] ((wStates cy 0 vo (vd - (1 : Int32)) vs) ++ (wRow cy 2 rK rf rg rpd rpn)) (c_X4_place cy vo (vd - (1 : Int32)) vs (vd - (1 : Int32)) q1 hq1) rfl rfl (Nat.le_of_ble_eq_true rfl) rfl rfl ⟨rfl, rfl⟩ rfl rfl rfl ?_
    obtain ⟨q2, hq2, h⟩ := obd h
    refine G_cV C lk_4_32 ⟨Nat.le_of_ble_eq_true rfl, Nat.le_of_ble_eq_true rfl⟩ (by decide +kernel) [2, 3, 4, 5, 6, 1] [] ((wStates cy 0 vo (vd - (1 : Int32)) vs) ++ (wRow cy 2 q2.1 q2.2 rg rpd rpn)) (c_X3_load cy rK rf rg rpd rpn vs q1 q2 hq2) rfl rfl (Nat.le_of_ble_eq_true rfl) rfl rfl ⟨rfl, rfl⟩ rfl rfl rfl ?_
    have h := Option.some.inj h
    subst h
    exact G_vret C hR (by decide +kernel)
  · rw [if_neg c] at h
    have h := Option.some.inj h
    subst h
    exact G_vret C hR (by decide +kernel)
def f_X6_back (kb : Int32) (kn : Int32) (kf : Int32) (rK : Int32) (rf : Nat → Int32) (vo : Int32) (vd : Int32) (vs : Nat → Int32) : Option (Int32 × Int32 × Int32 × Int32 × Int32 × (Nat → Int32) × Int32) := (f_X4_depth vd).bind fun q1 => if q1 = 0 then ((f_X6_refuse (-1000002 : Int32) kb kn kf).bind fun q4 => some (q4.1, q4.2.1, q4.2.2.1, q4.2.2.2, rK, rf, vd)) else ((f_X4_pop vo vd vs rK rf).bind fun q2 => (f_X4_depth q2.1).bind fun q3 => some (q3, kb, kn, kf, q2.2.1, q2.2.2, q2.1))
set_option maxHeartbeats 4000000 in
set_option maxRecDepth 100000 in
theorem c_X6_back (cy : Nat → ClassId) (kb : Int32) (kn : Int32) (kf : Int32) (rK : Int32) (rf : Nat → Int32) (rg : Nat → Int64) (rpd : Int32) (rpn : Nat → Int64) (sK : Int32) (sf : Nat → Int32) (sg : Nat → Int64) (spd : Int32) (spn : Nat → Int64) (mc : Int32) (mm : Nat → Int64) (nc : Int32) (nm : Nat → Int64) (pd : Int32) (pn : Nat → Int64) (vo : Int32) (vd : Int32) (vs : Nat → Int32) (tl : Int32) (tb : Nat → Int32) (eo : Int32) (et : Int32) (ed : Int32) (em : Bool) (ef : Int32) (ez : Int32) (ek : Nat → Int32) (es : Nat → Int32) (en : Nat → Int32) (fi : Nat → Int32)  (res : (Int32 × Int32 × Int32 × Int32 × Int32 × (Nat → Int32) × Int32)) (h : f_X6_back kb kn kf rK rf vo vd vs = some res) : MG cy yX6_back cX6_back 1 (some .int) 3 66 [.ref 0] (wSR cy kb kn kf rK rf rg rpd rpn sK sf sg spd spn mc mm nc nm pd pn vo vd vs tl tb eo et ed em ef ez ek es en fi) (some (.int res.1)) (wSR cy res.2.1 res.2.2.1 res.2.2.2.1 res.2.2.2.2.1 res.2.2.2.2.2.1 rg rpd rpn sK sf sg spd spn mc mm nc nm pd pn vo res.2.2.2.2.2.2 vs tl tb eo et ed em ef ez ek es en fi) := by
  refine MG_of (o := 6) (lv := [(0, .ref 0)]) ⟨by decide +kernel, rfl⟩ (Nat.le_of_ble_eq_true rfl) rfl (fun k C hR => ?_)
  rw [f_X6_back] at h
  refine G_r C [(.aload_n 0, 1, 0, 0, .null), (.getfield 39, 3, 6, 5, .null)] 4 [(0, .ref 0)] [.ref 17] (wSR cy kb kn kf rK rf rg rpd rpn sK sf sg spd spn mc mm nc nm pd pn vo vd vs tl tb eo et ed em ef ez ek es en fi) (by decide +kernel) rfl rfl ?_
  obtain ⟨q1, hq1, h⟩ := obd h
  refine G_cV C lk_6_203 ⟨Nat.le_of_ble_eq_true rfl, Nat.le_of_ble_eq_true rfl⟩ (by decide +kernel) [17, 18] [.int q1] (wSR cy kb kn kf rK rf rg rpd rpn sK sf sg spd spn mc mm nc nm pd pn vo vd vs tl tb eo et ed em ef ez ek es en fi) (c_X4_depth cy vo vd vs q1 hq1) rfl rfl (Nat.le_of_ble_eq_true rfl) rfl rfl ⟨rfl, rfl⟩ rfl rfl rfl ?_
  refine G_if_ne C (off := 10) (tgt := 17) (by decide +kernel) rfl (fun c => ?_) (fun c => ?_)
  · rw [if_neg c] at h
    refine G_r C [(.aload_n 0, 1, 0, 0, .null), (.getfield 39, 3, 6, 5, .null), (.aload_n 0, 1, 0, 0, .null), (.getfield 12, 3, 6, 0, .null)] 25 [(0, .ref 0)] [.ref 1, .ref 17] (wSR cy kb kn kf rK rf rg rpd rpn sK sf sg spd spn mc mm nc nm pd pn vo vd vs tl tb eo et ed em ef ez ek es en fi) (by decide +kernel) rfl rfl ?_
    obtain ⟨q2, hq2, h⟩ := obd h
    refine G_cV C lk_6_206 ⟨Nat.le_of_ble_eq_true rfl, Nat.le_of_ble_eq_true rfl⟩ (by decide +kernel) [17, 18, 1, 2, 3, 4, 5] [] (wSR cy kb kn kf q2.2.1 q2.2.2 rg rpd rpn sK sf sg spd spn mc mm nc nm pd pn vo q2.1 vs tl tb eo et ed em ef ez ek es en fi) (c_X4_pop cy vo vd vs rK rf rg rpd rpn q2 hq2) rfl rfl (Nat.le_of_ble_eq_true rfl) rfl rfl ⟨rfl, rfl⟩ rfl rfl rfl ?_
    refine G_r C [(.aload_n 0, 1, 0, 0, .null), (.getfield 39, 3, 6, 5, .null)] 32 [(0, .ref 0)] [.ref 17] (wSR cy kb kn kf q2.2.1 q2.2.2 rg rpd rpn sK sf sg spd spn mc mm nc nm pd pn vo q2.1 vs tl tb eo et ed em ef ez ek es en fi) (by decide +kernel) rfl rfl ?_
    obtain ⟨q3, hq3, h⟩ := obd h
    refine G_cV C lk_6_203 ⟨Nat.le_of_ble_eq_true rfl, Nat.le_of_ble_eq_true rfl⟩ (by decide +kernel) [17, 18] [.int q3] (wSR cy kb kn kf q2.2.1 q2.2.2 rg rpd rpn sK sf sg spd spn mc mm nc nm pd pn vo q2.1 vs tl tb eo et ed em ef ez ek es en fi) (c_X4_depth cy vo q2.1 vs q3 hq3) rfl rfl (Nat.le_of_ble_eq_true rfl) rfl rfl ⟨rfl, rfl⟩ rfl rfl rfl ?_
    have h := Option.some.inj h
    subst h
    exact G_iret C hR (by decide +kernel)
  · rw [if_pos c] at h
    refine G_r C [(.aload_n 0, 1, 0, 0, .null)] 11 [(0, .ref 0)] [.ref 0] (wSR cy kb kn kf rK rf rg rpd rpn sK sf sg spd spn mc mm nc nm pd pn vo vd vs tl tb eo et ed em ef ez ek es en fi) (by decide +kernel) rfl rfl ?_
    refine G_ldc C co_6_110 (by decide +kernel) ?_
    obtain ⟨q4, hq4, h⟩ := obd h
    refine G_c0 C lk_6_73 ⟨Nat.le_of_ble_eq_true rfl, Nat.le_of_ble_eq_true rfl⟩ (by decide +kernel) [.int q4.1] (c_X6_refuse cy kb kn kf rK rf rg rpd rpn sK sf sg spd spn mc mm nc nm pd pn vo vd vs tl tb eo et ed em ef ez ek es en fi (-1000002 : Int32) q4 hq4) rfl rfl (Nat.le_of_ble_eq_true rfl) ⟨rfl, rfl⟩ rfl ?_
    have h := Option.some.inj h
    subst h
    exact G_iret C hR (by decide +kernel)
def f_X6_tally (x1 : Int32) (kb : Int32) (kn : Int32) (kf : Int32) (rK : Int32) (vd : Int32) (tl : Int32) : Option Int32 := if x1 = (0 : Int32) then (some kb) else if x1 = (1 : Int32) then (some kn) else if x1 = (2 : Int32) then (some kf) else if x1 = (3 : Int32) then ((f_X5_length tl).bind fun q1 => some q1) else if x1 = (4 : Int32) then ((f_X3_size rK).bind fun q2 => some q2) else ((f_X4_depth vd).bind fun q3 => some q3)
theorem sw_X6_tally_1 (z : Int) (h0 : ¬ z = 0) (h1 : ¬ z = 1) (h2 : ¬ z = 2) (h3 : ¬ z = 3) (h4 : ¬ z = 4) : ((1 : Nat) : Int) + tabOff 66 0 4 #[35, 40, 45, 50, 58] z = ((67 : Nat) : Int) := by
  unfold tabOff
  by_cases c : z < 0 ∨ 4 < z
  · rw [if_pos c]; rfl
  · exfalso; omega
set_option maxHeartbeats 4000000 in
set_option maxRecDepth 100000 in
theorem c_X6_tally (cy : Nat → ClassId) (kb : Int32) (kn : Int32) (kf : Int32) (rK : Int32) (rf : Nat → Int32) (rg : Nat → Int64) (rpd : Int32) (rpn : Nat → Int64) (sK : Int32) (sf : Nat → Int32) (sg : Nat → Int64) (spd : Int32) (spn : Nat → Int64) (mc : Int32) (mm : Nat → Int64) (nc : Int32) (nm : Nat → Int64) (pd : Int32) (pn : Nat → Int64) (vo : Int32) (vd : Int32) (vs : Nat → Int32) (tl : Int32) (tb : Nat → Int32) (eo : Int32) (et : Int32) (ed : Int32) (em : Bool) (ef : Int32) (ez : Int32) (ek : Nat → Int32) (es : Nat → Int32) (en : Nat → Int32) (fi : Nat → Int32) (x1 : Int32) (res : Int32) (h : f_X6_tally x1 kb kn kf rK vd tl = some res) : MG cy yX6_tally cX6_tally 2 (some .int) 1 20 [.ref 0, .int x1] (wSR cy kb kn kf rK rf rg rpd rpn sK sf sg spd spn mc mm nc nm pd pn vo vd vs tl tb eo et ed em ef ez ek es en fi) (some (.int res)) (wSR cy kb kn kf rK rf rg rpd rpn sK sf sg spd spn mc mm nc nm pd pn vo vd vs tl tb eo et ed em ef ez ek es en fi) := by
  refine MG_of (o := 6) (lv := [(0, .ref 0), (1, .int x1)]) ⟨by decide +kernel, rfl⟩ (Nat.le_of_ble_eq_true rfl) rfl (fun k C hR => ?_)
  rw [f_X6_tally] at h
  refine G_r C [(.iload_n 1, 1, 0, 0, .null)] 1 [(0, .ref 0), (1, .int x1)] [.int x1] (wSR cy kb kn kf rK rf rg rpd rpn sK sf sg spd spn mc mm nc nm pd pn vo vd vs tl tb eo et ed em ef ez ek es en fi) (by decide +kernel) rfl rfl ?_
  by_cases c0 : x1 = (0 : Int32)
  · rw [if_pos c0] at h
    refine G_tab C (dflt := 66) (lo1 := 0) (hi := 4) (offs := #[35, 40, 45, 50, 58]) (len := 35) (tgt := 36) (by decide +kernel) rfl (by rw [c0]; rfl) ?_
    refine G_r C [(.aload_n 0, 1, 0, 0, .null), (.getfield 222, 3, 6, 9, .null)] 40 [(0, .ref 0), (1, .int x1)] [.int kb] (wSR cy kb kn kf rK rf rg rpd rpn sK sf sg spd spn mc mm nc nm pd pn vo vd vs tl tb eo et ed em ef ez ek es en fi) (by decide +kernel) rfl rfl ?_
    have h := Option.some.inj h
    subst h
    exact G_iret C hR (by decide +kernel)
  · rw [if_neg c0] at h
    by_cases c1 : x1 = (1 : Int32)
    · rw [if_pos c1] at h
      refine G_tab C (dflt := 66) (lo1 := 0) (hi := 4) (offs := #[35, 40, 45, 50, 58]) (len := 35) (tgt := 41) (by decide +kernel) rfl (by rw [c1]; rfl) ?_
      refine G_r C [(.aload_n 0, 1, 0, 0, .null), (.getfield 226, 3, 6, 10, .null)] 45 [(0, .ref 0), (1, .int x1)] [.int kn] (wSR cy kb kn kf rK rf rg rpd rpn sK sf sg spd spn mc mm nc nm pd pn vo vd vs tl tb eo et ed em ef ez ek es en fi) (by decide +kernel) rfl rfl ?_
      have h := Option.some.inj h
      subst h
      exact G_iret C hR (by decide +kernel)
    · rw [if_neg c1] at h
      by_cases c2 : x1 = (2 : Int32)
      · rw [if_pos c2] at h
        refine G_tab C (dflt := 66) (lo1 := 0) (hi := 4) (offs := #[35, 40, 45, 50, 58]) (len := 35) (tgt := 46) (by decide +kernel) rfl (by rw [c2]; rfl) ?_
        refine G_r C [(.aload_n 0, 1, 0, 0, .null), (.getfield 229, 3, 6, 11, .null)] 50 [(0, .ref 0), (1, .int x1)] [.int kf] (wSR cy kb kn kf rK rf rg rpd rpn sK sf sg spd spn mc mm nc nm pd pn vo vd vs tl tb eo et ed em ef ez ek es en fi) (by decide +kernel) rfl rfl ?_
        have h := Option.some.inj h
        subst h
        exact G_iret C hR (by decide +kernel)
      · rw [if_neg c2] at h
        by_cases c3 : x1 = (3 : Int32)
        · rw [if_pos c3] at h
          refine G_tab C (dflt := 66) (lo1 := 0) (hi := 4) (offs := #[35, 40, 45, 50, 58]) (len := 35) (tgt := 51) (by decide +kernel) rfl (by rw [c3]; rfl) ?_
          refine G_r C [(.aload_n 0, 1, 0, 0, .null), (.getfield 46, 3, 6, 6, .null)] 55 [(0, .ref 0), (1, .int x1)] [.ref 19] (wSR cy kb kn kf rK rf rg rpd rpn sK sf sg spd spn mc mm nc nm pd pn vo vd vs tl tb eo et ed em ef ez ek es en fi) (by decide +kernel) rfl rfl ?_
          obtain ⟨q1, hq1, h⟩ := obd h
          refine G_cV C lk_6_186 ⟨Nat.le_of_ble_eq_true rfl, Nat.le_of_ble_eq_true rfl⟩ (by decide +kernel) [19, 20] [.int q1] (wSR cy kb kn kf rK rf rg rpd rpn sK sf sg spd spn mc mm nc nm pd pn vo vd vs tl tb eo et ed em ef ez ek es en fi) (c_X5_length cy tl tb q1 hq1) rfl rfl (Nat.le_of_ble_eq_true rfl) rfl rfl ⟨rfl, rfl⟩ rfl rfl rfl ?_
          have h := Option.some.inj h
          subst h
          exact G_iret C hR (by decide +kernel)
        · rw [if_neg c3] at h
          by_cases c4 : x1 = (4 : Int32)
          · rw [if_pos c4] at h
            refine G_tab C (dflt := 66) (lo1 := 0) (hi := 4) (offs := #[35, 40, 45, 50, 58]) (len := 35) (tgt := 59) (by decide +kernel) rfl (by rw [c4]; rfl) ?_
            refine G_r C [(.aload_n 0, 1, 0, 0, .null), (.getfield 12, 3, 6, 0, .null)] 63 [(0, .ref 0), (1, .int x1)] [.ref 1] (wSR cy kb kn kf rK rf rg rpd rpn sK sf sg spd spn mc mm nc nm pd pn vo vd vs tl tb eo et ed em ef ez ek es en fi) (by decide +kernel) rfl rfl ?_
            obtain ⟨q2, hq2, h⟩ := obd h
            refine G_cV C lk_6_82 ⟨Nat.le_of_ble_eq_true rfl, Nat.le_of_ble_eq_true rfl⟩ (by decide +kernel) [1, 2, 3, 4, 5] [.int q2] (wSR cy kb kn kf rK rf rg rpd rpn sK sf sg spd spn mc mm nc nm pd pn vo vd vs tl tb eo et ed em ef ez ek es en fi) (c_X3_size cy rK rf rg rpd rpn q2 hq2) rfl rfl (Nat.le_of_ble_eq_true rfl) rfl rfl ⟨rfl, rfl⟩ rfl rfl rfl ?_
            have h := Option.some.inj h
            subst h
            exact G_iret C hR (by decide +kernel)
          · rw [if_neg c4] at h
            refine G_tab C (dflt := 66) (lo1 := 0) (hi := 4) (offs := #[35, 40, 45, 50, 58]) (len := 35) (tgt := 67) (by decide +kernel) rfl (sw_X6_tally_1 _ (neT c0) (neT c1) (neT c2) (neT c3) (neT c4)) ?_
            refine G_r C [(.aload_n 0, 1, 0, 0, .null), (.getfield 39, 3, 6, 5, .null)] 71 [(0, .ref 0), (1, .int x1)] [.ref 17] (wSR cy kb kn kf rK rf rg rpd rpn sK sf sg spd spn mc mm nc nm pd pn vo vd vs tl tb eo et ed em ef ez ek es en fi) (by decide +kernel) rfl rfl ?_
            obtain ⟨q3, hq3, h⟩ := obd h
            refine G_cV C lk_6_203 ⟨Nat.le_of_ble_eq_true rfl, Nat.le_of_ble_eq_true rfl⟩ (by decide +kernel) [17, 18] [.int q3] (wSR cy kb kn kf rK rf rg rpd rpn sK sf sg spd spn mc mm nc nm pd pn vo vd vs tl tb eo et ed em ef ez ek es en fi) (c_X4_depth cy vo vd vs q3 hq3) rfl rfl (Nat.le_of_ble_eq_true rfl) rfl rfl ⟨rfl, rfl⟩ rfl rfl rfl ?_
            have h := Option.some.inj h
            subst h
            exact G_iret C hR (by decide +kernel)
def f_X6_told (x1 : Int32) (kb : Int32) (kn : Int32) (kf : Int32) (rK : Int32) (vd : Int32) (tl : Int32) : Option (Int32 × Int32 × Int32 × Int32) := (f_X6_isOutside x1 (0 : Int32) (5 : Int32)).bind fun q1 => if (bI q1) = 0 then ((f_X6_tally x1 kb kn kf rK vd tl).bind fun q2 => some (q2, kb, kn, kf)) else ((f_X6_refuse (-1000001 : Int32) kb kn kf).bind fun q3 => some (q3.1, q3.2.1, q3.2.2.1, q3.2.2.2))
set_option maxHeartbeats 4000000 in
set_option maxRecDepth 100000 in
theorem c_X6_told (cy : Nat → ClassId) (kb : Int32) (kn : Int32) (kf : Int32) (rK : Int32) (rf : Nat → Int32) (rg : Nat → Int64) (rpd : Int32) (rpn : Nat → Int64) (sK : Int32) (sf : Nat → Int32) (sg : Nat → Int64) (spd : Int32) (spn : Nat → Int64) (mc : Int32) (mm : Nat → Int64) (nc : Int32) (nm : Nat → Int64) (pd : Int32) (pn : Nat → Int64) (vo : Int32) (vd : Int32) (vs : Nat → Int32) (tl : Int32) (tb : Nat → Int32) (eo : Int32) (et : Int32) (ed : Int32) (em : Bool) (ef : Int32) (ez : Int32) (ek : Nat → Int32) (es : Nat → Int32) (en : Nat → Int32) (fi : Nat → Int32) (x1 : Int32) (res : (Int32 × Int32 × Int32 × Int32)) (h : f_X6_told x1 kb kn kf rK vd tl = some res) : MG cy yX6_told cX6_told 2 (some .int) 2 41 [.ref 0, .int x1] (wSR cy kb kn kf rK rf rg rpd rpn sK sf sg spd spn mc mm nc nm pd pn vo vd vs tl tb eo et ed em ef ez ek es en fi) (some (.int res.1)) (wSR cy res.2.1 res.2.2.1 res.2.2.2 rK rf rg rpd rpn sK sf sg spd spn mc mm nc nm pd pn vo vd vs tl tb eo et ed em ef ez ek es en fi) := by
  refine MG_of (o := 6) (lv := [(0, .ref 0), (1, .int x1)]) ⟨by decide +kernel, rfl⟩ (Nat.le_of_ble_eq_true rfl) rfl (fun k C hR => ?_)
  rw [f_X6_told] at h
  refine G_r C [(.iload_n 1, 1, 0, 0, .null), (.iconst 0, 1, 0, 0, .int (0 : Int32)), (.iconst 5, 1, 0, 0, .int (5 : Int32))] 3 [(0, .ref 0), (1, .int x1)] [.int (5 : Int32), .int (0 : Int32), .int x1] (wSR cy kb kn kf rK rf rg rpd rpn sK sf sg spd spn mc mm nc nm pd pn vo vd vs tl tb eo et ed em ef ez ek es en fi) (by decide +kernel) rfl rfl ?_
  obtain ⟨q1, hq1, h⟩ := obd h
  refine G_cS C lk_6_101 ⟨Nat.le_of_ble_eq_true rfl, Nat.le_of_ble_eq_true rfl⟩ (by decide +kernel) [.int (bI q1)] (c_X6_isOutside cy x1 (0 : Int32) (5 : Int32) q1 hq1) rfl rfl (Nat.le_of_ble_eq_true rfl) rfl ?_
  refine G_if_eq C (off := 10) (tgt := 16) (by decide +kernel) rfl (fun c => ?_) (fun c => ?_)
  · rw [if_pos c] at h
    refine G_r C [(.aload_n 0, 1, 0, 0, .null), (.iload_n 1, 1, 0, 0, .null)] 18 [(0, .ref 0), (1, .int x1)] [.int x1, .ref 0] (wSR cy kb kn kf rK rf rg rpd rpn sK sf sg spd spn mc mm nc nm pd pn vo vd vs tl tb eo et ed em ef ez ek es en fi) (by decide +kernel) rfl rfl ?_
    obtain ⟨q2, hq2, h⟩ := obd h
    refine G_c0 C lk_6_209 ⟨Nat.le_of_ble_eq_true rfl, Nat.le_of_ble_eq_true rfl⟩ (by decide +kernel) [.int q2] (c_X6_tally cy kb kn kf rK rf rg rpd rpn sK sf sg spd spn mc mm nc nm pd pn vo vd vs tl tb eo et ed em ef ez ek es en fi x1 q2 hq2) rfl rfl (Nat.le_of_ble_eq_true rfl) ⟨rfl, rfl⟩ rfl ?_
    have h := Option.some.inj h
    subst h
    exact G_iret C hR (by decide +kernel)
  · rw [if_neg c] at h
    refine G_r C [(.aload_n 0, 1, 0, 0, .null)] 10 [(0, .ref 0), (1, .int x1)] [.ref 0] (wSR cy kb kn kf rK rf rg rpd rpn sK sf sg spd spn mc mm nc nm pd pn vo vd vs tl tb eo et ed em ef ez ek es en fi) (by decide +kernel) rfl rfl ?_
    refine G_ldc C co_6_105 (by decide +kernel) ?_
    obtain ⟨q3, hq3, h⟩ := obd h
    refine G_c0 C lk_6_73 ⟨Nat.le_of_ble_eq_true rfl, Nat.le_of_ble_eq_true rfl⟩ (by decide +kernel) [.int q3.1] (c_X6_refuse cy kb kn kf rK rf rg rpd rpn sK sf sg spd spn mc mm nc nm pd pn vo vd vs tl tb eo et ed em ef ez ek es en fi (-1000001 : Int32) q3 hq3) rfl rfl (Nat.le_of_ble_eq_true rfl) ⟨rfl, rfl⟩ rfl ?_
    have h := Option.some.inj h
    subst h
    exact G_iret C hR (by decide +kernel)
