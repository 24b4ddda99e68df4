def f_X3_takeNext_L57 : Nat → Int32 → Int32 → (Nat → Int32) → (Nat → Int64) → Option (Nat → Int32)
  | 0, _, _, _, _ => none
  | fu + 1, x1, x2, rf, rg => if x1 ≤ x2 then (some rf) else (if x2 < 0 ∨ 7 ≤ x2.toNatClampNeg then none else if x2 < 0 ∨ 7 ≤ x2.toNatClampNeg then none else f_X3_takeNext_L57 fu x1 (x2 + (1 : Int32)) (upd rf x2.toNatClampNeg ((rg x2.toNatClampNeg).toInt32)) rg)
def f_X3_takeNext_L15 : Nat → Int32 → Int32 → Int32 → (Nat → Int32) → (Nat → Int64) → Option (Int32 × Int32 × (Nat → Int32))
  | 0, _, _, _, _, _ => none
  | fu + 1, x1, x2, rK, rf, rg => if x1 ≤ x2 then ((f_X3_takeNext_L57 200 x1 (0 : Int32) rf rg).bind fun q2 => some ((0 : Int32), x1, q2)) else (if x2 < 0 ∨ 7 ≤ x2.toNatClampNeg then none else if (rg x2.toNatClampNeg) < (-500 : Int64) then (some ((-1000002 : Int32), rK, rf)) else (if x2 < 0 ∨ 7 ≤ x2.toNatClampNeg then none else if (rg x2.toNatClampNeg) ≤ (500 : Int64) then (f_X3_takeNext_L15 fu x1 (x2 + (1 : Int32)) rK rf rg) else (some ((-1000002 : Int32), rK, rf))))
def f_X3_takeNext (x1 : Int32) (rK : Int32) (rf : Nat → Int32) (rg : Nat → Int64) : Option (Int32 × Int32 × (Nat → Int32)) := (f_X6_isOutside x1 (1 : Int32) (7 : Int32)).bind fun q1 => if (bI q1) = 0 then (f_X3_takeNext_L15 200 x1 (0 : Int32) rK rf rg) else (some ((-1000002 : Int32), rK, rf))
set_option maxHeartbeats 4000000 in
set_option maxRecDepth 100000 in
theorem g_X3_takeNext_L57 {k : KX} {cy : Nat → ClassId} (C : OK k cX3_takeNext 3 3 cy 1 22) : ∀ (fu : Nat) (x1 : Int32) (x2 : Int32) (rK : Int32) (rf : Nat → Int32) (rg : Nat → Int64) (rpd : Int32) (rpn : Nat → Int64) (res : (Nat → Int32)), (f_X3_takeNext_L57 fu x1 x2 rf rg = some res) → G k 3 81 [(0, .ref 0), (1, .int x1)] [] (wRow cy 0 rK res rg rpd rpn) → G k 3 57 [(0, .ref 0), (1, .int x1), (2, .int x2)] [] (wRow cy 0 rK rf rg rpd rpn) := by
  intro fu
  induction fu with
  | zero =>
    intro x1 x2 rK rf rg rpd rpn res h hex
    rw [f_X3_takeNext_L57] at h
    cases h
  | succ fu ih =>
    intro x1 x2 rK rf rg rpd rpn res h hex
    rw [f_X3_takeNext_L57] at h
    refine G_r C [(.iload_n 2, 1, 0, 0, .null), (.iload_n 1, 1, 0, 0, .null)] 59 [(0, .ref 0), (1, .int x1), (2, .int x2)] [.int x1, .int x2] (wRow cy 0 rK rf rg rpd rpn) (by decide +kernel) rfl rfl ?_
    refine G_icmp_ge C (off := 22) (tgt := 81) (by decide +kernel) rfl (fun c => ?_) (fun c => ?_)
    · rw [if_pos c] at h
      have h := Option.some.inj h
      subst h
      refine G_lv [0, 1] (lv' := [(0, .ref 0), (1, .int x1)]) rfl ?_
      exact hex
    · rw [if_neg c] at h
      refine G_r C [(.aload_n 0, 1, 0, 0, .null), (.getfield 9, 3, 3, 0, .null), (.iload_n 2, 1, 0, 0, .null), (.aload_n 0, 1, 0, 0, .null), (.getfield 15, 3, 3, 1, .null), (.iload_n 2, 1, 0, 0, .null)] 72 [(0, .ref 0), (1, .int x1), (2, .int x2)] [.int x2, .ref 2, .int x2, .ref 1] (wRow cy 0 rK rf rg rpd rpn) (by decide +kernel) rfl rfl ?_
      obtain ⟨cg, h⟩ := oob h
      refine G_lald C (a := 2) rfl cg (by decide +kernel) ?_
      refine G_r C [(.l2i, 1, 0, 0, .null)] 74 [(0, .ref 0), (1, .int x1), (2, .int x2)] [.int ((rg x2.toNatClampNeg).toInt32), .int x2, .ref 1] (wRow cy 0 rK rf rg rpd rpn) (by decide +kernel) rfl rfl ?_
      obtain ⟨cg, h⟩ := oob h
      refine G_iast C (a := 1) (w' := (wRow cy 0 rK (upd rf x2.toNatClampNeg ((rg x2.toNatClampNeg).toInt32)) rg rpd rpn)) rfl cg (by decide +kernel) rfl ?_
      refine G_r C [(.iinc 2 1, 3, 0, 0, .int (1 : Int32))] 78 [(2, .int (x2 + (1 : Int32))), (0, .ref 0), (1, .int x1)] [] (wRow cy 0 rK (upd rf x2.toNatClampNeg ((rg x2.toNatClampNeg).toInt32)) rg rpd rpn) (by decide +kernel) rfl rfl ?_
      refine G_goto C (off := -21) (tgt := 57) (by decide +kernel) rfl ?_
      refine G_lv [1, 2, 0] (lv' := [(0, .ref 0), (1, .int x1), (2, .int (x2 + (1 : Int32)))]) rfl ?_
      exact ih x1 (x2 + (1 : Int32)) rK (upd rf x2.toNatClampNeg ((rg x2.toNatClampNeg).toInt32)) rg rpd rpn res h hex
set_option maxHeartbeats 4000000 in
set_option maxRecDepth 100000 in
theorem g_X3_takeNext_L15 {k : KX} {cy : Nat → ClassId} (C : OK k cX3_takeNext 3 3 cy 1 22) : ∀ (fu : Nat) (x1 : Int32) (x2 : Int32) (rK : Int32) (rf : Nat → Int32) (rg : Nat → Int64) (rpd : Int32) (rpn : Nat → Int64) (res : (Int32 × Int32 × (Nat → Int32))), RT k cy (some .int) (some (.int res.1)) (wRow cy 0 res.2.1 res.2.2 rg rpd rpn) → (f_X3_takeNext_L15 fu x1 x2 rK rf rg = some res) → G k 3 15 [(0, .ref 0), (1, .int x1), (2, .int x2)] [] (wRow cy 0 rK rf rg rpd rpn) := by
  intro fu
  induction fu with
  | zero =>
    intro x1 x2 rK rf rg rpd rpn res hR h
    rw [f_X3_takeNext_L15] at h
    cases h
  | succ fu ih =>
    intro x1 x2 rK rf rg rpd rpn res hR h
    rw [f_X3_takeNext_L15] at h
    refine G_r C [(.iload_n 2, 1, 0, 0, .null), (.iload_n 1, 1, 0, 0, .null)] 17 [(0, .ref 0), (1, .int x1), (2, .int x2)] [.int x1, .int x2] (wRow cy 0 rK rf rg rpd rpn) (by decide +kernel) rfl rfl ?_
    refine G_icmp_ge C (off := 38) (tgt := 55) (by decide +kernel) rfl (fun c => ?_) (fun c => ?_)
    · rw [if_pos c] at h
      refine G_r C [(.iconst 0, 1, 0, 0, .int (0 : Int32)), (.istore_n 2, 1, 0, 0, .null)] 57 [(2, .int (0 : Int32)), (0, .ref 0), (1, .int x1)] [] (wRow cy 0 rK rf rg rpd rpn) (by decide +kernel) rfl rfl ?_
      obtain ⟨q2, hq2, h⟩ := obd h
      refine G_lv [1, 2, 0] (lv' := [(0, .ref 0), (1, .int x1), (2, .int (0 : Int32))]) rfl ?_
      refine g_X3_takeNext_L57 C 200 x1 (0 : Int32) rK rf rg rpd rpn q2 hq2 ?_
      refine G_r C [(.aload_n 0, 1, 0, 0, .null), (.iload_n 1, 1, 0, 0, .null), (.putfield 26, 3, 3, 3, .null), (.iconst 0, 1, 0, 0, .int (0 : Int32))] 87 [(0, .ref 0), (1, .int x1)] [.int (0 : Int32)] (wRow cy 0 x1 q2 rg rpd rpn) (by decide +kernel) rfl rfl ?_
      have h := Option.some.inj h
      subst h
      exact G_iret C hR (by decide +kernel)
    · rw [if_neg c] at h
      refine G_r C [(.aload_n 0, 1, 0, 0, .null), (.getfield 15, 3, 3, 1, .null), (.iload_n 2, 1, 0, 0, .null)] 25 [(0, .ref 0), (1, .int x1), (2, .int x2)] [.int x2, .ref 2] (wRow cy 0 rK rf rg rpd rpn) (by decide +kernel) rfl rfl ?_
      obtain ⟨cg, h⟩ := oob h
      refine G_lald C (a := 2) rfl cg (by decide +kernel) ?_
      refine G_ldc2 C co_3_77 (by decide +kernel) ?_
      refine G_lcmp_lt C (off := 16) (tgt := 46) (by decide +kernel) (by decide +kernel) rfl (fun c => ?_) (fun c => ?_)
      · rw [if_pos c] at h
        refine G_ldc C co_3_55 (by decide +kernel) ?_
        have h := Option.some.inj h
        subst h
        exact G_iret C hR (by decide +kernel)
      · rw [if_neg c] at h
        refine G_r C [(.aload_n 0, 1, 0, 0, .null), (.getfield 15, 3, 3, 1, .null), (.iload_n 2, 1, 0, 0, .null)] 38 [(0, .ref 0), (1, .int x1), (2, .int x2)] [.int x2, .ref 2] (wRow cy 0 rK rf rg rpd rpn) (by decide +kernel) rfl rfl ?_
        obtain ⟨cg, h⟩ := oob h
        refine G_lald C (a := 2) rfl cg (by decide +kernel) ?_
        refine G_ldc2 C co_3_79 (by decide +kernel) ?_
        refine G_lcmp_le C (off := 6) (tgt := 49) (by decide +kernel) (by decide +kernel) rfl (fun c => ?_) (fun c => ?_)
        · rw [if_pos c] at h
          refine G_r C [(.iinc 2 1, 3, 0, 0, .int (1 : Int32))] 52 [(2, .int (x2 + (1 : Int32))), (0, .ref 0), (1, .int x1)] [] (wRow cy 0 rK rf rg rpd rpn) (by decide +kernel) rfl rfl ?_
          refine G_goto C (off := -37) (tgt := 15) (by decide +kernel) rfl ?_
          refine G_lv [1, 2, 0] (lv' := [(0, .ref 0), (1, .int x1), (2, .int (x2 + (1 : Int32)))]) rfl ?_
          exact ih x1 (x2 + (1 : Int32)) rK rf rg rpd rpn res hR h
        · rw [if_neg c] at h
          refine G_ldc C co_3_55 (by decide +kernel) ?_
          have h := Option.some.inj h
          subst h
          exact G_iret C hR (by decide +kernel)
set_option maxHeartbeats 4000000 in
set_option maxRecDepth 100000 in
theorem c_X3_takeNext (cy : Nat → ClassId) (rK : Int32) (rf : Nat → Int32) (rg : Nat → Int64) (rpd : Int32) (rpn : Nat → Int64) (x1 : Int32) (res : (Int32 × Int32 × (Nat → Int32))) (h : f_X3_takeNext x1 rK rf rg = some res) : MG cy yX3_takeNext cX3_takeNext 3 (some .int) 1 22 [.ref 0, .int x1] (wRow cy 0 rK rf rg rpd rpn) (some (.int res.1)) (wRow cy 0 res.2.1 res.2.2 rg rpd rpn) := by
  refine MG_of (o := 3) (lv := [(0, .ref 0), (1, .int x1)]) ⟨by decide +kernel, rfl⟩ (Nat.le_of_ble_eq_true rfl) rfl (fun k C hR => ?_)
  rw [f_X3_takeNext] at h
  refine G_r C [(.iload_n 1, 1, 0, 0, .null), (.iconst 1, 1, 0, 0, .int (1 : Int32)), (.bipush 7, 2, 0, 0, .int (7 : Int32))] 4 [(0, .ref 0), (1, .int x1)] [.int (7 : Int32), .int (1 : Int32), .int x1] (wRow cy 0 rK rf rg rpd rpn) (by decide +kernel) rfl rfl ?_
  obtain ⟨q1, hq1, h⟩ := obd h
  refine G_cN C lk_3_45 ⟨Nat.le_of_ble_eq_true rfl, Nat.le_of_ble_eq_true rfl⟩ (by decide +kernel) [.int (bI q1)] (c_X6_isOutside cy x1 (1 : Int32) (7 : Int32) q1 hq1) rfl rfl (Nat.le_of_ble_eq_true rfl) rfl ?_
  refine G_if_eq C (off := 6) (tgt := 13) (by decide +kernel) rfl (fun c => ?_) (fun c => ?_)
  · rw [if_pos c] at h
    refine G_r C [(.iconst 0, 1, 0, 0, .int (0 : Int32)), (.istore_n 2, 1, 0, 0, .null)] 15 [(2, .int (0 : Int32)), (0, .ref 0), (1, .int x1)] [] (wRow cy 0 rK rf rg rpd rpn) (by decide +kernel) rfl rfl ?_
    refine G_lv [1, 2, 0] (lv' := [(0, .ref 0), (1, .int x1), (2, .int (0 : Int32))]) rfl ?_
    exact g_X3_takeNext_L15 C 200 x1 (0 : Int32) rK rf rg rpd rpn res hR h
  · rw [if_neg c] at h
    refine G_ldc C co_3_55 (by decide +kernel) ?_
    have h := Option.some.inj h
    subst h
    exact G_iret C hR (by decide +kernel)
def f_X3_addPlace_L27 : Nat → Int32 → Int64 → Int32 → Int32 → (Nat → Int32) → (Nat → Int64) → Option (Nat → Int64)
  | 0, _, _, _, _, _, _ => none
  | fu + 1, x1, x3, x5, rK, rf, rg => if rK ≤ x5 then (some rg) else (if x5 < 0 ∨ 7 ≤ x5.toNatClampNeg then none else if x5 < 0 ∨ 7 ≤ x5.toNatClampNeg then none else f_X3_addPlace_L27 fu x1 (x3 * x1.toInt64) (x5 + (1 : Int32)) rK rf (vp_updL rg x5.toNatClampNeg (((rf x5.toNatClampNeg).toInt64) + x3)))
def f_X3_addPlace (x1 : Int32) (x2 : Int32) (rK : Int32) (rf : Nat → Int32) (rg : Nat → Int64) : Option (Int32 × Int32 × (Nat → Int32) × (Nat → Int64)) := (f_X3_isNoShift x1).bind fun q1 => if (bI q1) = 0 then ((f_X6_isOutside x2 (-99 : Int32) (99 : Int32)).bind fun q2 => if (bI q2) = 0 then ((f_X3_addPlace_L27 200 x1 x2.toInt64 (0 : Int32) rK rf rg).bind fun q3 => (f_X3_takeNext rK rK rf q3).bind fun q4 => some (q4.1, q4.2.1, q4.2.2, q3)) else (some ((-1000001 : Int32), rK, rf, rg))) else (some ((-1000001 : Int32), rK, rf, rg))
set_option maxHeartbeats 4000000 in
set_option maxRecDepth 100000 in
theorem g_X3_addPlace_L27 {k : KX} {cy : Nat → ClassId} (C : OK k cX3_addPlace 3 6 cy 2 44) : ∀ (fu : Nat) (x1 : Int32) (x3 : Int64) (x5 : Int32) (rK : Int32) (rf : Nat → Int32) (rg : Nat → Int64) (rpd : Int32) (rpn : Nat → Int64) (res : (Nat → Int64)), (f_X3_addPlace_L27 fu x1 x3 x5 rK rf rg = some res) → G k 6 64 [(0, .ref 0)] [] (wRow cy 0 rK rf res rpd rpn) → G k 6 27 [(0, .ref 0), (1, .int x1), (3, .long x3), (5, .int x5)] [] (wRow cy 0 rK rf rg rpd rpn) := by
  intro fu
  induction fu with
  | zero =>
    intro x1 x3 x5 rK rf rg rpd rpn res h hex
    rw [f_X3_addPlace_L27] at h
    cases h
  | succ fu ih =>
    intro x1 x3 x5 rK rf rg rpd rpn res h hex
    rw [f_X3_addPlace_L27] at h
    refine G_r C [(.iload 5, 2, 0, 0, .null), (.aload_n 0, 1, 0, 0, .null), (.getfield 26, 3, 3, 3, .null)] 33 [(0, .ref 0), (1, .int x1), (3, .long x3), (5, .int x5)] [.int rK, .int x5] (wRow cy 0 rK rf rg rpd rpn) (by decide +kernel) rfl rfl ?_
    refine G_icmp_ge C (off := 31) (tgt := 64) (by decide +kernel) rfl (fun c => ?_) (fun c => ?_)
    · rw [if_pos c] at h
      have h := Option.some.inj h
      subst h
      refine G_lv [0] (lv' := [(0, .ref 0)]) rfl ?_
      exact hex
    · rw [if_neg c] at h
      refine G_r C [(.aload_n 0, 1, 0, 0, .null), (.getfield 15, 3, 3, 1, .null), (.iload 5, 2, 0, 0, .null), (.aload_n 0, 1, 0, 0, .null), (.getfield 9, 3, 3, 0, .null), (.iload 5, 2, 0, 0, .null)] 48 [(0, .ref 0), (1, .int x1), (3, .long x3), (5, .int x5)] [.int x5, .ref 1, .int x5, .ref 2] (wRow cy 0 rK rf rg rpd rpn) (by decide +kernel) rfl rfl ?_
      obtain ⟨cg, h⟩ := oob h
      refine G_iald C (a := 1) rfl cg (by decide +kernel) ?_
      refine G_r C [(.i2l, 1, 0, 0, .null), (.lload_n 3, 1, 0, 0, .null), (.ladd, 1, 0, 0, .null)] 52 [(0, .ref 0), (1, .int x1), (3, .long x3), (5, .int x5)] [.long (((rf x5.toNatClampNeg).toInt64) + x3), .int x5, .ref 2] (wRow cy 0 rK rf rg rpd rpn) (by decide +kernel) rfl rfl ?_
      obtain ⟨cg, h⟩ := oob h
      refine G_last C (a := 2) (w' := (wRow cy 0 rK rf (vp_updL rg x5.toNatClampNeg (((rf x5.toNatClampNeg).toInt64) + x3)) rpd rpn)) rfl cg (by decide +kernel) rfl ?_
      refine G_r C [(.lload_n 3, 1, 0, 0, .null), (.iload_n 1, 1, 0, 0, .null), (.i2l, 1, 0, 0, .null), (.lmul, 1, 0, 0, .null), (.lstore_n 3, 1, 0, 0, .null), (.iinc 5 1, 3, 0, 0, .int (1 : Int32))] 61 [(5, .int (x5 + (1 : Int32))), (3, .long (x3 * x1.toInt64)), (0, .ref 0), (1, .int x1)] [] (wRow cy 0 rK rf (vp_updL rg x5.toNatClampNeg (((rf x5.toNatClampNeg).toInt64) + x3)) rpd rpn) (by decide +kernel) rfl rfl ?_
      refine G_goto C (off := -34) (tgt := 27) (by decide +kernel) rfl ?_
      refine G_lv [2, 3, 1, 0] (lv' := [(0, .ref 0), (1, .int x1), (3, .long (x3 * x1.toInt64)), (5, .int (x5 + (1 : Int32)))]) rfl ?_
      exact ih x1 (x3 * x1.toInt64) (x5 + (1 : Int32)) rK rf (vp_updL rg x5.toNatClampNeg (((rf x5.toNatClampNeg).toInt64) + x3)) rpd rpn res h hex
set_option maxHeartbeats 4000000 in
set_option maxRecDepth 100000 in
theorem c_X3_addPlace (cy : Nat → ClassId) (rK : Int32) (rf : Nat → Int32) (rg : Nat → Int64) (rpd : Int32) (rpn : Nat → Int64) (x1 : Int32) (x2 : Int32) (res : (Int32 × Int32 × (Nat → Int32) × (Nat → Int64))) (h : f_X3_addPlace x1 x2 rK rf rg = some res) : MG cy yX3_addPlace cX3_addPlace 6 (some .int) 2 44 [.ref 0, .int x1, .int x2] (wRow cy 0 rK rf rg rpd rpn) (some (.int res.1)) (wRow cy 0 res.2.1 res.2.2.1 res.2.2.2 rpd rpn) := by
  refine MG_of (o := 3) (lv := [(0, .ref 0), (1, .int x1), (2, .int x2)]) ⟨by decide +kernel, rfl⟩ (Nat.le_of_ble_eq_true rfl) rfl (fun k C hR => ?_)
  rw [f_X3_addPlace] at h
  refine G_r C [(.iload_n 1, 1, 0, 0, .null)] 1 [(0, .ref 0), (1, .int x1), (2, .int x2)] [.int x1] (wRow cy 0 rK rf rg rpd rpn) (by decide +kernel) rfl rfl ?_
  obtain ⟨q1, hq1, h⟩ := obd h
  refine G_cS C lk_3_56 ⟨Nat.le_of_ble_eq_true rfl, Nat.le_of_ble_eq_true rfl⟩ (by decide +kernel) [.int (bI q1)] (c_X3_isNoShift cy x1 q1 hq1) rfl rfl (Nat.le_of_ble_eq_true rfl) rfl ?_
  refine G_if_ne C (off := 14) (tgt := 18) (by decide +kernel) rfl (fun c => ?_) (fun c => ?_)
  · rw [if_neg c] at h
    refine G_ldc C co_3_53 (by decide +kernel) ?_
    have h := Option.some.inj h
    subst h
    exact G_iret C hR (by decide +kernel)
  · rw [if_pos c] at h
    refine G_r C [(.iload_n 2, 1, 0, 0, .null), (.bipush (-99), 2, 0, 0, .int (-99 : Int32)), (.bipush 99, 2, 0, 0, .int (99 : Int32))] 12 [(0, .ref 0), (1, .int x1), (2, .int x2)] [.int (99 : Int32), .int (-99 : Int32), .int x2] (wRow cy 0 rK rf rg rpd rpn) (by decide +kernel) rfl rfl ?_
    obtain ⟨q2, hq2, h⟩ := obd h
    refine G_cN C lk_3_45 ⟨Nat.le_of_ble_eq_true rfl, Nat.le_of_ble_eq_true rfl⟩ (by decide +kernel) [.int (bI q2)] (c_X6_isOutside cy x2 (-99 : Int32) (99 : Int32) q2 hq2) rfl rfl (Nat.le_of_ble_eq_true rfl) rfl ?_
    refine G_if_eq C (off := 6) (tgt := 21) (by decide +kernel) rfl (fun c => ?_) (fun c => ?_)
    · rw [if_pos c] at h
      refine G_r C [(.iload_n 2, 1, 0, 0, .null), (.i2l, 1, 0, 0, .null), (.lstore_n 3, 1, 0, 0, .null), (.iconst 0, 1, 0, 0, .int (0 : Int32)), (.istore 5, 2, 0, 0, .null)] 27 [(5, .int (0 : Int32)), (3, .long x2.toInt64), (0, .ref 0), (1, .int x1), (2, .int x2)] [] (wRow cy 0 rK rf rg rpd rpn) (by decide +kernel) rfl rfl ?_
      obtain ⟨q3, hq3, h⟩ := obd h
      refine G_lv [2, 3, 1, 0] (lv' := [(0, .ref 0), (1, .int x1), (3, .long x2.toInt64), (5, .int (0 : Int32))]) rfl ?_
      refine g_X3_addPlace_L27 C 200 x1 x2.toInt64 (0 : Int32) rK rf rg rpd rpn q3 hq3 ?_
      refine G_r C [(.aload_n 0, 1, 0, 0, .null), (.aload_n 0, 1, 0, 0, .null), (.getfield 26, 3, 3, 3, .null)] 69 [(0, .ref 0)] [.int rK, .ref 0] (wRow cy 0 rK rf q3 rpd rpn) (by decide +kernel) rfl rfl ?_
      obtain ⟨q4, hq4, h⟩ := obd h
      refine G_c0 C lk_3_59 ⟨Nat.le_of_ble_eq_true rfl, Nat.le_of_ble_eq_true rfl⟩ (by decide +kernel) [.int q4.1] (c_X3_takeNext cy rK rf q3 rpd rpn rK q4 hq4) rfl rfl (Nat.le_of_ble_eq_true rfl) ⟨rfl, rfl⟩ rfl ?_
      have h := Option.some.inj h
      subst h
      exact G_iret C hR (by decide +kernel)
    · rw [if_neg c] at h
      refine G_ldc C co_3_53 (by decide +kernel) ?_
      have h := Option.some.inj h
      subst h
      exact G_iret C hR (by decide +kernel)
def f_X6_adds (x1 : Int32) (x2 : Int32) (kb : Int32) (kn : Int32) (kf : Int32) (rK : Int32) (rf : Nat → Int32) (sf : Nat → Int32) (sg : Nat → Int64) (vo : Int32) (vd : Int32) (vs : Nat → Int32) : Option (Int32 × Int32 × Int32 × Int32 × Int32 × (Nat → Int32) × Int32 × (Nat → Int32) × (Nat → Int64) × Int32 × Int32 × (Nat → Int32)) := (f_X3_copy sf rK rf).bind fun q1 => (f_X3_addPlace x1 x2 q1.1 q1.2 sg).bind fun q2 => if q2.1 = 0 then ((f_X6_keepTrial rK rf q2.2.1 q2.2.2.1 vo vd vs).bind fun q3 => (f_X3_at (0 : Int32) q3.1 q3.2.1).bind fun q4 => some (q4, kb, kn, kf, q3.1, q3.2.1, q2.2.1, q2.2.2.1, q2.2.2.2, q3.2.2.1, q3.2.2.2.1, q3.2.2.2.2)) else ((f_X6_refuse q2.1 kb kn kf).bind fun q5 => some (q5.1, q5.2.1, q5.2.2.1, q5.2.2.2, rK, rf, q2.2.1, q2.2.2.1, q2.2.2.2, vo, vd, vs))
set_option maxHeartbeats 4000000 in
set_option maxRecDepth 100000 in
theorem c_X6_adds (cy : Nat → ClassId) (kb : Int32) (kn : Int32) (kf : Int32) (rK : Int32) (rf : Nat → Int32) (rg : Nat → Int64) (rpd : Int32) (rpn : Nat → Int64) (sK : Int32) (sf : Nat → Int32) (sg : Nat → Int64) (spd : Int32) (spn : Nat → Int64) (mc : Int32) (mm : Nat → Int64) (nc : Int32) (nm : Nat → Int64) (pd : Int32) (pn : Nat → Int64) (vo : Int32) (vd : Int32) (vs : Nat → Int32) (tl : Int32) (tb : Nat → Int32) (eo : Int32) (et : Int32) (ed : Int32) (em : Bool) (ef : Int32) (ez : Int32) (ek : Nat → Int32) (es : Nat → Int32) (en : Nat → Int32) (fi : Nat → Int32) (x1 : Int32) (x2 : Int32) (res : (Int32 × Int32 × Int32 × Int32 × Int32 × (Nat → Int32) × Int32 × (Nat → Int32) × (Nat → Int64) × Int32 × Int32 × (Nat → Int32))) (h : f_X6_adds x1 x2 kb kn kf rK rf sf sg vo vd vs = some res) : MG cy yX6_adds cX6_adds 4 (some .int) 4 85 [.ref 0, .int x1, .int x2] (wSR cy kb kn kf rK rf rg rpd rpn sK sf sg spd spn mc mm nc nm pd pn vo vd vs tl tb eo et ed em ef ez ek es en fi) (some (.int res.1)) (wSR cy res.2.1 res.2.2.1 res.2.2.2.1 res.2.2.2.2.1 res.2.2.2.2.2.1 rg rpd rpn res.2.2.2.2.2.2.1 res.2.2.2.2.2.2.2.1 res.2.2.2.2.2.2.2.2.1 spd spn mc mm nc nm pd pn res.2.2.2.2.2.2.2.2.2.1 res.2.2.2.2.2.2.2.2.2.2.1 res.2.2.2.2.2.2.2.2.2.2.2 tl tb eo et ed em ef ez ek es en fi) := by
  refine MG_of (o := 6) (lv := [(0, .ref 0), (1, .int x1), (2, .int x2)]) ⟨by decide +kernel, rfl⟩ (Nat.le_of_ble_eq_true rfl) rfl (fun k C hR => ?_)
  rw [f_X6_adds] at h
  refine G_r C [(.aload_n 0, 1, 0, 0, .null), (.getfield 16, 3, 6, 1, .null), (.aload_n 0, 1, 0, 0, .null), (.getfield 12, 3, 6, 0, .null)] 8 [(0, .ref 0), (1, .int x1), (2, .int x2)] [.ref 1, .ref 6] (wSR cy kb kn kf rK rf rg rpd rpn sK sf sg spd spn mc mm nc nm pd pn vo vd vs tl tb eo et ed em ef ez ek es en fi) (by decide +kernel) rfl rfl ?_
  obtain ⟨q1, hq1, h⟩ := obd h
  refine G_cV C lk_6_65 ⟨Nat.le_of_ble_eq_true rfl, Nat.le_of_ble_eq_true rfl⟩ (by decide +kernel) [6, 7, 8, 9, 10, 1, 2, 3, 4, 5] [] (wSR cy kb kn kf rK rf rg rpd rpn q1.1 q1.2 sg spd spn mc mm nc nm pd pn vo vd vs tl tb eo et ed em ef ez ek es en fi) (c_X3_copy cy sK sf sg spd spn rK rf rg rpd rpn q1 hq1) rfl rfl (Nat.le_of_ble_eq_true rfl) rfl rfl ⟨rfl, rfl⟩ rfl rfl rfl ?_
  refine G_r C [(.aload_n 0, 1, 0, 0, .null), (.getfield 16, 3, 6, 1, .null), (.iload_n 1, 1, 0, 0, .null), (.iload_n 2, 1, 0, 0, .null)] 17 [(0, .ref 0), (1, .int x1), (2, .int x2)] [.int x2, .int x1, .ref 6] (wSR cy kb kn kf rK rf rg rpd rpn q1.1 q1.2 sg spd spn mc mm nc nm pd pn vo vd vs tl tb eo et ed em ef ez ek es en fi) (by decide +kernel) rfl rfl ?_
  obtain ⟨q2, hq2, h⟩ := obd h
  refine G_cV C lk_6_89 ⟨Nat.le_of_ble_eq_true rfl, Nat.le_of_ble_eq_true rfl⟩ (by decide +kernel) [6, 7, 8, 9, 10] [.int q2.1] (wSR cy kb kn kf rK rf rg rpd rpn q2.2.1 q2.2.2.1 q2.2.2.2 spd spn mc mm nc nm pd pn vo vd vs tl tb eo et ed em ef ez ek es en fi) (c_X3_addPlace cy q1.1 q1.2 sg spd spn x1 x2 q2 hq2) rfl rfl (Nat.le_of_ble_eq_true rfl) rfl rfl ⟨rfl, rfl⟩ rfl rfl rfl ?_
  refine G_r C [(.istore_n 3, 1, 0, 0, .null), (.iload_n 3, 1, 0, 0, .null)] 22 [(3, .int q2.1), (0, .ref 0), (1, .int x1), (2, .int x2)] [.int q2.1] (wSR cy kb kn kf rK rf rg rpd rpn q2.2.1 q2.2.2.1 q2.2.2.2 spd spn mc mm nc nm pd pn vo vd vs tl tb eo et ed em ef ez ek es en fi) (by decide +kernel) rfl rfl ?_
  refine G_if_eq C (off := 9) (tgt := 31) (by decide +kernel) rfl (fun c => ?_) (fun c => ?_)
  · rw [if_pos c] at h
    refine G_r C [(.aload_n 0, 1, 0, 0, .null)] 32 [(3, .int q2.1), (0, .ref 0), (1, .int x1), (2, .int x2)] [.ref 0] (wSR cy kb kn kf rK rf rg rpd rpn q2.2.1 q2.2.2.1 q2.2.2.2 spd spn mc mm nc nm pd pn vo vd vs tl tb eo et ed em ef ez ek es en fi) (by decide +kernel) rfl rfl ?_
    obtain ⟨q3, hq3, h⟩ := obd h
    refine G_c0 C lk_6_76 ⟨Nat.le_of_ble_eq_true rfl, Nat.le_of_ble_eq_true rfl⟩ (by decide +kernel) [] (c_X6_keepTrial cy kb kn kf rK rf rg rpd rpn q2.2.1 q2.2.2.1 q2.2.2.2 spd spn mc mm nc nm pd pn vo vd vs tl tb eo et ed em ef ez ek es en fi q3 hq3) rfl rfl (Nat.le_of_ble_eq_true rfl) ⟨rfl, rfl⟩ rfl ?_
    refine G_r C [(.aload_n 0, 1, 0, 0, .null), (.getfield 12, 3, 6, 0, .null), (.iconst 0, 1, 0, 0, .int (0 : Int32))] 40 [(3, .int q2.1), (0, .ref 0), (1, .int x1), (2, .int x2)] [.int (0 : Int32), .ref 1] (wSR cy kb kn kf q3.1 q3.2.1 rg rpd rpn q2.2.1 q2.2.2.1 q2.2.2.2 spd spn mc mm nc nm pd pn q3.2.2.1 q3.2.2.2.1 q3.2.2.2.2 tl tb eo et ed em ef ez ek es en fi) (by decide +kernel) rfl rfl ?_
    obtain ⟨q4, hq4, h⟩ := obd h
    refine G_cV C lk_6_61 ⟨Nat.le_of_ble_eq_true rfl, Nat.le_of_ble_eq_true rfl⟩ (by decide +kernel) [1, 2, 3, 4, 5] [.int q4] (wSR cy kb kn kf q3.1 q3.2.1 rg rpd rpn q2.2.1 q2.2.2.1 q2.2.2.2 spd spn mc mm nc nm pd pn q3.2.2.1 q3.2.2.2.1 q3.2.2.2.2 tl tb eo et ed em ef ez ek es en fi) (c_X3_at cy q3.1 q3.2.1 rg rpd rpn (0 : Int32) q4 hq4) rfl rfl (Nat.le_of_ble_eq_true rfl) rfl rfl ⟨rfl, rfl⟩ rfl rfl rfl ?_
    have h := Option.some.inj h
    subst h
    exact G_iret C hR (by decide +kernel)
  · rw [if_neg c] at h
    refine G_r C [(.aload_n 0, 1, 0, 0, .null), (.iload_n 3, 1, 0, 0, .null)] 27 [(3, .int q2.1), (0, .ref 0), (1, .int x1), (2, .int x2)] [.int q2.1, .ref 0] (wSR cy kb kn kf rK rf rg rpd rpn q2.2.1 q2.2.2.1 q2.2.2.2 spd spn mc mm nc nm pd pn vo vd vs tl tb eo et ed em ef ez ek es en fi) (by decide +kernel) rfl rfl ?_
    obtain ⟨q5, hq5, h⟩ := obd h
    refine G_c0 C lk_6_73 ⟨Nat.le_of_ble_eq_true rfl, Nat.le_of_ble_eq_true rfl⟩ (by decide +kernel) [.int q5.1] (c_X6_refuse cy kb kn kf rK rf rg rpd rpn q2.2.1 q2.2.2.1 q2.2.2.2 spd spn mc mm nc nm pd pn vo vd vs tl tb eo et ed em ef ez ek es en fi q2.1 q5 hq5) rfl rfl (Nat.le_of_ble_eq_true rfl) ⟨rfl, rfl⟩ rfl ?_
    have h := Option.some.inj h
    subst h
    exact G_iret C hR (by decide +kernel)
def f_X1_begin (pn : Nat → Int64) : Option (Int32 × (Nat → Int64)) := if (0 : Int32) < 0 ∨ 8 ≤ (0 : Int32).toNatClampNeg then none else some ((0 : Int32), (vp_updL pn (0 : Int32).toNatClampNeg (1 : Int64)))
set_option maxHeartbeats 4000000 in
set_option maxRecDepth 100000 in
theorem c_X1_begin (cy : Nat → ClassId) (pd : Int32) (pn : Nat → Int64)  (res : (Int32 × (Nat → Int64))) (h : f_X1_begin pn = some res) : MG cy yX1_begin cX1_begin 1 none 0 0 [.ref 0] (wProd cy 0 pd pn) none (wProd cy 0 res.1 res.2) := by
  refine MG_of (o := 1) (lv := [(0, .ref 0)]) ⟨by decide +kernel, rfl⟩ (Nat.le_of_ble_eq_true rfl) rfl (fun k C hR => ?_)
  rw [f_X1_begin] at h
  refine G_r C [(.aload_n 0, 1, 0, 0, .null), (.getfield 9, 3, 1, 0, .null), (.iconst 0, 1, 0, 0, .int (0 : Int32)), (.lconst 1, 1, 0, 0, .long (1 : Int64))] 6 [(0, .ref 0)] [.long (1 : Int64), .int (0 : Int32), .ref 1] (wProd cy 0 pd pn) (by decide +kernel) rfl rfl ?_
  obtain ⟨cg, h⟩ := oob h
  refine G_last C (a := 1) (w' := (wProd cy 0 pd (vp_updL pn (0 : Int32).toNatClampNeg (1 : Int64)))) rfl cg (by decide +kernel) rfl ?_
  refine G_r C [(.aload_n 0, 1, 0, 0, .null), (.iconst 0, 1, 0, 0, .int (0 : Int32)), (.putfield 15, 3, 1, 1, .null)] 12 [(0, .ref 0)] [] (wProd cy 0 (0 : Int32) (vp_updL pn (0 : Int32).toNatClampNeg (1 : Int64))) (by decide +kernel) rfl rfl ?_
  have h := Option.some.inj h
  subst h
  exact G_vret C hR (by decide +kernel)
def f_X1_degree (pd : Int32) : Option Int32 := some pd
set_option maxHeartbeats 4000000 in
set_option maxRecDepth 100000 in
theorem c_X1_degree (cy : Nat → ClassId) (pd : Int32) (pn : Nat → Int64)  (res : Int32) (h : f_X1_degree pd = some res) : MG cy yX1_degree cX1_degree 1 (some .int) 0 0 [.ref 0] (wProd cy 0 pd pn) (some (.int res)) (wProd cy 0 pd pn) := by
  refine MG_of (o := 1) (lv := [(0, .ref 0)]) ⟨by decide +kernel, rfl⟩ (Nat.le_of_ble_eq_true rfl) rfl (fun k C hR => ?_)
  rw [f_X1_degree] at h
  refine G_r C [(.aload_n 0, 1, 0, 0, .null), (.getfield 15, 3, 1, 1, .null)] 4 [(0, .ref 0)] [.int pd] (wProd cy 0 pd pn) (by decide +kernel) rfl rfl ?_
  have h := Option.some.inj h
  subst h
  exact G_iret C hR (by decide +kernel)
def f_X1_number (x1 : Int32) (pd : Int32) (pn : Nat → Int64) : Option Int64 := if x1 < 0 then (some (0 : Int64)) else (if pd < x1 then (some (0 : Int64)) else (if x1 ≤ (7 : Int32) then (if x1 < 0 ∨ 8 ≤ x1.toNatClampNeg then none else some (pn x1.toNatClampNeg)) else (some (0 : Int64))))
set_option maxHeartbeats 4000000 in
set_option maxRecDepth 100000 in
theorem c_X1_number (cy : Nat → ClassId) (pd : Int32) (pn : Nat → Int64) (x1 : Int32) (res : Int64) (h : f_X1_number x1 pd pn = some res) : MG cy yX1_number cX1_number 2 (some .long) 0 0 [.ref 0, .int x1] (wProd cy 0 pd pn) (some (.long res)) (wProd cy 0 pd pn) := by
  refine MG_of (o := 1) (lv := [(0, .ref 0), (1, .int x1)]) ⟨by decide +kernel, rfl⟩ (Nat.le_of_ble_eq_true rfl) rfl (fun k C hR => ?_)
  rw [f_X1_number] at h
  refine G_r C [(.iload_n 1, 1, 0, 0, .null)] 1 [(0, .ref 0), (1, .int x1)] [.int x1] (wProd cy 0 pd pn) (by decide +kernel) rfl rfl ?_
  refine G_if_lt C (off := 17) (tgt := 18) (by decide +kernel) rfl (fun c => ?_) (fun c => ?_)
  · rw [if_pos c] at h
    refine G_r C [(.lconst 0, 1, 0, 0, .long (0 : Int64))] 19 [(0, .ref 0), (1, .int x1)] [.long (0 : Int64)] (wProd cy 0 pd pn) (by decide +kernel) rfl rfl ?_
    refine G_goto C (off := 9) (tgt := 28) (by decide +kernel) rfl ?_
    have h := Option.some.inj h
    subst h
    exact G_lret C hR (by decide +kernel)
  · rw [if_neg c] at h
    refine G_r C [(.iload_n 1, 1, 0, 0, .null), (.aload_n 0, 1, 0, 0, .null), (.getfield 15, 3, 1, 1, .null)] 9 [(0, .ref 0), (1, .int x1)] [.int pd, .int x1] (wProd cy 0 pd pn) (by decide +kernel) rfl rfl ?_
    refine G_icmp_gt C (off := 9) (tgt := 18) (by decide +kernel) rfl (fun c => ?_) (fun c => ?_)
    · rw [if_pos c] at h
      refine G_r C [(.lconst 0, 1, 0, 0, .long (0 : Int64))] 19 [(0, .ref 0), (1, .int x1)] [.long (0 : Int64)] (wProd cy 0 pd pn) (by decide +kernel) rfl rfl ?_
      refine G_goto C (off := 9) (tgt := 28) (by decide +kernel) rfl ?_
      have h := Option.some.inj h
      subst h
      exact G_lret C hR (by decide +kernel)
    · rw [if_neg c] at h
      refine G_r C [(.iload_n 1, 1, 0, 0, .null), (.bipush 7, 2, 0, 0, .int (7 : Int32))] 15 [(0, .ref 0), (1, .int x1)] [.int (7 : Int32), .int x1] (wProd cy 0 pd pn) (by decide +kernel) rfl rfl ?_
      refine G_icmp_le C (off := 7) (tgt := 22) (by decide +kernel) rfl (fun c => ?_) (fun c => ?_)
      · rw [if_pos c] at h
        refine G_r C [(.aload_n 0, 1, 0, 0, .null), (.getfield 9, 3, 1, 0, .null), (.iload_n 1, 1, 0, 0, .null)] 27 [(0, .ref 0), (1, .int x1)] [.int x1, .ref 1] (wProd cy 0 pd pn) (by decide +kernel) rfl rfl ?_
        obtain ⟨cg, h⟩ := oob h
        refine G_lald C (a := 1) rfl cg (by decide +kernel) ?_
        have h := Option.some.inj h
        subst h
        exact G_lret C hR (by decide +kernel)
      · rw [if_neg c] at h
        refine G_r C [(.lconst 0, 1, 0, 0, .long (0 : Int64))] 19 [(0, .ref 0), (1, .int x1)] [.long (0 : Int64)] (wProd cy 0 pd pn) (by decide +kernel) rfl rfl ?_
        refine G_goto C (off := 9) (tgt := 28) (by decide +kernel) rfl ?_
        have h := Option.some.inj h
        subst h
        exact G_lret C hR (by decide +kernel)
def f_X3_mean_L5 : Nat → Int32 → Int64 → Int32 → Int32 → (Nat → Int32) → Int32 → (Nat → Int64) → Option Int64
  | 0, _, _, _, _, _, _, _ => none
  | fu + 1, x2, x3, x5, rK, rf, rpd, rpn => (f_X1_degree rpd).bind fun q1 => if q1 < x5 then (some x3) else ((f_X1_number x5 rpd rpn).bind fun q2 => (f_X3_at (x5 + x2) rK rf).bind fun q3 => f_X3_mean_L5 fu x2 (x3 + (q2 * q3.toInt64)) (x5 + (1 : Int32)) rK rf rpd rpn)
def f_X3_mean (x2 : Int32) (rK : Int32) (rf : Nat → Int32) (rpd : Int32) (rpn : Nat → Int64) : Option Int64 := (f_X3_mean_L5 200 x2 (0 : Int64) (0 : Int32) rK rf rpd rpn).bind fun q4 => some q4
set_option maxHeartbeats 4000000 in
set_option maxRecDepth 100000 in
theorem g_X3_mean_L5 {k : KX} {cy : Nat → ClassId} (C : OK k cX3_mean 3 6 cy 1 21) : ∀ (fu : Nat) (x2 : Int32) (x3 : Int64) (x5 : Int32) (rK : Int32) (rf : Nat → Int32) (rg : Nat → Int64) (rpd : Int32) (rpn : Nat → Int64) (res : Int64), (f_X3_mean_L5 fu x2 x3 x5 rK rf rpd rpn = some res) → G k 6 39 [(3, .long res)] [] (wRow cy 0 rK rf rg rpd rpn) → G k 6 5 [(0, .ref 0), (1, .ref 3), (2, .int x2), (3, .long x3), (5, .int x5)] [] (wRow cy 0 rK rf rg rpd rpn) := by
  intro fu
  induction fu with
  | zero =>
    intro x2 x3 x5 rK rf rg rpd rpn res h hex
    rw [f_X3_mean_L5] at h
    cases h
  | succ fu ih =>
    intro x2 x3 x5 rK rf rg rpd rpn res h hex
    rw [f_X3_mean_L5] at h
    refine G_r C [(.iload 5, 2, 0, 0, .null), (.aload_n 1, 1, 0, 0, .null)] 8 [(0, .ref 0), (1, .ref 3), (2, .int x2), (3, .long x3), (5, .int x5)] [.ref 3, .int x5] (wRow cy 0 rK rf rg rpd rpn) (by decide +kernel) rfl rfl ?_
    obtain ⟨q1, hq1, h⟩ := obd h
    refine G_cV C lk_3_30 ⟨Nat.le_of_ble_eq_true rfl, Nat.le_of_ble_eq_true rfl⟩ (by decide +kernel) [3, 4] [.int q1, .int x5] (wRow cy 0 rK rf rg rpd rpn) (c_X1_degree cy rpd rpn q1 hq1) rfl rfl (Nat.le_of_ble_eq_true rfl) rfl rfl ⟨rfl, rfl⟩ rfl rfl rfl ?_
    refine G_icmp_gt C (off := 28) (tgt := 39) (by decide +kernel) rfl (fun c => ?_) (fun c => ?_)
    · rw [if_pos c] at h
      have h := Option.some.inj h
      subst h
      refine G_lv [3] (lv' := [(3, .long x3)]) rfl ?_
      exact hex
    · rw [if_neg c] at h
      refine G_r C [(.lload_n 3, 1, 0, 0, .null), (.aload_n 1, 1, 0, 0, .null), (.iload 5, 2, 0, 0, .null)] 18 [(0, .ref 0), (1, .ref 3), (2, .int x2), (3, .long x3), (5, .int x5)] [.int x5, .ref 3, .long x3] (wRow cy 0 rK rf rg rpd rpn) (by decide +kernel) rfl rfl ?_
      obtain ⟨q2, hq2, h⟩ := obd h
      refine G_cV C lk_3_34 ⟨Nat.le_of_ble_eq_true rfl, Nat.le_of_ble_eq_true rfl⟩ (by decide +kernel) [3, 4] [.long q2, .long x3] (wRow cy 0 rK rf rg rpd rpn) (c_X1_number cy rpd rpn x5 q2 hq2) rfl rfl (Nat.le_of_ble_eq_true rfl) rfl rfl ⟨rfl, rfl⟩ rfl rfl rfl ?_
      refine G_r C [(.aload_n 0, 1, 0, 0, .null), (.iload 5, 2, 0, 0, .null), (.iload_n 2, 1, 0, 0, .null), (.iadd, 1, 0, 0, .null)] 26 [(0, .ref 0), (1, .ref 3), (2, .int x2), (3, .long x3), (5, .int x5)] [.int (x5 + x2), .ref 0, .long q2, .long x3] (wRow cy 0 rK rf rg rpd rpn) (by decide +kernel) rfl rfl ?_
      obtain ⟨q3, hq3, h⟩ := obd h
      refine G_c0 C lk_3_38 ⟨Nat.le_of_ble_eq_true rfl, Nat.le_of_ble_eq_true rfl⟩ (by decide +kernel) [.int q3, .long q2, .long x3] (c_X3_at cy rK rf rg rpd rpn (x5 + x2) q3 hq3) rfl rfl (Nat.le_of_ble_eq_true rfl) ⟨rfl, rfl⟩ rfl ?_
      refine G_r C [(.i2l, 1, 0, 0, .null), (.lmul, 1, 0, 0, .null), (.ladd, 1, 0, 0, .null), (.lstore_n 3, 1, 0, 0, .null), (.iinc 5 1, 3, 0, 0, .int (1 : Int32))] 36 [(5, .int (x5 + (1 : Int32))), (3, .long (x3 + (q2 * q3.toInt64))), (0, .ref 0), (1, .ref 3), (2, .int x2)] [] (wRow cy 0 rK rf rg rpd rpn) (by decide +kernel) rfl rfl ?_
      refine G_goto C (off := -31) (tgt := 5) (by decide +kernel) rfl ?_
      refine G_lv [2, 3, 4, 1, 0] (lv' := [(0, .ref 0), (1, .ref 3), (2, .int x2), (3, .long (x3 + (q2 * q3.toInt64))), (5, .int (x5 + (1 : Int32)))]) rfl ?_
      exact ih x2 (x3 + (q2 * q3.toInt64)) (x5 + (1 : Int32)) rK rf rg rpd rpn res h hex
set_option maxHeartbeats 4000000 in
set_option maxRecDepth 100000 in
theorem c_X3_mean (cy : Nat → ClassId) (rK : Int32) (rf : Nat → Int32) (rg : Nat → Int64) (rpd : Int32) (rpn : Nat → Int64) (x2 : Int32) (res : Int64) (h : f_X3_mean x2 rK rf rpd rpn = some res) : MG cy yX3_mean cX3_mean 6 (some .long) 1 21 [.ref 0, .ref 3, .int x2] (wRow cy 0 rK rf rg rpd rpn) (some (.long res)) (wRow cy 0 rK rf rg rpd rpn) := by
  refine MG_of (o := 3) (lv := [(0, .ref 0), (1, .ref 3), (2, .int x2)]) ⟨by decide +kernel, rfl⟩ (Nat.le_of_ble_eq_true rfl) rfl (fun k C hR => ?_)
  rw [f_X3_mean] at h
  refine G_r C [(.lconst 0, 1, 0, 0, .long (0 : Int64)), (.lstore_n 3, 1, 0, 0, .null), (.iconst 0, 1, 0, 0, .int (0 : Int32)), (.istore 5, 2, 0, 0, .null)] 5 [(5, .int (0 : Int32)), (3, .long (0 : Int64)), (0, .ref 0), (1, .ref 3), (2, .int x2)] [] (wRow cy 0 rK rf rg rpd rpn) (by decide +kernel) rfl rfl ?_
  obtain ⟨q4, hq4, h⟩ := obd h
  refine G_lv [2, 3, 4, 1, 0] (lv' := [(0, .ref 0), (1, .ref 3), (2, .int x2), (3, .long (0 : Int64)), (5, .int (0 : Int32))]) rfl ?_
  refine g_X3_mean_L5 C 200 x2 (0 : Int64) (0 : Int32) rK rf rg rpd rpn q4 hq4 ?_
  refine G_r C [(.lload_n 3, 1, 0, 0, .null)] 40 [(3, .long q4)] [.long q4] (wRow cy 0 rK rf rg rpd rpn) (by decide +kernel) rfl rfl ?_
  have h := Option.some.inj h
  subst h
  exact G_lret C hR (by decide +kernel)
def f_X1_times_L17 : Nat → Int32 → Int32 → Int32 → (Nat → Int64) → Option (Nat → Int64)
  | 0, _, _, _, _ => none
  | fu + 1, x1, x2, pd, pn => if x2 < 0 then (some pn) else ((f_X1_number (x2 - (1 : Int32)) pd pn).bind fun q1 => (f_X1_number x2 pd pn).bind fun q2 => if x2 < 0 ∨ 8 ≤ x2.toNatClampNeg then none else f_X1_times_L17 fu x1 (x2 + (-1 : Int32)) pd (vp_updL pn x2.toNatClampNeg (q1 + (x1.toInt64 * q2))))
def f_X1_times (x1 : Int32) (pd : Int32) (pn : Nat → Int64) : Option (Int32 × (Nat → Int64)) := if pd < (7 : Int32) then ((f_X1_times_L17 200 x1 (pd + (1 : Int32)) pd pn).bind fun q3 => some ((pd + (1 : Int32)), q3)) else (some (pd, pn))
set_option maxHeartbeats 4000000 in
set_option maxRecDepth 100000 in
theorem g_X1_times_L17 {k : KX} {cy : Nat → ClassId} (C : OK k cX1_times 1 3 cy 1 21) : ∀ (fu : Nat) (x1 : Int32) (x2 : Int32) (pd : Int32) (pn : Nat → Int64) (res : (Nat → Int64)), (f_X1_times_L17 fu x1 x2 pd pn = some res) → G k 3 49 [(0, .ref 0)] [] (wProd cy 0 pd res) → G k 3 17 [(0, .ref 0), (1, .int x1), (2, .int x2)] [] (wProd cy 0 pd pn) := by
  intro fu
  induction fu with
  | zero =>
    intro x1 x2 pd pn res h hex
    rw [f_X1_times_L17] at h
    cases h
  | succ fu ih =>
    intro x1 x2 pd pn res h hex
    rw [f_X1_times_L17] at h
    refine G_r C [(.iload_n 2, 1, 0, 0, .null)] 18 [(0, .ref 0), (1, .int x1), (2, .int x2)] [.int x2] (wProd cy 0 pd pn) (by decide +kernel) rfl rfl ?_
    refine G_if_lt C (off := 31) (tgt := 49) (by decide +kernel) rfl (fun c => ?_) (fun c => ?_)
    · rw [if_pos c] at h
      have h := Option.some.inj h
      subst h
      refine G_lv [0] (lv' := [(0, .ref 0)]) rfl ?_
      exact hex
    · rw [if_neg c] at h
      refine G_r C [(.aload_n 0, 1, 0, 0, .null), (.getfield 9, 3, 1, 0, .null), (.iload_n 2, 1, 0, 0, .null), (.aload_n 0, 1, 0, 0, .null), (.iload_n 2, 1, 0, 0, .null), (.iconst 1, 1, 0, 0, .int (1 : Int32)), (.isub, 1, 0, 0, .null)] 30 [(0, .ref 0), (1, .int x1), (2, .int x2)] [.int (x2 - (1 : Int32)), .ref 0, .int x2, .ref 1] (wProd cy 0 pd pn) (by decide +kernel) rfl rfl ?_
      obtain ⟨q1, hq1, h⟩ := obd h
      refine G_c0 C lk_1_19 ⟨Nat.le_of_ble_eq_true rfl, Nat.le_of_ble_eq_true rfl⟩ (by decide +kernel) [.long q1, .int x2, .ref 1] (c_X1_number cy pd pn (x2 - (1 : Int32)) q1 hq1) rfl rfl (Nat.le_of_ble_eq_true rfl) ⟨rfl, rfl⟩ rfl ?_
      refine G_r C [(.iload_n 1, 1, 0, 0, .null), (.i2l, 1, 0, 0, .null), (.aload_n 0, 1, 0, 0, .null), (.iload_n 2, 1, 0, 0, .null)] 37 [(0, .ref 0), (1, .int x1), (2, .int x2)] [.int x2, .ref 0, .long x1.toInt64, .long q1, .int x2, .ref 1] (wProd cy 0 pd pn) (by decide +kernel) rfl rfl ?_
      obtain ⟨q2, hq2, h⟩ := obd h
      refine G_c0 C lk_1_19 ⟨Nat.le_of_ble_eq_true rfl, Nat.le_of_ble_eq_true rfl⟩ (by decide +kernel) [.long q2, .long x1.toInt64, .long q1, .int x2, .ref 1] (c_X1_number cy pd pn x2 q2 hq2) rfl rfl (Nat.le_of_ble_eq_true rfl) ⟨rfl, rfl⟩ rfl ?_
      refine G_r C [(.lmul, 1, 0, 0, .null), (.ladd, 1, 0, 0, .null)] 42 [(0, .ref 0), (1, .int x1), (2, .int x2)] [.long (q1 + (x1.toInt64 * q2)), .int x2, .ref 1] (wProd cy 0 pd pn) (by decide +kernel) rfl rfl ?_
      obtain ⟨cg, h⟩ := oob h
      refine G_last C (a := 1) (w' := (wProd cy 0 pd (vp_updL pn x2.toNatClampNeg (q1 + (x1.toInt64 * q2))))) rfl cg (by decide +kernel) rfl ?_
      refine G_r C [(.iinc 2 (-1), 3, 0, 0, .int (-1 : Int32))] 46 [(2, .int (x2 + (-1 : Int32))), (0, .ref 0), (1, .int x1)] [] (wProd cy 0 pd (vp_updL pn x2.toNatClampNeg (q1 + (x1.toInt64 * q2)))) (by decide +kernel) rfl rfl ?_
      refine G_goto C (off := -29) (tgt := 17) (by decide +kernel) rfl ?_
      refine G_lv [1, 2, 0] (lv' := [(0, .ref 0), (1, .int x1), (2, .int (x2 + (-1 : Int32)))]) rfl ?_
      exact ih x1 (x2 + (-1 : Int32)) pd (vp_updL pn x2.toNatClampNeg (q1 + (x1.toInt64 * q2))) res h hex
set_option maxHeartbeats 4000000 in
set_option maxRecDepth 100000 in
theorem c_X1_times (cy : Nat → ClassId) (pd : Int32) (pn : Nat → Int64) (x1 : Int32) (res : (Int32 × (Nat → Int64))) (h : f_X1_times x1 pd pn = some res) : MG cy yX1_times cX1_times 3 none 1 21 [.ref 0, .int x1] (wProd cy 0 pd pn) none (wProd cy 0 res.1 res.2) := by
  refine MG_of (o := 1) (lv := [(0, .ref 0), (1, .int x1)]) ⟨by decide +kernel, rfl⟩ (Nat.le_of_ble_eq_true rfl) rfl (fun k C hR => ?_)
  rw [f_X1_times] at h
  refine G_r C [(.aload_n 0, 1, 0, 0, .null), (.getfield 15, 3, 1, 1, .null), (.bipush 7, 2, 0, 0, .int (7 : Int32))] 6 [(0, .ref 0), (1, .int x1)] [.int (7 : Int32), .int pd] (wProd cy 0 pd pn) (by decide +kernel) rfl rfl ?_
  refine G_icmp_lt C (off := 4) (tgt := 10) (by decide +kernel) rfl (fun c => ?_) (fun c => ?_)
  · rw [if_pos c] at h
    refine G_r C [(.aload_n 0, 1, 0, 0, .null), (.getfield 15, 3, 1, 1, .null), (.iconst 1, 1, 0, 0, .int (1 : Int32)), (.iadd, 1, 0, 0, .null), (.istore_n 2, 1, 0, 0, .null)] 17 [(2, .int (pd + (1 : Int32))), (0, .ref 0), (1, .int x1)] [] (wProd cy 0 pd pn) (by decide +kernel) rfl rfl ?_
    obtain ⟨q3, hq3, h⟩ := obd h
    refine G_lv [1, 2, 0] (lv' := [(0, .ref 0), (1, .int x1), (2, .int (pd + (1 : Int32)))]) rfl ?_
    refine g_X1_times_L17 C 200 x1 (pd + (1 : Int32)) pd pn q3 hq3 ?_
    refine G_r C [(.aload_n 0, 1, 0, 0, .null), (.dup, 1, 0, 0, .null), (.getfield 15, 3, 1, 1, .null), (.iconst 1, 1, 0, 0, .int (1 : Int32)), (.iadd, 1, 0, 0, .null), (.putfield 15, 3, 1, 1, .null)] 59 [(0, .ref 0)] [] (wProd cy 0 (pd + (1 : Int32)) q3) (by decide +kernel) rfl rfl ?_
    have h := Option.some.inj h
    subst h
    exact G_vret C hR (by decide +kernel)
  · rw [if_neg c] at h
    have h := Option.some.inj h
    subst h
    exact G_vret C hR (by decide +kernel)
def f_X3_shift_L19 : Nat → Int32 → Int32 → Int32 → (Nat → Int32) → (Nat → Int64) → Int32 → (Nat → Int64) → Option ((Nat → Int64) × Int32 × (Nat → Int64))
  | 0, _, _, _, _, _, _, _ => none
  | fu + 1, x1, x2, rK, rf, rg, rpd, rpn => if rK ≤ x2 then (some (rg, rpd, rpn)) else ((f_X3_mean (0 : Int32) rK rf rpd rpn).bind fun q3 => if x2 < 0 ∨ 7 ≤ x2.toNatClampNeg then none else (f_X1_times x1 rpd rpn).bind fun q4 => f_X3_shift_L19 fu x1 (x2 + (1 : Int32)) rK rf (vp_updL rg x2.toNatClampNeg q3) q4.1 q4.2)
def f_X3_shift (x1 : Int32) (rK : Int32) (rf : Nat → Int32) (rg : Nat → Int64) (rpd : Int32) (rpn : Nat → Int64) : Option (Int32 × Int32 × (Nat → Int32) × (Nat → Int64) × Int32 × (Nat → Int64)) := (f_X3_isNoShift x1).bind fun q1 => if (bI q1) = 0 then ((f_X1_begin rpn).bind fun q2 => (f_X3_shift_L19 200 x1 (0 : Int32) rK rf rg q2.1 q2.2).bind fun q5 => (f_X3_takeNext rK rK rf q5.1).bind fun q6 => some (q6.1, q6.2.1, q6.2.2, q5.1, q5.2.1, q5.2.2)) else (some ((-1000001 : Int32), rK, rf, rg, rpd, rpn))
set_option maxHeartbeats 4000000 in
set_option maxRecDepth 100000 in
theorem g_X3_shift_L19 {k : KX} {cy : Nat → ClassId} (C : OK k cX3_shift 3 3 cy 2 46) : ∀ (fu : Nat) (x1 : Int32) (x2 : Int32) (rK : Int32) (rf : Nat → Int32) (rg : Nat → Int64) (rpd : Int32) (rpn : Nat → Int64) (res : ((Nat → Int64) × Int32 × (Nat → Int64))), (f_X3_shift_L19 fu x1 x2 rK rf rg rpd rpn = some res) → G k 3 56 [(0, .ref 0)] [] (wRow cy 0 rK rf res.1 res.2.1 res.2.2) → G k 3 19 [(0, .ref 0), (1, .int x1), (2, .int x2)] [] (wRow cy 0 rK rf rg rpd rpn) := by
  intro fu
  induction fu with
  | zero =>
    intro x1 x2 rK rf rg rpd rpn res h hex
    rw [f_X3_shift_L19] at h
    cases h
  | succ fu ih =>
    intro x1 x2 rK rf rg rpd rpn res h hex
    rw [f_X3_shift_L19] at h
    refine G_r C [(.iload_n 2, 1, 0, 0, .null), (.aload_n 0, 1, 0, 0, .null), (.getfield 26, 3, 3, 3, .null)] 24 [(0, .ref 0), (1, .int x1), (2, .int x2)] [.int rK, .int x2] (wRow cy 0 rK rf rg rpd rpn) (by decide +kernel) rfl rfl ?_
    refine G_icmp_ge C (off := 32) (tgt := 56) (by decide +kernel) rfl (fun c => ?_) (fun c => ?_)
    · rw [if_pos c] at h
      have h := Option.some.inj h
      subst h
      refine G_lv [0] (lv' := [(0, .ref 0)]) rfl ?_
      exact hex
    · rw [if_neg c] at h
      refine G_r C [(.aload_n 0, 1, 0, 0, .null), (.getfield 15, 3, 3, 1, .null), (.iload_n 2, 1, 0, 0, .null), (.aload_n 0, 1, 0, 0, .null), (.aload_n 0, 1, 0, 0, .null), (.getfield 22, 3, 3, 2, .null), (.iconst 0, 1, 0, 0, .int (0 : Int32))] 38 [(0, .ref 0), (1, .int x1), (2, .int x2)] [.int (0 : Int32), .ref 3, .ref 0, .int x2, .ref 2] (wRow cy 0 rK rf rg rpd rpn) (by decide +kernel) rfl rfl ?_
      obtain ⟨q3, hq3, h⟩ := obd h
      refine G_c0 C lk_3_65 ⟨Nat.le_of_ble_eq_true rfl, Nat.le_of_ble_eq_true rfl⟩ (by decide +kernel) [.long q3, .int x2, .ref 2] (c_X3_mean cy rK rf rg rpd rpn (0 : Int32) q3 hq3) rfl rfl (Nat.le_of_ble_eq_true rfl) ⟨rfl, rfl⟩ rfl ?_
      obtain ⟨cg, h⟩ := oob h
      refine G_last C (a := 2) (w' := (wRow cy 0 rK rf (vp_updL rg x2.toNatClampNeg q3) rpd rpn)) rfl cg (by decide +kernel) rfl ?_
      refine G_r C [(.aload_n 0, 1, 0, 0, .null), (.getfield 22, 3, 3, 2, .null), (.iload_n 1, 1, 0, 0, .null)] 47 [(0, .ref 0), (1, .int x1), (2, .int x2)] [.int x1, .ref 3] (wRow cy 0 rK rf (vp_updL rg x2.toNatClampNeg q3) rpd rpn) (by decide +kernel) rfl rfl ?_
      obtain ⟨q4, hq4, h⟩ := obd h
      refine G_cV C lk_3_69 ⟨Nat.le_of_ble_eq_true rfl, Nat.le_of_ble_eq_true rfl⟩ (by decide +kernel) [3, 4] [] (wRow cy 0 rK rf (vp_updL rg x2.toNatClampNeg q3) q4.1 q4.2) (c_X1_times cy rpd rpn x1 q4 hq4) rfl rfl (Nat.le_of_ble_eq_true rfl) rfl rfl ⟨rfl, rfl⟩ rfl rfl rfl ?_
      refine G_r C [(.iinc 2 1, 3, 0, 0, .int (1 : Int32))] 53 [(2, .int (x2 + (1 : Int32))), (0, .ref 0), (1, .int x1)] [] (wRow cy 0 rK rf (vp_updL rg x2.toNatClampNeg q3) q4.1 q4.2) (by decide +kernel) rfl rfl ?_
      refine G_goto C (off := -34) (tgt := 19) (by decide +kernel) rfl ?_
      refine G_lv [1, 2, 0] (lv' := [(0, .ref 0), (1, .int x1), (2, .int (x2 + (1 : Int32)))]) rfl ?_
      exact ih x1 (x2 + (1 : Int32)) rK rf (vp_updL rg x2.toNatClampNeg q3) q4.1 q4.2 res h hex
set_option maxHeartbeats 4000000 in
set_option maxRecDepth 100000 in
theorem c_X3_shift (cy : Nat → ClassId) (rK : Int32) (rf : Nat → Int32) (rg : Nat → Int64) (rpd : Int32) (rpn : Nat → Int64) (x1 : Int32) (res : (Int32 × Int32 × (Nat → Int32) × (Nat → Int64) × Int32 × (Nat → Int64))) (h : f_X3_shift x1 rK rf rg rpd rpn = some res) : MG cy yX3_shift cX3_shift 3 (some .int) 2 46 [.ref 0, .int x1] (wRow cy 0 rK rf rg rpd rpn) (some (.int res.1)) (wRow cy 0 res.2.1 res.2.2.1 res.2.2.2.1 res.2.2.2.2.1 res.2.2.2.2.2) := by
  refine MG_of (o := 3) (lv := [(0, .ref 0), (1, .int x1)]) ⟨by decide +kernel, rfl⟩ (Nat.le_of_ble_eq_true rfl) rfl (fun k C hR => ?_)
  rw [f_X3_shift] at h
  refine G_r C [(.iload_n 1, 1, 0, 0, .null)] 1 [(0, .ref 0), (1, .int x1)] [.int x1] (wRow cy 0 rK rf rg rpd rpn) (by decide +kernel) rfl rfl ?_
  obtain ⟨q1, hq1, h⟩ := obd h
  refine G_cS C lk_3_56 ⟨Nat.le_of_ble_eq_true rfl, Nat.le_of_ble_eq_true rfl⟩ (by decide +kernel) [.int (bI q1)] (c_X3_isNoShift cy x1 q1 hq1) rfl rfl (Nat.le_of_ble_eq_true rfl) rfl ?_
  refine G_if_eq C (off := 6) (tgt := 10) (by decide +kernel) rfl (fun c => ?_) (fun c => ?_)
  · rw [if_pos c] at h
    refine G_r C [(.aload_n 0, 1, 0, 0, .null), (.getfield 22, 3, 3, 2, .null)] 14 [(0, .ref 0), (1, .int x1)] [.ref 3] (wRow cy 0 rK rf rg rpd rpn) (by decide +kernel) rfl rfl ?_
    obtain ⟨q2, hq2, h⟩ := obd h
    refine G_cV C lk_3_62 ⟨Nat.le_of_ble_eq_true rfl, Nat.le_of_ble_eq_true rfl⟩ (by decide +kernel) [3, 4] [] (wRow cy 0 rK rf rg q2.1 q2.2) (c_X1_begin cy rpd rpn q2 hq2) rfl rfl (Nat.le_of_ble_eq_true rfl) rfl rfl ⟨rfl, rfl⟩ rfl rfl rfl ?_
    refine G_r C [(.iconst 0, 1, 0, 0, .int (0 : Int32)), (.istore_n 2, 1, 0, 0, .null)] 19 [(2, .int (0 : Int32)), (0, .ref 0), (1, .int x1)] [] (wRow cy 0 rK rf rg q2.1 q2.2) (by decide +kernel) rfl rfl ?_
    obtain ⟨q5, hq5, h⟩ := obd h
    refine G_lv [1, 2, 0] (lv' := [(0, .ref 0), (1, .int x1), (2, .int (0 : Int32))]) rfl ?_
    refine g_X3_shift_L19 C 200 x1 (0 : Int32) rK rf rg q2.1 q2.2 q5 hq5 ?_
    refine G_r C [(.aload_n 0, 1, 0, 0, .null), (.aload_n 0, 1, 0, 0, .null), (.getfield 26, 3, 3, 3, .null)] 61 [(0, .ref 0)] [.int rK, .ref 0] (wRow cy 0 rK rf q5.1 q5.2.1 q5.2.2) (by decide +kernel) rfl rfl ?_
    obtain ⟨q6, hq6, h⟩ := obd h
    refine G_c0 C lk_3_59 ⟨Nat.le_of_ble_eq_true rfl, Nat.le_of_ble_eq_true rfl⟩ (by decide +kernel) [.int q6.1] (c_X3_takeNext cy rK rf q5.1 q5.2.1 q5.2.2 rK q6 hq6) rfl rfl (Nat.le_of_ble_eq_true rfl) ⟨rfl, rfl⟩ rfl ?_
    have h := Option.some.inj h
    subst h
    exact G_iret C hR (by decide +kernel)
  · rw [if_neg c] at h
    refine G_ldc C co_3_53 (by decide +kernel) ?_
    have h := Option.some.inj h
    subst h
    exact G_iret C hR (by decide +kernel)
def f_X6_moves (x1 : Int32) (kb : Int32) (kn : Int32) (kf : Int32) (rK : Int32) (rf : Nat → Int32) (sf : Nat → Int32) (sg : Nat → Int64) (spd : Int32) (spn : Nat → Int64) (vo : Int32) (vd : Int32) (vs : Nat → Int32) : Option (Int32 × Int32 × Int32 × Int32 × Int32 × (Nat → Int32) × Int32 × (Nat → Int32) × (Nat → Int64) × Int32 × (Nat → Int64) × Int32 × Int32 × (Nat → Int32)) := (f_X3_copy sf rK rf).bind fun q1 => (f_X3_shift x1 q1.1 q1.2 sg spd spn).bind fun q2 => if q2.1 = 0 then ((f_X6_keepTrial rK rf q2.2.1 q2.2.2.1 vo vd vs).bind fun q3 => (f_X3_size q3.1).bind fun q4 => (f_X3_at (q4 - (1 : Int32)) q3.1 q3.2.1).bind fun q5 => some (q5, kb, kn, kf, q3.1, q3.2.1, q2.2.1, q2.2.2.1, q2.2.2.2.1, q2.2.2.2.2.1, q2.2.2.2.2.2, q3.2.2.1, q3.2.2.2.1, q3.2.2.2.2)) else ((f_X6_refuse q2.1 kb kn kf).bind fun q6 => some (q6.1, q6.2.1, q6.2.2.1, q6.2.2.2, rK, rf, q2.2.1, q2.2.2.1, q2.2.2.2.1, q2.2.2.2.2.1, q2.2.2.2.2.2, vo, vd, vs))
set_option maxHeartbeats 4000000 in
set_option maxRecDepth 100000 in
theorem c_X6_moves (cy : Nat → ClassId) (kb : Int32) (kn : Int32) (kf : Int32) (rK : Int32) (rf : Nat → Int32) (rg : Nat → Int64) (rpd : Int32) (rpn : Nat → Int64) (sK : Int32) (sf : Nat → Int32) (sg : Nat → Int64) (spd : Int32) (spn : Nat → Int64) (mc : Int32) (mm : Nat → Int64) (nc : Int32) (nm : Nat → Int64) (pd : Int32) (pn : Nat → Int64) (vo : Int32) (vd : Int32) (vs : Nat → Int32) (tl : Int32) (tb : Nat → Int32) (eo : Int32) (et : Int32) (ed : Int32) (em : Bool) (ef : Int32) (ez : Int32) (ek : Nat → Int32) (es : Nat → Int32) (en : Nat → Int32) (fi : Nat → Int32) (x1 : Int32) (res : (Int32 × Int32 × Int32 × Int32 × Int32 × (Nat → Int32) × Int32 × (Nat → Int32) × (Nat → Int64) × Int32 × (Nat → Int64) × Int32 × Int32 × (Nat → Int32))) (h : f_X6_moves x1 kb kn kf rK rf sf sg spd spn vo vd vs = some res) : MG cy yX6_moves cX6_moves 3 (some .int) 4 85 [.ref 0, .int x1] (wSR cy kb kn kf rK rf rg rpd rpn sK sf sg spd spn mc mm nc nm pd pn vo vd vs tl tb eo et ed em ef ez ek es en fi) (some (.int res.1)) (wSR cy res.2.1 res.2.2.1 res.2.2.2.1 res.2.2.2.2.1 res.2.2.2.2.2.1 rg rpd rpn res.2.2.2.2.2.2.1 res.2.2.2.2.2.2.2.1 res.2.2.2.2.2.2.2.2.1 res.2.2.2.2.2.2.2.2.2.1 res.2.2.2.2.2.2.2.2.2.2.1 mc mm nc nm pd pn res.2.2.2.2.2.2.2.2.2.2.2.1 res.2.2.2.2.2.2.2.2.2.2.2.2.1 res.2.2.2.2.2.2.2.2.2.2.2.2.2 tl tb eo et ed em ef ez ek es en fi) := by
  refine MG_of (o := 6) (lv := [(0, .ref 0), (1, .int x1)]) ⟨by decide +kernel, rfl⟩ (Nat.le_of_ble_eq_true rfl) rfl (fun k C hR => ?_)
  rw [f_X6_moves] at h
  refine G_r C [(.aload_n 0, 1, 0, 0, .null), (.getfield 16, 3, 6, 1, .null), (.aload_n 0, 1, 0, 0, .null), (.getfield 12, 3, 6, 0, .null)] 8 [(0, .ref 0), (1, .int x1)] [.ref 1, .ref 6] (wSR cy kb kn kf rK rf rg rpd rpn sK sf sg spd spn mc mm nc nm pd pn vo vd vs tl tb eo et ed em ef ez ek es en fi) (by decide +kernel) rfl rfl ?_
  obtain ⟨q1, hq1, h⟩ := obd h
  refine G_cV C lk_6_65 ⟨Nat.le_of_ble_eq_true rfl, Nat.le_of_ble_eq_true rfl⟩ (by decide +kernel) [6, 7, 8, 9, 10, 1, 2, 3, 4, 5] [] (wSR cy kb kn kf rK rf rg rpd rpn q1.1 q1.2 sg spd spn mc mm nc nm pd pn vo vd vs tl tb eo et ed em ef ez ek es en fi) (c_X3_copy cy sK sf sg spd spn rK rf rg rpd rpn q1 hq1) rfl rfl (Nat.le_of_ble_eq_true rfl) rfl rfl ⟨rfl, rfl⟩ rfl rfl rfl ?_
  refine G_r C [(.aload_n 0, 1, 0, 0, .null), (.getfield 16, 3, 6, 1, .null), (.iload_n 1, 1, 0, 0, .null)] 16 [(0, .ref 0), (1, .int x1)] [.int x1, .ref 6] (wSR cy kb kn kf rK rf rg rpd rpn q1.1 q1.2 sg spd spn mc mm nc nm pd pn vo vd vs tl tb eo et ed em ef ez ek es en fi) (by decide +kernel) rfl rfl ?_
  obtain ⟨q2, hq2, h⟩ := obd h
  refine G_cV C lk_6_92 ⟨Nat.le_of_ble_eq_true rfl, Nat.le_of_ble_eq_true rfl⟩ (by decide +kernel) [6, 7, 8, 9, 10] [.int q2.1] (wSR cy kb kn kf rK rf rg rpd rpn q2.2.1 q2.2.2.1 q2.2.2.2.1 q2.2.2.2.2.1 q2.2.2.2.2.2 mc mm nc nm pd pn vo vd vs tl tb eo et ed em ef ez ek es en fi) (c_X3_shift cy q1.1 q1.2 sg spd spn x1 q2 hq2) rfl rfl (Nat.le_of_ble_eq_true rfl) rfl rfl ⟨rfl, rfl⟩ rfl rfl rfl ?_
  refine G_r C [(.istore_n 2, 1, 0, 0, .null), (.iload_n 2, 1, 0, 0, .null)] 21 [(2, .int q2.1), (0, .ref 0), (1, .int x1)] [.int q2.1] (wSR cy kb kn kf rK rf rg rpd rpn q2.2.1 q2.2.2.1 q2.2.2.2.1 q2.2.2.2.2.1 q2.2.2.2.2.2 mc mm nc nm pd pn vo vd vs tl tb eo et ed em ef ez ek es en fi) (by decide +kernel) rfl rfl ?_
  refine G_if_eq C (off := 9) (tgt := 30) (by decide +kernel) rfl (fun c => ?_) (fun c => ?_)
  · rw [if_pos c] at h
    refine G_r C [(.aload_n 0, 1, 0, 0, .null)] 31 [(2, .int q2.1), (0, .ref 0), (1, .int x1)] [.ref 0] (wSR cy kb kn kf rK rf rg rpd rpn q2.2.1 q2.2.2.1 q2.2.2.2.1 q2.2.2.2.2.1 q2.2.2.2.2.2 mc mm nc nm pd pn vo vd vs tl tb eo et ed em ef ez ek es en fi) (by decide +kernel) rfl rfl ?_
    obtain ⟨q3, hq3, h⟩ := obd h
    refine G_c0 C lk_6_76 ⟨Nat.le_of_ble_eq_true rfl, Nat.le_of_ble_eq_true rfl⟩ (by decide +kernel) [] (c_X6_keepTrial cy kb kn kf rK rf rg rpd rpn q2.2.1 q2.2.2.1 q2.2.2.2.1 q2.2.2.2.2.1 q2.2.2.2.2.2 mc mm nc nm pd pn vo vd vs tl tb eo et ed em ef ez ek es en fi q3 hq3) rfl rfl (Nat.le_of_ble_eq_true rfl) ⟨rfl, rfl⟩ rfl ?_
    refine G_r C [(.aload_n 0, 1, 0, 0, .null), (.getfield 12, 3, 6, 0, .null), (.aload_n 0, 1, 0, 0, .null), (.getfield 12, 3, 6, 0, .null)] 42 [(2, .int q2.1), (0, .ref 0), (1, .int x1)] [.ref 1, .ref 1] (wSR cy kb kn kf q3.1 q3.2.1 rg rpd rpn q2.2.1 q2.2.2.1 q2.2.2.2.1 q2.2.2.2.2.1 q2.2.2.2.2.2 mc mm nc nm pd pn q3.2.2.1 q3.2.2.2.1 q3.2.2.2.2 tl tb eo et ed em ef ez ek es en fi) (by decide +kernel) rfl rfl ?_
    obtain ⟨q4, hq4, h⟩ := obd h
    refine G_cV C lk_6_82 ⟨Nat.le_of_ble_eq_true rfl, Nat.le_of_ble_eq_true rfl⟩ (by decide +kernel) [1, 2, 3, 4, 5] [.int q4, .ref 1] (wSR cy kb kn kf q3.1 q3.2.1 rg rpd rpn q2.2.1 q2.2.2.1 q2.2.2.2.1 q2.2.2.2.2.1 q2.2.2.2.2.2 mc mm nc nm pd pn q3.2.2.1 q3.2.2.2.1 q3.2.2.2.2 tl tb eo et ed em ef ez ek es en fi) (c_X3_size cy q3.1 q3.2.1 rg rpd rpn q4 hq4) rfl rfl (Nat.le_of_ble_eq_true rfl) rfl rfl ⟨rfl, rfl⟩ rfl rfl rfl ?_
    refine G_r C [(.iconst 1, 1, 0, 0, .int (1 : Int32)), (.isub, 1, 0, 0, .null)] 47 [(2, .int q2.1), (0, .ref 0), (1, .int x1)] [.int (q4 - (1 : Int32)), .ref 1] (wSR cy kb kn kf q3.1 q3.2.1 rg rpd rpn q2.2.1 q2.2.2.1 q2.2.2.2.1 q2.2.2.2.2.1 q2.2.2.2.2.2 mc mm nc nm pd pn q3.2.2.1 q3.2.2.2.1 q3.2.2.2.2 tl tb eo et ed em ef ez ek es en fi) (by decide +kernel) rfl rfl ?_
    obtain ⟨q5, hq5, h⟩ := obd h
    refine G_cV C lk_6_61 ⟨Nat.le_of_ble_eq_true rfl, Nat.le_of_ble_eq_true rfl⟩ (by decide +kernel) [1, 2, 3, 4, 5] [.int q5] (wSR cy kb kn kf q3.1 q3.2.1 rg rpd rpn q2.2.1 q2.2.2.1 q2.2.2.2.1 q2.2.2.2.2.1 q2.2.2.2.2.2 mc mm nc nm pd pn q3.2.2.1 q3.2.2.2.1 q3.2.2.2.2 tl tb eo et ed em ef ez ek es en fi) (c_X3_at cy q3.1 q3.2.1 rg rpd rpn (q4 - (1 : Int32)) q5 hq5) rfl rfl (Nat.le_of_ble_eq_true rfl) rfl rfl ⟨rfl, rfl⟩ rfl rfl rfl ?_
    have h := Option.some.inj h
    subst h
    exact G_iret C hR (by decide +kernel)
  · rw [if_neg c] at h
    refine G_r C [(.aload_n 0, 1, 0, 0, .null), (.iload_n 2, 1, 0, 0, .null)] 26 [(2, .int q2.1), (0, .ref 0), (1, .int x1)] [.int q2.1, .ref 0] (wSR cy kb kn kf rK rf rg rpd rpn q2.2.1 q2.2.2.1 q2.2.2.2.1 q2.2.2.2.2.1 q2.2.2.2.2.2 mc mm nc nm pd pn vo vd vs tl tb eo et ed em ef ez ek es en fi) (by decide +kernel) rfl rfl ?_
    obtain ⟨q6, hq6, h⟩ := obd h
    refine G_c0 C lk_6_73 ⟨Nat.le_of_ble_eq_true rfl, Nat.le_of_ble_eq_true rfl⟩ (by decide +kernel) [.int q6.1] (c_X6_refuse cy kb kn kf rK rf rg rpd rpn q2.2.1 q2.2.2.1 q2.2.2.2.1 q2.2.2.2.2.1 q2.2.2.2.2.2 mc mm nc nm pd pn vo vd vs tl tb eo et ed em ef ez ek es en fi q2.1 q6 hq6) rfl rfl (Nat.le_of_ble_eq_true rfl) ⟨rfl, rfl⟩ rfl ?_
    have h := Option.some.inj h
    subst h
    exact G_iret C hR (by decide +kernel)
def f_X3_scale_L15 : Nat → Int32 → Int64 → Int32 → Int32 → (Nat → Int32) → (Nat → Int64) → Option (Nat → Int64)
  | 0, _, _, _, _, _, _ => none
  | fu + 1, x1, x2, x4, rK, rf, rg => if rK ≤ x4 then (some rg) else (if x4 < 0 ∨ 7 ≤ x4.toNatClampNeg then none else if x4 < 0 ∨ 7 ≤ x4.toNatClampNeg then none else f_X3_scale_L15 fu x1 (x2 * x1.toInt64) (x4 + (1 : Int32)) rK rf (vp_updL rg x4.toNatClampNeg (x2 * ((rf x4.toNatClampNeg).toInt64))))
def f_X3_scale (x1 : Int32) (rK : Int32) (rf : Nat → Int32) (rg : Nat → Int64) : Option (Int32 × Int32 × (Nat → Int32) × (Nat → Int64)) := (f_X3_isNoShift x1).bind fun q1 => if (bI q1) = 0 then ((f_X3_scale_L15 200 x1 (1 : Int64) (0 : Int32) rK rf rg).bind fun q2 => (f_X3_takeNext rK rK rf q2).bind fun q3 => some (q3.1, q3.2.1, q3.2.2, q2)) else (some ((-1000001 : Int32), rK, rf, rg))
set_option maxHeartbeats 4000000 in
set_option maxRecDepth 100000 in
theorem g_X3_scale_L15 {k : KX} {cy : Nat → ClassId} (C : OK k cX3_scale 3 5 cy 2 44) : ∀ (fu : Nat) (x1 : Int32) (x2 : Int64) (x4 : Int32) (rK : Int32) (rf : Nat → Int32) (rg : Nat → Int64) (rpd : Int32) (rpn : Nat → Int64) (res : (Nat → Int64)), (f_X3_scale_L15 fu x1 x2 x4 rK rf rg = some res) → G k 5 52 [(0, .ref 0)] [] (wRow cy 0 rK rf res rpd rpn) → G k 5 15 [(0, .ref 0), (1, .int x1), (2, .long x2), (4, .int x4)] [] (wRow cy 0 rK rf rg rpd rpn) := by
  intro fu
  induction fu with
  | zero =>
    intro x1 x2 x4 rK rf rg rpd rpn res h hex
    rw [f_X3_scale_L15] at h
    cases h
  | succ fu ih =>
    intro x1 x2 x4 rK rf rg rpd rpn res h hex
    rw [f_X3_scale_L15] at h
    refine G_r C [(.iload 4, 2, 0, 0, .null), (.aload_n 0, 1, 0, 0, .null), (.getfield 26, 3, 3, 3, .null)] 21 [(0, .ref 0), (1, .int x1), (2, .long x2), (4, .int x4)] [.int rK, .int x4] (wRow cy 0 rK rf rg rpd rpn) (by decide +kernel) rfl rfl ?_
    refine G_icmp_ge C (off := 31) (tgt := 52) (by decide +kernel) rfl (fun c => ?_) (fun c => ?_)
    · rw [if_pos c] at h
      have h := Option.some.inj h
      subst h
      refine G_lv [0] (lv' := [(0, .ref 0)]) rfl ?_
      exact hex
    · rw [if_neg c] at h
      refine G_r C [(.aload_n 0, 1, 0, 0, .null), (.getfield 15, 3, 3, 1, .null), (.iload 4, 2, 0, 0, .null), (.lload_n 2, 1, 0, 0, .null), (.aload_n 0, 1, 0, 0, .null), (.getfield 9, 3, 3, 0, .null), (.iload 4, 2, 0, 0, .null)] 37 [(0, .ref 0), (1, .int x1), (2, .long x2), (4, .int x4)] [.int x4, .ref 1, .long x2, .int x4, .ref 2] (wRow cy 0 rK rf rg rpd rpn) (by decide +kernel) rfl rfl ?_
      obtain ⟨cg, h⟩ := oob h
      refine G_iald C (a := 1) rfl cg (by decide +kernel) ?_
      refine G_r C [(.i2l, 1, 0, 0, .null), (.lmul, 1, 0, 0, .null)] 40 [(0, .ref 0), (1, .int x1), (2, .long x2), (4, .int x4)] [.long (x2 * ((rf x4.toNatClampNeg).toInt64)), .int x4, .ref 2] (wRow cy 0 rK rf rg rpd rpn) (by decide +kernel) rfl rfl ?_
      obtain ⟨cg, h⟩ := oob h
      refine G_last C (a := 2) (w' := (wRow cy 0 rK rf (vp_updL rg x4.toNatClampNeg (x2 * ((rf x4.toNatClampNeg).toInt64))) rpd rpn)) rfl cg (by decide +kernel) rfl ?_
      refine G_r C [(.lload_n 2, 1, 0, 0, .null), (.iload_n 1, 1, 0, 0, .null), (.i2l, 1, 0, 0, .null), (.lmul, 1, 0, 0, .null), (.lstore_n 2, 1, 0, 0, .null), (.iinc 4 1, 3, 0, 0, .int (1 : Int32))] 49 [(4, .int (x4 + (1 : Int32))), (2, .long (x2 * x1.toInt64)), (0, .ref 0), (1, .int x1)] [] (wRow cy 0 rK rf (vp_updL rg x4.toNatClampNeg (x2 * ((rf x4.toNatClampNeg).toInt64))) rpd rpn) (by decide +kernel) rfl rfl ?_
      refine G_goto C (off := -34) (tgt := 15) (by decide +kernel) rfl ?_
      refine G_lv [2, 3, 1, 0] (lv' := [(0, .ref 0), (1, .int x1), (2, .long (x2 * x1.toInt64)), (4, .int (x4 + (1 : Int32)))]) rfl ?_
      exact ih x1 (x2 * x1.toInt64) (x4 + (1 : Int32)) rK rf (vp_updL rg x4.toNatClampNeg (x2 * ((rf x4.toNatClampNeg).toInt64))) rpd rpn res h hex
set_option maxHeartbeats 4000000 in
set_option maxRecDepth 100000 in
theorem c_X3_scale (cy : Nat → ClassId) (rK : Int32) (rf : Nat → Int32) (rg : Nat → Int64) (rpd : Int32) (rpn : Nat → Int64) (x1 : Int32) (res : (Int32 × Int32 × (Nat → Int32) × (Nat → Int64))) (h : f_X3_scale x1 rK rf rg = some res) : MG cy yX3_scale cX3_scale 5 (some .int) 2 44 [.ref 0, .int x1] (wRow cy 0 rK rf rg rpd rpn) (some (.int res.1)) (wRow cy 0 res.2.1 res.2.2.1 res.2.2.2 rpd rpn) := by
  refine MG_of (o := 3) (lv := [(0, .ref 0), (1, .int x1)]) ⟨by decide +kernel, rfl⟩ (Nat.le_of_ble_eq_true rfl) rfl (fun k C hR => ?_)
  rw [f_X3_scale] at h
  refine G_r C [(.iload_n 1, 1, 0, 0, .null)] 1 [(0, .ref 0), (1, .int x1)] [.int x1] (wRow cy 0 rK rf rg rpd rpn) (by decide +kernel) rfl rfl ?_
  obtain ⟨q1, hq1, h⟩ := obd h
  refine G_cS C lk_3_56 ⟨Nat.le_of_ble_eq_true rfl, Nat.le_of_ble_eq_true rfl⟩ (by decide +kernel) [.int (bI q1)] (c_X3_isNoShift cy x1 q1 hq1) rfl rfl (Nat.le_of_ble_eq_true rfl) rfl ?_
  refine G_if_eq C (off := 6) (tgt := 10) (by decide +kernel) rfl (fun c => ?_) (fun c => ?_)
  · rw [if_pos c] at h
    refine G_r C [(.lconst 1, 1, 0, 0, .long (1 : Int64)), (.lstore_n 2, 1, 0, 0, .null), (.iconst 0, 1, 0, 0, .int (0 : Int32)), (.istore 4, 2, 0, 0, .null)] 15 [(4, .int (0 : Int32)), (2, .long (1 : Int64)), (0, .ref 0), (1, .int x1)] [] (wRow cy 0 rK rf rg rpd rpn) (by decide +kernel) rfl rfl ?_
    obtain ⟨q2, hq2, h⟩ := obd h
    refine G_lv [2, 3, 1, 0] (lv' := [(0, .ref 0), (1, .int x1), (2, .long (1 : Int64)), (4, .int (0 : Int32))]) rfl ?_
    refine g_X3_scale_L15 C 200 x1 (1 : Int64) (0 : Int32) rK rf rg rpd rpn q2 hq2 ?_
    refine G_r C [(.aload_n 0, 1, 0, 0, .null), (.aload_n 0, 1, 0, 0, .null), (.getfield 26, 3, 3, 3, .null)] 57 [(0, .ref 0)] [.int rK, .ref 0] (wRow cy 0 rK rf q2 rpd rpn) (by decide +kernel) rfl rfl ?_
    obtain ⟨q3, hq3, h⟩ := obd h
    refine G_c0 C lk_3_59 ⟨Nat.le_of_ble_eq_true rfl, Nat.le_of_ble_eq_true rfl⟩ (by decide +kernel) [.int q3.1] (c_X3_takeNext cy rK rf q2 rpd rpn rK q3 hq3) rfl rfl (Nat.le_of_ble_eq_true rfl) ⟨rfl, rfl⟩ rfl ?_
    have h := Option.some.inj h
    subst h
    exact G_iret C hR (by decide +kernel)
  · rw [if_neg c] at h
    refine G_ldc C co_3_53 (by decide +kernel) ?_
    have h := Option.some.inj h
    subst h
    exact G_iret C hR (by decide +kernel)
def f_X6_stretches (x1 : Int32) (kb : Int32) (kn : Int32) (kf : Int32) (rK : Int32) (rf : Nat → Int32) (sf : Nat → Int32) (sg : Nat → Int64) (vo : Int32) (vd : Int32) (vs : Nat → Int32) : Option (Int32 × Int32 × Int32 × Int32 × Int32 × (Nat → Int32) × Int32 × (Nat → Int32) × (Nat → Int64) × Int32 × Int32 × (Nat → Int32)) := (f_X3_copy sf rK rf).bind fun q1 => (f_X3_scale x1 q1.1 q1.2 sg).bind fun q2 => if q2.1 = 0 then ((f_X6_keepTrial rK rf q2.2.1 q2.2.2.1 vo vd vs).bind fun q3 => (f_X3_size q3.1).bind fun q4 => (f_X3_at (q4 - (1 : Int32)) q3.1 q3.2.1).bind fun q5 => some (q5, kb, kn, kf, q3.1, q3.2.1, q2.2.1, q2.2.2.1, q2.2.2.2, q3.2.2.1, q3.2.2.2.1, q3.2.2.2.2)) else ((f_X6_refuse q2.1 kb kn kf).bind fun q6 => some (q6.1, q6.2.1, q6.2.2.1, q6.2.2.2, rK, rf, q2.2.1, q2.2.2.1, q2.2.2.2, vo, vd, vs))
set_option maxHeartbeats 4000000 in
set_option maxRecDepth 100000 in
theorem c_X6_stretches (cy : Nat → ClassId) (kb : Int32) (kn : Int32) (kf : Int32) (rK : Int32) (rf : Nat → Int32) (rg : Nat → Int64) (rpd : Int32) (rpn : Nat → Int64) (sK : Int32) (sf : Nat → Int32) (sg : Nat → Int64) (spd : Int32) (spn : Nat → Int64) (mc : Int32) (mm : Nat → Int64) (nc : Int32) (nm : Nat → Int64) (pd : Int32) (pn : Nat → Int64) (vo : Int32) (vd : Int32) (vs : Nat → Int32) (tl : Int32) (tb : Nat → Int32) (eo : Int32) (et : Int32) (ed : Int32) (em : Bool) (ef : Int32) (ez : Int32) (ek : Nat → Int32) (es : Nat → Int32) (en : Nat → Int32) (fi : Nat → Int32) (x1 : Int32) (res : (Int32 × Int32 × Int32 × Int32 × Int32 × (Nat → Int32) × Int32 × (Nat → Int32) × (Nat → Int64) × Int32 × Int32 × (Nat → Int32))) (h : f_X6_stretches x1 kb kn kf rK rf sf sg vo vd vs = some res) : MG cy yX6_stretches cX6_stretches 3 (some .int) 4 85 [.ref 0, .int x1] (wSR cy kb kn kf rK rf rg rpd rpn sK sf sg spd spn mc mm nc nm pd pn vo vd vs tl tb eo et ed em ef ez ek es en fi) (some (.int res.1)) (wSR cy res.2.1 res.2.2.1 res.2.2.2.1 res.2.2.2.2.1 res.2.2.2.2.2.1 rg rpd rpn res.2.2.2.2.2.2.1 res.2.2.2.2.2.2.2.1 res.2.2.2.2.2.2.2.2.1 spd spn mc mm nc nm pd pn res.2.2.2.2.2.2.2.2.2.1 res.2.2.2.2.2.2.2.2.2.2.1 res.2.2.2.2.2.2.2.2.2.2.2 tl tb eo et ed em ef ez ek es en fi) := by
  refine MG_of (o := 6) (lv := [(0, .ref 0), (1, .int x1)]) ⟨by decide +kernel, rfl⟩ (Nat.le_of_ble_eq_true rfl) rfl (fun k C hR => ?_)
  rw [f_X6_stretches] at h
  refine G_r C [(.aload_n 0, 1, 0, 0, .null), (.getfield 16, 3, 6, 1, .null), (.aload_n 0, 1, 0, 0, .null), (.getfield 12, 3, 6, 0, .null)] 8 [(0, .ref 0), (1, .int x1)] [.ref 1, .ref 6] (wSR cy kb kn kf rK rf rg rpd rpn sK sf sg spd spn mc mm nc nm pd pn vo vd vs tl tb eo et ed em ef ez ek es en fi) (by decide +kernel) rfl rfl ?_
  obtain ⟨q1, hq1, h⟩ := obd h
  refine G_cV C lk_6_65 ⟨Nat.le_of_ble_eq_true rfl, Nat.le_of_ble_eq_true rfl⟩ (by decide +kernel) [6, 7, 8, 9, 10, 1, 2, 3, 4, 5] [] (wSR cy kb kn kf rK rf rg rpd rpn q1.1 q1.2 sg spd spn mc mm nc nm pd pn vo vd vs tl tb eo et ed em ef ez ek es en fi) (c_X3_copy cy sK sf sg spd spn rK rf rg rpd rpn q1 hq1) rfl rfl (Nat.le_of_ble_eq_true rfl) rfl rfl ⟨rfl, rfl⟩ rfl rfl rfl ?_
  refine G_r C [(.aload_n 0, 1, 0, 0, .null), (.getfield 16, 3, 6, 1, .null), (.iload_n 1, 1, 0, 0, .null)] 16 [(0, .ref 0), (1, .int x1)] [.int x1, .ref 6] (wSR cy kb kn kf rK rf rg rpd rpn q1.1 q1.2 sg spd spn mc mm nc nm pd pn vo vd vs tl tb eo et ed em ef ez ek es en fi) (by decide +kernel) rfl rfl ?_
  obtain ⟨q2, hq2, h⟩ := obd h
  refine G_cV C lk_6_95 ⟨Nat.le_of_ble_eq_true rfl, Nat.le_of_ble_eq_true rfl⟩ (by decide +kernel) [6, 7, 8, 9, 10] [.int q2.1] (wSR cy kb kn kf rK rf rg rpd rpn q2.2.1 q2.2.2.1 q2.2.2.2 spd spn mc mm nc nm pd pn vo vd vs tl tb eo et ed em ef ez ek es en fi) (c_X3_scale cy q1.1 q1.2 sg spd spn x1 q2 hq2) rfl rfl (Nat.le_of_ble_eq_true rfl) rfl rfl ⟨rfl, rfl⟩ rfl rfl rfl ?_
  refine G_r C [(.istore_n 2, 1, 0, 0, .null), (.iload_n 2, 1, 0, 0, .null)] 21 [(2, .int q2.1), (0, .ref 0), (1, .int x1)] [.int q2.1] (wSR cy kb kn kf rK rf rg rpd rpn q2.2.1 q2.2.2.1 q2.2.2.2 spd spn mc mm nc nm pd pn vo vd vs tl tb eo et ed em ef ez ek es en fi) (by decide +kernel) rfl rfl ?_
  refine G_if_eq C (off := 9) (tgt := 30) (by decide +kernel) rfl (fun c => ?_) (fun c => ?_)
  · rw [if_pos c] at h
    refine G_r C [(.aload_n 0, 1, 0, 0, .null)] 31 [(2, .int q2.1), (0, .ref 0), (1, .int x1)] [.ref 0] (wSR cy kb kn kf rK rf rg rpd rpn q2.2.1 q2.2.2.1 q2.2.2.2 spd spn mc mm nc nm pd pn vo vd vs tl tb eo et ed em ef ez ek es en fi) (by decide +kernel) rfl rfl ?_
    obtain ⟨q3, hq3, h⟩ := obd h
    refine G_c0 C lk_6_76 ⟨Nat.le_of_ble_eq_true rfl, Nat.le_of_ble_eq_true rfl⟩ (by decide +kernel) [] (c_X6_keepTrial cy kb kn kf rK rf rg rpd rpn q2.2.1 q2.2.2.1 q2.2.2.2 spd spn mc mm nc nm pd pn vo vd vs tl tb eo et ed em ef ez ek es en fi q3 hq3) rfl rfl (Nat.le_of_ble_eq_true rfl) ⟨rfl, rfl⟩ rfl ?_
    refine G_r C [(.aload_n 0, 1, 0, 0, .null), (.getfield 12, 3, 6, 0, .null), (.aload_n 0, 1, 0, 0, .null), (.getfield 12, 3, 6, 0, .null)] 42 [(2, .int q2.1), (0, .ref 0), (1, .int x1)] [.ref 1, .ref 1] (wSR cy kb kn kf q3.1 q3.2.1 rg rpd rpn q2.2.1 q2.2.2.1 q2.2.2.2 spd spn mc mm nc nm pd pn q3.2.2.1 q3.2.2.2.1 q3.2.2.2.2 tl tb eo et ed em ef ez ek es en fi) (by decide +kernel) rfl rfl ?_
    obtain ⟨q4, hq4, h⟩ := obd h
    refine G_cV C lk_6_82 ⟨Nat.le_of_ble_eq_true rfl, Nat.le_of_ble_eq_true rfl⟩ (by decide +kernel) [1, 2, 3, 4, 5] [.int q4, .ref 1] (wSR cy kb kn kf q3.1 q3.2.1 rg rpd rpn q2.2.1 q2.2.2.1 q2.2.2.2 spd spn mc mm nc nm pd pn q3.2.2.1 q3.2.2.2.1 q3.2.2.2.2 tl tb eo et ed em ef ez ek es en fi) (c_X3_size cy q3.1 q3.2.1 rg rpd rpn q4 hq4) rfl rfl (Nat.le_of_ble_eq_true rfl) rfl rfl ⟨rfl, rfl⟩ rfl rfl rfl ?_
    refine G_r C [(.iconst 1, 1, 0, 0, .int (1 : Int32)), (.isub, 1, 0, 0, .null)] 47 [(2, .int q2.1), (0, .ref 0), (1, .int x1)] [.int (q4 - (1 : Int32)), .ref 1] (wSR cy kb kn kf q3.1 q3.2.1 rg rpd rpn q2.2.1 q2.2.2.1 q2.2.2.2 spd spn mc mm nc nm pd pn q3.2.2.1 q3.2.2.2.1 q3.2.2.2.2 tl tb eo et ed em ef ez ek es en fi) (by decide +kernel) rfl rfl ?_
    obtain ⟨q5, hq5, h⟩ := obd h
    refine G_cV C lk_6_61 ⟨Nat.le_of_ble_eq_true rfl, Nat.le_of_ble_eq_true rfl⟩ (by decide +kernel) [1, 2, 3, 4, 5] [.int q5] (wSR cy kb kn kf q3.1 q3.2.1 rg rpd rpn q2.2.1 q2.2.2.1 q2.2.2.2 spd spn mc mm nc nm pd pn q3.2.2.1 q3.2.2.2.1 q3.2.2.2.2 tl tb eo et ed em ef ez ek es en fi) (c_X3_at cy q3.1 q3.2.1 rg rpd rpn (q4 - (1 : Int32)) q5 hq5) rfl rfl (Nat.le_of_ble_eq_true rfl) rfl rfl ⟨rfl, rfl⟩ rfl rfl rfl ?_
    have h := Option.some.inj h
    subst h
    exact G_iret C hR (by decide +kernel)
  · rw [if_neg c] at h
    refine G_r C [(.aload_n 0, 1, 0, 0, .null), (.iload_n 2, 1, 0, 0, .null)] 26 [(2, .int q2.1), (0, .ref 0), (1, .int x1)] [.int q2.1, .ref 0] (wSR cy kb kn kf rK rf rg rpd rpn q2.2.1 q2.2.2.1 q2.2.2.2 spd spn mc mm nc nm pd pn vo vd vs tl tb eo et ed em ef ez ek es en fi) (by decide +kernel) rfl rfl ?_
    obtain ⟨q6, hq6, h⟩ := obd h
    refine G_c0 C lk_6_73 ⟨Nat.le_of_ble_eq_true rfl, Nat.le_of_ble_eq_true rfl⟩ (by decide +kernel) [.int q6.1] (c_X6_refuse cy kb kn kf rK rf rg rpd rpn q2.2.1 q2.2.2.1 q2.2.2.2 spd spn mc mm nc nm pd pn vo vd vs tl tb eo et ed em ef ez ek es en fi q2.1 q6 hq6) rfl rfl (Nat.le_of_ble_eq_true rfl) ⟨rfl, rfl⟩ rfl ?_
    have h := Option.some.inj h
    subst h
    exact G_iret C hR (by decide +kernel)
