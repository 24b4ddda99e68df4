def f_X3_at (x1 : Int32) (rK : Int32) (rf : Nat → Int32) : Option Int32 := if x1 < 0 then (some (0 : Int32)) else (if rK ≤ x1 then (some (0 : Int32)) else (if x1 < (7 : Int32) then (if x1 < 0 ∨ 7 ≤ x1.toNatClampNeg then none else some (rf x1.toNatClampNeg)) else (some (0 : Int32))))
set_option maxHeartbeats 4000000 in
set_option maxRecDepth 100000 in
theorem c_X3_at (cy : Nat → ClassId) (rK : Int32) (rf : Nat → Int32) (rg : Nat → Int64) (rpd : Int32) (rpn : Nat → Int64) (x1 : Int32) (res : Int32) (h : f_X3_at x1 rK rf = some res) : MG cy yX3_at cX3_at 2 (some .int) 0 0 [.ref 0, .int x1] (wRow cy 0 rK rf rg rpd rpn) (some (.int res)) (wRow cy 0 rK rf rg rpd rpn) := by
  refine MG_of (o := 3) (lv := [(0, .ref 0), (1, .int x1)]) ⟨by decide +kernel, rfl⟩ (Nat.le_of_ble_eq_true rfl) rfl (fun k C hR => ?_)
  rw [f_X3_at] at h
  refine G_r C [(.iload_n 1, 1, 0, 0, .null)] 1 [(0, .ref 0), (1, .int x1)] [.int x1] (wRow cy 0 rK rf rg rpd rpn) (by decide +kernel) rfl rfl ?_
  refine G_if_lt C (off := 17) (tgt := 18) (by decide +kernel) rfl (fun c => ?_) (fun c => ?_)
  · rw [if_pos c] at h
    refine G_r C [(.iconst 0, 1, 0, 0, .int (0 : Int32))] 19 [(0, .ref 0), (1, .int x1)] [.int (0 : Int32)] (wRow cy 0 rK rf rg rpd rpn) (by decide +kernel) rfl rfl ?_
    refine G_goto C (off := 9) (tgt := 28) (by decide +kernel) rfl ?_
    have h := Option.some.inj h
    subst h
    exact G_iret C hR (by decide +kernel)
  · rw [if_neg c] at h
    refine G_r C [(.iload_n 1, 1, 0, 0, .null), (.aload_n 0, 1, 0, 0, .null), (.getfield 26, 3, 3, 3, .null)] 9 [(0, .ref 0), (1, .int x1)] [.int rK, .int x1] (wRow cy 0 rK rf rg rpd rpn) (by decide +kernel) rfl rfl ?_
    refine G_icmp_ge C (off := 9) (tgt := 18) (by decide +kernel) rfl (fun c => ?_) (fun c => ?_)
    · rw [if_pos c] at h
      refine G_r C [(.iconst 0, 1, 0, 0, .int (0 : Int32))] 19 [(0, .ref 0), (1, .int x1)] [.int (0 : Int32)] (wRow cy 0 rK rf rg rpd rpn) (by decide +kernel) rfl rfl ?_
      refine G_goto C (off := 9) (tgt := 28) (by decide +kernel) rfl ?_
      have h := Option.some.inj h
      subst h
      exact G_iret C hR (by decide +kernel)
    · rw [if_neg c] at h
      refine G_r C [(.iload_n 1, 1, 0, 0, .null), (.bipush 7, 2, 0, 0, .int (7 : Int32))] 15 [(0, .ref 0), (1, .int x1)] [.int (7 : Int32), .int x1] (wRow cy 0 rK rf rg rpd rpn) (by decide +kernel) rfl rfl ?_
      refine G_icmp_lt C (off := 7) (tgt := 22) (by decide +kernel) rfl (fun c => ?_) (fun c => ?_)
      · rw [if_pos c] at h
        refine G_r C [(.aload_n 0, 1, 0, 0, .null), (.getfield 9, 3, 3, 0, .null), (.iload_n 1, 1, 0, 0, .null)] 27 [(0, .ref 0), (1, .int x1)] [.int x1, .ref 1] (wRow cy 0 rK rf rg rpd rpn) (by decide +kernel) rfl rfl ?_
        obtain ⟨cg, h⟩ := oob h
        refine G_iald C (a := 1) rfl cg (by decide +kernel) ?_
        have h := Option.some.inj h
        subst h
        exact G_iret C hR (by decide +kernel)
      · rw [if_neg c] at h
        refine G_r C [(.iconst 0, 1, 0, 0, .int (0 : Int32))] 19 [(0, .ref 0), (1, .int x1)] [.int (0 : Int32)] (wRow cy 0 rK rf rg rpd rpn) (by decide +kernel) rfl rfl ?_
        refine G_goto C (off := 9) (tgt := 28) (by decide +kernel) rfl ?_
        have h := Option.some.inj h
        subst h
        exact G_iret C hR (by decide +kernel)
def f_X3_size (rK : Int32) : Option Int32 := some rK
set_option maxHeartbeats 4000000 in
set_option maxRecDepth 100000 in
theorem c_X3_size (cy : Nat → ClassId) (rK : Int32) (rf : Nat → Int32) (rg : Nat → Int64) (rpd : Int32) (rpn : Nat → Int64)  (res : Int32) (h : f_X3_size rK = some res) : MG cy yX3_size cX3_size 1 (some .int) 0 0 [.ref 0] (wRow cy 0 rK rf rg rpd rpn) (some (.int res)) (wRow cy 0 rK rf rg rpd rpn) := by
  refine MG_of (o := 3) (lv := [(0, .ref 0)]) ⟨by decide +kernel, rfl⟩ (Nat.le_of_ble_eq_true rfl) rfl (fun k C hR => ?_)
  rw [f_X3_size] at h
  refine G_r C [(.aload_n 0, 1, 0, 0, .null), (.getfield 26, 3, 3, 3, .null)] 4 [(0, .ref 0)] [.int rK] (wRow cy 0 rK rf rg rpd rpn) (by decide +kernel) rfl rfl ?_
  have h := Option.some.inj h
  subst h
  exact G_iret C hR (by decide +kernel)
def f_X3_copy_L2 : Nat → Int32 → (Nat → Int32) → Int32 → (Nat → Int32) → Option (Nat → Int32)
  | 0, _, _, _, _ => none
  | fu + 1, x2, rf, sK, sf => if (7 : Int32) ≤ x2 then (some rf) else ((f_X3_at x2 sK sf).bind fun q1 => if x2 < 0 ∨ 7 ≤ x2.toNatClampNeg then none else f_X3_copy_L2 fu (x2 + (1 : Int32)) (upd rf x2.toNatClampNeg q1) sK sf)
def f_X3_copy (rf : Nat → Int32) (sK : Int32) (sf : Nat → Int32) : Option (Int32 × (Nat → Int32)) := (f_X3_copy_L2 200 (0 : Int32) rf sK sf).bind fun q2 => (f_X3_size sK).bind fun q3 => some (q3, q2)
set_option maxHeartbeats 4000000 in
set_option maxRecDepth 100000 in
theorem g_X3_copy_L2 {k : KX} {cy : Nat → ClassId} (C : OK k cX3_copy 3 3 cy 1 21) : ∀ (fu : Nat) (x2 : Int32) (rK : Int32) (rf : Nat → Int32) (rg : Nat → Int64) (rpd : Int32) (rpn : Nat → Int64) (sK : Int32) (sf : Nat → Int32) (sg : Nat → Int64) (spd : Int32) (spn : Nat → Int64) (res : (Nat → Int32)), (f_X3_copy_L2 fu x2 rf sK sf = some res) → G k 3 25 [(0, .ref 0), (1, .ref 5)] [] ((wRow cy 0 rK res rg rpd rpn) ++ (wRow cy 5 sK sf sg spd spn)) → G k 3 2 [(0, .ref 0), (1, .ref 5), (2, .int x2)] [] ((wRow cy 0 rK rf rg rpd rpn) ++ (wRow cy 5 sK sf sg spd spn)) := by
  intro fu
  induction fu with
  | zero =>
    intro x2 rK rf rg rpd rpn sK sf sg spd spn res h hex
    rw [f_X3_copy_L2] at h
    cases h
  | succ fu ih =>
    intro x2 rK rf rg rpd rpn sK sf sg spd spn res h hex
    rw [f_X3_copy_L2] at h
    refine G_r C [(.iload_n 2, 1, 0, 0, .null), (.bipush 7, 2, 0, 0, .int (7 : Int32))] 5 [(0, .ref 0), (1, .ref 5), (2, .int x2)] [.int (7 : Int32), .int x2] ((wRow cy 0 rK rf rg rpd rpn) ++ (wRow cy 5 sK sf sg spd spn)) (by decide +kernel) rfl rfl ?_
    refine G_icmp_ge C (off := 20) (tgt := 25) (by decide +kernel) rfl (fun c => ?_) (fun c => ?_)
    · rw [if_pos c] at h
      have h := Option.some.inj h
      subst h
      refine G_lv [0, 1] (lv' := [(0, .ref 0), (1, .ref 5)]) rfl ?_
      exact hex
    · rw [if_neg c] at h
      refine G_r C [(.aload_n 0, 1, 0, 0, .null), (.getfield 9, 3, 3, 0, .null), (.iload_n 2, 1, 0, 0, .null), (.aload_n 1, 1, 0, 0, .null), (.iload_n 2, 1, 0, 0, .null)] 15 [(0, .ref 0), (1, .ref 5), (2, .int x2)] [.int x2, .ref 5, .int x2, .ref 1] ((wRow cy 0 rK rf rg rpd rpn) ++ (wRow cy 5 sK sf sg spd spn)) (by decide +kernel) rfl rfl ?_
      obtain ⟨q1, hq1, h⟩ := obd h
      refine G_cV C lk_3_38 ⟨Nat.le_of_ble_eq_true rfl, Nat.le_of_ble_eq_true rfl⟩ (by decide +kernel) [5, 6, 7, 8, 9] [.int q1, .int x2, .ref 1] ((wRow cy 0 rK rf rg rpd rpn) ++ (wRow cy 5 sK sf sg spd spn)) (c_X3_at cy sK sf sg spd spn x2 q1 hq1) rfl rfl (Nat.le_of_ble_eq_true rfl) rfl rfl ⟨rfl, rfl⟩ rfl rfl rfl ?_
      obtain ⟨cg, h⟩ := oob h
      refine G_iast C (a := 1) (w' := ((wRow cy 0 rK (upd rf x2.toNatClampNeg q1) rg rpd rpn) ++ (wRow cy 5 sK sf sg spd spn))) rfl cg (by decide +kernel) rfl ?_
      refine G_r C [(.iinc 2 1, 3, 0, 0, .int (1 : Int32))] 22 [(2, .int (x2 + (1 : Int32))), (0, .ref 0), (1, .ref 5)] [] ((wRow cy 0 rK (upd rf x2.toNatClampNeg q1) rg rpd rpn) ++ (wRow cy 5 sK sf sg spd spn)) (by decide +kernel) rfl rfl ?_
      refine G_goto C (off := -20) (tgt := 2) (by decide +kernel) rfl ?_
      refine G_lv [1, 2, 0] (lv' := [(0, .ref 0), (1, .ref 5), (2, .int (x2 + (1 : Int32)))]) rfl ?_
      exact ih (x2 + (1 : Int32)) rK (upd rf x2.toNatClampNeg q1) rg rpd rpn sK sf sg spd spn res h hex
set_option maxHeartbeats 4000000 in
set_option maxRecDepth 100000 in
theorem c_X3_copy (cy : Nat → ClassId) (rK : Int32) (rf : Nat → Int32) (rg : Nat → Int64) (rpd : Int32) (rpn : Nat → Int64) (sK : Int32) (sf : Nat → Int32) (sg : Nat → Int64) (spd : Int32) (spn : Nat → Int64)  (res : (Int32 × (Nat → Int32))) (h : f_X3_copy rf sK sf = some res) : MG cy yX3_copy cX3_copy 3 none 1 21 [.ref 0, .ref 5] ((wRow cy 0 rK rf rg rpd rpn) ++ (wRow cy 5 sK sf sg spd spn)) none ((wRow cy 0 res.1 res.2 rg rpd rpn) ++ (wRow cy 5 sK sf sg spd spn)) := by
  refine MG_of (o := 3) (lv := [(0, .ref 0), (1, .ref 5)]) ⟨by decide +kernel, rfl⟩ (Nat.le_of_ble_eq_true rfl) rfl (fun k C hR => ?_)
  rw [f_X3_copy] at h
  refine G_r C [(.iconst 0, 1, 0, 0, .int (0 : Int32)), (.istore_n 2, 1, 0, 0, .null)] 2 [(2, .int (0 : Int32)), (0, .ref 0), (1, .ref 5)] [] ((wRow cy 0 rK rf rg rpd rpn) ++ (wRow cy 5 sK sf sg spd spn)) (by decide +kernel) rfl rfl ?_
  obtain ⟨q2, hq2, h⟩ := obd h
  refine G_lv [1, 2, 0] (lv' := [(0, .ref 0), (1, .ref 5), (2, .int (0 : Int32))]) rfl ?_
  refine g_X3_copy_L2 C 200 (0 : Int32) rK rf rg rpd rpn sK sf sg spd spn q2 hq2 ?_
  refine G_r C [(.aload_n 0, 1, 0, 0, .null), (.aload_n 1, 1, 0, 0, .null)] 27 [(0, .ref 0), (1, .ref 5)] [.ref 5, .ref 0] ((wRow cy 0 rK q2 rg rpd rpn) ++ (wRow cy 5 sK sf sg spd spn)) (by decide +kernel) rfl rfl ?_
  obtain ⟨q3, hq3, h⟩ := obd h
  refine G_cV C lk_3_42 ⟨Nat.le_of_ble_eq_true rfl, Nat.le_of_ble_eq_true rfl⟩ (by decide +kernel) [5, 6, 7, 8, 9] [.int q3, .ref 0] ((wRow cy 0 rK q2 rg rpd rpn) ++ (wRow cy 5 sK sf sg spd spn)) (c_X3_size cy sK sf sg spd spn q3 hq3) rfl rfl (Nat.le_of_ble_eq_true rfl) rfl rfl ⟨rfl, rfl⟩ rfl rfl rfl ?_
  refine G_r C [(.putfield 26, 3, 3, 3, .null)] 33 [(0, .ref 0), (1, .ref 5)] [] ((wRow cy 0 q3 q2 rg rpd rpn) ++ (wRow cy 5 sK sf sg spd spn)) (by decide +kernel) rfl rfl ?_
  have h := Option.some.inj h
  subst h
  exact G_vret C hR (by decide +kernel)
def f_X6_isOutside (x0 : Int32) (x1 : Int32) (x2 : Int32) : Option Bool := if x0 < x1 then (some true) else (if x0 ≤ x2 then (some false) else (some true))
set_option maxHeartbeats 4000000 in
set_option maxRecDepth 100000 in
theorem c_X6_isOutside (cy : Nat → ClassId)  (x0 : Int32) (x1 : Int32) (x2 : Int32) (res : Bool) (h : f_X6_isOutside x0 x1 x2 = some res) : MG cy yX6_isOutside cX6_isOutside 3 (some .boolean) 0 0 [.int x0, .int x1, .int x2] [] (some (.int (bI res))) [] := by
  refine MG_of (o := 6) (lv := [(0, .int x0), (1, .int x1), (2, .int x2)]) ⟨by decide +kernel, rfl⟩ (Nat.le_of_ble_eq_true rfl) rfl (fun k C hR => ?_)
  rw [f_X6_isOutside] at h
  refine G_r C [(.iload_n 0, 1, 0, 0, .null), (.iload_n 1, 1, 0, 0, .null)] 2 [(0, .int x0), (1, .int x1), (2, .int x2)] [.int x1, .int x0] [] (by decide +kernel) rfl rfl ?_
  refine G_icmp_lt C (off := 8) (tgt := 10) (by decide +kernel) rfl (fun c => ?_) (fun c => ?_)
  · rw [if_pos c] at h
    refine G_r C [(.iconst 1, 1, 0, 0, .int (1 : Int32))] 11 [(0, .int x0), (1, .int x1), (2, .int x2)] [.int (1 : Int32)] [] (by decide +kernel) rfl rfl ?_
    refine G_goto C (off := 4) (tgt := 15) (by decide +kernel) rfl ?_
    have h := Option.some.inj h
    subst h
    exact G_zret C (v := true) hR (by decide +kernel)
  · rw [if_neg c] at h
    refine G_r C [(.iload_n 0, 1, 0, 0, .null), (.iload_n 2, 1, 0, 0, .null)] 7 [(0, .int x0), (1, .int x1), (2, .int x2)] [.int x2, .int x0] [] (by decide +kernel) rfl rfl ?_
    refine G_icmp_le C (off := 7) (tgt := 14) (by decide +kernel) rfl (fun c => ?_) (fun c => ?_)
    · rw [if_pos c] at h
      refine G_r C [(.iconst 0, 1, 0, 0, .int (0 : Int32))] 15 [(0, .int x0), (1, .int x1), (2, .int x2)] [.int (0 : Int32)] [] (by decide +kernel) rfl rfl ?_
      have h := Option.some.inj h
      subst h
      exact G_zret C (v := false) hR (by decide +kernel)
    · rw [if_neg c] at h
      refine G_r C [(.iconst 1, 1, 0, 0, .int (1 : Int32))] 11 [(0, .int x0), (1, .int x1), (2, .int x2)] [.int (1 : Int32)] [] (by decide +kernel) rfl rfl ?_
      refine G_goto C (off := 4) (tgt := 15) (by decide +kernel) rfl ?_
      have h := Option.some.inj h
      subst h
      exact G_zret C (v := true) hR (by decide +kernel)
def f_X3_isNoMoment (x0 : Int32) : Option Bool := (f_X6_isOutside x0 (-500 : Int32) (500 : Int32)).bind fun q1 => some q1
set_option maxHeartbeats 4000000 in
set_option maxRecDepth 100000 in
theorem c_X3_isNoMoment (cy : Nat → ClassId)  (x0 : Int32) (res : Bool) (h : f_X3_isNoMoment x0 = some res) : MG cy yX3_isNoMoment cX3_isNoMoment 1 (some .boolean) 1 22 [.int x0] [] (some (.int (bI res))) [] := by
  refine MG_of (o := 3) (lv := [(0, .int x0)]) ⟨by decide +kernel, rfl⟩ (Nat.le_of_ble_eq_true rfl) rfl (fun k C hR => ?_)
  rw [f_X3_isNoMoment] at h
  refine G_r C [(.iload_n 0, 1, 0, 0, .null), (.sipush (-500), 3, 0, 0, .int (-500 : Int32)), (.sipush 500, 3, 0, 0, .int (500 : Int32))] 7 [(0, .int x0)] [.int (500 : Int32), .int (-500 : Int32), .int x0] [] (by decide +kernel) rfl rfl ?_
  obtain ⟨q1, hq1, h⟩ := obd h
  refine G_cN C lk_3_45 ⟨Nat.le_of_ble_eq_true rfl, Nat.le_of_ble_eq_true rfl⟩ (by decide +kernel) [.int (bI q1)] (c_X6_isOutside cy x0 (-500 : Int32) (500 : Int32) q1 hq1) rfl rfl (Nat.le_of_ble_eq_true rfl) rfl ?_
  have h := Option.some.inj h
  subst h
  exact G_zret C (v := q1) hR (by decide +kernel)
def f_X3_put (x1 : Int32) (x2 : Int32) (rK : Int32) (rf : Nat → Int32) : Option (Int32 × (Nat → Int32)) := (f_X6_isOutside x1 (0 : Int32) (rK - (1 : Int32))).bind fun q1 => if (bI q1) = 0 then ((f_X3_isNoMoment x2).bind fun q2 => if (bI q2) = 0 then (if x1 < 0 ∨ 7 ≤ x1.toNatClampNeg then none else some ((0 : Int32), (upd rf x1.toNatClampNeg x2))) else (some ((-1000001 : Int32), rf))) else (some ((-1000001 : Int32), rf))
set_option maxHeartbeats 4000000 in
set_option maxRecDepth 100000 in
theorem c_X3_put (cy : Nat → ClassId) (rK : Int32) (rf : Nat → Int32) (rg : Nat → Int64) (rpd : Int32) (rpn : Nat → Int64) (x1 : Int32) (x2 : Int32) (res : (Int32 × (Nat → Int32))) (h : f_X3_put x1 x2 rK rf = some res) : MG cy yX3_put cX3_put 3 (some .int) 2 42 [.ref 0, .int x1, .int x2] (wRow cy 0 rK rf rg rpd rpn) (some (.int res.1)) (wRow cy 0 rK res.2 rg rpd rpn) := by
  refine MG_of (o := 3) (lv := [(0, .ref 0), (1, .int x1), (2, .int x2)]) ⟨by decide +kernel, rfl⟩ (Nat.le_of_ble_eq_true rfl) rfl (fun k C hR => ?_)
  rw [f_X3_put] at h
  refine G_r C [(.iload_n 1, 1, 0, 0, .null), (.iconst 0, 1, 0, 0, .int (0 : Int32)), (.aload_n 0, 1, 0, 0, .null), (.getfield 26, 3, 3, 3, .null), (.iconst 1, 1, 0, 0, .int (1 : Int32)), (.isub, 1, 0, 0, .null)] 8 [(0, .ref 0), (1, .int x1), (2, .int x2)] [.int (rK - (1 : Int32)), .int (0 : Int32), .int x1] (wRow cy 0 rK rf rg rpd rpn) (by decide +kernel) rfl rfl ?_
  obtain ⟨q1, hq1, h⟩ := obd h
  refine G_cN C lk_3_45 ⟨Nat.le_of_ble_eq_true rfl, Nat.le_of_ble_eq_true rfl⟩ (by decide +kernel) [.int (bI q1)] (c_X6_isOutside cy x1 (0 : Int32) (rK - (1 : Int32)) q1 hq1) rfl rfl (Nat.le_of_ble_eq_true rfl) rfl ?_
  refine G_if_ne C (off := 10) (tgt := 21) (by decide +kernel) rfl (fun c => ?_) (fun c => ?_)
  · rw [if_neg c] at h
    refine G_ldc C co_3_53 (by decide +kernel) ?_
    have h := Option.some.inj h
    subst h
    exact G_iret C hR (by decide +kernel)
  · rw [if_pos c] at h
    refine G_r C [(.iload_n 2, 1, 0, 0, .null)] 15 [(0, .ref 0), (1, .int x1), (2, .int x2)] [.int x2] (wRow cy 0 rK rf rg rpd rpn) (by decide +kernel) rfl rfl ?_
    obtain ⟨q2, hq2, h⟩ := obd h
    refine G_cS C lk_3_49 ⟨Nat.le_of_ble_eq_true rfl, Nat.le_of_ble_eq_true rfl⟩ (by decide +kernel) [.int (bI q2)] (c_X3_isNoMoment cy x2 q2 hq2) rfl rfl (Nat.le_of_ble_eq_true rfl) rfl ?_
    refine G_if_eq C (off := 6) (tgt := 24) (by decide +kernel) rfl (fun c => ?_) (fun c => ?_)
    · rw [if_pos c] at h
      refine G_r C [(.aload_n 0, 1, 0, 0, .null), (.getfield 9, 3, 3, 0, .null), (.iload_n 1, 1, 0, 0, .null), (.iload_n 2, 1, 0, 0, .null)] 30 [(0, .ref 0), (1, .int x1), (2, .int x2)] [.int x2, .int x1, .ref 1] (wRow cy 0 rK rf rg rpd rpn) (by decide +kernel) rfl rfl ?_
      obtain ⟨cg, h⟩ := oob h
      refine G_iast C (a := 1) (w' := (wRow cy 0 rK (upd rf x1.toNatClampNeg x2) rg rpd rpn)) rfl cg (by decide +kernel) rfl ?_
      refine G_r C [(.iconst 0, 1, 0, 0, .int (0 : Int32))] 32 [(0, .ref 0), (1, .int x1), (2, .int x2)] [.int (0 : Int32)] (wRow cy 0 rK (upd rf x1.toNatClampNeg x2) rg rpd rpn) (by decide +kernel) rfl rfl ?_
      have h := Option.some.inj h
      subst h
      exact G_iret C hR (by decide +kernel)
    · rw [if_neg c] at h
      refine G_ldc C co_3_53 (by decide +kernel) ?_
      have h := Option.some.inj h
      subst h
      exact G_iret C hR (by decide +kernel)
def f_X4_place (x1 : Int32) (vo : Int32) : Option Int32 := if (6 : Int32) = 0 then none else some (((vo + x1) - (vo + x1) / (6 : Int32) * (6 : Int32)) * (8 : Int32))
set_option maxHeartbeats 4000000 in
set_option maxRecDepth 100000 in
theorem c_X4_place (cy : Nat → ClassId) (vo : Int32) (vd : Int32) (vs : Nat → Int32) (x1 : Int32) (res : Int32) (h : f_X4_place x1 vo = some res) : MG cy yX4_place cX4_place 2 (some .int) 0 0 [.ref 0, .int x1] (wStates cy 0 vo vd vs) (some (.int res)) (wStates cy 0 vo vd vs) := by
  refine MG_of (o := 4) (lv := [(0, .ref 0), (1, .int x1)]) ⟨by decide +kernel, rfl⟩ (Nat.le_of_ble_eq_true rfl) rfl (fun k C hR => ?_)
  rw [f_X4_place] at h
  refine G_r C [(.aload_n 0, 1, 0, 0, .null), (.getfield 19, 3, 4, 1, .null), (.iload_n 1, 1, 0, 0, .null), (.iadd, 1, 0, 0, .null), (.bipush 6, 2, 0, 0, .int (6 : Int32))] 8 [(0, .ref 0), (1, .int x1)] [.int (6 : Int32), .int (vo + x1)] (wStates cy 0 vo vd vs) (by decide +kernel) rfl rfl ?_
  obtain ⟨cg, h⟩ := oob h
  refine G_irem C (by decide +kernel) cg ?_
  refine G_r C [(.bipush 8, 2, 0, 0, .int (8 : Int32)), (.imul, 1, 0, 0, .null)] 12 [(0, .ref 0), (1, .int x1)] [.int (((vo + x1) - (vo + x1) / (6 : Int32) * (6 : Int32)) * (8 : Int32))] (wStates cy 0 vo vd vs) (by decide +kernel) rfl rfl ?_
  have h := Option.some.inj h
  subst h
  exact G_iret C hR (by decide +kernel)
def f_X3_save_L25 : Nat → Int32 → Int32 → Int32 → (Nat → Int32) → (Nat → Int32) → Option (Nat → Int32)
  | 0, _, _, _, _, _ => none
  | fu + 1, x2, x3, rK, rf, ar => if (7 : Int32) ≤ x3 then (some ar) else ((f_X3_at x3 rK rf).bind fun q1 => if ((x2 + (1 : Int32)) + x3) < 0 ∨ 48 ≤ ((x2 + (1 : Int32)) + x3).toNatClampNeg then none else f_X3_save_L25 fu x2 (x3 + (1 : Int32)) rK rf (upd ar ((x2 + (1 : Int32)) + x3).toNatClampNeg q1))
def f_X3_save (x2 : Int32) (rK : Int32) (rf : Nat → Int32) (ar : Nat → Int32) : Option (Nat → Int32) := if x2 < 0 then (some ar) else (if x2 ≤ (((48 : Int32) - (1 : Int32)) - (7 : Int32)) then (if x2 < 0 ∨ 48 ≤ x2.toNatClampNeg then none else (f_X3_save_L25 200 x2 (0 : Int32) rK rf (upd ar x2.toNatClampNeg rK)).bind fun q2 => some q2) else (some ar))
set_option maxHeartbeats 4000000 in
set_option maxRecDepth 100000 in
theorem g_X3_save_L25 {k : KX} {cy : Nat → ClassId} (C : OK k cX3_save 3 4 cy 1 21) : ∀ (fu : Nat) (x2 : Int32) (x3 : Int32) (rK : Int32) (rf : Nat → Int32) (rg : Nat → Int64) (rpd : Int32) (rpn : Nat → Int64) (ar : Nat → Int32) (res : (Nat → Int32)), (f_X3_save_L25 fu x2 x3 rK rf ar = some res) → G k 4 49 [] [] ((wRow cy 0 rK rf rg rpd rpn) ++ (wArr cy 5 res)) → G k 4 25 [(0, .ref 0), (1, .ref 5), (2, .int x2), (3, .int x3)] [] ((wRow cy 0 rK rf rg rpd rpn) ++ (wArr cy 5 ar)) := by
  intro fu
  induction fu with
  | zero =>
    intro x2 x3 rK rf rg rpd rpn ar res h hex
    rw [f_X3_save_L25] at h
    cases h
  | succ fu ih =>
    intro x2 x3 rK rf rg rpd rpn ar res h hex
    rw [f_X3_save_L25] at h
    refine G_r C [(.iload_n 3, 1, 0, 0, .null), (.bipush 7, 2, 0, 0, .int (7 : Int32))] 28 [(0, .ref 0), (1, .ref 5), (2, .int x2), (3, .int x3)] [.int (7 : Int32), .int x3] ((wRow cy 0 rK rf rg rpd rpn) ++ (wArr cy 5 ar)) (by decide +kernel) rfl rfl ?_
    refine G_icmp_ge C (off := 21) (tgt := 49) (by decide +kernel) rfl (fun c => ?_) (fun c => ?_)
    · rw [if_pos c] at h
      have h := Option.some.inj h
      subst h
      refine G_lv [] (lv' := []) rfl ?_
      exact hex
    · rw [if_neg c] at h
      refine G_r C [(.aload_n 1, 1, 0, 0, .null), (.iload_n 2, 1, 0, 0, .null), (.iconst 1, 1, 0, 0, .int (1 : Int32)), (.iadd, 1, 0, 0, .null), (.iload_n 3, 1, 0, 0, .null), (.iadd, 1, 0, 0, .null), (.aload_n 0, 1, 0, 0, .null), (.iload_n 3, 1, 0, 0, .null)] 39 [(0, .ref 0), (1, .ref 5), (2, .int x2), (3, .int x3)] [.int x3, .ref 0, .int ((x2 + (1 : Int32)) + x3), .ref 5] ((wRow cy 0 rK rf rg rpd rpn) ++ (wArr cy 5 ar)) (by decide +kernel) rfl rfl ?_
      obtain ⟨q1, hq1, h⟩ := obd h
      refine G_cV C lk_3_38 ⟨Nat.le_of_ble_eq_true rfl, Nat.le_of_ble_eq_true rfl⟩ (by decide +kernel) [0, 1, 2, 3, 4] [.int q1, .int ((x2 + (1 : Int32)) + x3), .ref 5] ((wRow cy 0 rK rf rg rpd rpn) ++ (wArr cy 5 ar)) (c_X3_at cy rK rf rg rpd rpn x3 q1 hq1) rfl rfl (Nat.le_of_ble_eq_true rfl) rfl rfl ⟨rfl, rfl⟩ rfl rfl rfl ?_
      obtain ⟨cg, h⟩ := oob h
      refine G_iast C (a := 5) (w' := ((wRow cy 0 rK rf rg rpd rpn) ++ (wArr cy 5 (upd ar ((x2 + (1 : Int32)) + x3).toNatClampNeg q1)))) rfl cg (by decide +kernel) rfl ?_
      refine G_r C [(.iinc 3 1, 3, 0, 0, .int (1 : Int32))] 46 [(3, .int (x3 + (1 : Int32))), (0, .ref 0), (1, .ref 5), (2, .int x2)] [] ((wRow cy 0 rK rf rg rpd rpn) ++ (wArr cy 5 (upd ar ((x2 + (1 : Int32)) + x3).toNatClampNeg q1))) (by decide +kernel) rfl rfl ?_
      refine G_goto C (off := -21) (tgt := 25) (by decide +kernel) rfl ?_
      refine G_lv [1, 2, 3, 0] (lv' := [(0, .ref 0), (1, .ref 5), (2, .int x2), (3, .int (x3 + (1 : Int32)))]) rfl ?_
      exact ih x2 (x3 + (1 : Int32)) rK rf rg rpd rpn (upd ar ((x2 + (1 : Int32)) + x3).toNatClampNeg q1) res h hex
set_option maxHeartbeats 4000000 in
set_option maxRecDepth 100000 in
theorem c_X3_save (cy : Nat → ClassId) (rK : Int32) (rf : Nat → Int32) (rg : Nat → Int64) (rpd : Int32) (rpn : Nat → Int64) (ar : Nat → Int32) (x2 : Int32) (res : (Nat → Int32)) (h : f_X3_save x2 rK rf ar = some res) : MG cy yX3_save cX3_save 4 none 1 21 [.ref 0, .ref 5, .int x2] ((wRow cy 0 rK rf rg rpd rpn) ++ (wArr cy 5 ar)) none ((wRow cy 0 rK rf rg rpd rpn) ++ (wArr cy 5 res)) := by
  refine MG_of (o := 3) (lv := [(0, .ref 0), (1, .ref 5), (2, .int x2)]) ⟨by decide +kernel, rfl⟩ (Nat.le_of_ble_eq_true rfl) rfl (fun k C hR => ?_)
  rw [f_X3_save] at h
  refine G_r C [(.iload_n 2, 1, 0, 0, .null)] 1 [(0, .ref 0), (1, .ref 5), (2, .int x2)] [.int x2] ((wRow cy 0 rK rf rg rpd rpn) ++ (wArr cy 5 ar)) (by decide +kernel) rfl rfl ?_
  refine G_if_lt C (off := 14) (tgt := 15) (by decide +kernel) rfl (fun c => ?_) (fun c => ?_)
  · rw [if_pos c] at h
    have h := Option.some.inj h
    subst h
    exact G_vret C hR (by decide +kernel)
  · rw [if_neg c] at h
    refine G_r C [(.iload_n 2, 1, 0, 0, .null), (.aload_n 1, 1, 0, 0, .null)] 6 [(0, .ref 0), (1, .ref 5), (2, .int x2)] [.ref 5, .int x2] ((wRow cy 0 rK rf rg rpd rpn) ++ (wArr cy 5 ar)) (by decide +kernel) rfl rfl ?_
    refine G_alen C (t0 := 0) (v := (48 : Int32)) rfl rfl rfl (by decide +kernel) ?_
    refine G_r C [(.iconst 1, 1, 0, 0, .int (1 : Int32)), (.isub, 1, 0, 0, .null), (.bipush 7, 2, 0, 0, .int (7 : Int32)), (.isub, 1, 0, 0, .null)] 12 [(0, .ref 0), (1, .ref 5), (2, .int x2)] [.int (((48 : Int32) - (1 : Int32)) - (7 : Int32)), .int x2] ((wRow cy 0 rK rf rg rpd rpn) ++ (wArr cy 5 ar)) (by decide +kernel) rfl rfl ?_
    refine G_icmp_le C (off := 4) (tgt := 16) (by decide +kernel) rfl (fun c => ?_) (fun c => ?_)
    · rw [if_pos c] at h
      refine G_r C [(.aload_n 1, 1, 0, 0, .null), (.iload_n 2, 1, 0, 0, .null), (.aload_n 0, 1, 0, 0, .null), (.getfield 26, 3, 3, 3, .null)] 22 [(0, .ref 0), (1, .ref 5), (2, .int x2)] [.int rK, .int x2, .ref 5] ((wRow cy 0 rK rf rg rpd rpn) ++ (wArr cy 5 ar)) (by decide +kernel) rfl rfl ?_
      obtain ⟨cg, h⟩ := oob h
      refine G_iast C (a := 5) (w' := ((wRow cy 0 rK rf rg rpd rpn) ++ (wArr cy 5 (upd ar x2.toNatClampNeg rK)))) rfl cg (by decide +kernel) rfl ?_
      refine G_r C [(.iconst 0, 1, 0, 0, .int (0 : Int32)), (.istore_n 3, 1, 0, 0, .null)] 25 [(3, .int (0 : Int32)), (0, .ref 0), (1, .ref 5), (2, .int x2)] [] ((wRow cy 0 rK rf rg rpd rpn) ++ (wArr cy 5 (upd ar x2.toNatClampNeg rK))) (by decide +kernel) rfl rfl ?_
      obtain ⟨q2, hq2, h⟩ := obd h
      refine G_lv [1, 2, 3, 0] (lv' := [(0, .ref 0), (1, .ref 5), (2, .int x2), (3, .int (0 : Int32))]) rfl ?_
      refine g_X3_save_L25 C 200 x2 (0 : Int32) rK rf rg rpd rpn (upd ar x2.toNatClampNeg rK) q2 hq2 ?_
      have h := Option.some.inj h
      subst h
      exact G_vret C hR (by decide +kernel)
    · rw [if_neg c] at h
      have h := Option.some.inj h
      subst h
      exact G_vret C hR (by decide +kernel)
def f_X4_push (vo : Int32) (vd : Int32) (vs : Nat → Int32) (rK : Int32) (rf : Nat → Int32) : Option (Int32 × Int32 × (Nat → Int32)) := if vd < (6 : Int32) then ((f_X4_place vd vo).bind fun q1 => (f_X3_save q1 rK rf vs).bind fun q2 => some (vo, (vd + (1 : Int32)), q2)) else (if (6 : Int32) = 0 then none else (f_X4_place (5 : Int32) ((vo + (1 : Int32)) - (vo + (1 : Int32)) / (6 : Int32) * (6 : Int32))).bind fun q3 => (f_X3_save q3 rK rf vs).bind fun q4 => some (((vo + (1 : Int32)) - (vo + (1 : Int32)) / (6 : Int32) * (6 : Int32)), ((5 : Int32) + (1 : Int32)), q4))
set_option maxHeartbeats 4000000 in
set_option maxRecDepth 100000 in
theorem c_X4_push (cy : Nat → ClassId) (vo : Int32) (vd : Int32) (vs : Nat → Int32) (rK : Int32) (rf : Nat → Int32) (rg : Nat → Int64) (rpd : Int32) (rpn : Nat → Int64)  (res : (Int32 × Int32 × (Nat → Int32))) (h : f_X4_push vo vd vs rK rf = some res) : MG cy yX4_push cX4_push 2 none 2 44 [.ref 0, .ref 2] ((wStates cy 0 vo vd vs) ++ (wRow cy 2 rK rf rg rpd rpn)) none ((wStates cy 0 res.1 res.2.1 res.2.2) ++ (wRow cy 2 rK rf rg rpd rpn)) := by
  refine MG_of (o := 4) (lv := [(0, .ref 0), (1, .ref 2)]) ⟨by decide +kernel, rfl⟩ (Nat.le_of_ble_eq_true rfl) rfl (fun k C hR => ?_)
  rw [f_X4_push] at h
  refine G_r C [(.aload_n 0, 1, 0, 0, .null), (.getfield 15, 3, 4, 2, .null), (.bipush 6, 2, 0, 0, .int (6 : Int32))] 6 [(0, .ref 0), (1, .ref 2)] [.int (6 : Int32), .int vd] ((wStates cy 0 vo vd vs) ++ (wRow cy 2 rK rf rg rpd rpn)) (by decide +kernel) rfl rfl ?_
  refine G_icmp_lt C (off := 21) (tgt := 27) (by decide +kernel) rfl (fun c => ?_) (fun c => ?_)
  · rw [if_pos c] at h
    refine G_r C [(.aload_n 1, 1, 0, 0, .null), (.aload_n 0, 1, 0, 0, .null), (.getfield 11, 3, 4, 0, .null), (.aload_n 0, 1, 0, 0, .null), (.aload_n 0, 1, 0, 0, .null), (.getfield 15, 3, 4, 2, .null)] 37 [(0, .ref 0), (1, .ref 2)] [.int vd, .ref 0, .ref 1, .ref 2] ((wStates cy 0 vo vd vs) ++ (wRow cy 2 rK rf rg rpd rpn)) (by decide +kernel) rfl rfl ?_
    obtain ⟨q1, hq1, h⟩ := obd h
    refine G_cV C lk_4_22 ⟨Nat.le_of_ble_eq_true rfl, Nat.le_of_ble_eq_true rfl⟩ (by decide +kernel) [0, 1] [.int q1, .ref 1, .ref 2] ((wStates cy 0 vo vd vs) ++ (wRow cy 2 rK rf rg rpd rpn)) (c_X4_place cy vo vd vs vd q1 hq1) rfl rfl (Nat.le_of_ble_eq_true rfl) rfl rfl ⟨rfl, rfl⟩ rfl rfl rfl ?_
    obtain ⟨q2, hq2, h⟩ := obd h
    refine G_cV C lk_4_26 ⟨Nat.le_of_ble_eq_true rfl, Nat.le_of_ble_eq_true rfl⟩ (by decide +kernel) [2, 3, 4, 5, 6, 1] [] ((wStates cy 0 vo vd q2) ++ (wRow cy 2 rK rf rg rpd rpn)) (c_X3_save cy rK rf rg rpd rpn vs q1 q2 hq2) rfl rfl (Nat.le_of_ble_eq_true rfl) rfl rfl ⟨rfl, rfl⟩ rfl rfl rfl ?_
    refine G_r C [(.aload_n 0, 1, 0, 0, .null), (.dup, 1, 0, 0, .null), (.getfield 15, 3, 4, 2, .null), (.iconst 1, 1, 0, 0, .int (1 : Int32)), (.iadd, 1, 0, 0, .null), (.putfield 15, 3, 4, 2, .null)] 53 [(0, .ref 0), (1, .ref 2)] [] ((wStates cy 0 vo (vd + (1 : Int32)) q2) ++ (wRow cy 2 rK rf rg rpd rpn)) (by decide +kernel) rfl rfl ?_
    have h := Option.some.inj h
    subst h
    exact G_vret C hR (by decide +kernel)
  · rw [if_neg c] at h
    refine G_r C [(.aload_n 0, 1, 0, 0, .null), (.aload_n 0, 1, 0, 0, .null), (.getfield 19, 3, 4, 1, .null), (.iconst 1, 1, 0, 0, .int (1 : Int32)), (.iadd, 1, 0, 0, .null), (.bipush 6, 2, 0, 0, .int (6 : Int32))] 18 [(0, .ref 0), (1, .ref 2)] [.int (6 : Int32), .int (vo + (1 : Int32)), .ref 0] ((wStates cy 0 vo vd vs) ++ (wRow cy 2 rK rf rg rpd rpn)) (by decide +kernel) rfl rfl ?_
    obtain ⟨cg, h⟩ := oob h
    refine G_irem C (by decide +kernel) cg ?_
    refine G_r C [(.putfield 19, 3, 4, 1, .null), (.aload_n 0, 1, 0, 0, .null), (.iconst 5, 1, 0, 0, .int (5 : Int32)), (.putfield 15, 3, 4, 2, .null), (.aload_n 1, 1, 0, 0, .null), (.aload_n 0, 1, 0, 0, .null), (.getfield 11, 3, 4, 0, .null), (.aload_n 0, 1, 0, 0, .null), (.aload_n 0, 1, 0, 0, .null), (.getfield 15, 3, 4, 2, .null)] 37 [(0, .ref 0), (1, .ref 2)] [.int (5 : Int32), .ref 0, .ref 1, .ref 2] ((wStates cy 0 ((vo + (1 : Int32)) - (vo + (1 : Int32)) / (6 : Int32) * (6 : Int32)) (5 : Int32) vs) ++ (wRow cy 2 rK rf rg rpd rpn)) (by decide +kernel) rfl rfl ?_
    obtain ⟨q3, hq3, h⟩ := obd h
    refine G_cV C lk_4_22 ⟨Nat.le_of_ble_eq_true rfl, Nat.le_of_ble_eq_true rfl⟩ (by decide +kernel) [0, 1] [.int q3, .ref 1, .ref 2] ((wStates cy 0 ((vo + (1 : Int32)) - (vo + (1 : Int32)) / (6 : Int32) * (6 : Int32)) (5 : Int32) vs) ++ (wRow cy 2 rK rf rg rpd rpn)) (c_X4_place cy ((vo + (1 : Int32)) - (vo + (1 : Int32)) / (6 : Int32) * (6 : Int32)) (5 : Int32) vs (5 : Int32) q3 hq3) rfl rfl (Nat.le_of_ble_eq_true rfl) rfl rfl ⟨rfl, rfl⟩ rfl rfl rfl ?_
    obtain ⟨q4, hq4, h⟩ := obd h
    refine G_cV C lk_4_26 ⟨Nat.le_of_ble_eq_true rfl, Nat.le_of_ble_eq_true rfl⟩ (by decide +kernel) [2, 3, 4, 5, 6, 1] [] ((wStates cy 0 ((vo + (1 : Int32)) - (vo + (1 : Int32)) / (6 : Int32) * (6 : Int32)) (5 : Int32) q4) ++ (wRow cy 2 rK rf rg rpd rpn)) (c_X3_save cy rK rf rg rpd rpn vs q3 q4 hq4) rfl rfl (Nat.le_of_ble_eq_true rfl) rfl rfl ⟨rfl, rfl⟩ rfl rfl rfl ?_
    refine G_r C [(.aload_n 0, 1, 0, 0, .null), (.dup, 1, 0, 0, .null), (.getfield 15, 3, 4, 2, .null), (.iconst 1, 1, 0, 0, .int (1 : Int32)), (.iadd, 1, 0, 0, .null), (.putfield 15, 3, 4, 2, .null)] 53 [(0, .ref 0), (1, .ref 2)] [] ((wStates cy 0 ((vo + (1 : Int32)) - (vo + (1 : Int32)) / (6 : Int32) * (6 : Int32)) ((5 : Int32) + (1 : Int32)) q4) ++ (wRow cy 2 rK rf rg rpd rpn)) (by decide +kernel) rfl rfl ?_
    have h := Option.some.inj h
    subst h
    exact G_vret C hR (by decide +kernel)
def f_X6_keepTrial (rK : Int32) (rf : Nat → Int32) (sK : Int32) (sf : Nat → Int32) (vo : Int32) (vd : Int32) (vs : Nat → Int32) : Option (Int32 × (Nat → Int32) × Int32 × Int32 × (Nat → Int32)) := (f_X4_push vo vd vs rK rf).bind fun q1 => (f_X3_copy rf sK sf).bind fun q2 => some (q2.1, q2.2, q1.1, q1.2.1, q1.2.2)
set_option maxHeartbeats 4000000 in
set_option maxRecDepth 100000 in
theorem c_X6_keepTrial (cy : Nat → ClassId) (kb : Int32) (kn : Int32) (kf : Int32) (rK : Int32) (rf : Nat → Int32) (rg : Nat → Int64) (rpd : Int32) (rpn : Nat → Int64) (sK : Int32) (sf : Nat → Int32) (sg : Nat → Int64) (spd : Int32) (spn : Nat → Int64) (mc : Int32) (mm : Nat → Int64) (nc : Int32) (nm : Nat → Int64) (pd : Int32) (pn : Nat → Int64) (vo : Int32) (vd : Int32) (vs : Nat → Int32) (tl : Int32) (tb : Nat → Int32) (eo : Int32) (et : Int32) (ed : Int32) (em : Bool) (ef : Int32) (ez : Int32) (ek : Nat → Int32) (es : Nat → Int32) (en : Nat → Int32) (fi : Nat → Int32)  (res : (Int32 × (Nat → Int32) × Int32 × Int32 × (Nat → Int32))) (h : f_X6_keepTrial rK rf sK sf vo vd vs = some res) : MG cy yX6_keepTrial cX6_keepTrial 1 none 3 65 [.ref 0] (wSR cy kb kn kf rK rf rg rpd rpn sK sf sg spd spn mc mm nc nm pd pn vo vd vs tl tb eo et ed em ef ez ek es en fi) none (wSR cy kb kn kf res.1 res.2.1 rg rpd rpn sK sf sg spd spn mc mm nc nm pd pn res.2.2.1 res.2.2.2.1 res.2.2.2.2 tl tb eo et ed em ef ez ek es en fi) := by
  refine MG_of (o := 6) (lv := [(0, .ref 0)]) ⟨by decide +kernel, rfl⟩ (Nat.le_of_ble_eq_true rfl) rfl (fun k C hR => ?_)
  rw [f_X6_keepTrial] at h
  refine G_r C [(.aload_n 0, 1, 0, 0, .null), (.getfield 39, 3, 6, 5, .null), (.aload_n 0, 1, 0, 0, .null), (.getfield 12, 3, 6, 0, .null)] 8 [(0, .ref 0)] [.ref 1, .ref 17] (wSR cy kb kn kf rK rf rg rpd rpn sK sf sg spd spn mc mm nc nm pd pn vo vd vs tl tb eo et ed em ef ez ek es en fi) (by decide +kernel) rfl rfl ?_
  obtain ⟨q1, hq1, h⟩ := obd h
  refine G_cV C lk_6_232 ⟨Nat.le_of_ble_eq_true rfl, Nat.le_of_ble_eq_true rfl⟩ (by decide +kernel) [17, 18, 1, 2, 3, 4, 5] [] (wSR cy kb kn kf rK rf rg rpd rpn sK sf sg spd spn mc mm nc nm pd pn q1.1 q1.2.1 q1.2.2 tl tb eo et ed em ef ez ek es en fi) (c_X4_push cy vo vd vs rK rf rg rpd rpn q1 hq1) rfl rfl (Nat.le_of_ble_eq_true rfl) rfl rfl ⟨rfl, rfl⟩ rfl rfl rfl ?_
  refine G_r C [(.aload_n 0, 1, 0, 0, .null), (.getfield 12, 3, 6, 0, .null), (.aload_n 0, 1, 0, 0, .null), (.getfield 16, 3, 6, 1, .null)] 19 [(0, .ref 0)] [.ref 6, .ref 1] (wSR cy kb kn kf rK rf rg rpd rpn sK sf sg spd spn mc mm nc nm pd pn q1.1 q1.2.1 q1.2.2 tl tb eo et ed em ef ez ek es en fi) (by decide +kernel) rfl rfl ?_
  obtain ⟨q2, hq2, h⟩ := obd h
  refine G_cV C lk_6_65 ⟨Nat.le_of_ble_eq_true rfl, Nat.le_of_ble_eq_true rfl⟩ (by decide +kernel) [1, 2, 3, 4, 5, 6, 7, 8, 9, 10] [] (wSR cy kb kn kf q2.1 q2.2 rg rpd rpn sK sf sg spd spn mc mm nc nm pd pn q1.1 q1.2.1 q1.2.2 tl tb eo et ed em ef ez ek es en fi) (c_X3_copy cy rK rf rg rpd rpn sK sf sg spd spn q2 hq2) rfl rfl (Nat.le_of_ble_eq_true rfl) rfl rfl ⟨rfl, rfl⟩ rfl rfl rfl ?_
  have h := Option.some.inj h
  subst h
  exact G_vret C hR (by decide +kernel)
def f_X6_refuse (x1 : Int32) (kb : Int32) (kn : Int32) (kf : Int32) : Option (Int32 × Int32 × Int32 × Int32) := if x1 = (-1000001 : Int32) then (some (x1, (kb + (1 : Int32)), kn, kf)) else (if x1 = (-1000002 : Int32) then (some (x1, kb, (kn + (1 : Int32)), kf)) else (some (x1, kb, kn, (kf + (1 : Int32)))))
set_option maxHeartbeats 4000000 in
set_option maxRecDepth 100000 in
theorem c_X6_refuse (cy : Nat → ClassId) (kb : Int32) (kn : Int32) (kf : Int32) (rK : Int32) (rf : Nat → Int32) (rg : Nat → Int64) (rpd : Int32) (rpn : Nat → Int64) (sK : Int32) (sf : Nat → Int32) (sg : Nat → Int64) (spd : Int32) (spn : Nat → Int64) (mc : Int32) (mm : Nat → Int64) (nc : Int32) (nm : Nat → Int64) (pd : Int32) (pn : Nat → Int64) (vo : Int32) (vd : Int32) (vs : Nat → Int32) (tl : Int32) (tb : Nat → Int32) (eo : Int32) (et : Int32) (ed : Int32) (em : Bool) (ef : Int32) (ez : Int32) (ek : Nat → Int32) (es : Nat → Int32) (en : Nat → Int32) (fi : Nat → Int32) (x1 : Int32) (res : (Int32 × Int32 × Int32 × Int32)) (h : f_X6_refuse x1 kb kn kf = some res) : MG cy yX6_refuse cX6_refuse 2 (some .int) 0 0 [.ref 0, .int x1] (wSR cy kb kn kf rK rf rg rpd rpn sK sf sg spd spn mc mm nc nm pd pn vo vd vs tl tb eo et ed em ef ez ek es en fi) (some (.int res.1)) (wSR cy res.2.1 res.2.2.1 res.2.2.2 rK rf rg rpd rpn sK sf sg spd spn mc mm nc nm pd pn vo vd vs tl tb eo et ed em ef ez ek es en fi) := by
  refine MG_of (o := 6) (lv := [(0, .ref 0), (1, .int x1)]) ⟨by decide +kernel, rfl⟩ (Nat.le_of_ble_eq_true rfl) rfl (fun k C hR => ?_)
  rw [f_X6_refuse] at h
  refine G_r C [(.iload_n 1, 1, 0, 0, .null)] 1 [(0, .ref 0), (1, .int x1)] [.int x1] (wSR cy kb kn kf rK rf rg rpd rpn sK sf sg spd spn mc mm nc nm pd pn vo vd vs tl tb eo et ed em ef ez ek es en fi) (by decide +kernel) rfl rfl ?_
  refine G_ldc C co_6_105 (by decide +kernel) ?_
  refine G_icmp_ne C (off := 16) (tgt := 19) (by decide +kernel) rfl (fun c => ?_) (fun c => ?_)
  · rw [if_neg c] at h
    refine G_r C [(.iload_n 1, 1, 0, 0, .null)] 20 [(0, .ref 0), (1, .int x1)] [.int x1] (wSR cy kb kn kf rK rf rg rpd rpn sK sf sg spd spn mc mm nc nm pd pn vo vd vs tl tb eo et ed em ef ez ek es en fi) (by decide +kernel) rfl rfl ?_
    refine G_ldc C co_6_110 (by decide +kernel) ?_
    refine G_icmp_ne C (off := 16) (tgt := 38) (by decide +kernel) rfl (fun c => ?_) (fun c => ?_)
    · rw [if_neg c] at h
      refine G_r C [(.aload_n 0, 1, 0, 0, .null), (.dup, 1, 0, 0, .null), (.getfield 229, 3, 6, 11, .null), (.iconst 1, 1, 0, 0, .int (1 : Int32)), (.iadd, 1, 0, 0, .null), (.putfield 229, 3, 6, 11, .null), (.iload_n 1, 1, 0, 0, .null)] 49 [(0, .ref 0), (1, .int x1)] [.int x1] (wSR cy kb kn (kf + (1 : Int32)) rK rf rg rpd rpn sK sf sg spd spn mc mm nc nm pd pn vo vd vs tl tb eo et ed em ef ez ek es en fi) (by decide +kernel) rfl rfl ?_
      have h := Option.some.inj h
      subst h
      exact G_iret C hR (by decide +kernel)
    · rw [if_pos c] at h
      refine G_r C [(.aload_n 0, 1, 0, 0, .null), (.dup, 1, 0, 0, .null), (.getfield 226, 3, 6, 10, .null), (.iconst 1, 1, 0, 0, .int (1 : Int32)), (.iadd, 1, 0, 0, .null), (.putfield 226, 3, 6, 10, .null)] 35 [(0, .ref 0), (1, .int x1)] [] (wSR cy kb (kn + (1 : Int32)) kf rK rf rg rpd rpn sK sf sg spd spn mc mm nc nm pd pn vo vd vs tl tb eo et ed em ef ez ek es en fi) (by decide +kernel) rfl rfl ?_
      refine G_goto C (off := 13) (tgt := 48) (by decide +kernel) rfl ?_
      refine G_r C [(.iload_n 1, 1, 0, 0, .null)] 49 [(0, .ref 0), (1, .int x1)] [.int x1] (wSR cy kb (kn + (1 : Int32)) kf rK rf rg rpd rpn sK sf sg spd spn mc mm nc nm pd pn vo vd vs tl tb eo et ed em ef ez ek es en fi) (by decide +kernel) rfl rfl ?_
      have h := Option.some.inj h
      subst h
      exact G_iret C hR (by decide +kernel)
  · rw [if_pos c] at h
    refine G_r C [(.aload_n 0, 1, 0, 0, .null), (.dup, 1, 0, 0, .null), (.getfield 222, 3, 6, 9, .null), (.iconst 1, 1, 0, 0, .int (1 : Int32)), (.iadd, 1, 0, 0, .null), (.putfield 222, 3, 6, 9, .null)] 16 [(0, .ref 0), (1, .int x1)] [] (wSR cy (kb + (1 : Int32)) kn kf rK rf rg rpd rpn sK sf sg spd spn mc mm nc nm pd pn vo vd vs tl tb eo et ed em ef ez ek es en fi) (by decide +kernel) rfl rfl ?_
    refine G_goto C (off := 32) (tgt := 48) (by decide +kernel) rfl ?_
    refine G_r C [(.iload_n 1, 1, 0, 0, .null)] 49 [(0, .ref 0), (1, .int x1)] [.int x1] (wSR cy (kb + (1 : Int32)) kn kf rK rf rg rpd rpn sK sf sg spd spn mc mm nc nm pd pn vo vd vs tl tb eo et ed em ef ez ek es en fi) (by decide +kernel) rfl rfl ?_
    have h := Option.some.inj h
    subst h
    exact G_iret C hR (by decide +kernel)
def f_X6_moment (x1 : Int32) (x2 : Int32) (kb : Int32) (kn : Int32) (kf : Int32) (rK : Int32) (rf : Nat → Int32) (sf : Nat → Int32) (vo : Int32) (vd : Int32) (vs : Nat → Int32) : Option (Int32 × Int32 × Int32 × Int32 × Int32 × (Nat → Int32) × Int32 × (Nat → Int32) × Int32 × Int32 × (Nat → Int32)) := (f_X3_at x1 rK rf).bind fun q1 => (f_X3_copy sf rK rf).bind fun q2 => (f_X3_put x1 x2 q2.1 q2.2).bind fun q3 => if q3.1 = 0 then ((f_X6_keepTrial rK rf q2.1 q3.2 vo vd vs).bind fun q4 => some (q1, kb, kn, kf, q4.1, q4.2.1, q2.1, q3.2, q4.2.2.1, q4.2.2.2.1, q4.2.2.2.2)) else ((f_X6_refuse q3.1 kb kn kf).bind fun q5 => some (q5.1, q5.2.1, q5.2.2.1, q5.2.2.2, rK, rf, q2.1, q3.2, vo, vd, vs))
set_option maxHeartbeats 4000000 in
set_option maxRecDepth 100000 in
theorem c_X6_moment (cy : Nat → ClassId) (kb : Int32) (kn : Int32) (kf : Int32) (rK : Int32) (rf : Nat → Int32) (rg : Nat → Int64) (rpd : Int32) (rpn : Nat → Int64) (sK : Int32) (sf : Nat → Int32) (sg : Nat → Int64) (spd : Int32) (spn : Nat → Int64) (mc : Int32) (mm : Nat → Int64) (nc : Int32) (nm : Nat → Int64) (pd : Int32) (pn : Nat → Int64) (vo : Int32) (vd : Int32) (vs : Nat → Int32) (tl : Int32) (tb : Nat → Int32) (eo : Int32) (et : Int32) (ed : Int32) (em : Bool) (ef : Int32) (ez : Int32) (ek : Nat → Int32) (es : Nat → Int32) (en : Nat → Int32) (fi : Nat → Int32) (x1 : Int32) (x2 : Int32) (res : (Int32 × Int32 × Int32 × Int32 × Int32 × (Nat → Int32) × Int32 × (Nat → Int32) × Int32 × Int32 × (Nat → Int32))) (h : f_X6_moment x1 x2 kb kn kf rK rf sf vo vd vs = some res) : MG cy yX6_moment cX6_moment 5 (some .int) 4 85 [.ref 0, .int x1, .int x2] (wSR cy kb kn kf rK rf rg rpd rpn sK sf sg spd spn mc mm nc nm pd pn vo vd vs tl tb eo et ed em ef ez ek es en fi) (some (.int res.1)) (wSR cy res.2.1 res.2.2.1 res.2.2.2.1 res.2.2.2.2.1 res.2.2.2.2.2.1 rg rpd rpn res.2.2.2.2.2.2.1 res.2.2.2.2.2.2.2.1 sg spd spn mc mm nc nm pd pn res.2.2.2.2.2.2.2.2.1 res.2.2.2.2.2.2.2.2.2.1 res.2.2.2.2.2.2.2.2.2.2 tl tb eo et ed em ef ez ek es en fi) := by
  refine MG_of (o := 6) (lv := [(0, .ref 0), (1, .int x1), (2, .int x2)]) ⟨by decide +kernel, rfl⟩ (Nat.le_of_ble_eq_true rfl) rfl (fun k C hR => ?_)
  rw [f_X6_moment] at h
  refine G_r C [(.aload_n 0, 1, 0, 0, .null), (.getfield 12, 3, 6, 0, .null), (.iload_n 1, 1, 0, 0, .null)] 5 [(0, .ref 0), (1, .int x1), (2, .int x2)] [.int x1, .ref 1] (wSR cy kb kn kf rK rf rg rpd rpn sK sf sg spd spn mc mm nc nm pd pn vo vd vs tl tb eo et ed em ef ez ek es en fi) (by decide +kernel) rfl rfl ?_
  obtain ⟨q1, hq1, h⟩ := obd h
  refine G_cV C lk_6_61 ⟨Nat.le_of_ble_eq_true rfl, Nat.le_of_ble_eq_true rfl⟩ (by decide +kernel) [1, 2, 3, 4, 5] [.int q1] (wSR cy kb kn kf rK rf rg rpd rpn sK sf sg spd spn mc mm nc nm pd pn vo vd vs tl tb eo et ed em ef ez ek es en fi) (c_X3_at cy rK rf rg rpd rpn x1 q1 hq1) rfl rfl (Nat.le_of_ble_eq_true rfl) rfl rfl ⟨rfl, rfl⟩ rfl rfl rfl ?_
  refine G_r C [(.istore_n 3, 1, 0, 0, .null), (.aload_n 0, 1, 0, 0, .null), (.getfield 16, 3, 6, 1, .null), (.aload_n 0, 1, 0, 0, .null), (.getfield 12, 3, 6, 0, .null)] 17 [(3, .int q1), (0, .ref 0), (1, .int x1), (2, .int x2)] [.ref 1, .ref 6] (wSR cy kb kn kf rK rf rg rpd rpn sK sf sg spd spn mc mm nc nm pd pn vo vd vs tl tb eo et ed em ef ez ek es en fi) (by decide +kernel) rfl rfl ?_
  obtain ⟨q2, hq2, h⟩ := obd h
  refine G_cV C lk_6_65 ⟨Nat.le_of_ble_eq_true rfl, Nat.le_of_ble_eq_true rfl⟩ (by decide +kernel) [6, 7, 8, 9, 10, 1, 2, 3, 4, 5] [] (wSR cy kb kn kf rK rf rg rpd rpn q2.1 q2.2 sg spd spn mc mm nc nm pd pn vo vd vs tl tb eo et ed em ef ez ek es en fi) (c_X3_copy cy sK sf sg spd spn rK rf rg rpd rpn q2 hq2) rfl rfl (Nat.le_of_ble_eq_true rfl) rfl rfl ⟨rfl, rfl⟩ rfl rfl rfl ?_
  refine G_r C [(.aload_n 0, 1, 0, 0, .null), (.getfield 16, 3, 6, 1, .null), (.iload_n 1, 1, 0, 0, .null), (.iload_n 2, 1, 0, 0, .null)] 26 [(3, .int q1), (0, .ref 0), (1, .int x1), (2, .int x2)] [.int x2, .int x1, .ref 6] (wSR cy kb kn kf rK rf rg rpd rpn q2.1 q2.2 sg spd spn mc mm nc nm pd pn vo vd vs tl tb eo et ed em ef ez ek es en fi) (by decide +kernel) rfl rfl ?_
  obtain ⟨q3, hq3, h⟩ := obd h
  refine G_cV C lk_6_69 ⟨Nat.le_of_ble_eq_true rfl, Nat.le_of_ble_eq_true rfl⟩ (by decide +kernel) [6, 7, 8, 9, 10] [.int q3.1] (wSR cy kb kn kf rK rf rg rpd rpn q2.1 q3.2 sg spd spn mc mm nc nm pd pn vo vd vs tl tb eo et ed em ef ez ek es en fi) (c_X3_put cy q2.1 q2.2 sg spd spn x1 x2 q3 hq3) rfl rfl (Nat.le_of_ble_eq_true rfl) rfl rfl ⟨rfl, rfl⟩ rfl rfl rfl ?_
  refine G_r C [(.istore 4, 2, 0, 0, .null), (.iload 4, 2, 0, 0, .null)] 33 [(4, .int q3.1), (3, .int q1), (0, .ref 0), (1, .int x1), (2, .int x2)] [.int q3.1] (wSR cy kb kn kf rK rf rg rpd rpn q2.1 q3.2 sg spd spn mc mm nc nm pd pn vo vd vs tl tb eo et ed em ef ez ek es en fi) (by decide +kernel) rfl rfl ?_
  refine G_if_eq C (off := 10) (tgt := 43) (by decide +kernel) rfl (fun c => ?_) (fun c => ?_)
  · rw [if_pos c] at h
    refine G_r C [(.aload_n 0, 1, 0, 0, .null)] 44 [(4, .int q3.1), (3, .int q1), (0, .ref 0), (1, .int x1), (2, .int x2)] [.ref 0] (wSR cy kb kn kf rK rf rg rpd rpn q2.1 q3.2 sg spd spn mc mm nc nm pd pn vo vd vs tl tb eo et ed em ef ez ek es en fi) (by decide +kernel) rfl rfl ?_
    obtain ⟨q4, hq4, h⟩ := obd h
    refine G_c0 C lk_6_76 ⟨Nat.le_of_ble_eq_true rfl, Nat.le_of_ble_eq_true rfl⟩ (by decide +kernel) [] (c_X6_keepTrial cy kb kn kf rK rf rg rpd rpn q2.1 q3.2 sg spd spn mc mm nc nm pd pn vo vd vs tl tb eo et ed em ef ez ek es en fi q4 hq4) rfl rfl (Nat.le_of_ble_eq_true rfl) ⟨rfl, rfl⟩ rfl ?_
    refine G_r C [(.iload_n 3, 1, 0, 0, .null)] 48 [(4, .int q3.1), (3, .int q1), (0, .ref 0), (1, .int x1), (2, .int x2)] [.int q1] (wSR cy kb kn kf q4.1 q4.2.1 rg rpd rpn q2.1 q3.2 sg spd spn mc mm nc nm pd pn q4.2.2.1 q4.2.2.2.1 q4.2.2.2.2 tl tb eo et ed em ef ez ek es en fi) (by decide +kernel) rfl rfl ?_
    have h := Option.some.inj h
    subst h
    exact G_iret C hR (by decide +kernel)
  · rw [if_neg c] at h
    refine G_r C [(.aload_n 0, 1, 0, 0, .null), (.iload 4, 2, 0, 0, .null)] 39 [(4, .int q3.1), (3, .int q1), (0, .ref 0), (1, .int x1), (2, .int x2)] [.int q3.1, .ref 0] (wSR cy kb kn kf rK rf rg rpd rpn q2.1 q3.2 sg spd spn mc mm nc nm pd pn vo vd vs tl tb eo et ed em ef ez ek es en fi) (by decide +kernel) rfl rfl ?_
    obtain ⟨q5, hq5, h⟩ := obd h
    refine G_c0 C lk_6_73 ⟨Nat.le_of_ble_eq_true rfl, Nat.le_of_ble_eq_true rfl⟩ (by decide +kernel) [.int q5.1] (c_X6_refuse cy kb kn kf rK rf rg rpd rpn q2.1 q3.2 sg spd spn mc mm nc nm pd pn vo vd vs tl tb eo et ed em ef ez ek es en fi q3.1 q5 hq5) rfl rfl (Nat.le_of_ble_eq_true rfl) ⟨rfl, rfl⟩ rfl ?_
    have h := Option.some.inj h
    subst h
    exact G_iret C hR (by decide +kernel)
def f_X3_append (x1 : Int32) (rK : Int32) (rf : Nat → Int32) : Option (Int32 × Int32 × (Nat → Int32)) := (f_X3_isNoMoment x1).bind fun q1 => if (bI q1) = 0 then (if rK < (7 : Int32) then (if rK < 0 ∨ 7 ≤ rK.toNatClampNeg then none else some ((0 : Int32), (rK + (1 : Int32)), (upd rf rK.toNatClampNeg x1))) else (some ((-1000003 : Int32), rK, rf))) else (some ((-1000001 : Int32), rK, rf))
set_option maxHeartbeats 4000000 in
set_option maxRecDepth 100000 in
theorem c_X3_append (cy : Nat → ClassId) (rK : Int32) (rf : Nat → Int32) (rg : Nat → Int64) (rpd : Int32) (rpn : Nat → Int64) (x1 : Int32) (res : (Int32 × Int32 × (Nat → Int32))) (h : f_X3_append x1 rK rf = some res) : MG cy yX3_append cX3_append 2 (some .int) 2 42 [.ref 0, .int x1] (wRow cy 0 rK rf rg rpd rpn) (some (.int res.1)) (wRow cy 0 res.2.1 res.2.2 rg rpd rpn) := by
  refine MG_of (o := 3) (lv := [(0, .ref 0), (1, .int x1)]) ⟨by decide +kernel, rfl⟩ (Nat.le_of_ble_eq_true rfl) rfl (fun k C hR => ?_)
  rw [f_X3_append] at h
  refine G_r C [(.iload_n 1, 1, 0, 0, .null)] 1 [(0, .ref 0), (1, .int x1)] [.int x1] (wRow cy 0 rK rf rg rpd rpn) (by decide +kernel) rfl rfl ?_
  obtain ⟨q1, hq1, h⟩ := obd h
  refine G_cS C lk_3_49 ⟨Nat.le_of_ble_eq_true rfl, Nat.le_of_ble_eq_true rfl⟩ (by decide +kernel) [.int (bI q1)] (c_X3_isNoMoment cy x1 q1 hq1) rfl rfl (Nat.le_of_ble_eq_true rfl) rfl ?_
  refine G_if_eq C (off := 6) (tgt := 10) (by decide +kernel) rfl (fun c => ?_) (fun c => ?_)
  · rw [if_pos c] at h
    refine G_r C [(.aload_n 0, 1, 0, 0, .null), (.getfield 26, 3, 3, 3, .null), (.bipush 7, 2, 0, 0, .int (7 : Int32))] 16 [(0, .ref 0), (1, .int x1)] [.int (7 : Int32), .int rK] (wRow cy 0 rK rf rg rpd rpn) (by decide +kernel) rfl rfl ?_
    refine G_icmp_lt C (off := 6) (tgt := 22) (by decide +kernel) rfl (fun c => ?_) (fun c => ?_)
    · rw [if_pos c] at h
      refine G_r C [(.aload_n 0, 1, 0, 0, .null), (.getfield 9, 3, 3, 0, .null), (.aload_n 0, 1, 0, 0, .null), (.getfield 26, 3, 3, 3, .null), (.iload_n 1, 1, 0, 0, .null)] 31 [(0, .ref 0), (1, .int x1)] [.int x1, .int rK, .ref 1] (wRow cy 0 rK rf rg rpd rpn) (by decide +kernel) rfl rfl ?_
      obtain ⟨cg, h⟩ := oob h
      refine G_iast C (a := 1) (w' := (wRow cy 0 rK (upd rf rK.toNatClampNeg x1) rg rpd rpn)) rfl cg (by decide +kernel) rfl ?_
      refine G_r C [(.aload_n 0, 1, 0, 0, .null), (.dup, 1, 0, 0, .null), (.getfield 26, 3, 3, 3, .null), (.iconst 1, 1, 0, 0, .int (1 : Int32)), (.iadd, 1, 0, 0, .null), (.putfield 26, 3, 3, 3, .null), (.iconst 0, 1, 0, 0, .int (0 : Int32))] 43 [(0, .ref 0), (1, .int x1)] [.int (0 : Int32)] (wRow cy 0 (rK + (1 : Int32)) (upd rf rK.toNatClampNeg x1) rg rpd rpn) (by decide +kernel) rfl rfl ?_
      have h := Option.some.inj h
      subst h
      exact G_iret C hR (by decide +kernel)
    · rw [if_neg c] at h
      refine G_ldc C co_3_54 (by decide +kernel) ?_
      have h := Option.some.inj h
      subst h
      exact G_iret C hR (by decide +kernel)
  · rw [if_neg c] at h
    refine G_ldc C co_3_53 (by decide +kernel) ?_
    have h := Option.some.inj h
    subst h
    exact G_iret C hR (by decide +kernel)
def f_X6_more (x1 : Int32) (kb : Int32) (kn : Int32) (kf : Int32) (rK : Int32) (rf : Nat → Int32) (sf : Nat → Int32) (vo : Int32) (vd : Int32) (vs : Nat → Int32) : Option (Int32 × Int32 × Int32 × Int32 × Int32 × (Nat → Int32) × Int32 × (Nat → Int32) × Int32 × Int32 × (Nat → Int32)) := (f_X3_copy sf rK rf).bind fun q1 => (f_X3_append x1 q1.1 q1.2).bind fun q2 => if q2.1 = 0 then ((f_X6_keepTrial rK rf q2.2.1 q2.2.2 vo vd vs).bind fun q3 => (f_X3_size q3.1).bind fun q4 => some (q4, kb, kn, kf, q3.1, q3.2.1, q2.2.1, q2.2.2, q3.2.2.1, q3.2.2.2.1, q3.2.2.2.2)) else ((f_X6_refuse q2.1 kb kn kf).bind fun q5 => some (q5.1, q5.2.1, q5.2.2.1, q5.2.2.2, rK, rf, q2.2.1, q2.2.2, vo, vd, vs))
set_option maxHeartbeats 4000000 in
set_option maxRecDepth 100000 in
theorem c_X6_more (cy : Nat → ClassId) (kb : Int32) (kn : Int32) (kf : Int32) (rK : Int32) (rf : Nat → Int32) (rg : Nat → Int64) (rpd : Int32) (rpn : Nat → Int64) (sK : Int32) (sf : Nat → Int32) (sg : Nat → Int64) (spd : Int32) (spn : Nat → Int64) (mc : Int32) (mm : Nat → Int64) (nc : Int32) (nm : Nat → Int64) (pd : Int32) (pn : Nat → Int64) (vo : Int32) (vd : Int32) (vs : Nat → Int32) (tl : Int32) (tb : Nat → Int32) (eo : Int32) (et : Int32) (ed : Int32) (em : Bool) (ef : Int32) (ez : Int32) (ek : Nat → Int32) (es : Nat → Int32) (en : Nat → Int32) (fi : Nat → Int32) (x1 : Int32) (res : (Int32 × Int32 × Int32 × Int32 × Int32 × (Nat → Int32) × Int32 × (Nat → Int32) × Int32 × Int32 × (Nat → Int32))) (h : f_X6_more x1 kb kn kf rK rf sf vo vd vs = some res) : MG cy yX6_more cX6_more 3 (some .int) 4 85 [.ref 0, .int x1] (wSR cy kb kn kf rK rf rg rpd rpn sK sf sg spd spn mc mm nc nm pd pn vo vd vs tl tb eo et ed em ef ez ek es en fi) (some (.int res.1)) (wSR cy res.2.1 res.2.2.1 res.2.2.2.1 res.2.2.2.2.1 res.2.2.2.2.2.1 rg rpd rpn res.2.2.2.2.2.2.1 res.2.2.2.2.2.2.2.1 sg spd spn mc mm nc nm pd pn res.2.2.2.2.2.2.2.2.1 res.2.2.2.2.2.2.2.2.2.1 res.2.2.2.2.2.2.2.2.2.2 tl tb eo et ed em ef ez ek es en fi) := by
  refine MG_of (o := 6) (lv := [(0, .ref 0), (1, .int x1)]) ⟨by decide +kernel, rfl⟩ (Nat.le_of_ble_eq_true rfl) rfl (fun k C hR => ?_)
  rw [f_X6_more] at h
  refine G_r C [(.aload_n 0, 1, 0, 0, .null), (.getfield 16, 3, 6, 1, .null), (.aload_n 0, 1, 0, 0, .null), (.getfield 12, 3, 6, 0, .null)] 8 [(0, .ref 0), (1, .int x1)] [.ref 1, .ref 6] (wSR cy kb kn kf rK rf rg rpd rpn sK sf sg spd spn mc mm nc nm pd pn vo vd vs tl tb eo et ed em ef ez ek es en fi) (by decide +kernel) rfl rfl ?_
  obtain ⟨q1, hq1, h⟩ := obd h
  refine G_cV C lk_6_65 ⟨Nat.le_of_ble_eq_true rfl, Nat.le_of_ble_eq_true rfl⟩ (by decide +kernel) [6, 7, 8, 9, 10, 1, 2, 3, 4, 5] [] (wSR cy kb kn kf rK rf rg rpd rpn q1.1 q1.2 sg spd spn mc mm nc nm pd pn vo vd vs tl tb eo et ed em ef ez ek es en fi) (c_X3_copy cy sK sf sg spd spn rK rf rg rpd rpn q1 hq1) rfl rfl (Nat.le_of_ble_eq_true rfl) rfl rfl ⟨rfl, rfl⟩ rfl rfl rfl ?_
  refine G_r C [(.aload_n 0, 1, 0, 0, .null), (.getfield 16, 3, 6, 1, .null), (.iload_n 1, 1, 0, 0, .null)] 16 [(0, .ref 0), (1, .int x1)] [.int x1, .ref 6] (wSR cy kb kn kf rK rf rg rpd rpn q1.1 q1.2 sg spd spn mc mm nc nm pd pn vo vd vs tl tb eo et ed em ef ez ek es en fi) (by decide +kernel) rfl rfl ?_
  obtain ⟨q2, hq2, h⟩ := obd h
  refine G_cV C lk_6_79 ⟨Nat.le_of_ble_eq_true rfl, Nat.le_of_ble_eq_true rfl⟩ (by decide +kernel) [6, 7, 8, 9, 10] [.int q2.1] (wSR cy kb kn kf rK rf rg rpd rpn q2.2.1 q2.2.2 sg spd spn mc mm nc nm pd pn vo vd vs tl tb eo et ed em ef ez ek es en fi) (c_X3_append cy q1.1 q1.2 sg spd spn x1 q2 hq2) rfl rfl (Nat.le_of_ble_eq_true rfl) rfl rfl ⟨rfl, rfl⟩ rfl rfl rfl ?_
  refine G_r C [(.istore_n 2, 1, 0, 0, .null), (.iload_n 2, 1, 0, 0, .null)] 21 [(2, .int q2.1), (0, .ref 0), (1, .int x1)] [.int q2.1] (wSR cy kb kn kf rK rf rg rpd rpn q2.2.1 q2.2.2 sg spd spn mc mm nc nm pd pn vo vd vs tl tb eo et ed em ef ez ek es en fi) (by decide +kernel) rfl rfl ?_
  refine G_if_eq C (off := 9) (tgt := 30) (by decide +kernel) rfl (fun c => ?_) (fun c => ?_)
  · rw [if_pos c] at h
    refine G_r C [(.aload_n 0, 1, 0, 0, .null)] 31 [(2, .int q2.1), (0, .ref 0), (1, .int x1)] [.ref 0] (wSR cy kb kn kf rK rf rg rpd rpn q2.2.1 q2.2.2 sg spd spn mc mm nc nm pd pn vo vd vs tl tb eo et ed em ef ez ek es en fi) (by decide +kernel) rfl rfl ?_
    obtain ⟨q3, hq3, h⟩ := obd h
    refine G_c0 C lk_6_76 ⟨Nat.le_of_ble_eq_true rfl, Nat.le_of_ble_eq_true rfl⟩ (by decide +kernel) [] (c_X6_keepTrial cy kb kn kf rK rf rg rpd rpn q2.2.1 q2.2.2 sg spd spn mc mm nc nm pd pn vo vd vs tl tb eo et ed em ef ez ek es en fi q3 hq3) rfl rfl (Nat.le_of_ble_eq_true rfl) ⟨rfl, rfl⟩ rfl ?_
    refine G_r C [(.aload_n 0, 1, 0, 0, .null), (.getfield 12, 3, 6, 0, .null)] 38 [(2, .int q2.1), (0, .ref 0), (1, .int x1)] [.ref 1] (wSR cy kb kn kf q3.1 q3.2.1 rg rpd rpn q2.2.1 q2.2.2 sg spd spn mc mm nc nm pd pn q3.2.2.1 q3.2.2.2.1 q3.2.2.2.2 tl tb eo et ed em ef ez ek es en fi) (by decide +kernel) rfl rfl ?_
    obtain ⟨q4, hq4, h⟩ := obd h
    refine G_cV C lk_6_82 ⟨Nat.le_of_ble_eq_true rfl, Nat.le_of_ble_eq_true rfl⟩ (by decide +kernel) [1, 2, 3, 4, 5] [.int q4] (wSR cy kb kn kf q3.1 q3.2.1 rg rpd rpn q2.2.1 q2.2.2 sg spd spn mc mm nc nm pd pn q3.2.2.1 q3.2.2.2.1 q3.2.2.2.2 tl tb eo et ed em ef ez ek es en fi) (c_X3_size cy q3.1 q3.2.1 rg rpd rpn q4 hq4) rfl rfl (Nat.le_of_ble_eq_true rfl) rfl rfl ⟨rfl, rfl⟩ rfl rfl rfl ?_
    have h := Option.some.inj h
    subst h
    exact G_iret C hR (by decide +kernel)
  · rw [if_neg c] at h
    refine G_r C [(.aload_n 0, 1, 0, 0, .null), (.iload_n 2, 1, 0, 0, .null)] 26 [(2, .int q2.1), (0, .ref 0), (1, .int x1)] [.int q2.1, .ref 0] (wSR cy kb kn kf rK rf rg rpd rpn q2.2.1 q2.2.2 sg spd spn mc mm nc nm pd pn vo vd vs tl tb eo et ed em ef ez ek es en fi) (by decide +kernel) rfl rfl ?_
    obtain ⟨q5, hq5, h⟩ := obd h
    refine G_c0 C lk_6_73 ⟨Nat.le_of_ble_eq_true rfl, Nat.le_of_ble_eq_true rfl⟩ (by decide +kernel) [.int q5.1] (c_X6_refuse cy kb kn kf rK rf rg rpd rpn q2.2.1 q2.2.2 sg spd spn mc mm nc nm pd pn vo vd vs tl tb eo et ed em ef ez ek es en fi q2.1 q5 hq5) rfl rfl (Nat.le_of_ble_eq_true rfl) ⟨rfl, rfl⟩ rfl ?_
    have h := Option.some.inj h
    subst h
    exact G_iret C hR (by decide +kernel)
def f_X3_drop (rK : Int32) : Option (Int32 × Int32) := if (1 : Int32) < rK then (some ((0 : Int32), (rK - (1 : Int32)))) else (some ((-1000002 : Int32), rK))
set_option maxHeartbeats 4000000 in
set_option maxRecDepth 100000 in
theorem c_X3_drop (cy : Nat → ClassId) (rK : Int32) (rf : Nat → Int32) (rg : Nat → Int64) (rpd : Int32) (rpn : Nat → Int64)  (res : (Int32 × Int32)) (h : f_X3_drop rK = some res) : MG cy yX3_drop cX3_drop 1 (some .int) 0 0 [.ref 0] (wRow cy 0 rK rf rg rpd rpn) (some (.int res.1)) (wRow cy 0 res.2 rf rg rpd rpn) := by
  refine MG_of (o := 3) (lv := [(0, .ref 0)]) ⟨by decide +kernel, rfl⟩ (Nat.le_of_ble_eq_true rfl) rfl (fun k C hR => ?_)
  rw [f_X3_drop] at h
  refine G_r C [(.aload_n 0, 1, 0, 0, .null), (.getfield 26, 3, 3, 3, .null), (.iconst 1, 1, 0, 0, .int (1 : Int32))] 5 [(0, .ref 0)] [.int (1 : Int32), .int rK] (wRow cy 0 rK rf rg rpd rpn) (by decide +kernel) rfl rfl ?_
  refine G_icmp_gt C (off := 6) (tgt := 11) (by decide +kernel) rfl (fun c => ?_) (fun c => ?_)
  · rw [if_pos c] at h
    refine G_r C [(.aload_n 0, 1, 0, 0, .null), (.dup, 1, 0, 0, .null), (.getfield 26, 3, 3, 3, .null), (.iconst 1, 1, 0, 0, .int (1 : Int32)), (.isub, 1, 0, 0, .null), (.putfield 26, 3, 3, 3, .null), (.iconst 0, 1, 0, 0, .int (0 : Int32))] 22 [(0, .ref 0)] [.int (0 : Int32)] (wRow cy 0 (rK - (1 : Int32)) rf rg rpd rpn) (by decide +kernel) rfl rfl ?_
    have h := Option.some.inj h
    subst h
    exact G_iret C hR (by decide +kernel)
  · rw [if_neg c] at h
    refine G_ldc C co_3_55 (by decide +kernel) ?_
    have h := Option.some.inj h
    subst h
    exact G_iret C hR (by decide +kernel)
def f_X6_less (kb : Int32) (kn : Int32) (kf : Int32) (rK : Int32) (rf : Nat → Int32) (sf : Nat → Int32) (vo : Int32) (vd : Int32) (vs : Nat → Int32) : Option (Int32 × Int32 × Int32 × Int32 × Int32 × (Nat → Int32) × Int32 × (Nat → Int32) × Int32 × Int32 × (Nat → Int32)) := (f_X3_copy sf rK rf).bind fun q1 => (f_X3_drop q1.1).bind fun q2 => if q2.1 = 0 then ((f_X6_keepTrial rK rf q2.2 q1.2 vo vd vs).bind fun q3 => (f_X3_size q3.1).bind fun q4 => some (q4, kb, kn, kf, q3.1, q3.2.1, q2.2, q1.2, q3.2.2.1, q3.2.2.2.1, q3.2.2.2.2)) else ((f_X6_refuse q2.1 kb kn kf).bind fun q5 => some (q5.1, q5.2.1, q5.2.2.1, q5.2.2.2, rK, rf, q2.2, q1.2, vo, vd, vs))
set_option maxHeartbeats 4000000 in
set_option maxRecDepth 100000 in
theorem c_X6_less (cy : Nat → ClassId) (kb : Int32) (kn : Int32) (kf : Int32) (rK : Int32) (rf : Nat → Int32) (rg : Nat → Int64) (rpd : Int32) (rpn : Nat → Int64) (sK : Int32) (sf : Nat → Int32) (sg : Nat → Int64) (spd : Int32) (spn : Nat → Int64) (mc : Int32) (mm : Nat → Int64) (nc : Int32) (nm : Nat → Int64) (pd : Int32) (pn : Nat → Int64) (vo : Int32) (vd : Int32) (vs : Nat → Int32) (tl : Int32) (tb : Nat → Int32) (eo : Int32) (et : Int32) (ed : Int32) (em : Bool) (ef : Int32) (ez : Int32) (ek : Nat → Int32) (es : Nat → Int32) (en : Nat → Int32) (fi : Nat → Int32)  (res : (Int32 × Int32 × Int32 × Int32 × Int32 × (Nat → Int32) × Int32 × (Nat → Int32) × Int32 × Int32 × (Nat → Int32))) (h : f_X6_less kb kn kf rK rf sf vo vd vs = some res) : MG cy yX6_less cX6_less 2 (some .int) 4 85 [.ref 0] (wSR cy kb kn kf rK rf rg rpd rpn sK sf sg spd spn mc mm nc nm pd pn vo vd vs tl tb eo et ed em ef ez ek es en fi) (some (.int res.1)) (wSR cy res.2.1 res.2.2.1 res.2.2.2.1 res.2.2.2.2.1 res.2.2.2.2.2.1 rg rpd rpn res.2.2.2.2.2.2.1 res.2.2.2.2.2.2.2.1 sg spd spn mc mm nc nm pd pn res.2.2.2.2.2.2.2.2.1 res.2.2.2.2.2.2.2.2.2.1 res.2.2.2.2.2.2.2.2.2.2 tl tb eo et ed em ef ez ek es en fi) := by
  refine MG_of (o := 6) (lv := [(0, .ref 0)]) ⟨by decide +kernel, rfl⟩ (Nat.le_of_ble_eq_true rfl) rfl (fun k C hR => ?_)
  rw [f_X6_less] at h
  refine G_r C [(.aload_n 0, 1, 0, 0, .null), (.getfield 16, 3, 6, 1, .null), (.aload_n 0, 1, 0, 0, .null), (.getfield 12, 3, 6, 0, .null)] 8 [(0, .ref 0)] [.ref 1, .ref 6] (wSR cy kb kn kf rK rf rg rpd rpn sK sf sg spd spn mc mm nc nm pd pn vo vd vs tl tb eo et ed em ef ez ek es en fi) (by decide +kernel) rfl rfl ?_
  obtain ⟨q1, hq1, h⟩ := obd h
  refine G_cV C lk_6_65 ⟨Nat.le_of_ble_eq_true rfl, Nat.le_of_ble_eq_true rfl⟩ (by decide +kernel) [6, 7, 8, 9, 10, 1, 2, 3, 4, 5] [] (wSR cy kb kn kf rK rf rg rpd rpn q1.1 q1.2 sg spd spn mc mm nc nm pd pn vo vd vs tl tb eo et ed em ef ez ek es en fi) (c_X3_copy cy sK sf sg spd spn rK rf rg rpd rpn q1 hq1) rfl rfl (Nat.le_of_ble_eq_true rfl) rfl rfl ⟨rfl, rfl⟩ rfl rfl rfl ?_
  refine G_r C [(.aload_n 0, 1, 0, 0, .null), (.getfield 16, 3, 6, 1, .null)] 15 [(0, .ref 0)] [.ref 6] (wSR cy kb kn kf rK rf rg rpd rpn q1.1 q1.2 sg spd spn mc mm nc nm pd pn vo vd vs tl tb eo et ed em ef ez ek es en fi) (by decide +kernel) rfl rfl ?_
  obtain ⟨q2, hq2, h⟩ := obd h
  refine G_cV C lk_6_86 ⟨Nat.le_of_ble_eq_true rfl, Nat.le_of_ble_eq_true rfl⟩ (by decide +kernel) [6, 7, 8, 9, 10] [.int q2.1] (wSR cy kb kn kf rK rf rg rpd rpn q2.2 q1.2 sg spd spn mc mm nc nm pd pn vo vd vs tl tb eo et ed em ef ez ek es en fi) (c_X3_drop cy q1.1 q1.2 sg spd spn q2 hq2) rfl rfl (Nat.le_of_ble_eq_true rfl) rfl rfl ⟨rfl, rfl⟩ rfl rfl rfl ?_
  refine G_r C [(.istore_n 1, 1, 0, 0, .null), (.iload_n 1, 1, 0, 0, .null)] 20 [(1, .int q2.1), (0, .ref 0)] [.int q2.1] (wSR cy kb kn kf rK rf rg rpd rpn q2.2 q1.2 sg spd spn mc mm nc nm pd pn vo vd vs tl tb eo et ed em ef ez ek es en fi) (by decide +kernel) rfl rfl ?_
  refine G_if_eq C (off := 9) (tgt := 29) (by decide +kernel) rfl (fun c => ?_) (fun c => ?_)
  · rw [if_pos c] at h
    refine G_r C [(.aload_n 0, 1, 0, 0, .null)] 30 [(1, .int q2.1), (0, .ref 0)] [.ref 0] (wSR cy kb kn kf rK rf rg rpd rpn q2.2 q1.2 sg spd spn mc mm nc nm pd pn vo vd vs tl tb eo et ed em ef ez ek es en fi) (by decide +kernel) rfl rfl ?_
    obtain ⟨q3, hq3, h⟩ := obd h
    refine G_c0 C lk_6_76 ⟨Nat.le_of_ble_eq_true rfl, Nat.le_of_ble_eq_true rfl⟩ (by decide +kernel) [] (c_X6_keepTrial cy kb kn kf rK rf rg rpd rpn q2.2 q1.2 sg spd spn mc mm nc nm pd pn vo vd vs tl tb eo et ed em ef ez ek es en fi q3 hq3) rfl rfl (Nat.le_of_ble_eq_true rfl) ⟨rfl, rfl⟩ rfl ?_
    refine G_r C [(.aload_n 0, 1, 0, 0, .null), (.getfield 12, 3, 6, 0, .null)] 37 [(1, .int q2.1), (0, .ref 0)] [.ref 1] (wSR cy kb kn kf q3.1 q3.2.1 rg rpd rpn q2.2 q1.2 sg spd spn mc mm nc nm pd pn q3.2.2.1 q3.2.2.2.1 q3.2.2.2.2 tl tb eo et ed em ef ez ek es en fi) (by decide +kernel) rfl rfl ?_
    obtain ⟨q4, hq4, h⟩ := obd h
    refine G_cV C lk_6_82 ⟨Nat.le_of_ble_eq_true rfl, Nat.le_of_ble_eq_true rfl⟩ (by decide +kernel) [1, 2, 3, 4, 5] [.int q4] (wSR cy kb kn kf q3.1 q3.2.1 rg rpd rpn q2.2 q1.2 sg spd spn mc mm nc nm pd pn q3.2.2.1 q3.2.2.2.1 q3.2.2.2.2 tl tb eo et ed em ef ez ek es en fi) (c_X3_size cy q3.1 q3.2.1 rg rpd rpn q4 hq4) rfl rfl (Nat.le_of_ble_eq_true rfl) rfl rfl ⟨rfl, rfl⟩ rfl rfl rfl ?_
    have h := Option.some.inj h
    subst h
    exact G_iret C hR (by decide +kernel)
  · rw [if_neg c] at h
    refine G_r C [(.aload_n 0, 1, 0, 0, .null), (.iload_n 1, 1, 0, 0, .null)] 25 [(1, .int q2.1), (0, .ref 0)] [.int q2.1, .ref 0] (wSR cy kb kn kf rK rf rg rpd rpn q2.2 q1.2 sg spd spn mc mm nc nm pd pn vo vd vs tl tb eo et ed em ef ez ek es en fi) (by decide +kernel) rfl rfl ?_
    obtain ⟨q5, hq5, h⟩ := obd h
    refine G_c0 C lk_6_73 ⟨Nat.le_of_ble_eq_true rfl, Nat.le_of_ble_eq_true rfl⟩ (by decide +kernel) [.int q5.1] (c_X6_refuse cy kb kn kf rK rf rg rpd rpn q2.2 q1.2 sg spd spn mc mm nc nm pd pn vo vd vs tl tb eo et ed em ef ez ek es en fi q2.1 q5 hq5) rfl rfl (Nat.le_of_ble_eq_true rfl) ⟨rfl, rfl⟩ rfl ?_
    have h := Option.some.inj h
    subst h
    exact G_iret C hR (by decide +kernel)
def f_X3_isNoShift (x0 : Int32) : Option Bool := (f_X6_isOutside x0 (-9 : Int32) (9 : Int32)).bind fun q1 => some q1
set_option maxHeartbeats 4000000 in
set_option maxRecDepth 100000 in
theorem c_X3_isNoShift (cy : Nat → ClassId)  (x0 : Int32) (res : Bool) (h : f_X3_isNoShift x0 = some res) : MG cy yX3_isNoShift cX3_isNoShift 1 (some .boolean) 1 22 [.int x0] [] (some (.int (bI res))) [] := by
  refine MG_of (o := 3) (lv := [(0, .int x0)]) ⟨by decide +kernel, rfl⟩ (Nat.le_of_ble_eq_true rfl) rfl (fun k C hR => ?_)
  rw [f_X3_isNoShift] at h
  refine G_r C [(.iload_n 0, 1, 0, 0, .null), (.bipush (-9), 2, 0, 0, .int (-9 : Int32)), (.bipush 9, 2, 0, 0, .int (9 : Int32))] 5 [(0, .int x0)] [.int (9 : Int32), .int (-9 : Int32), .int x0] [] (by decide +kernel) rfl rfl ?_
  obtain ⟨q1, hq1, h⟩ := obd h
  refine G_cN C lk_3_45 ⟨Nat.le_of_ble_eq_true rfl, Nat.le_of_ble_eq_true rfl⟩ (by decide +kernel) [.int (bI q1)] (c_X6_isOutside cy x0 (-9 : Int32) (9 : Int32) q1 hq1) rfl rfl (Nat.le_of_ble_eq_true rfl) rfl ?_
  have h := Option.some.inj h
  subst h
  exact G_zret C (v := q1) hR (by decide +kernel)
