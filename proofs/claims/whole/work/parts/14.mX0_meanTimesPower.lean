def f_X0_meanTimesPower_L6 : Nat → Int32 → Int32 → Int64 → Int32 → (Nat → Int64) → Int32 → (Nat → Int32) → Option Int64
  | 0, _, _, _, _, _, _, _ => none
  | fu + 1, x2, x3, x4, x6, mm, rK, rf => if x2 < x6 then (some x4) else ((f_X0_coefficient x2 x6 mm).bind fun q1 => (f_X3_at (x6 + x3) rK rf).bind fun q2 => f_X0_meanTimesPower_L6 fu x2 x3 (x4 + (q1 * q2.toInt64)) (x6 + (1 : Int32)) mm rK rf)
def f_X0_meanTimesPower (x2 : Int32) (x3 : Int32) (mm : Nat → Int64) (rK : Int32) (rf : Nat → Int32) : Option Int64 := (f_X0_meanTimesPower_L6 200 x2 x3 (0 : Int64) (0 : Int32) mm rK rf).bind fun q3 => some q3
set_option maxHeartbeats 4000000 in
set_option maxRecDepth 100000 in
theorem g_X0_meanTimesPower_L6 {k : KX} {cy : Nat → ClassId} (C : OK k cX0_meanTimesPower 0 7 cy 2 46) : ∀ (fu : Nat) (x2 : Int32) (x3 : Int32) (x4 : Int64) (x6 : Int32) (mc : Int32) (mm : Nat → Int64) (rK : Int32) (rf : Nat → Int32) (rg : Nat → Int64) (rpd : Int32) (rpn : Nat → Int64) (res : Int64), (f_X0_meanTimesPower_L6 fu x2 x3 x4 x6 mm rK rf = some res) → G k 7 40 [(4, .long res)] [] ((wMin cy 0 mc mm) ++ (wRow cy 2 rK rf rg rpd rpn)) → G k 7 6 [(0, .ref 0), (1, .ref 2), (2, .int x2), (3, .int x3), (4, .long x4), (6, .int x6)] [] ((wMin cy 0 mc mm) ++ (wRow cy 2 rK rf rg rpd rpn)) := by
  intro fu
  induction fu with
  | zero =>
    intro x2 x3 x4 x6 mc mm rK rf rg rpd rpn res h hex
    rw [f_X0_meanTimesPower_L6] at h
    cases h
  | succ fu ih =>
    intro x2 x3 x4 x6 mc mm rK rf rg rpd rpn res h hex
    rw [f_X0_meanTimesPower_L6] at h
    refine G_r C [(.iload 6, 2, 0, 0, .null), (.iload_n 2, 1, 0, 0, .null)] 9 [(0, .ref 0), (1, .ref 2), (2, .int x2), (3, .int x3), (4, .long x4), (6, .int x6)] [.int x2, .int x6] ((wMin cy 0 mc mm) ++ (wRow cy 2 rK rf rg rpd rpn)) (by decide +kernel) rfl rfl ?_
    refine G_icmp_gt C (off := 31) (tgt := 40) (by decide +kernel) rfl (fun c => ?_) (fun c => ?_)
    · rw [if_pos c] at h
      have h := Option.some.inj h
      subst h
      refine G_lv [4] (lv' := [(4, .long x4)]) rfl ?_
      exact hex
    · rw [if_neg c] at h
      refine G_r C [(.lload 4, 2, 0, 0, .null), (.aload_n 0, 1, 0, 0, .null), (.iload_n 2, 1, 0, 0, .null), (.iload 6, 2, 0, 0, .null)] 18 [(0, .ref 0), (1, .ref 2), (2, .int x2), (3, .int x3), (4, .long x4), (6, .int x6)] [.int x6, .int x2, .ref 0, .long x4] ((wMin cy 0 mc mm) ++ (wRow cy 2 rK rf rg rpd rpn)) (by decide +kernel) rfl rfl ?_
      obtain ⟨q1, hq1, h⟩ := obd h
      refine G_cV C lk_0_49 ⟨Nat.le_of_ble_eq_true rfl, Nat.le_of_ble_eq_true rfl⟩ (by decide +kernel) [0, 1] [.long q1, .long x4] ((wMin cy 0 mc mm) ++ (wRow cy 2 rK rf rg rpd rpn)) (c_X0_coefficient cy mc mm x2 x6 q1 hq1) rfl rfl (Nat.le_of_ble_eq_true rfl) rfl rfl ⟨rfl, rfl⟩ rfl rfl rfl ?_
      refine G_r C [(.aload_n 1, 1, 0, 0, .null), (.iload 6, 2, 0, 0, .null), (.iload_n 3, 1, 0, 0, .null), (.iadd, 1, 0, 0, .null)] 26 [(0, .ref 0), (1, .ref 2), (2, .int x2), (3, .int x3), (4, .long x4), (6, .int x6)] [.int (x6 + x3), .ref 2, .long q1, .long x4] ((wMin cy 0 mc mm) ++ (wRow cy 2 rK rf rg rpd rpn)) (by decide +kernel) rfl rfl ?_
      obtain ⟨q2, hq2, h⟩ := obd h
      refine G_cV C lk_0_35 ⟨Nat.le_of_ble_eq_true rfl, Nat.le_of_ble_eq_true rfl⟩ (by decide +kernel) [2, 3, 4, 5, 6] [.int q2, .long q1, .long x4] ((wMin cy 0 mc mm) ++ (wRow cy 2 rK rf rg rpd rpn)) (c_X3_at cy rK rf rg rpd rpn (x6 + x3) q2 hq2) rfl rfl (Nat.le_of_ble_eq_true rfl) rfl rfl ⟨rfl, rfl⟩ rfl rfl rfl ?_
      refine G_r C [(.i2l, 1, 0, 0, .null), (.lmul, 1, 0, 0, .null), (.ladd, 1, 0, 0, .null), (.lstore 4, 2, 0, 0, .null), (.iinc 6 1, 3, 0, 0, .int (1 : Int32))] 37 [(6, .int (x6 + (1 : Int32))), (4, .long (x4 + (q1 * q2.toInt64))), (0, .ref 0), (1, .ref 2), (2, .int x2), (3, .int x3)] [] ((wMin cy 0 mc mm) ++ (wRow cy 2 rK rf rg rpd rpn)) (by decide +kernel) rfl rfl ?_
      refine G_goto C (off := -31) (tgt := 6) (by decide +kernel) rfl ?_
      refine G_lv [2, 3, 4, 5, 1, 0] (lv' := [(0, .ref 0), (1, .ref 2), (2, .int x2), (3, .int x3), (4, .long (x4 + (q1 * q2.toInt64))), (6, .int (x6 + (1 : Int32)))]) rfl ?_
      exact ih x2 x3 (x4 + (q1 * q2.toInt64)) (x6 + (1 : Int32)) mc mm rK rf rg rpd rpn res h hex
set_option maxHeartbeats 4000000 in
set_option maxRecDepth 100000 in
theorem c_X0_meanTimesPower (cy : Nat → ClassId) (mc : Int32) (mm : Nat → Int64) (rK : Int32) (rf : Nat → Int32) (rg : Nat → Int64) (rpd : Int32) (rpn : Nat → Int64) (x2 : Int32) (x3 : Int32) (res : Int64) (h : f_X0_meanTimesPower x2 x3 mm rK rf = some res) : MG cy yX0_meanTimesPower cX0_meanTimesPower 7 (some .long) 2 46 [.ref 0, .ref 2, .int x2, .int x3] ((wMin cy 0 mc mm) ++ (wRow cy 2 rK rf rg rpd rpn)) (some (.long res)) ((wMin cy 0 mc mm) ++ (wRow cy 2 rK rf rg rpd rpn)) := by
  refine MG_of (o := 0) (lv := [(0, .ref 0), (1, .ref 2), (2, .int x2), (3, .int x3)]) ⟨by decide +kernel, rfl⟩ (Nat.le_of_ble_eq_true rfl) rfl (fun k C hR => ?_)
  rw [f_X0_meanTimesPower] at h
  refine G_r C [(.lconst 0, 1, 0, 0, .long (0 : Int64)), (.lstore 4, 2, 0, 0, .null), (.iconst 0, 1, 0, 0, .int (0 : Int32)), (.istore 6, 2, 0, 0, .null)] 6 [(6, .int (0 : Int32)), (4, .long (0 : Int64)), (0, .ref 0), (1, .ref 2), (2, .int x2), (3, .int x3)] [] ((wMin cy 0 mc mm) ++ (wRow cy 2 rK rf rg rpd rpn)) (by decide +kernel) rfl rfl ?_
  obtain ⟨q3, hq3, h⟩ := obd h
  refine G_lv [2, 3, 4, 5, 1, 0] (lv' := [(0, .ref 0), (1, .ref 2), (2, .int x2), (3, .int x3), (4, .long (0 : Int64)), (6, .int (0 : Int32))]) rfl ?_
  refine g_X0_meanTimesPower_L6 C 200 x2 x3 (0 : Int64) (0 : Int32) mc mm rK rf rg rpd rpn q3 hq3 ?_
  refine G_r C [(.lload 4, 2, 0, 0, .null)] 42 [(4, .long q3)] [.long q3] ((wMin cy 0 mc mm) ++ (wRow cy 2 rK rf rg rpd rpn)) (by decide +kernel) rfl rfl ?_
  have h := Option.some.inj h
  subst h
  exact G_lret C hR (by decide +kernel)
def f_X6_findRest_L4 : Nat → Int32 → Int32 → Int32 → (Nat → Int32) → (Nat → Int64) → Option Int32
  | 0, _, _, _, _, _ => none
  | fu + 1, x1, x2, rK, rf, mm => (f_X3_size rK).bind fun q1 => if ((q1 - (1 : Int32)) - x1) < x2 then (some (-1 : Int32)) else ((f_X0_meanTimesPower x1 x2 mm rK rf).bind fun q2 => if q2 = (0 : Int64) then (f_X6_findRest_L4 fu x1 (x2 + (1 : Int32)) rK rf mm) else (some x2))
def f_X6_findRest (x1 : Int32) (rK : Int32) (rf : Nat → Int32) (mm : Nat → Int64) : Option Int32 := f_X6_findRest_L4 200 x1 (x1 + (1 : Int32)) rK rf mm
set_option maxHeartbeats 4000000 in
set_option maxRecDepth 100000 in
theorem g_X6_findRest_L4 {k : KX} {cy : Nat → ClassId} (C : OK k cX6_findRest 6 3 cy 3 72) : ∀ (fu : Nat) (x1 : Int32) (x2 : Int32) (kb : Int32) (kn : Int32) (kf : Int32) (rK : Int32) (rf : Nat → Int32) (rg : Nat → Int64) (rpd : Int32) (rpn : Nat → Int64) (sK : Int32) (sf : Nat → Int32) (sg : Nat → Int64) (spd : Int32) (spn : Nat → Int64) (mc : Int32) (mm : Nat → Int64) (nc : Int32) (nm : Nat → Int64) (pd : Int32) (pn : Nat → Int64) (vo : Int32) (vd : Int32) (vs : Nat → Int32) (tl : Int32) (tb : Nat → Int32) (eo : Int32) (et : Int32) (ed : Int32) (em : Bool) (ef : Int32) (ez : Int32) (ek : Nat → Int32) (es : Nat → Int32) (en : Nat → Int32) (fi : Nat → Int32) (res : Int32), RT k cy (some .int) (some (.int res)) (wSR cy kb kn kf rK rf rg rpd rpn sK sf sg spd spn mc mm nc nm pd pn vo vd vs tl tb eo et ed em ef ez ek es en fi) → (f_X6_findRest_L4 fu x1 x2 rK rf mm = some res) → G k 3 4 [(0, .ref 0), (1, .int x1), (2, .int x2)] [] (wSR cy kb kn kf rK rf rg rpd rpn sK sf sg spd spn mc mm nc nm pd pn vo vd vs tl tb eo et ed em ef ez ek es en fi) := by
  intro fu
  induction fu with
  | zero =>
    intro x1 x2 kb kn kf rK rf rg rpd rpn sK sf sg spd spn mc mm nc nm pd pn vo vd vs tl tb eo et ed em ef ez ek es en fi res hR h
    rw [f_X6_findRest_L4] at h
    cases h
  | succ fu ih =>
    intro x1 x2 kb kn kf rK rf rg rpd rpn sK sf sg spd spn mc mm nc nm pd pn vo vd vs tl tb eo et ed em ef ez ek es en fi res hR h
    rw [f_X6_findRest_L4] at h
    refine G_r C [(.iload_n 2, 1, 0, 0, .null), (.aload_n 0, 1, 0, 0, .null), (.getfield 12, 3, 6, 0, .null)] 9 [(0, .ref 0), (1, .int x1), (2, .int x2)] [.ref 1, .int x2] (wSR cy kb kn kf rK rf rg rpd rpn sK sf sg spd spn mc mm nc nm pd pn vo vd vs tl tb eo et ed em ef ez ek es en fi) (by decide +kernel) rfl rfl ?_
    obtain ⟨q1, hq1, h⟩ := obd h
    refine G_cV C lk_6_82 ⟨Nat.le_of_ble_eq_true rfl, Nat.le_of_ble_eq_true rfl⟩ (by decide +kernel) [1, 2, 3, 4, 5] [.int q1, .int x2] (wSR cy kb kn kf rK rf rg rpd rpn sK sf sg spd spn mc mm nc nm pd pn vo vd vs tl tb eo et ed em ef ez ek es en fi) (c_X3_size cy rK rf rg rpd rpn q1 hq1) rfl rfl (Nat.le_of_ble_eq_true rfl) rfl rfl ⟨rfl, rfl⟩ rfl rfl rfl ?_
    refine G_r C [(.iconst 1, 1, 0, 0, .int (1 : Int32)), (.isub, 1, 0, 0, .null), (.iload_n 1, 1, 0, 0, .null), (.isub, 1, 0, 0, .null)] 16 [(0, .ref 0), (1, .int x1), (2, .int x2)] [.int ((q1 - (1 : Int32)) - x1), .int x2] (wSR cy kb kn kf rK rf rg rpd rpn sK sf sg spd spn mc mm nc nm pd pn vo vd vs tl tb eo et ed em ef ez ek es en fi) (by decide +kernel) rfl rfl ?_
    refine G_icmp_gt C (off := 29) (tgt := 45) (by decide +kernel) rfl (fun c => ?_) (fun c => ?_)
    · rw [if_pos c] at h
      refine G_r C [(.iconst (-1), 1, 0, 0, .int (-1 : Int32))] 46 [(0, .ref 0), (1, .int x1), (2, .int x2)] [.int (-1 : Int32)] (wSR cy kb kn kf rK rf rg rpd rpn sK sf sg spd spn mc mm nc nm pd pn vo vd vs tl tb eo et ed em ef ez ek es en fi) (by decide +kernel) rfl rfl ?_
      have h := Option.some.inj h
      subst h
      exact G_iret C hR (by decide +kernel)
    · rw [if_neg c] at h
      refine G_r C [(.aload_n 0, 1, 0, 0, .null), (.getfield 22, 3, 6, 2, .null), (.aload_n 0, 1, 0, 0, .null), (.getfield 12, 3, 6, 0, .null), (.iload_n 1, 1, 0, 0, .null), (.iload_n 2, 1, 0, 0, .null)] 29 [(0, .ref 0), (1, .int x1), (2, .int x2)] [.int x2, .int x1, .ref 1, .ref 11] (wSR cy kb kn kf rK rf rg rpd rpn sK sf sg spd spn mc mm nc nm pd pn vo vd vs tl tb eo et ed em ef ez ek es en fi) (by decide +kernel) rfl rfl ?_
      obtain ⟨q2, hq2, h⟩ := obd h
      refine G_cV C lk_6_243 ⟨Nat.le_of_ble_eq_true rfl, Nat.le_of_ble_eq_true rfl⟩ (by decide +kernel) [11, 12, 1, 2, 3, 4, 5] [.long q2] (wSR cy kb kn kf rK rf rg rpd rpn sK sf sg spd spn mc mm nc nm pd pn vo vd vs tl tb eo et ed em ef ez ek es en fi) (c_X0_meanTimesPower cy mc mm rK rf rg rpd rpn x1 x2 q2 hq2) rfl rfl (Nat.le_of_ble_eq_true rfl) rfl rfl ⟨rfl, rfl⟩ rfl rfl rfl ?_
      refine G_r C [(.lconst 0, 1, 0, 0, .long (0 : Int64))] 33 [(0, .ref 0), (1, .int x1), (2, .int x2)] [.long (0 : Int64), .long q2] (wSR cy kb kn kf rK rf rg rpd rpn sK sf sg spd spn mc mm nc nm pd pn vo vd vs tl tb eo et ed em ef ez ek es en fi) (by decide +kernel) rfl rfl ?_
      refine G_lcmp_eq C (off := 5) (tgt := 39) (by decide +kernel) (by decide +kernel) rfl (fun c => ?_) (fun c => ?_)
      · rw [if_pos c] at h
        refine G_r C [(.iinc 2 1, 3, 0, 0, .int (1 : Int32))] 42 [(2, .int (x2 + (1 : Int32))), (0, .ref 0), (1, .int x1)] [] (wSR cy kb kn kf rK rf rg rpd rpn sK sf sg spd spn mc mm nc nm pd pn vo vd vs tl tb eo et ed em ef ez ek es en fi) (by decide +kernel) rfl rfl ?_
        refine G_goto C (off := -38) (tgt := 4) (by decide +kernel) rfl ?_
        refine G_lv [1, 2, 0] (lv' := [(0, .ref 0), (1, .int x1), (2, .int (x2 + (1 : Int32)))]) rfl ?_
        exact ih x1 (x2 + (1 : Int32)) kb kn kf rK rf rg rpd rpn sK sf sg spd spn mc mm nc nm pd pn vo vd vs tl tb eo et ed em ef ez ek es en fi res hR h
      · rw [if_neg c] at h
        refine G_r C [(.iload_n 2, 1, 0, 0, .null)] 38 [(0, .ref 0), (1, .int x1), (2, .int x2)] [.int x2] (wSR cy kb kn kf rK rf rg rpd rpn sK sf sg spd spn mc mm nc nm pd pn vo vd vs tl tb eo et ed em ef ez ek es en fi) (by decide +kernel) rfl rfl ?_
        have h := Option.some.inj h
        subst h
        exact G_iret C hR (by decide +kernel)
set_option maxHeartbeats 4000000 in
set_option maxRecDepth 100000 in
theorem c_X6_findRest (cy : Nat → ClassId) (kb : Int32) (kn : Int32) (kf : Int32) (rK : Int32) (rf : Nat → Int32) (rg : Nat → Int64) (rpd : Int32) (rpn : Nat → Int64) (sK : Int32) (sf : Nat → Int32) (sg : Nat → Int64) (spd : Int32) (spn : Nat → Int64) (mc : Int32) (mm : Nat → Int64) (nc : Int32) (nm : Nat → Int64) (pd : Int32) (pn : Nat → Int64) (vo : Int32) (vd : Int32) (vs : Nat → Int32) (tl : Int32) (tb : Nat → Int32) (eo : Int32) (et : Int32) (ed : Int32) (em : Bool) (ef : Int32) (ez : Int32) (ek : Nat → Int32) (es : Nat → Int32) (en : Nat → Int32) (fi : Nat → Int32) (x1 : Int32) (res : Int32) (h : f_X6_findRest x1 rK rf mm = some res) : MG cy yX6_findRest cX6_findRest 3 (some .int) 3 72 [.ref 0, .int x1] (wSR cy kb kn kf rK rf rg rpd rpn sK sf sg spd spn mc mm nc nm pd pn vo vd vs tl tb eo et ed em ef ez ek es en fi) (some (.int res)) (wSR cy kb kn kf rK rf rg rpd rpn sK sf sg spd spn mc mm nc nm pd pn vo vd vs tl tb eo et ed em ef ez ek es en fi) := by
  refine MG_of (o := 6) (lv := [(0, .ref 0), (1, .int x1)]) ⟨by decide +kernel, rfl⟩ (Nat.le_of_ble_eq_true rfl) rfl (fun k C hR => ?_)
  rw [f_X6_findRest] at h
  refine G_r C [(.iload_n 1, 1, 0, 0, .null), (.iconst 1, 1, 0, 0, .int (1 : Int32)), (.iadd, 1, 0, 0, .null), (.istore_n 2, 1, 0, 0, .null)] 4 [(2, .int (x1 + (1 : Int32))), (0, .ref 0), (1, .int x1)] [] (wSR cy kb kn kf rK rf rg rpd rpn sK sf sg spd spn mc mm nc nm pd pn vo vd vs tl tb eo et ed em ef ez ek es en fi) (by decide +kernel) rfl rfl ?_
  refine G_lv [1, 2, 0] (lv' := [(0, .ref 0), (1, .int x1), (2, .int (x1 + (1 : Int32)))]) rfl ?_
  exact g_X6_findRest_L4 C 200 x1 (x1 + (1 : Int32)) kb kn kf rK rf rg rpd rpn sK sf sg spd spn mc mm nc nm pd pn vo vd vs tl tb eo et ed em ef ez ek es en fi res hR h
def f_X6_judge_L14 : Nat → Int32 → Int32 → (Nat → Int64) → Option Int32
  | 0, _, _, _ => none
  | fu + 1, x1, rK, mm => if (3 : Int32) < x1 then (some x1) else ((f_X3_size rK).bind fun q2 => if q2 ≤ ((2 : Int32) * x1) then (some x1) else ((f_X0_det (x1 + (1 : Int32)) mm).bind fun q3 => if q3 ≤ (0 : Int64) then (some x1) else (f_X6_judge_L14 fu (x1 + (1 : Int32)) rK mm)))
def f_X6_judge (rK : Int32) (rf : Nat → Int32) (mm : Nat → Int64) (fi : Nat → Int32) : Option (Int32 × (Nat → Int64) × (Nat → Int32)) := (f_X0_fill (0 : Int32) mm rK rf).bind fun q1 => (f_X6_judge_L14 200 (0 : Int32) rK q1.2).bind fun q4 => if (3 : Int32) < q4 then ((f_X6_find (2 : Int32) q4 (-1000000 : Int32) (-1000000 : Int32) fi).bind fun q5 => some (q1.1, q1.2, q5)) else ((f_X3_size rK).bind fun q6 => if ((2 : Int32) * q4) < q6 then ((f_X0_det (q4 + (1 : Int32)) q1.2).bind fun q7 => if (0 : Int64) ≤ q7 then ((f_X6_findRest q4 rK rf q1.2).bind fun q8 => if q8 = (-1 : Int32) then ((f_X6_find (1 : Int32) q4 (-1000000 : Int32) (-1000000 : Int32) fi).bind fun q10 => some (q1.1, q1.2, q10)) else ((f_X6_find (0 : Int32) q4 (1 : Int32) q8 fi).bind fun q9 => some (q1.1, q1.2, q9))) else ((f_X6_find (0 : Int32) q4 (0 : Int32) (-1000000 : Int32) fi).bind fun q11 => some (q1.1, q1.2, q11))) else ((f_X6_find (2 : Int32) q4 (-1000000 : Int32) (-1000000 : Int32) fi).bind fun q12 => some (q1.1, q1.2, q12)))
set_option maxHeartbeats 4000000 in
set_option maxRecDepth 100000 in
theorem g_X6_judge_L14 {k : KX} {cy : Nat → ClassId} (C : OK k cX6_judge 6 3 cy 4 94) : ∀ (fu : Nat) (x1 : Int32) (kb : Int32) (kn : Int32) (kf : Int32) (rK : Int32) (rf : Nat → Int32) (rg : Nat → Int64) (rpd : Int32) (rpn : Nat → Int64) (sK : Int32) (sf : Nat → Int32) (sg : Nat → Int64) (spd : Int32) (spn : Nat → Int64) (mc : Int32) (mm : Nat → Int64) (nc : Int32) (nm : Nat → Int64) (pd : Int32) (pn : Nat → Int64) (vo : Int32) (vd : Int32) (vs : Nat → Int32) (tl : Int32) (tb : Nat → Int32) (eo : Int32) (et : Int32) (ed : Int32) (em : Bool) (ef : Int32) (ez : Int32) (ek : Nat → Int32) (es : Nat → Int32) (en : Nat → Int32) (fi : Nat → Int32) (res : Int32), (f_X6_judge_L14 fu x1 rK mm = some res) → G k 3 53 [(0, .ref 0), (1, .int res)] [] (wSR cy kb kn kf rK rf rg rpd rpn sK sf sg spd spn mc mm nc nm pd pn vo vd vs tl tb eo et ed em ef ez ek es en fi) → G k 3 14 [(0, .ref 0), (1, .int x1)] [] (wSR cy kb kn kf rK rf rg rpd rpn sK sf sg spd spn mc mm nc nm pd pn vo vd vs tl tb eo et ed em ef ez ek es en fi) := by
  intro fu
  induction fu with
  | zero =>
    intro x1 kb kn kf rK rf rg rpd rpn sK sf sg spd spn mc mm nc nm pd pn vo vd vs tl tb eo et ed em ef ez ek es en fi res h hex
    rw [f_X6_judge_L14] at h
    cases h
  | succ fu ih =>
    intro x1 kb kn kf rK rf rg rpd rpn sK sf sg spd spn mc mm nc nm pd pn vo vd vs tl tb eo et ed em ef ez ek es en fi res h hex
    rw [f_X6_judge_L14] at h
    refine G_r C [(.iload_n 1, 1, 0, 0, .null), (.iconst 3, 1, 0, 0, .int (3 : Int32))] 16 [(0, .ref 0), (1, .int x1)] [.int (3 : Int32), .int x1] (wSR cy kb kn kf rK rf rg rpd rpn sK sf sg spd spn mc mm nc nm pd pn vo vd vs tl tb eo et ed em ef ez ek es en fi) (by decide +kernel) rfl rfl ?_
    refine G_icmp_gt C (off := 37) (tgt := 53) (by decide +kernel) rfl (fun c => ?_) (fun c => ?_)
    · rw [if_pos c] at h
      have h := Option.some.inj h
      subst h
      refine G_lv [0, 1] (lv' := [(0, .ref 0), (1, .int x1)]) rfl ?_
      exact hex
    · rw [if_neg c] at h
      refine G_r C [(.aload_n 0, 1, 0, 0, .null), (.getfield 12, 3, 6, 0, .null)] 23 [(0, .ref 0), (1, .int x1)] [.ref 1] (wSR cy kb kn kf rK rf rg rpd rpn sK sf sg spd spn mc mm nc nm pd pn vo vd vs tl tb eo et ed em ef ez ek es en fi) (by decide +kernel) rfl rfl ?_
      obtain ⟨q2, hq2, h⟩ := obd h
      refine G_cV C lk_6_82 ⟨Nat.le_of_ble_eq_true rfl, Nat.le_of_ble_eq_true rfl⟩ (by decide +kernel) [1, 2, 3, 4, 5] [.int q2] (wSR cy kb kn kf rK rf rg rpd rpn sK sf sg spd spn mc mm nc nm pd pn vo vd vs tl tb eo et ed em ef ez ek es en fi) (c_X3_size cy rK rf rg rpd rpn q2 hq2) rfl rfl (Nat.le_of_ble_eq_true rfl) rfl rfl ⟨rfl, rfl⟩ rfl rfl rfl ?_
      refine G_r C [(.iconst 2, 1, 0, 0, .int (2 : Int32)), (.iload_n 1, 1, 0, 0, .null), (.imul, 1, 0, 0, .null)] 29 [(0, .ref 0), (1, .int x1)] [.int ((2 : Int32) * x1), .int q2] (wSR cy kb kn kf rK rf rg rpd rpn sK sf sg spd spn mc mm nc nm pd pn vo vd vs tl tb eo et ed em ef ez ek es en fi) (by decide +kernel) rfl rfl ?_
      refine G_icmp_le C (off := 24) (tgt := 53) (by decide +kernel) rfl (fun c => ?_) (fun c => ?_)
      · rw [if_pos c] at h
        have h := Option.some.inj h
        subst h
        refine G_lv [0, 1] (lv' := [(0, .ref 0), (1, .int x1)]) rfl ?_
        exact hex
      · rw [if_neg c] at h
        refine G_r C [(.aload_n 0, 1, 0, 0, .null), (.getfield 22, 3, 6, 2, .null), (.iload_n 1, 1, 0, 0, .null), (.iconst 1, 1, 0, 0, .int (1 : Int32)), (.iadd, 1, 0, 0, .null)] 39 [(0, .ref 0), (1, .int x1)] [.int (x1 + (1 : Int32)), .ref 11] (wSR cy kb kn kf rK rf rg rpd rpn sK sf sg spd spn mc mm nc nm pd pn vo vd vs tl tb eo et ed em ef ez ek es en fi) (by decide +kernel) rfl rfl ?_
        obtain ⟨q3, hq3, h⟩ := obd h
        refine G_cV C lk_6_115 ⟨Nat.le_of_ble_eq_true rfl, Nat.le_of_ble_eq_true rfl⟩ (by decide +kernel) [11, 12] [.long q3] (wSR cy kb kn kf rK rf rg rpd rpn sK sf sg spd spn mc mm nc nm pd pn vo vd vs tl tb eo et ed em ef ez ek es en fi) (c_X0_det cy mc mm (x1 + (1 : Int32)) q3 hq3) rfl rfl (Nat.le_of_ble_eq_true rfl) rfl rfl ⟨rfl, rfl⟩ rfl rfl rfl ?_
        refine G_r C [(.lconst 0, 1, 0, 0, .long (0 : Int64))] 43 [(0, .ref 0), (1, .int x1)] [.long (0 : Int64), .long q3] (wSR cy kb kn kf rK rf rg rpd rpn sK sf sg spd spn mc mm nc nm pd pn vo vd vs tl tb eo et ed em ef ez ek es en fi) (by decide +kernel) rfl rfl ?_
        refine G_lcmp_le C (off := 9) (tgt := 53) (by decide +kernel) (by decide +kernel) rfl (fun c => ?_) (fun c => ?_)
        · rw [if_pos c] at h
          have h := Option.some.inj h
          subst h
          refine G_lv [0, 1] (lv' := [(0, .ref 0), (1, .int x1)]) rfl ?_
          exact hex
        · rw [if_neg c] at h
          refine G_r C [(.iinc 1 1, 3, 0, 0, .int (1 : Int32))] 50 [(1, .int (x1 + (1 : Int32))), (0, .ref 0)] [] (wSR cy kb kn kf rK rf rg rpd rpn sK sf sg spd spn mc mm nc nm pd pn vo vd vs tl tb eo et ed em ef ez ek es en fi) (by decide +kernel) rfl rfl ?_
          refine G_goto C (off := -36) (tgt := 14) (by decide +kernel) rfl ?_
          refine G_lv [1, 0] (lv' := [(0, .ref 0), (1, .int (x1 + (1 : Int32)))]) rfl ?_
          exact ih (x1 + (1 : Int32)) kb kn kf rK rf rg rpd rpn sK sf sg spd spn mc mm nc nm pd pn vo vd vs tl tb eo et ed em ef ez ek es en fi res h hex
set_option maxHeartbeats 4000000 in
set_option maxRecDepth 100000 in
theorem c_X6_judge (cy : Nat → ClassId) (kb : Int32) (kn : Int32) (kf : Int32) (rK : Int32) (rf : Nat → Int32) (rg : Nat → Int64) (rpd : Int32) (rpn : Nat → Int64) (sK : Int32) (sf : Nat → Int32) (sg : Nat → Int64) (spd : Int32) (spn : Nat → Int64) (mc : Int32) (mm : Nat → Int64) (nc : Int32) (nm : Nat → Int64) (pd : Int32) (pn : Nat → Int64) (vo : Int32) (vd : Int32) (vs : Nat → Int32) (tl : Int32) (tb : Nat → Int32) (eo : Int32) (et : Int32) (ed : Int32) (em : Bool) (ef : Int32) (ez : Int32) (ek : Nat → Int32) (es : Nat → Int32) (en : Nat → Int32) (fi : Nat → Int32)  (res : (Int32 × (Nat → Int64) × (Nat → Int32))) (h : f_X6_judge rK rf mm fi = some res) : MG cy yX6_judge cX6_judge 3 none 4 94 [.ref 0] (wSR cy kb kn kf rK rf rg rpd rpn sK sf sg spd spn mc mm nc nm pd pn vo vd vs tl tb eo et ed em ef ez ek es en fi) none (wSR cy kb kn kf rK rf rg rpd rpn sK sf sg spd spn res.1 res.2.1 nc nm pd pn vo vd vs tl tb eo et ed em ef ez ek es en res.2.2) := by
  refine MG_of (o := 6) (lv := [(0, .ref 0)]) ⟨by decide +kernel, rfl⟩ (Nat.le_of_ble_eq_true rfl) rfl (fun k C hR => ?_)
  rw [f_X6_judge] at h
  refine G_r C [(.aload_n 0, 1, 0, 0, .null), (.getfield 22, 3, 6, 2, .null), (.aload_n 0, 1, 0, 0, .null), (.getfield 12, 3, 6, 0, .null), (.iconst 0, 1, 0, 0, .int (0 : Int32))] 9 [(0, .ref 0)] [.int (0 : Int32), .ref 1, .ref 11] (wSR cy kb kn kf rK rf rg rpd rpn sK sf sg spd spn mc mm nc nm pd pn vo vd vs tl tb eo et ed em ef ez ek es en fi) (by decide +kernel) rfl rfl ?_
  obtain ⟨q1, hq1, h⟩ := obd h
  refine G_cV C lk_6_111 ⟨Nat.le_of_ble_eq_true rfl, Nat.le_of_ble_eq_true rfl⟩ (by decide +kernel) [11, 12, 1, 2, 3, 4, 5] [] (wSR cy kb kn kf rK rf rg rpd rpn sK sf sg spd spn q1.1 q1.2 nc nm pd pn vo vd vs tl tb eo et ed em ef ez ek es en fi) (c_X0_fill cy mc mm rK rf rg rpd rpn (0 : Int32) q1 hq1) rfl rfl (Nat.le_of_ble_eq_true rfl) rfl rfl ⟨rfl, rfl⟩ rfl rfl rfl ?_
  refine G_r C [(.iconst 0, 1, 0, 0, .int (0 : Int32)), (.istore_n 1, 1, 0, 0, .null)] 14 [(1, .int (0 : Int32)), (0, .ref 0)] [] (wSR cy kb kn kf rK rf rg rpd rpn sK sf sg spd spn q1.1 q1.2 nc nm pd pn vo vd vs tl tb eo et ed em ef ez ek es en fi) (by decide +kernel) rfl rfl ?_
  obtain ⟨q4, hq4, h⟩ := obd h
  refine G_lv [1, 0] (lv' := [(0, .ref 0), (1, .int (0 : Int32))]) rfl ?_
  refine g_X6_judge_L14 C 200 (0 : Int32) kb kn kf rK rf rg rpd rpn sK sf sg spd spn q1.1 q1.2 nc nm pd pn vo vd vs tl tb eo et ed em ef ez ek es en fi q4 hq4 ?_
  refine G_r C [(.iload_n 1, 1, 0, 0, .null), (.iconst 3, 1, 0, 0, .int (3 : Int32))] 55 [(0, .ref 0), (1, .int q4)] [.int (3 : Int32), .int q4] (wSR cy kb kn kf rK rf rg rpd rpn sK sf sg spd spn q1.1 q1.2 nc nm pd pn vo vd vs tl tb eo et ed em ef ez ek es en fi) (by decide +kernel) rfl rfl ?_
  refine G_icmp_gt C (off := 16) (tgt := 71) (by decide +kernel) rfl (fun c => ?_) (fun c => ?_)
  · rw [if_pos c] at h
    refine G_r C [(.aload_n 0, 1, 0, 0, .null), (.iconst 2, 1, 0, 0, .int (2 : Int32)), (.iload_n 1, 1, 0, 0, .null)] 74 [(0, .ref 0), (1, .int q4)] [.int q4, .int (2 : Int32), .ref 0] (wSR cy kb kn kf rK rf rg rpd rpn sK sf sg spd spn q1.1 q1.2 nc nm pd pn vo vd vs tl tb eo et ed em ef ez ek es en fi) (by decide +kernel) rfl rfl ?_
    refine G_ldc C co_6_235 (by decide +kernel) ?_
    refine G_ldc C co_6_235 (by decide +kernel) ?_
    obtain ⟨q5, hq5, h⟩ := obd h
    refine G_c0 C lk_6_236 ⟨Nat.le_of_ble_eq_true rfl, Nat.le_of_ble_eq_true rfl⟩ (by decide +kernel) [] (c_X6_find cy kb kn kf rK rf rg rpd rpn sK sf sg spd spn q1.1 q1.2 nc nm pd pn vo vd vs tl tb eo et ed em ef ez ek es en fi (2 : Int32) q4 (-1000000 : Int32) (-1000000 : Int32) q5 hq5) rfl rfl (Nat.le_of_ble_eq_true rfl) ⟨rfl, rfl⟩ rfl ?_
    have h := Option.some.inj h
    subst h
    exact G_vret C hR (by decide +kernel)
  · rw [if_neg c] at h
    refine G_r C [(.aload_n 0, 1, 0, 0, .null), (.getfield 12, 3, 6, 0, .null)] 62 [(0, .ref 0), (1, .int q4)] [.ref 1] (wSR cy kb kn kf rK rf rg rpd rpn sK sf sg spd spn q1.1 q1.2 nc nm pd pn vo vd vs tl tb eo et ed em ef ez ek es en fi) (by decide +kernel) rfl rfl ?_
    obtain ⟨q6, hq6, h⟩ := obd h
    refine G_cV C lk_6_82 ⟨Nat.le_of_ble_eq_true rfl, Nat.le_of_ble_eq_true rfl⟩ (by decide +kernel) [1, 2, 3, 4, 5] [.int q6] (wSR cy kb kn kf rK rf rg rpd rpn sK sf sg spd spn q1.1 q1.2 nc nm pd pn vo vd vs tl tb eo et ed em ef ez ek es en fi) (c_X3_size cy rK rf rg rpd rpn q6 hq6) rfl rfl (Nat.le_of_ble_eq_true rfl) rfl rfl ⟨rfl, rfl⟩ rfl rfl rfl ?_
    refine G_r C [(.iconst 2, 1, 0, 0, .int (2 : Int32)), (.iload_n 1, 1, 0, 0, .null), (.imul, 1, 0, 0, .null)] 68 [(0, .ref 0), (1, .int q4)] [.int ((2 : Int32) * q4), .int q6] (wSR cy kb kn kf rK rf rg rpd rpn sK sf sg spd spn q1.1 q1.2 nc nm pd pn vo vd vs tl tb eo et ed em ef ez ek es en fi) (by decide +kernel) rfl rfl ?_
    refine G_icmp_gt C (off := 14) (tgt := 82) (by decide +kernel) rfl (fun c => ?_) (fun c => ?_)
    · rw [if_pos c] at h
      refine G_r C [(.aload_n 0, 1, 0, 0, .null), (.getfield 22, 3, 6, 2, .null), (.iload_n 1, 1, 0, 0, .null), (.iconst 1, 1, 0, 0, .int (1 : Int32)), (.iadd, 1, 0, 0, .null)] 89 [(0, .ref 0), (1, .int q4)] [.int (q4 + (1 : Int32)), .ref 11] (wSR cy kb kn kf rK rf rg rpd rpn sK sf sg spd spn q1.1 q1.2 nc nm pd pn vo vd vs tl tb eo et ed em ef ez ek es en fi) (by decide +kernel) rfl rfl ?_
      obtain ⟨q7, hq7, h⟩ := obd h
      refine G_cV C lk_6_115 ⟨Nat.le_of_ble_eq_true rfl, Nat.le_of_ble_eq_true rfl⟩ (by decide +kernel) [11, 12] [.long q7] (wSR cy kb kn kf rK rf rg rpd rpn sK sf sg spd spn q1.1 q1.2 nc nm pd pn vo vd vs tl tb eo et ed em ef ez ek es en fi) (c_X0_det cy q1.1 q1.2 (q4 + (1 : Int32)) q7 hq7) rfl rfl (Nat.le_of_ble_eq_true rfl) rfl rfl ⟨rfl, rfl⟩ rfl rfl rfl ?_
      refine G_r C [(.lconst 0, 1, 0, 0, .long (0 : Int64))] 93 [(0, .ref 0), (1, .int q4)] [.long (0 : Int64), .long q7] (wSR cy kb kn kf rK rf rg rpd rpn sK sf sg spd spn q1.1 q1.2 nc nm pd pn vo vd vs tl tb eo et ed em ef ez ek es en fi) (by decide +kernel) rfl rfl ?_
      refine G_lcmp_ge C (off := 13) (tgt := 107) (by decide +kernel) (by decide +kernel) rfl (fun c => ?_) (fun c => ?_)
      · rw [if_pos c] at h
        refine G_r C [(.aload_n 0, 1, 0, 0, .null), (.iload_n 1, 1, 0, 0, .null)] 109 [(0, .ref 0), (1, .int q4)] [.int q4, .ref 0] (wSR cy kb kn kf rK rf rg rpd rpn sK sf sg spd spn q1.1 q1.2 nc nm pd pn vo vd vs tl tb eo et ed em ef ez ek es en fi) (by decide +kernel) rfl rfl ?_
        obtain ⟨q8, hq8, h⟩ := obd h
        refine G_c0 C lk_6_240 ⟨Nat.le_of_ble_eq_true rfl, Nat.le_of_ble_eq_true rfl⟩ (by decide +kernel) [.int q8] (c_X6_findRest cy kb kn kf rK rf rg rpd rpn sK sf sg spd spn q1.1 q1.2 nc nm pd pn vo vd vs tl tb eo et ed em ef ez ek es en fi q4 q8 hq8) rfl rfl (Nat.le_of_ble_eq_true rfl) ⟨rfl, rfl⟩ rfl ?_
        refine G_r C [(.istore_n 2, 1, 0, 0, .null), (.iload_n 2, 1, 0, 0, .null), (.iconst (-1), 1, 0, 0, .int (-1 : Int32))] 115 [(2, .int q8), (0, .ref 0), (1, .int q4)] [.int (-1 : Int32), .int q8] (wSR cy kb kn kf rK rf rg rpd rpn sK sf sg spd spn q1.1 q1.2 nc nm pd pn vo vd vs tl tb eo et ed em ef ez ek es en fi) (by decide +kernel) rfl rfl ?_
        refine G_icmp_ne C (off := 16) (tgt := 131) (by decide +kernel) rfl (fun c => ?_) (fun c => ?_)
        · rw [if_neg c] at h
          refine G_r C [(.aload_n 0, 1, 0, 0, .null), (.iconst 0, 1, 0, 0, .int (0 : Int32)), (.iload_n 1, 1, 0, 0, .null), (.iconst 1, 1, 0, 0, .int (1 : Int32)), (.iload_n 2, 1, 0, 0, .null)] 136 [(2, .int q8), (0, .ref 0), (1, .int q4)] [.int q8, .int (1 : Int32), .int q4, .int (0 : Int32), .ref 0] (wSR cy kb kn kf rK rf rg rpd rpn sK sf sg spd spn q1.1 q1.2 nc nm pd pn vo vd vs tl tb eo et ed em ef ez ek es en fi) (by decide +kernel) rfl rfl ?_
          obtain ⟨q9, hq9, h⟩ := obd h
          refine G_c0 C lk_6_236 ⟨Nat.le_of_ble_eq_true rfl, Nat.le_of_ble_eq_true rfl⟩ (by decide +kernel) [] (c_X6_find cy kb kn kf rK rf rg rpd rpn sK sf sg spd spn q1.1 q1.2 nc nm pd pn vo vd vs tl tb eo et ed em ef ez ek es en fi (0 : Int32) q4 (1 : Int32) q8 q9 hq9) rfl rfl (Nat.le_of_ble_eq_true rfl) ⟨rfl, rfl⟩ rfl ?_
          have h := Option.some.inj h
          subst h
          exact G_vret C hR (by decide +kernel)
        · rw [if_pos c] at h
          refine G_r C [(.aload_n 0, 1, 0, 0, .null), (.iconst 1, 1, 0, 0, .int (1 : Int32)), (.iload_n 1, 1, 0, 0, .null)] 121 [(2, .int q8), (0, .ref 0), (1, .int q4)] [.int q4, .int (1 : Int32), .ref 0] (wSR cy kb kn kf rK rf rg rpd rpn sK sf sg spd spn q1.1 q1.2 nc nm pd pn vo vd vs tl tb eo et ed em ef ez ek es en fi) (by decide +kernel) rfl rfl ?_
          refine G_ldc C co_6_235 (by decide +kernel) ?_
          refine G_ldc C co_6_235 (by decide +kernel) ?_
          obtain ⟨q10, hq10, h⟩ := obd h
          refine G_c0 C lk_6_236 ⟨Nat.le_of_ble_eq_true rfl, Nat.le_of_ble_eq_true rfl⟩ (by decide +kernel) [] (c_X6_find cy kb kn kf rK rf rg rpd rpn sK sf sg spd spn q1.1 q1.2 nc nm pd pn vo vd vs tl tb eo et ed em ef ez ek es en fi (1 : Int32) q4 (-1000000 : Int32) (-1000000 : Int32) q10 hq10) rfl rfl (Nat.le_of_ble_eq_true rfl) ⟨rfl, rfl⟩ rfl ?_
          refine G_goto C (off := 11) (tgt := 139) (by decide +kernel) rfl ?_
          have h := Option.some.inj h
          subst h
          exact G_vret C hR (by decide +kernel)
      · rw [if_neg c] at h
        refine G_r C [(.aload_n 0, 1, 0, 0, .null), (.iconst 0, 1, 0, 0, .int (0 : Int32)), (.iload_n 1, 1, 0, 0, .null), (.iconst 0, 1, 0, 0, .int (0 : Int32))] 101 [(0, .ref 0), (1, .int q4)] [.int (0 : Int32), .int q4, .int (0 : Int32), .ref 0] (wSR cy kb kn kf rK rf rg rpd rpn sK sf sg spd spn q1.1 q1.2 nc nm pd pn vo vd vs tl tb eo et ed em ef ez ek es en fi) (by decide +kernel) rfl rfl ?_
        refine G_ldc C co_6_235 (by decide +kernel) ?_
        obtain ⟨q11, hq11, h⟩ := obd h
        refine G_c0 C lk_6_236 ⟨Nat.le_of_ble_eq_true rfl, Nat.le_of_ble_eq_true rfl⟩ (by decide +kernel) [] (c_X6_find cy kb kn kf rK rf rg rpd rpn sK sf sg spd spn q1.1 q1.2 nc nm pd pn vo vd vs tl tb eo et ed em ef ez ek es en fi (0 : Int32) q4 (0 : Int32) (-1000000 : Int32) q11 hq11) rfl rfl (Nat.le_of_ble_eq_true rfl) ⟨rfl, rfl⟩ rfl ?_
        have h := Option.some.inj h
        subst h
        exact G_vret C hR (by decide +kernel)
    · rw [if_neg c] at h
      refine G_r C [(.aload_n 0, 1, 0, 0, .null), (.iconst 2, 1, 0, 0, .int (2 : Int32)), (.iload_n 1, 1, 0, 0, .null)] 74 [(0, .ref 0), (1, .int q4)] [.int q4, .int (2 : Int32), .ref 0] (wSR cy kb kn kf rK rf rg rpd rpn sK sf sg spd spn q1.1 q1.2 nc nm pd pn vo vd vs tl tb eo et ed em ef ez ek es en fi) (by decide +kernel) rfl rfl ?_
      refine G_ldc C co_6_235 (by decide +kernel) ?_
      refine G_ldc C co_6_235 (by decide +kernel) ?_
      obtain ⟨q12, hq12, h⟩ := obd h
      refine G_c0 C lk_6_236 ⟨Nat.le_of_ble_eq_true rfl, Nat.le_of_ble_eq_true rfl⟩ (by decide +kernel) [] (c_X6_find cy kb kn kf rK rf rg rpd rpn sK sf sg spd spn q1.1 q1.2 nc nm pd pn vo vd vs tl tb eo et ed em ef ez ek es en fi (2 : Int32) q4 (-1000000 : Int32) (-1000000 : Int32) q12 hq12) rfl rfl (Nat.le_of_ble_eq_true rfl) ⟨rfl, rfl⟩ rfl ?_
      have h := Option.some.inj h
      subst h
      exact G_vret C hR (by decide +kernel)
def f_X6_verdict (x1 : Int32) (kb : Int32) (kn : Int32) (kf : Int32) (rK : Int32) (rf : Nat → Int32) (mc : Int32) (mm : Nat → Int64) (fi : Nat → Int32) : Option (Int32 × Int32 × Int32 × Int32 × Int32 × (Nat → Int64) × (Nat → Int32)) := (f_X6_isOutside x1 (0 : Int32) (3 : Int32)).bind fun q1 => if (bI q1) = 0 then ((f_X6_judge rK rf mm fi).bind fun q2 => if x1 < 0 ∨ 4 ≤ x1.toNatClampNeg then none else some ((q2.2.2 x1.toNatClampNeg), kb, kn, kf, q2.1, q2.2.1, q2.2.2)) else ((f_X6_refuse (-1000001 : Int32) kb kn kf).bind fun q3 => some (q3.1, q3.2.1, q3.2.2.1, q3.2.2.2, mc, mm, fi))
set_option maxHeartbeats 4000000 in
set_option maxRecDepth 100000 in
theorem c_X6_verdict (cy : Nat → ClassId) (kb : Int32) (kn : Int32) (kf : Int32) (rK : Int32) (rf : Nat → Int32) (rg : Nat → Int64) (rpd : Int32) (rpn : Nat → Int64) (sK : Int32) (sf : Nat → Int32) (sg : Nat → Int64) (spd : Int32) (spn : Nat → Int64) (mc : Int32) (mm : Nat → Int64) (nc : Int32) (nm : Nat → Int64) (pd : Int32) (pn : Nat → Int64) (vo : Int32) (vd : Int32) (vs : Nat → Int32) (tl : Int32) (tb : Nat → Int32) (eo : Int32) (et : Int32) (ed : Int32) (em : Bool) (ef : Int32) (ez : Int32) (ek : Nat → Int32) (es : Nat → Int32) (en : Nat → Int32) (fi : Nat → Int32) (x1 : Int32) (res : (Int32 × Int32 × Int32 × Int32 × Int32 × (Nat → Int64) × (Nat → Int32))) (h : f_X6_verdict x1 kb kn kf rK rf mc mm fi = some res) : MG cy yX6_verdict cX6_verdict 2 (some .int) 5 116 [.ref 0, .int x1] (wSR cy kb kn kf rK rf rg rpd rpn sK sf sg spd spn mc mm nc nm pd pn vo vd vs tl tb eo et ed em ef ez ek es en fi) (some (.int res.1)) (wSR cy res.2.1 res.2.2.1 res.2.2.2.1 rK rf rg rpd rpn sK sf sg spd spn res.2.2.2.2.1 res.2.2.2.2.2.1 nc nm pd pn vo vd vs tl tb eo et ed em ef ez ek es en res.2.2.2.2.2.2) := by
  refine MG_of (o := 6) (lv := [(0, .ref 0), (1, .int x1)]) ⟨by decide +kernel, rfl⟩ (Nat.le_of_ble_eq_true rfl) rfl (fun k C hR => ?_)
  rw [f_X6_verdict] at h
  refine G_r C [(.iload_n 1, 1, 0, 0, .null), (.iconst 0, 1, 0, 0, .int (0 : Int32)), (.iconst 3, 1, 0, 0, .int (3 : Int32))] 3 [(0, .ref 0), (1, .int x1)] [.int (3 : Int32), .int (0 : Int32), .int x1] (wSR cy kb kn kf rK rf rg rpd rpn sK sf sg spd spn mc mm nc nm pd pn vo vd vs tl tb eo et ed em ef ez ek es en fi) (by decide +kernel) rfl rfl ?_
  obtain ⟨q1, hq1, h⟩ := obd h
  refine G_cS C lk_6_101 ⟨Nat.le_of_ble_eq_true rfl, Nat.le_of_ble_eq_true rfl⟩ (by decide +kernel) [.int (bI q1)] (c_X6_isOutside cy x1 (0 : Int32) (3 : Int32) q1 hq1) rfl rfl (Nat.le_of_ble_eq_true rfl) rfl ?_
  refine G_if_eq C (off := 10) (tgt := 16) (by decide +kernel) rfl (fun c => ?_) (fun c => ?_)
  · rw [if_pos c] at h
    refine G_r C [(.aload_n 0, 1, 0, 0, .null)] 17 [(0, .ref 0), (1, .int x1)] [.ref 0] (wSR cy kb kn kf rK rf rg rpd rpn sK sf sg spd spn mc mm nc nm pd pn vo vd vs tl tb eo et ed em ef ez ek es en fi) (by decide +kernel) rfl rfl ?_
    obtain ⟨q2, hq2, h⟩ := obd h
    refine G_c0 C lk_6_134 ⟨Nat.le_of_ble_eq_true rfl, Nat.le_of_ble_eq_true rfl⟩ (by decide +kernel) [] (c_X6_judge cy kb kn kf rK rf rg rpd rpn sK sf sg spd spn mc mm nc nm pd pn vo vd vs tl tb eo et ed em ef ez ek es en fi q2 hq2) rfl rfl (Nat.le_of_ble_eq_true rfl) ⟨rfl, rfl⟩ rfl ?_
    refine G_r C [(.aload_n 0, 1, 0, 0, .null), (.getfield 57, 3, 6, 8, .null), (.iload_n 1, 1, 0, 0, .null)] 25 [(0, .ref 0), (1, .int x1)] [.int x1, .ref 25] (wSR cy kb kn kf rK rf rg rpd rpn sK sf sg spd spn q2.1 q2.2.1 nc nm pd pn vo vd vs tl tb eo et ed em ef ez ek es en q2.2.2) (by decide +kernel) rfl rfl ?_
    obtain ⟨cg, h⟩ := oob h
    refine G_iald C (a := 25) rfl cg (by decide +kernel) ?_
    have h := Option.some.inj h
    subst h
    exact G_iret C hR (by decide +kernel)
  · rw [if_neg c] at h
    refine G_r C [(.aload_n 0, 1, 0, 0, .null)] 10 [(0, .ref 0), (1, .int x1)] [.ref 0] (wSR cy kb kn kf rK rf rg rpd rpn sK sf sg spd spn mc mm nc nm pd pn vo vd vs tl tb eo et ed em ef ez ek es en fi) (by decide +kernel) rfl rfl ?_
    refine G_ldc C co_6_105 (by decide +kernel) ?_
    obtain ⟨q3, hq3, h⟩ := obd h
    refine G_c0 C lk_6_73 ⟨Nat.le_of_ble_eq_true rfl, Nat.le_of_ble_eq_true rfl⟩ (by decide +kernel) [.int q3.1] (c_X6_refuse cy kb kn kf rK rf rg rpd rpn sK sf sg spd spn mc mm nc nm pd pn vo vd vs tl tb eo et ed em ef ez ek es en fi (-1000001 : Int32) q3 hq3) rfl rfl (Nat.le_of_ble_eq_true rfl) ⟨rfl, rfl⟩ rfl ?_
    have h := Option.some.inj h
    subst h
    exact G_iret C hR (by decide +kernel)
def f_X6_isNoPoint (x0 : Int32) (x1 : Int32) : Option Bool := (f_X6_isOutside x0 (-99 : Int32) (99 : Int32)).bind fun q1 => if (bI q1) = 0 then ((f_X6_isOutside x1 (1 : Int32) (9 : Int32)).bind fun q2 => if (bI q2) = 0 then (some false) else (some true)) else (some true)
set_option maxHeartbeats 4000000 in
set_option maxRecDepth 100000 in
theorem c_X6_isNoPoint (cy : Nat → ClassId)  (x0 : Int32) (x1 : Int32) (res : Bool) (h : f_X6_isNoPoint x0 x1 = some res) : MG cy yX6_isNoPoint cX6_isNoPoint 2 (some .boolean) 1 22 [.int x0, .int x1] [] (some (.int (bI res))) [] := by
  refine MG_of (o := 6) (lv := [(0, .int x0), (1, .int x1)]) ⟨by decide +kernel, rfl⟩ (Nat.le_of_ble_eq_true rfl) rfl (fun k C hR => ?_)
  rw [f_X6_isNoPoint] at h
  refine G_r C [(.iload_n 0, 1, 0, 0, .null), (.bipush (-99), 2, 0, 0, .int (-99 : Int32)), (.bipush 99, 2, 0, 0, .int (99 : Int32))] 5 [(0, .int x0), (1, .int x1)] [.int (99 : Int32), .int (-99 : Int32), .int x0] [] (by decide +kernel) rfl rfl ?_
  obtain ⟨q1, hq1, h⟩ := obd h
  refine G_cS C lk_6_101 ⟨Nat.le_of_ble_eq_true rfl, Nat.le_of_ble_eq_true rfl⟩ (by decide +kernel) [.int (bI q1)] (c_X6_isOutside cy x0 (-99 : Int32) (99 : Int32) q1 hq1) rfl rfl (Nat.le_of_ble_eq_true rfl) rfl ?_
  refine G_if_ne C (off := 13) (tgt := 21) (by decide +kernel) rfl (fun c => ?_) (fun c => ?_)
  · rw [if_neg c] at h
    refine G_r C [(.iconst 1, 1, 0, 0, .int (1 : Int32))] 22 [(0, .int x0), (1, .int x1)] [.int (1 : Int32)] [] (by decide +kernel) rfl rfl ?_
    refine G_goto C (off := 4) (tgt := 26) (by decide +kernel) rfl ?_
    have h := Option.some.inj h
    subst h
    exact G_zret C (v := true) hR (by decide +kernel)
  · rw [if_pos c] at h
    refine G_r C [(.iload_n 1, 1, 0, 0, .null), (.iconst 1, 1, 0, 0, .int (1 : Int32)), (.bipush 9, 2, 0, 0, .int (9 : Int32))] 15 [(0, .int x0), (1, .int x1)] [.int (9 : Int32), .int (1 : Int32), .int x1] [] (by decide +kernel) rfl rfl ?_
    obtain ⟨q2, hq2, h⟩ := obd h
    refine G_cS C lk_6_101 ⟨Nat.le_of_ble_eq_true rfl, Nat.le_of_ble_eq_true rfl⟩ (by decide +kernel) [.int (bI q2)] (c_X6_isOutside cy x1 (1 : Int32) (9 : Int32) q2 hq2) rfl rfl (Nat.le_of_ble_eq_true rfl) rfl ?_
    refine G_if_eq C (off := 7) (tgt := 25) (by decide +kernel) rfl (fun c => ?_) (fun c => ?_)
    · rw [if_pos c] at h
      refine G_r C [(.iconst 0, 1, 0, 0, .int (0 : Int32))] 26 [(0, .int x0), (1, .int x1)] [.int (0 : Int32)] [] (by decide +kernel) rfl rfl ?_
      have h := Option.some.inj h
      subst h
      exact G_zret C (v := false) hR (by decide +kernel)
    · rw [if_neg c] at h
      refine G_r C [(.iconst 1, 1, 0, 0, .int (1 : Int32))] 22 [(0, .int x0), (1, .int x1)] [.int (1 : Int32)] [] (by decide +kernel) rfl rfl ?_
      refine G_goto C (off := 4) (tgt := 26) (by decide +kernel) rfl ?_
      have h := Option.some.inj h
      subst h
      exact G_zret C (v := true) hR (by decide +kernel)
def f_X0_evaluate_L9 : Nat → Int32 → Int32 → Int32 → Int64 → Int64 → Int32 → (Nat → Int64) → Option Int64
  | 0, _, _, _, _, _, _, _ => none
  | fu + 1, x1, x2, x3, x4, x6, x8, mm => if x8 < 0 then (some x4) else ((f_X0_coefficient x1 x8 mm).bind fun q1 => f_X0_evaluate_L9 fu x1 x2 x3 ((x4 * x2.toInt64) + (q1 * x6)) (x6 * x3.toInt64) (x8 + (-1 : Int32)) mm)
def f_X0_evaluate (x1 : Int32) (x2 : Int32) (x3 : Int32) (mm : Nat → Int64) : Option Int64 := (f_X0_evaluate_L9 200 x1 x2 x3 (0 : Int64) (1 : Int64) x1 mm).bind fun q2 => some q2
set_option maxHeartbeats 4000000 in
set_option maxRecDepth 100000 in
theorem g_X0_evaluate_L9 {k : KX} {cy : Nat → ClassId} (C : OK k cX0_evaluate 0 9 cy 2 46) : ∀ (fu : Nat) (x1 : Int32) (x2 : Int32) (x3 : Int32) (x4 : Int64) (x6 : Int64) (x8 : Int32) (mc : Int32) (mm : Nat → Int64) (res : Int64), (f_X0_evaluate_L9 fu x1 x2 x3 x4 x6 x8 mm = some res) → G k 9 45 [(4, .long res)] [] (wMin cy 0 mc mm) → G k 9 9 [(0, .ref 0), (1, .int x1), (2, .int x2), (3, .int x3), (4, .long x4), (6, .long x6), (8, .int x8)] [] (wMin cy 0 mc mm) := by
  intro fu
  induction fu with
  | zero =>
    intro x1 x2 x3 x4 x6 x8 mc mm res h hex
    rw [f_X0_evaluate_L9] at h
    cases h
  | succ fu ih =>
    intro x1 x2 x3 x4 x6 x8 mc mm res h hex
    rw [f_X0_evaluate_L9] at h
    refine G_r C [(.iload 8, 2, 0, 0, .null)] 11 [(0, .ref 0), (1, .int x1), (2, .int x2), (3, .int x3), (4, .long x4), (6, .long x6), (8, .int x8)] [.int x8] (wMin cy 0 mc mm) (by decide +kernel) rfl rfl ?_
    refine G_if_lt C (off := 34) (tgt := 45) (by decide +kernel) rfl (fun c => ?_) (fun c => ?_)
    · rw [if_pos c] at h
      have h := Option.some.inj h
      subst h
      refine G_lv [4] (lv' := [(4, .long x4)]) rfl ?_
      exact hex
    · rw [if_neg c] at h
      refine G_r C [(.lload 4, 2, 0, 0, .null), (.iload_n 2, 1, 0, 0, .null), (.i2l, 1, 0, 0, .null), (.lmul, 1, 0, 0, .null), (.aload_n 0, 1, 0, 0, .null), (.iload_n 1, 1, 0, 0, .null), (.iload 8, 2, 0, 0, .null)] 23 [(0, .ref 0), (1, .int x1), (2, .int x2), (3, .int x3), (4, .long x4), (6, .long x6), (8, .int x8)] [.int x8, .int x1, .ref 0, .long (x4 * x2.toInt64)] (wMin cy 0 mc mm) (by decide +kernel) rfl rfl ?_
      obtain ⟨q1, hq1, h⟩ := obd h
      refine G_c0 C lk_0_49 ⟨Nat.le_of_ble_eq_true rfl, Nat.le_of_ble_eq_true rfl⟩ (by decide +kernel) [.long q1, .long (x4 * x2.toInt64)] (c_X0_coefficient cy mc mm x1 x8 q1 hq1) rfl rfl (Nat.le_of_ble_eq_true rfl) ⟨rfl, rfl⟩ rfl ?_
      refine G_r C [(.lload 6, 2, 0, 0, .null), (.lmul, 1, 0, 0, .null), (.ladd, 1, 0, 0, .null), (.lstore 4, 2, 0, 0, .null), (.lload 6, 2, 0, 0, .null), (.iload_n 3, 1, 0, 0, .null), (.i2l, 1, 0, 0, .null), (.lmul, 1, 0, 0, .null), (.lstore 6, 2, 0, 0, .null), (.iinc 8 (-1), 3, 0, 0, .int (-1 : Int32))] 42 [(8, .int (x8 + (-1 : Int32))), (6, .long (x6 * x3.toInt64)), (4, .long ((x4 * x2.toInt64) + (q1 * x6))), (0, .ref 0), (1, .int x1), (2, .int x2), (3, .int x3)] [] (wMin cy 0 mc mm) (by decide +kernel) rfl rfl ?_
      refine G_goto C (off := -33) (tgt := 9) (by decide +kernel) rfl ?_
      refine G_lv [3, 4, 5, 6, 2, 1, 0] (lv' := [(0, .ref 0), (1, .int x1), (2, .int x2), (3, .int x3), (4, .long ((x4 * x2.toInt64) + (q1 * x6))), (6, .long (x6 * x3.toInt64)), (8, .int (x8 + (-1 : Int32)))]) rfl ?_
      exact ih x1 x2 x3 ((x4 * x2.toInt64) + (q1 * x6)) (x6 * x3.toInt64) (x8 + (-1 : Int32)) mc mm res h hex
set_option maxHeartbeats 4000000 in
set_option maxRecDepth 100000 in
theorem c_X0_evaluate (cy : Nat → ClassId) (mc : Int32) (mm : Nat → Int64) (x1 : Int32) (x2 : Int32) (x3 : Int32) (res : Int64) (h : f_X0_evaluate x1 x2 x3 mm = some res) : MG cy yX0_evaluate cX0_evaluate 9 (some .long) 2 46 [.ref 0, .int x1, .int x2, .int x3] (wMin cy 0 mc mm) (some (.long res)) (wMin cy 0 mc mm) := by
  refine MG_of (o := 0) (lv := [(0, .ref 0), (1, .int x1), (2, .int x2), (3, .int x3)]) ⟨by decide +kernel, rfl⟩ (Nat.le_of_ble_eq_true rfl) rfl (fun k C hR => ?_)
  rw [f_X0_evaluate] at h
  refine G_r C [(.lconst 0, 1, 0, 0, .long (0 : Int64)), (.lstore 4, 2, 0, 0, .null), (.lconst 1, 1, 0, 0, .long (1 : Int64)), (.lstore 6, 2, 0, 0, .null), (.iload_n 1, 1, 0, 0, .null), (.istore 8, 2, 0, 0, .null)] 9 [(8, .int x1), (6, .long (1 : Int64)), (4, .long (0 : Int64)), (0, .ref 0), (1, .int x1), (2, .int x2), (3, .int x3)] [] (wMin cy 0 mc mm) (by decide +kernel) rfl rfl ?_
  obtain ⟨q2, hq2, h⟩ := obd h
  refine G_lv [3, 4, 5, 6, 2, 1, 0] (lv' := [(0, .ref 0), (1, .int x1), (2, .int x2), (3, .int x3), (4, .long (0 : Int64)), (6, .long (1 : Int64)), (8, .int x1)]) rfl ?_
  refine g_X0_evaluate_L9 C 200 x1 x2 x3 (0 : Int64) (1 : Int64) x1 mc mm q2 hq2 ?_
  refine G_r C [(.lload 4, 2, 0, 0, .null)] 47 [(4, .long q2)] [.long q2] (wMin cy 0 mc mm) (by decide +kernel) rfl rfl ?_
  have h := Option.some.inj h
  subst h
  exact G_lret C hR (by decide +kernel)
def f_X6_power_L5 : Nat → Int64 → Int32 → Int64 → Int32 → Option Int64
  | 0, _, _, _, _ => none
  | fu + 1, x0, x2, x3, x5 => if x2 ≤ x5 then (some x3) else (f_X6_power_L5 fu x0 x2 (x3 * x0) (x5 + (1 : Int32)))
def f_X6_power (x0 : Int64) (x2 : Int32) : Option Int64 := (f_X6_power_L5 200 x0 x2 (1 : Int64) (0 : Int32)).bind fun q1 => some q1
set_option maxHeartbeats 4000000 in
set_option maxRecDepth 100000 in
theorem g_X6_power_L5 {k : KX} {cy : Nat → ClassId} (C : OK k cX6_power 6 6 cy 0 0) : ∀ (fu : Nat) (x0 : Int64) (x2 : Int32) (x3 : Int64) (x5 : Int32) (res : Int64), (f_X6_power_L5 fu x0 x2 x3 x5 = some res) → G k 6 21 [(3, .long res)] [] [] → G k 6 5 [(0, .long x0), (2, .int x2), (3, .long x3), (5, .int x5)] [] [] := by
  intro fu
  induction fu with
  | zero =>
    intro x0 x2 x3 x5 res h hex
    rw [f_X6_power_L5] at h
    cases h
  | succ fu ih =>
    intro x0 x2 x3 x5 res h hex
    rw [f_X6_power_L5] at h
    refine G_r C [(.iload 5, 2, 0, 0, .null), (.iload_n 2, 1, 0, 0, .null)] 8 [(0, .long x0), (2, .int x2), (3, .long x3), (5, .int x5)] [.int x2, .int x5] [] (by decide +kernel) rfl rfl ?_
    refine G_icmp_ge C (off := 13) (tgt := 21) (by decide +kernel) rfl (fun c => ?_) (fun c => ?_)
    · rw [if_pos c] at h
      have h := Option.some.inj h
      subst h
      refine G_lv [2] (lv' := [(3, .long x3)]) rfl ?_
      exact hex
    · rw [if_neg c] at h
      refine G_r C [(.lload_n 3, 1, 0, 0, .null), (.lload_n 0, 1, 0, 0, .null), (.lmul, 1, 0, 0, .null), (.lstore_n 3, 1, 0, 0, .null), (.iinc 5 1, 3, 0, 0, .int (1 : Int32))] 18 [(5, .int (x5 + (1 : Int32))), (3, .long (x3 * x0)), (0, .long x0), (2, .int x2)] [] [] (by decide +kernel) rfl rfl ?_
      refine G_goto C (off := -13) (tgt := 5) (by decide +kernel) rfl ?_
      refine G_lv [2, 3, 1, 0] (lv' := [(0, .long x0), (2, .int x2), (3, .long (x3 * x0)), (5, .int (x5 + (1 : Int32)))]) rfl ?_
      exact ih x0 x2 (x3 * x0) (x5 + (1 : Int32))  res h hex
set_option maxHeartbeats 4000000 in
set_option maxRecDepth 100000 in
theorem c_X6_power (cy : Nat → ClassId)  (x0 : Int64) (x2 : Int32) (res : Int64) (h : f_X6_power x0 x2 = some res) : MG cy yX6_power cX6_power 6 (some .long) 0 0 [.long x0, .int x2] [] (some (.long res)) [] := by
  refine MG_of (o := 6) (lv := [(0, .long x0), (2, .int x2)]) ⟨by decide +kernel, rfl⟩ (Nat.le_of_ble_eq_true rfl) rfl (fun k C hR => ?_)
  rw [f_X6_power] at h
  refine G_r C [(.lconst 1, 1, 0, 0, .long (1 : Int64)), (.lstore_n 3, 1, 0, 0, .null), (.iconst 0, 1, 0, 0, .int (0 : Int32)), (.istore 5, 2, 0, 0, .null)] 5 [(5, .int (0 : Int32)), (3, .long (1 : Int64)), (0, .long x0), (2, .int x2)] [] [] (by decide +kernel) rfl rfl ?_
  obtain ⟨q1, hq1, h⟩ := obd h
  refine G_lv [2, 3, 1, 0] (lv' := [(0, .long x0), (2, .int x2), (3, .long (1 : Int64)), (5, .int (0 : Int32))]) rfl ?_
  refine g_X6_power_L5 C 200 x0 x2 (1 : Int64) (0 : Int32)  q1 hq1 ?_
  refine G_r C [(.lload_n 3, 1, 0, 0, .null)] 22 [(3, .long q1)] [.long q1] [] (by decide +kernel) rfl rfl ?_
  have h := Option.some.inj h
  subst h
  exact G_lret C hR (by decide +kernel)
def f_X6_value (x1 : Int32) (x2 : Int32) (x3 : Int32) (x4 : Int32) (kb : Int32) (kn : Int32) (kf : Int32) (rK : Int32) (rf : Nat → Int32) (mc : Int32) (mm : Nat → Int64) : Option (Int64 × Int32 × Int32 × Int32 × Int32 × (Nat → Int64)) := (f_X6_isOutside x1 (0 : Int32) (3 : Int32)).bind fun q1 => if (bI q1) = 0 then ((f_X6_isNoPoint x2 x3).bind fun q3 => if (bI q3) = 0 then ((f_X6_isOutside x4 (0 : Int32) (1 : Int32)).bind fun q5 => if (bI q5) = 0 then ((f_X6_findPolynomial x1 rK rf mm).bind fun q6 => if (bI q6.1) = 0 then ((f_X6_refuse (-1000002 : Int32) kb kn kf).bind fun q11 => some (q11.1.toInt64, q11.2.1, q11.2.2.1, q11.2.2.2, q6.2.1, q6.2.2)) else ((f_X0_evaluate x1 x2 x3 q6.2.2).bind fun q7 => (f_X0_det x1 q6.2.2).bind fun q8 => (f_X6_power x3.toInt64 x1).bind fun q9 => (f_X6_part q7 (q8 * q9) x4).bind fun q10 => some (q10, kb, kn, kf, q6.2.1, q6.2.2))) else ((f_X6_refuse (-1000001 : Int32) kb kn kf).bind fun q12 => some (q12.1.toInt64, q12.2.1, q12.2.2.1, q12.2.2.2, mc, mm))) else ((f_X6_refuse (-1000001 : Int32) kb kn kf).bind fun q4 => some (q4.1.toInt64, q4.2.1, q4.2.2.1, q4.2.2.2, mc, mm))) else ((f_X6_refuse (-1000001 : Int32) kb kn kf).bind fun q2 => some (q2.1.toInt64, q2.2.1, q2.2.2.1, q2.2.2.2, mc, mm))
set_option maxHeartbeats 4000000 in
set_option maxRecDepth 100000 in
theorem c_X6_value (cy : Nat → ClassId) (kb : Int32) (kn : Int32) (kf : Int32) (rK : Int32) (rf : Nat → Int32) (rg : Nat → Int64) (rpd : Int32) (rpn : Nat → Int64) (sK : Int32) (sf : Nat → Int32) (sg : Nat → Int64) (spd : Int32) (spn : Nat → Int64) (mc : Int32) (mm : Nat → Int64) (nc : Int32) (nm : Nat → Int64) (pd : Int32) (pn : Nat → Int64) (vo : Int32) (vd : Int32) (vs : Nat → Int32) (tl : Int32) (tb : Nat → Int32) (eo : Int32) (et : Int32) (ed : Int32) (em : Bool) (ef : Int32) (ez : Int32) (ek : Nat → Int32) (es : Nat → Int32) (en : Nat → Int32) (fi : Nat → Int32) (x1 : Int32) (x2 : Int32) (x3 : Int32) (x4 : Int32) (res : (Int64 × Int32 × Int32 × Int32 × Int32 × (Nat → Int64))) (h : f_X6_value x1 x2 x3 x4 kb kn kf rK rf mc mm = some res) : MG cy yX6_value cX6_value 5 (some .long) 4 96 [.ref 0, .int x1, .int x2, .int x3, .int x4] (wSR cy kb kn kf rK rf rg rpd rpn sK sf sg spd spn mc mm nc nm pd pn vo vd vs tl tb eo et ed em ef ez ek es en fi) (some (.long res.1)) (wSR cy res.2.1 res.2.2.1 res.2.2.2.1 rK rf rg rpd rpn sK sf sg spd spn res.2.2.2.2.1 res.2.2.2.2.2 nc nm pd pn vo vd vs tl tb eo et ed em ef ez ek es en fi) := by
  refine MG_of (o := 6) (lv := [(0, .ref 0), (1, .int x1), (2, .int x2), (3, .int x3), (4, .int x4)]) ⟨by decide +kernel, rfl⟩ (Nat.le_of_ble_eq_true rfl) rfl (fun k C hR => ?_)
  rw [f_X6_value] at h
  refine G_r C [(.iload_n 1, 1, 0, 0, .null), (.iconst 0, 1, 0, 0, .int (0 : Int32)), (.iconst 3, 1, 0, 0, .int (3 : Int32))] 3 [(0, .ref 0), (1, .int x1), (2, .int x2), (3, .int x3), (4, .int x4)] [.int (3 : Int32), .int (0 : Int32), .int x1] (wSR cy kb kn kf rK rf rg rpd rpn sK sf sg spd spn mc mm nc nm pd pn vo vd vs tl tb eo et ed em ef ez ek es en fi) (by decide +kernel) rfl rfl ?_
  obtain ⟨q1, hq1, h⟩ := obd h
  refine G_cS C lk_6_101 ⟨Nat.le_of_ble_eq_true rfl, Nat.le_of_ble_eq_true rfl⟩ (by decide +kernel) [.int (bI q1)] (c_X6_isOutside cy x1 (0 : Int32) (3 : Int32) q1 hq1) rfl rfl (Nat.le_of_ble_eq_true rfl) rfl ?_
  refine G_if_ne C (off := 21) (tgt := 27) (by decide +kernel) rfl (fun c => ?_) (fun c => ?_)
  · rw [if_neg c] at h
    refine G_r C [(.aload_n 0, 1, 0, 0, .null)] 28 [(0, .ref 0), (1, .int x1), (2, .int x2), (3, .int x3), (4, .int x4)] [.ref 0] (wSR cy kb kn kf rK rf rg rpd rpn sK sf sg spd spn mc mm nc nm pd pn vo vd vs tl tb eo et ed em ef ez ek es en fi) (by decide +kernel) rfl rfl ?_
    refine G_ldc C co_6_105 (by decide +kernel) ?_
    obtain ⟨q2, hq2, h⟩ := obd h
    refine G_c0 C lk_6_73 ⟨Nat.le_of_ble_eq_true rfl, Nat.le_of_ble_eq_true rfl⟩ (by decide +kernel) [.int q2.1] (c_X6_refuse cy kb kn kf rK rf rg rpd rpn sK sf sg spd spn mc mm nc nm pd pn vo vd vs tl tb eo et ed em ef ez ek es en fi (-1000001 : Int32) q2 hq2) rfl rfl (Nat.le_of_ble_eq_true rfl) ⟨rfl, rfl⟩ rfl ?_
    refine G_r C [(.i2l, 1, 0, 0, .null)] 34 [(0, .ref 0), (1, .int x1), (2, .int x2), (3, .int x3), (4, .int x4)] [.long q2.1.toInt64] (wSR cy q2.2.1 q2.2.2.1 q2.2.2.2 rK rf rg rpd rpn sK sf sg spd spn mc mm nc nm pd pn vo vd vs tl tb eo et ed em ef ez ek es en fi) (by decide +kernel) rfl rfl ?_
    have h := Option.some.inj h
    subst h
    exact G_lret C hR (by decide +kernel)
  · rw [if_pos c] at h
    refine G_r C [(.iload_n 2, 1, 0, 0, .null), (.iload_n 3, 1, 0, 0, .null)] 11 [(0, .ref 0), (1, .int x1), (2, .int x2), (3, .int x3), (4, .int x4)] [.int x3, .int x2] (wSR cy kb kn kf rK rf rg rpd rpn sK sf sg spd spn mc mm nc nm pd pn vo vd vs tl tb eo et ed em ef ez ek es en fi) (by decide +kernel) rfl rfl ?_
    obtain ⟨q3, hq3, h⟩ := obd h
    refine G_cS C lk_6_137 ⟨Nat.le_of_ble_eq_true rfl, Nat.le_of_ble_eq_true rfl⟩ (by decide +kernel) [.int (bI q3)] (c_X6_isNoPoint cy x2 x3 q3 hq3) rfl rfl (Nat.le_of_ble_eq_true rfl) rfl ?_
    refine G_if_ne C (off := 13) (tgt := 27) (by decide +kernel) rfl (fun c => ?_) (fun c => ?_)
    · rw [if_neg c] at h
      refine G_r C [(.aload_n 0, 1, 0, 0, .null)] 28 [(0, .ref 0), (1, .int x1), (2, .int x2), (3, .int x3), (4, .int x4)] [.ref 0] (wSR cy kb kn kf rK rf rg rpd rpn sK sf sg spd spn mc mm nc nm pd pn vo vd vs tl tb eo et ed em ef ez ek es en fi) (by decide +kernel) rfl rfl ?_
      refine G_ldc C co_6_105 (by decide +kernel) ?_
      obtain ⟨q4, hq4, h⟩ := obd h
      refine G_c0 C lk_6_73 ⟨Nat.le_of_ble_eq_true rfl, Nat.le_of_ble_eq_true rfl⟩ (by decide +kernel) [.int q4.1] (c_X6_refuse cy kb kn kf rK rf rg rpd rpn sK sf sg spd spn mc mm nc nm pd pn vo vd vs tl tb eo et ed em ef ez ek es en fi (-1000001 : Int32) q4 hq4) rfl rfl (Nat.le_of_ble_eq_true rfl) ⟨rfl, rfl⟩ rfl ?_
      refine G_r C [(.i2l, 1, 0, 0, .null)] 34 [(0, .ref 0), (1, .int x1), (2, .int x2), (3, .int x3), (4, .int x4)] [.long q4.1.toInt64] (wSR cy q4.2.1 q4.2.2.1 q4.2.2.2 rK rf rg rpd rpn sK sf sg spd spn mc mm nc nm pd pn vo vd vs tl tb eo et ed em ef ez ek es en fi) (by decide +kernel) rfl rfl ?_
      have h := Option.some.inj h
      subst h
      exact G_lret C hR (by decide +kernel)
    · rw [if_pos c] at h
      refine G_r C [(.iload 4, 2, 0, 0, .null), (.iconst 0, 1, 0, 0, .int (0 : Int32)), (.iconst 1, 1, 0, 0, .int (1 : Int32))] 21 [(0, .ref 0), (1, .int x1), (2, .int x2), (3, .int x3), (4, .int x4)] [.int (1 : Int32), .int (0 : Int32), .int x4] (wSR cy kb kn kf rK rf rg rpd rpn sK sf sg spd spn mc mm nc nm pd pn vo vd vs tl tb eo et ed em ef ez ek es en fi) (by decide +kernel) rfl rfl ?_
      obtain ⟨q5, hq5, h⟩ := obd h
      refine G_cS C lk_6_101 ⟨Nat.le_of_ble_eq_true rfl, Nat.le_of_ble_eq_true rfl⟩ (by decide +kernel) [.int (bI q5)] (c_X6_isOutside cy x4 (0 : Int32) (1 : Int32) q5 hq5) rfl rfl (Nat.le_of_ble_eq_true rfl) rfl ?_
      refine G_if_eq C (off := 11) (tgt := 35) (by decide +kernel) rfl (fun c => ?_) (fun c => ?_)
      · rw [if_pos c] at h
        refine G_r C [(.aload_n 0, 1, 0, 0, .null), (.iload_n 1, 1, 0, 0, .null)] 37 [(0, .ref 0), (1, .int x1), (2, .int x2), (3, .int x3), (4, .int x4)] [.int x1, .ref 0] (wSR cy kb kn kf rK rf rg rpd rpn sK sf sg spd spn mc mm nc nm pd pn vo vd vs tl tb eo et ed em ef ez ek es en fi) (by decide +kernel) rfl rfl ?_
        obtain ⟨q6, hq6, h⟩ := obd h
        refine G_c0 C lk_6_119 ⟨Nat.le_of_ble_eq_true rfl, Nat.le_of_ble_eq_true rfl⟩ (by decide +kernel) [.int (bI q6.1)] (c_X6_findPolynomial cy kb kn kf rK rf rg rpd rpn sK sf sg spd spn mc mm nc nm pd pn vo vd vs tl tb eo et ed em ef ez ek es en fi x1 q6 hq6) rfl rfl (Nat.le_of_ble_eq_true rfl) ⟨rfl, rfl⟩ rfl ?_
        refine G_if_ne C (off := 11) (tgt := 51) (by decide +kernel) rfl (fun c => ?_) (fun c => ?_)
        · rw [if_neg c] at h
          refine G_r C [(.aload_n 0, 1, 0, 0, .null), (.getfield 22, 3, 6, 2, .null), (.iload_n 1, 1, 0, 0, .null), (.iload_n 2, 1, 0, 0, .null), (.iload_n 3, 1, 0, 0, .null)] 58 [(0, .ref 0), (1, .int x1), (2, .int x2), (3, .int x3), (4, .int x4)] [.int x3, .int x2, .int x1, .ref 11] (wSR cy kb kn kf rK rf rg rpd rpn sK sf sg spd spn q6.2.1 q6.2.2 nc nm pd pn vo vd vs tl tb eo et ed em ef ez ek es en fi) (by decide +kernel) rfl rfl ?_
          obtain ⟨q7, hq7, h⟩ := obd h
          refine G_cV C lk_6_140 ⟨Nat.le_of_ble_eq_true rfl, Nat.le_of_ble_eq_true rfl⟩ (by decide +kernel) [11, 12] [.long q7] (wSR cy kb kn kf rK rf rg rpd rpn sK sf sg spd spn q6.2.1 q6.2.2 nc nm pd pn vo vd vs tl tb eo et ed em ef ez ek es en fi) (c_X0_evaluate cy q6.2.1 q6.2.2 x1 x2 x3 q7 hq7) rfl rfl (Nat.le_of_ble_eq_true rfl) rfl rfl ⟨rfl, rfl⟩ rfl rfl rfl ?_
          refine G_r C [(.aload_n 0, 1, 0, 0, .null), (.getfield 22, 3, 6, 2, .null), (.iload_n 1, 1, 0, 0, .null)] 66 [(0, .ref 0), (1, .int x1), (2, .int x2), (3, .int x3), (4, .int x4)] [.int x1, .ref 11, .long q7] (wSR cy kb kn kf rK rf rg rpd rpn sK sf sg spd spn q6.2.1 q6.2.2 nc nm pd pn vo vd vs tl tb eo et ed em ef ez ek es en fi) (by decide +kernel) rfl rfl ?_
          obtain ⟨q8, hq8, h⟩ := obd h
          refine G_cV C lk_6_115 ⟨Nat.le_of_ble_eq_true rfl, Nat.le_of_ble_eq_true rfl⟩ (by decide +kernel) [11, 12] [.long q8, .long q7] (wSR cy kb kn kf rK rf rg rpd rpn sK sf sg spd spn q6.2.1 q6.2.2 nc nm pd pn vo vd vs tl tb eo et ed em ef ez ek es en fi) (c_X0_det cy q6.2.1 q6.2.2 x1 q8 hq8) rfl rfl (Nat.le_of_ble_eq_true rfl) rfl rfl ⟨rfl, rfl⟩ rfl rfl rfl ?_
          refine G_r C [(.iload_n 3, 1, 0, 0, .null), (.i2l, 1, 0, 0, .null), (.iload_n 1, 1, 0, 0, .null)] 72 [(0, .ref 0), (1, .int x1), (2, .int x2), (3, .int x3), (4, .int x4)] [.int x1, .long x3.toInt64, .long q8, .long q7] (wSR cy kb kn kf rK rf rg rpd rpn sK sf sg spd spn q6.2.1 q6.2.2 nc nm pd pn vo vd vs tl tb eo et ed em ef ez ek es en fi) (by decide +kernel) rfl rfl ?_
          obtain ⟨q9, hq9, h⟩ := obd h
          refine G_cS C lk_6_144 ⟨Nat.le_of_ble_eq_true rfl, Nat.le_of_ble_eq_true rfl⟩ (by decide +kernel) [.long q9, .long q8, .long q7] (c_X6_power cy x3.toInt64 x1 q9 hq9) rfl rfl (Nat.le_of_ble_eq_true rfl) rfl ?_
          refine G_r C [(.lmul, 1, 0, 0, .null), (.iload 4, 2, 0, 0, .null)] 78 [(0, .ref 0), (1, .int x1), (2, .int x2), (3, .int x3), (4, .int x4)] [.int x4, .long (q8 * q9), .long q7] (wSR cy kb kn kf rK rf rg rpd rpn sK sf sg spd spn q6.2.1 q6.2.2 nc nm pd pn vo vd vs tl tb eo et ed em ef ez ek es en fi) (by decide +kernel) rfl rfl ?_
          obtain ⟨q10, hq10, h⟩ := obd h
          refine G_cS C lk_6_127 ⟨Nat.le_of_ble_eq_true rfl, Nat.le_of_ble_eq_true rfl⟩ (by decide +kernel) [.long q10] (c_X6_part cy q7 (q8 * q9) x4 q10 hq10) rfl rfl (Nat.le_of_ble_eq_true rfl) rfl ?_
          have h := Option.some.inj h
          subst h
          exact G_lret C hR (by decide +kernel)
        · rw [if_pos c] at h
          refine G_r C [(.aload_n 0, 1, 0, 0, .null)] 44 [(0, .ref 0), (1, .int x1), (2, .int x2), (3, .int x3), (4, .int x4)] [.ref 0] (wSR cy kb kn kf rK rf rg rpd rpn sK sf sg spd spn q6.2.1 q6.2.2 nc nm pd pn vo vd vs tl tb eo et ed em ef ez ek es en fi) (by decide +kernel) rfl rfl ?_
          refine G_ldc C co_6_110 (by decide +kernel) ?_
          obtain ⟨q11, hq11, h⟩ := obd h
          refine G_c0 C lk_6_73 ⟨Nat.le_of_ble_eq_true rfl, Nat.le_of_ble_eq_true rfl⟩ (by decide +kernel) [.int q11.1] (c_X6_refuse cy kb kn kf rK rf rg rpd rpn sK sf sg spd spn q6.2.1 q6.2.2 nc nm pd pn vo vd vs tl tb eo et ed em ef ez ek es en fi (-1000002 : Int32) q11 hq11) rfl rfl (Nat.le_of_ble_eq_true rfl) ⟨rfl, rfl⟩ rfl ?_
          refine G_r C [(.i2l, 1, 0, 0, .null)] 50 [(0, .ref 0), (1, .int x1), (2, .int x2), (3, .int x3), (4, .int x4)] [.long q11.1.toInt64] (wSR cy q11.2.1 q11.2.2.1 q11.2.2.2 rK rf rg rpd rpn sK sf sg spd spn q6.2.1 q6.2.2 nc nm pd pn vo vd vs tl tb eo et ed em ef ez ek es en fi) (by decide +kernel) rfl rfl ?_
          have h := Option.some.inj h
          subst h
          exact G_lret C hR (by decide +kernel)
      · rw [if_neg c] at h
        refine G_r C [(.aload_n 0, 1, 0, 0, .null)] 28 [(0, .ref 0), (1, .int x1), (2, .int x2), (3, .int x3), (4, .int x4)] [.ref 0] (wSR cy kb kn kf rK rf rg rpd rpn sK sf sg spd spn mc mm nc nm pd pn vo vd vs tl tb eo et ed em ef ez ek es en fi) (by decide +kernel) rfl rfl ?_
        refine G_ldc C co_6_105 (by decide +kernel) ?_
        obtain ⟨q12, hq12, h⟩ := obd h
        refine G_c0 C lk_6_73 ⟨Nat.le_of_ble_eq_true rfl, Nat.le_of_ble_eq_true rfl⟩ (by decide +kernel) [.int q12.1] (c_X6_refuse cy kb kn kf rK rf rg rpd rpn sK sf sg spd spn mc mm nc nm pd pn vo vd vs tl tb eo et ed em ef ez ek es en fi (-1000001 : Int32) q12 hq12) rfl rfl (Nat.le_of_ble_eq_true rfl) ⟨rfl, rfl⟩ rfl ?_
        refine G_r C [(.i2l, 1, 0, 0, .null)] 34 [(0, .ref 0), (1, .int x1), (2, .int x2), (3, .int x3), (4, .int x4)] [.long q12.1.toInt64] (wSR cy q12.2.1 q12.2.2.1 q12.2.2.2 rK rf rg rpd rpn sK sf sg spd spn mc mm nc nm pd pn vo vd vs tl tb eo et ed em ef ez ek es en fi) (by decide +kernel) rfl rfl ?_
        have h := Option.some.inj h
        subst h
        exact G_lret C hR (by decide +kernel)
def f_X6_findZeros_L12 : Nat → Int32 → Int32 → Int32 → (Nat → Int64) → Option (Bool × Int32 × (Nat → Int64))
  | 0, _, _, _, _ => none
  | fu + 1, x1, x2, mc, mm => if x1 < x2 then (some (true, mc, mm)) else ((f_X0_det x2 mm).bind fun q2 => if (0 : Int64) < q2 then (f_X6_findZeros_L12 fu x1 (x2 + (1 : Int32)) mc mm) else (some (false, mc, mm)))
def f_X6_findZeros (x1 : Int32) (rK : Int32) (rf : Nat → Int32) (mm : Nat → Int64) : Option (Bool × Int32 × (Nat → Int64)) := (f_X6_findPolynomial x1 rK rf mm).bind fun q1 => if (bI q1.1) = 0 then (some (false, q1.2.1, q1.2.2)) else (f_X6_findZeros_L12 200 x1 (1 : Int32) q1.2.1 q1.2.2)
set_option maxHeartbeats 4000000 in
set_option maxRecDepth 100000 in
theorem g_X6_findZeros_L12 {k : KX} {cy : Nat → ClassId} (C : OK k cX6_findZeros 6 3 cy 4 96) : ∀ (fu : Nat) (x1 : Int32) (x2 : Int32) (kb : Int32) (kn : Int32) (kf : Int32) (rK : Int32) (rf : Nat → Int32) (rg : Nat → Int64) (rpd : Int32) (rpn : Nat → Int64) (sK : Int32) (sf : Nat → Int32) (sg : Nat → Int64) (spd : Int32) (spn : Nat → Int64) (mc : Int32) (mm : Nat → Int64) (nc : Int32) (nm : Nat → Int64) (pd : Int32) (pn : Nat → Int64) (vo : Int32) (vd : Int32) (vs : Nat → Int32) (tl : Int32) (tb : Nat → Int32) (eo : Int32) (et : Int32) (ed : Int32) (em : Bool) (ef : Int32) (ez : Int32) (ek : Nat → Int32) (es : Nat → Int32) (en : Nat → Int32) (fi : Nat → Int32) (res : (Bool × Int32 × (Nat → Int64))), RT k cy (some .boolean) (some (.int (bI res.1))) (wSR cy kb kn kf rK rf rg rpd rpn sK sf sg spd spn res.2.1 res.2.2 nc nm pd pn vo vd vs tl tb eo et ed em ef ez ek es en fi) → (f_X6_findZeros_L12 fu x1 x2 mc mm = some res) → G k 3 12 [(0, .ref 0), (1, .int x1), (2, .int x2)] [] (wSR cy kb kn kf rK rf rg rpd rpn sK sf sg spd spn mc mm nc nm pd pn vo vd vs tl tb eo et ed em ef ez ek es en fi) := by
  intro fu
  induction fu with
  | zero =>
    intro x1 x2 kb kn kf rK rf rg rpd rpn sK sf sg spd spn mc mm nc nm pd pn vo vd vs tl tb eo et ed em ef ez ek es en fi res hR h
    rw [f_X6_findZeros_L12] at h
    cases h
  | succ fu ih =>
    intro x1 x2 kb kn kf rK rf rg rpd rpn sK sf sg spd spn mc mm nc nm pd pn vo vd vs tl tb eo et ed em ef ez ek es en fi res hR h
    rw [f_X6_findZeros_L12] at h
    refine G_r C [(.iload_n 2, 1, 0, 0, .null), (.iload_n 1, 1, 0, 0, .null)] 14 [(0, .ref 0), (1, .int x1), (2, .int x2)] [.int x1, .int x2] (wSR cy kb kn kf rK rf rg rpd rpn sK sf sg spd spn mc mm nc nm pd pn vo vd vs tl tb eo et ed em ef ez ek es en fi) (by decide +kernel) rfl rfl ?_
    refine G_icmp_gt C (off := 24) (tgt := 38) (by decide +kernel) rfl (fun c => ?_) (fun c => ?_)
    · rw [if_pos c] at h
      refine G_r C [(.iconst 1, 1, 0, 0, .int (1 : Int32))] 39 [(0, .ref 0), (1, .int x1), (2, .int x2)] [.int (1 : Int32)] (wSR cy kb kn kf rK rf rg rpd rpn sK sf sg spd spn mc mm nc nm pd pn vo vd vs tl tb eo et ed em ef ez ek es en fi) (by decide +kernel) rfl rfl ?_
      have h := Option.some.inj h
      subst h
      exact G_zret C (v := true) hR (by decide +kernel)
    · rw [if_neg c] at h
      refine G_r C [(.aload_n 0, 1, 0, 0, .null), (.getfield 22, 3, 6, 2, .null), (.iload_n 2, 1, 0, 0, .null)] 22 [(0, .ref 0), (1, .int x1), (2, .int x2)] [.int x2, .ref 11] (wSR cy kb kn kf rK rf rg rpd rpn sK sf sg spd spn mc mm nc nm pd pn vo vd vs tl tb eo et ed em ef ez ek es en fi) (by decide +kernel) rfl rfl ?_
      obtain ⟨q2, hq2, h⟩ := obd h
      refine G_cV C lk_6_115 ⟨Nat.le_of_ble_eq_true rfl, Nat.le_of_ble_eq_true rfl⟩ (by decide +kernel) [11, 12] [.long q2] (wSR cy kb kn kf rK rf rg rpd rpn sK sf sg spd spn mc mm nc nm pd pn vo vd vs tl tb eo et ed em ef ez ek es en fi) (c_X0_det cy mc mm x2 q2 hq2) rfl rfl (Nat.le_of_ble_eq_true rfl) rfl rfl ⟨rfl, rfl⟩ rfl rfl rfl ?_
      refine G_r C [(.lconst 0, 1, 0, 0, .long (0 : Int64))] 26 [(0, .ref 0), (1, .int x1), (2, .int x2)] [.long (0 : Int64), .long q2] (wSR cy kb kn kf rK rf rg rpd rpn sK sf sg spd spn mc mm nc nm pd pn vo vd vs tl tb eo et ed em ef ez ek es en fi) (by decide +kernel) rfl rfl ?_
      refine G_lcmp_gt C (off := 5) (tgt := 32) (by decide +kernel) (by decide +kernel) rfl (fun c => ?_) (fun c => ?_)
      · rw [if_pos c] at h
        refine G_r C [(.iinc 2 1, 3, 0, 0, .int (1 : Int32))] 35 [(2, .int (x2 + (1 : Int32))), (0, .ref 0), (1, .int x1)] [] (wSR cy kb kn kf rK rf rg rpd rpn sK sf sg spd spn mc mm nc nm pd pn vo vd vs tl tb eo et ed em ef ez ek es en fi) (by decide +kernel) rfl rfl ?_
        refine G_goto C (off := -23) (tgt := 12) (by decide +kernel) rfl ?_
        refine G_lv [1, 2, 0] (lv' := [(0, .ref 0), (1, .int x1), (2, .int (x2 + (1 : Int32)))]) rfl ?_
        exact ih x1 (x2 + (1 : Int32)) kb kn kf rK rf rg rpd rpn sK sf sg spd spn mc mm nc nm pd pn vo vd vs tl tb eo et ed em ef ez ek es en fi res hR h
      · rw [if_neg c] at h
        refine G_r C [(.iconst 0, 1, 0, 0, .int (0 : Int32))] 31 [(0, .ref 0), (1, .int x1), (2, .int x2)] [.int (0 : Int32)] (wSR cy kb kn kf rK rf rg rpd rpn sK sf sg spd spn mc mm nc nm pd pn vo vd vs tl tb eo et ed em ef ez ek es en fi) (by decide +kernel) rfl rfl ?_
        have h := Option.some.inj h
        subst h
        exact G_zret C (v := false) hR (by decide +kernel)
set_option maxHeartbeats 4000000 in
set_option maxRecDepth 100000 in
theorem c_X6_findZeros (cy : Nat → ClassId) (kb : Int32) (kn : Int32) (kf : Int32) (rK : Int32) (rf : Nat → Int32) (rg : Nat → Int64) (rpd : Int32) (rpn : Nat → Int64) (sK : Int32) (sf : Nat → Int32) (sg : Nat → Int64) (spd : Int32) (spn : Nat → Int64) (mc : Int32) (mm : Nat → Int64) (nc : Int32) (nm : Nat → Int64) (pd : Int32) (pn : Nat → Int64) (vo : Int32) (vd : Int32) (vs : Nat → Int32) (tl : Int32) (tb : Nat → Int32) (eo : Int32) (et : Int32) (ed : Int32) (em : Bool) (ef : Int32) (ez : Int32) (ek : Nat → Int32) (es : Nat → Int32) (en : Nat → Int32) (fi : Nat → Int32) (x1 : Int32) (res : (Bool × Int32 × (Nat → Int64))) (h : f_X6_findZeros x1 rK rf mm = some res) : MG cy yX6_findZeros cX6_findZeros 3 (some .boolean) 4 96 [.ref 0, .int x1] (wSR cy kb kn kf rK rf rg rpd rpn sK sf sg spd spn mc mm nc nm pd pn vo vd vs tl tb eo et ed em ef ez ek es en fi) (some (.int (bI res.1))) (wSR cy kb kn kf rK rf rg rpd rpn sK sf sg spd spn res.2.1 res.2.2 nc nm pd pn vo vd vs tl tb eo et ed em ef ez ek es en fi) := by
  refine MG_of (o := 6) (lv := [(0, .ref 0), (1, .int x1)]) ⟨by decide +kernel, rfl⟩ (Nat.le_of_ble_eq_true rfl) rfl (fun k C hR => ?_)
  rw [f_X6_findZeros] at h
  refine G_r C [(.aload_n 0, 1, 0, 0, .null), (.iload_n 1, 1, 0, 0, .null)] 2 [(0, .ref 0), (1, .int x1)] [.int x1, .ref 0] (wSR cy kb kn kf rK rf rg rpd rpn sK sf sg spd spn mc mm nc nm pd pn vo vd vs tl tb eo et ed em ef ez ek es en fi) (by decide +kernel) rfl rfl ?_
  obtain ⟨q1, hq1, h⟩ := obd h
  refine G_c0 C lk_6_119 ⟨Nat.le_of_ble_eq_true rfl, Nat.le_of_ble_eq_true rfl⟩ (by decide +kernel) [.int (bI q1.1)] (c_X6_findPolynomial cy kb kn kf rK rf rg rpd rpn sK sf sg spd spn mc mm nc nm pd pn vo vd vs tl tb eo et ed em ef ez ek es en fi x1 q1 hq1) rfl rfl (Nat.le_of_ble_eq_true rfl) ⟨rfl, rfl⟩ rfl ?_
  refine G_if_ne C (off := 5) (tgt := 10) (by decide +kernel) rfl (fun c => ?_) (fun c => ?_)
  · rw [if_neg c] at h
    refine G_r C [(.iconst 1, 1, 0, 0, .int (1 : Int32)), (.istore_n 2, 1, 0, 0, .null)] 12 [(2, .int (1 : Int32)), (0, .ref 0), (1, .int x1)] [] (wSR cy kb kn kf rK rf rg rpd rpn sK sf sg spd spn q1.2.1 q1.2.2 nc nm pd pn vo vd vs tl tb eo et ed em ef ez ek es en fi) (by decide +kernel) rfl rfl ?_
    refine G_lv [1, 2, 0] (lv' := [(0, .ref 0), (1, .int x1), (2, .int (1 : Int32))]) rfl ?_
    exact g_X6_findZeros_L12 C 200 x1 (1 : Int32) kb kn kf rK rf rg rpd rpn sK sf sg spd spn q1.2.1 q1.2.2 nc nm pd pn vo vd vs tl tb eo et ed em ef ez ek es en fi res hR h
  · rw [if_pos c] at h
    refine G_r C [(.iconst 0, 1, 0, 0, .int (0 : Int32))] 9 [(0, .ref 0), (1, .int x1)] [.int (0 : Int32)] (wSR cy kb kn kf rK rf rg rpd rpn sK sf sg spd spn q1.2.1 q1.2.2 nc nm pd pn vo vd vs tl tb eo et ed em ef ez ek es en fi) (by decide +kernel) rfl rfl ?_
    have h := Option.some.inj h
    subst h
    exact G_zret C (v := false) hR (by decide +kernel)
def f_X6_signOf (x0 : Int64) : Option Int32 := if x0 ≤ (0 : Int64) then (if (0 : Int64) ≤ x0 then (some (0 : Int32)) else (some (-1 : Int32))) else (some (1 : Int32))
set_option maxHeartbeats 4000000 in
set_option maxRecDepth 100000 in
theorem c_X6_signOf (cy : Nat → ClassId)  (x0 : Int64) (res : Int32) (h : f_X6_signOf x0 = some res) : MG cy yX6_signOf cX6_signOf 2 (some .int) 0 0 [.long x0] [] (some (.int res)) [] := by
  refine MG_of (o := 6) (lv := [(0, .long x0)]) ⟨by decide +kernel, rfl⟩ (Nat.le_of_ble_eq_true rfl) rfl (fun k C hR => ?_)
  rw [f_X6_signOf] at h
  refine G_r C [(.lload_n 0, 1, 0, 0, .null), (.lconst 0, 1, 0, 0, .long (0 : Int64))] 2 [(0, .long x0)] [.long (0 : Int64), .long x0] [] (by decide +kernel) rfl rfl ?_
  refine G_lcmp_le C (off := 7) (tgt := 10) (by decide +kernel) (by decide +kernel) rfl (fun c => ?_) (fun c => ?_)
  · rw [if_pos c] at h
    refine G_r C [(.lload_n 0, 1, 0, 0, .null), (.lconst 0, 1, 0, 0, .long (0 : Int64))] 12 [(0, .long x0)] [.long (0 : Int64), .long x0] [] (by decide +kernel) rfl rfl ?_
    refine G_lcmp_ge C (off := 7) (tgt := 20) (by decide +kernel) (by decide +kernel) rfl (fun c => ?_) (fun c => ?_)
    · rw [if_pos c] at h
      refine G_r C [(.iconst 0, 1, 0, 0, .int (0 : Int32))] 21 [(0, .long x0)] [.int (0 : Int32)] [] (by decide +kernel) rfl rfl ?_
      have h := Option.some.inj h
      subst h
      exact G_iret C hR (by decide +kernel)
    · rw [if_neg c] at h
      refine G_r C [(.iconst (-1), 1, 0, 0, .int (-1 : Int32))] 17 [(0, .long x0)] [.int (-1 : Int32)] [] (by decide +kernel) rfl rfl ?_
      refine G_goto C (off := 4) (tgt := 21) (by decide +kernel) rfl ?_
      have h := Option.some.inj h
      subst h
      exact G_iret C hR (by decide +kernel)
  · rw [if_neg c] at h
    refine G_r C [(.iconst 1, 1, 0, 0, .int (1 : Int32))] 7 [(0, .long x0)] [.int (1 : Int32)] [] (by decide +kernel) rfl rfl ?_
    refine G_goto C (off := 14) (tgt := 21) (by decide +kernel) rfl ?_
    have h := Option.some.inj h
    subst h
    exact G_iret C hR (by decide +kernel)
