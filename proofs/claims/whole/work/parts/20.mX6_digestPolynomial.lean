def f_X6_digestPolynomial_L6 : Nat → Int32 → Int64 → Int32 → (Nat → Int64) → Option Int64
  | 0, _, _, _, _ => none
  | fu + 1, x3, x4, x6, mm => if x3 ≤ x6 then (some x4) else ((f_X0_coefficient x3 x6 mm).bind fun q1 => (f_X0_det x3 mm).bind fun q2 => (f_X6_part q1 q2 (0 : Int32)).bind fun q3 => (f_X0_coefficient x3 x6 mm).bind fun q4 => (f_X0_det x3 mm).bind fun q5 => (f_X6_part q4 q5 (1 : Int32)).bind fun q6 => f_X6_digestPolynomial_L6 fu x3 (((31 : Int64) * (((31 : Int64) * x4) + q3)) + q6) (x6 + (1 : Int32)) mm)
def f_X6_digestPolynomial (x1 : Int64) (x3 : Int32) (mm : Nat → Int64) : Option Int64 := (f_X6_digestPolynomial_L6 200 x3 x1 (0 : Int32) mm).bind fun q7 => some q7
set_option maxHeartbeats 4000000 in
set_option maxRecDepth 100000 in
theorem g_X6_digestPolynomial_L6 {k : KX} {cy : Nat → ClassId} (C : OK k cX6_digestPolynomial 6 7 cy 2 56) : ∀ (fu : Nat) (x3 : Int32) (x4 : Int64) (x6 : Int32) (kb : Int32) (kn : Int32) (kf : Int32) (rK : Int32) (rf : Nat → Int32) (rg : Nat → Int64) (rpd : Int32) (rpn : Nat → Int64) (sK : Int32) (sf : Nat → Int32) (sg : Nat → Int64) (spd : Int32) (spn : Nat → Int64) (mc : Int32) (mm : Nat → Int64) (nc : Int32) (nm : Nat → Int64) (pd : Int32) (pn : Nat → Int64) (vo : Int32) (vd : Int32) (vs : Nat → Int32) (tl : Int32) (tb : Nat → Int32) (eo : Int32) (et : Int32) (ed : Int32) (em : Bool) (ef : Int32) (ez : Int32) (ek : Nat → Int32) (es : Nat → Int32) (en : Nat → Int32) (fi : Nat → Int32) (res : Int64), (f_X6_digestPolynomial_L6 fu x3 x4 x6 mm = some res) → G k 7 80 [(4, .long res)] [] (wSR cy kb kn kf rK rf rg rpd rpn sK sf sg spd spn mc mm nc nm pd pn vo vd vs tl tb eo et ed em ef ez ek es en fi) → G k 7 6 [(0, .ref 0), (3, .int x3), (4, .long x4), (6, .int x6)] [] (wSR cy kb kn kf rK rf rg rpd rpn sK sf sg spd spn mc mm nc nm pd pn vo vd vs tl tb eo et ed em ef ez ek es en fi) := by
  intro fu
  induction fu with
  | zero =>
    intro x3 x4 x6 kb kn kf rK rf rg rpd rpn sK sf sg spd spn mc mm nc nm pd pn vo vd vs tl tb eo et ed em ef ez ek es en fi res h hex
    rw [f_X6_digestPolynomial_L6] at h
    cases h
  | succ fu ih =>
    intro x3 x4 x6 kb kn kf rK rf rg rpd rpn sK sf sg spd spn mc mm nc nm pd pn vo vd vs tl tb eo et ed em ef ez ek es en fi res h hex
    rw [f_X6_digestPolynomial_L6] at h
    refine G_r C [(.iload 6, 2, 0, 0, .null), (.iload_n 3, 1, 0, 0, .null)] 9 [(0, .ref 0), (3, .int x3), (4, .long x4), (6, .int x6)] [.int x3, .int x6] (wSR cy kb kn kf rK rf rg rpd rpn sK sf sg spd spn mc mm nc nm pd pn vo vd vs tl tb eo et ed em ef ez ek es en fi) (by decide +kernel) rfl rfl ?_
    refine G_icmp_ge C (off := 71) (tgt := 80) (by decide +kernel) rfl (fun c => ?_) (fun c => ?_)
    · rw [if_pos c] at h
      have h := Option.some.inj h
      subst h
      refine G_lv [2] (lv' := [(4, .long x4)]) rfl ?_
      exact hex
    · rw [if_neg c] at h
      refine G_ldc2 C co_6_214 (by decide +kernel) ?_
      refine G_r C [(.lload 4, 2, 0, 0, .null), (.lmul, 1, 0, 0, .null), (.aload_n 0, 1, 0, 0, .null), (.getfield 22, 3, 6, 2, .null), (.iload_n 3, 1, 0, 0, .null), (.iload 6, 2, 0, 0, .null)] 25 [(0, .ref 0), (3, .int x3), (4, .long x4), (6, .int x6)] [.int x6, .int x3, .ref 11, .long ((31 : Int64) * x4)] (wSR cy kb kn kf rK rf rg rpd rpn sK sf sg spd spn mc mm nc nm pd pn vo vd vs tl tb eo et ed em ef ez ek es en fi) (by decide +kernel) rfl rfl ?_
      obtain ⟨q1, hq1, h⟩ := obd h
      refine G_cV C lk_6_123 ⟨Nat.le_of_ble_eq_true rfl, Nat.le_of_ble_eq_true rfl⟩ (by decide +kernel) [11, 12] [.long q1, .long ((31 : Int64) * x4)] (wSR cy kb kn kf rK rf rg rpd rpn sK sf sg spd spn mc mm nc nm pd pn vo vd vs tl tb eo et ed em ef ez ek es en fi) (c_X0_coefficient cy mc mm x3 x6 q1 hq1) rfl rfl (Nat.le_of_ble_eq_true rfl) rfl rfl ⟨rfl, rfl⟩ rfl rfl rfl ?_
      refine G_r C [(.aload_n 0, 1, 0, 0, .null), (.getfield 22, 3, 6, 2, .null), (.iload_n 3, 1, 0, 0, .null)] 33 [(0, .ref 0), (3, .int x3), (4, .long x4), (6, .int x6)] [.int x3, .ref 11, .long q1, .long ((31 : Int64) * x4)] (wSR cy kb kn kf rK rf rg rpd rpn sK sf sg spd spn mc mm nc nm pd pn vo vd vs tl tb eo et ed em ef ez ek es en fi) (by decide +kernel) rfl rfl ?_
      obtain ⟨q2, hq2, h⟩ := obd h
      refine G_cV C lk_6_115 ⟨Nat.le_of_ble_eq_true rfl, Nat.le_of_ble_eq_true rfl⟩ (by decide +kernel) [11, 12] [.long q2, .long q1, .long ((31 : Int64) * x4)] (wSR cy kb kn kf rK rf rg rpd rpn sK sf sg spd spn mc mm nc nm pd pn vo vd vs tl tb eo et ed em ef ez ek es en fi) (c_X0_det cy mc mm x3 q2 hq2) rfl rfl (Nat.le_of_ble_eq_true rfl) rfl rfl ⟨rfl, rfl⟩ rfl rfl rfl ?_
      refine G_r C [(.iconst 0, 1, 0, 0, .int (0 : Int32))] 37 [(0, .ref 0), (3, .int x3), (4, .long x4), (6, .int x6)] [.int (0 : Int32), .long q2, .long q1, .long ((31 : Int64) * x4)] (wSR cy kb kn kf rK rf rg rpd rpn sK sf sg spd spn mc mm nc nm pd pn vo vd vs tl tb eo et ed em ef ez ek es en fi) (by decide +kernel) rfl rfl ?_
      obtain ⟨q3, hq3, h⟩ := obd h
      refine G_cS C lk_6_127 ⟨Nat.le_of_ble_eq_true rfl, Nat.le_of_ble_eq_true rfl⟩ (by decide +kernel) [.long q3, .long ((31 : Int64) * x4)] (c_X6_part cy q1 q2 (0 : Int32) q3 hq3) rfl rfl (Nat.le_of_ble_eq_true rfl) rfl ?_
      refine G_r C [(.ladd, 1, 0, 0, .null), (.lstore 4, 2, 0, 0, .null)] 43 [(4, .long (((31 : Int64) * x4) + q3)), (0, .ref 0), (3, .int x3), (6, .int x6)] [] (wSR cy kb kn kf rK rf rg rpd rpn sK sf sg spd spn mc mm nc nm pd pn vo vd vs tl tb eo et ed em ef ez ek es en fi) (by decide +kernel) rfl rfl ?_
      refine G_ldc2 C co_6_214 (by decide +kernel) ?_
      refine G_r C [(.lload 4, 2, 0, 0, .null), (.lmul, 1, 0, 0, .null), (.aload_n 0, 1, 0, 0, .null), (.getfield 22, 3, 6, 2, .null), (.iload_n 3, 1, 0, 0, .null), (.iload 6, 2, 0, 0, .null)] 56 [(4, .long (((31 : Int64) * x4) + q3)), (0, .ref 0), (3, .int x3), (6, .int x6)] [.int x6, .int x3, .ref 11, .long ((31 : Int64) * (((31 : Int64) * x4) + q3))] (wSR cy kb kn kf rK rf rg rpd rpn sK sf sg spd spn mc mm nc nm pd pn vo vd vs tl tb eo et ed em ef ez ek es en fi) (by decide +kernel) rfl rfl ?_
      obtain ⟨q4, hq4, h⟩ := obd h
      refine G_cV C lk_6_123 ⟨Nat.le_of_ble_eq_true rfl, Nat.le_of_ble_eq_true rfl⟩ (by decide +kernel) [11, 12] [.long q4, .long ((31 : Int64) * (((31 : Int64) * x4) + q3))] (wSR cy kb kn kf rK rf rg rpd rpn sK sf sg spd spn mc mm nc nm pd pn vo vd vs tl tb eo et ed em ef ez ek es en fi) (c_X0_coefficient cy mc mm x3 x6 q4 hq4) rfl rfl (Nat.le_of_ble_eq_true rfl) rfl rfl ⟨rfl, rfl⟩ rfl rfl rfl ?_
      refine G_r C [(.aload_n 0, 1, 0, 0, .null), (.getfield 22, 3, 6, 2, .null), (.iload_n 3, 1, 0, 0, .null)] 64 [(4, .long (((31 : Int64) * x4) + q3)), (0, .ref 0), (3, .int x3), (6, .int x6)] [.int x3, .ref 11, .long q4, .long ((31 : Int64) * (((31 : Int64) * x4) + q3))] (wSR cy kb kn kf rK rf rg rpd rpn sK sf sg spd spn mc mm nc nm pd pn vo vd vs tl tb eo et ed em ef ez ek es en fi) (by decide +kernel) rfl rfl ?_
      obtain ⟨q5, hq5, h⟩ := obd h
      refine G_cV C lk_6_115 ⟨Nat.le_of_ble_eq_true rfl, Nat.le_of_ble_eq_true rfl⟩ (by decide +kernel) [11, 12] [.long q5, .long q4, .long ((31 : Int64) * (((31 : Int64) * x4) + q3))] (wSR cy kb kn kf rK rf rg rpd rpn sK sf sg spd spn mc mm nc nm pd pn vo vd vs tl tb eo et ed em ef ez ek es en fi) (c_X0_det cy mc mm x3 q5 hq5) rfl rfl (Nat.le_of_ble_eq_true rfl) rfl rfl ⟨rfl, rfl⟩ rfl rfl rfl ?_
      refine G_r C [(.iconst 1, 1, 0, 0, .int (1 : Int32))] 68 [(4, .long (((31 : Int64) * x4) + q3)), (0, .ref 0), (3, .int x3), (6, .int x6)] [.int (1 : Int32), .long q5, .long q4, .long ((31 : Int64) * (((31 : Int64) * x4) + q3))] (wSR cy kb kn kf rK rf rg rpd rpn sK sf sg spd spn mc mm nc nm pd pn vo vd vs tl tb eo et ed em ef ez ek es en fi) (by decide +kernel) rfl rfl ?_
      obtain ⟨q6, hq6, h⟩ := obd h
      refine G_cS C lk_6_127 ⟨Nat.le_of_ble_eq_true rfl, Nat.le_of_ble_eq_true rfl⟩ (by decide +kernel) [.long q6, .long ((31 : Int64) * (((31 : Int64) * x4) + q3))] (c_X6_part cy q4 q5 (1 : Int32) q6 hq6) rfl rfl (Nat.le_of_ble_eq_true rfl) rfl ?_
      refine G_r C [(.ladd, 1, 0, 0, .null), (.lstore 4, 2, 0, 0, .null), (.iinc 6 1, 3, 0, 0, .int (1 : Int32))] 77 [(6, .int (x6 + (1 : Int32))), (4, .long (((31 : Int64) * (((31 : Int64) * x4) + q3)) + q6)), (0, .ref 0), (3, .int x3)] [] (wSR cy kb kn kf rK rf rg rpd rpn sK sf sg spd spn mc mm nc nm pd pn vo vd vs tl tb eo et ed em ef ez ek es en fi) (by decide +kernel) rfl rfl ?_
      refine G_goto C (off := -71) (tgt := 6) (by decide +kernel) rfl ?_
      refine G_lv [2, 3, 1, 0] (lv' := [(0, .ref 0), (3, .int x3), (4, .long (((31 : Int64) * (((31 : Int64) * x4) + q3)) + q6)), (6, .int (x6 + (1 : Int32)))]) rfl ?_
      exact ih x3 (((31 : Int64) * (((31 : Int64) * x4) + q3)) + q6) (x6 + (1 : Int32)) kb kn kf rK rf rg rpd rpn sK sf sg spd spn mc mm nc nm pd pn vo vd vs tl tb eo et ed em ef ez ek es en fi res h hex
set_option maxHeartbeats 4000000 in
set_option maxRecDepth 100000 in
theorem c_X6_digestPolynomial (cy : Nat → ClassId) (kb : Int32) (kn : Int32) (kf : Int32) (rK : Int32) (rf : Nat → Int32) (rg : Nat → Int64) (rpd : Int32) (rpn : Nat → Int64) (sK : Int32) (sf : Nat → Int32) (sg : Nat → Int64) (spd : Int32) (spn : Nat → Int64) (mc : Int32) (mm : Nat → Int64) (nc : Int32) (nm : Nat → Int64) (pd : Int32) (pn : Nat → Int64) (vo : Int32) (vd : Int32) (vs : Nat → Int32) (tl : Int32) (tb : Nat → Int32) (eo : Int32) (et : Int32) (ed : Int32) (em : Bool) (ef : Int32) (ez : Int32) (ek : Nat → Int32) (es : Nat → Int32) (en : Nat → Int32) (fi : Nat → Int32) (x1 : Int64) (x3 : Int32) (res : Int64) (h : f_X6_digestPolynomial x1 x3 mm = some res) : MG cy yX6_digestPolynomial cX6_digestPolynomial 7 (some .long) 2 56 [.ref 0, .long x1, .int x3] (wSR cy kb kn kf rK rf rg rpd rpn sK sf sg spd spn mc mm nc nm pd pn vo vd vs tl tb eo et ed em ef ez ek es en fi) (some (.long res)) (wSR cy kb kn kf rK rf rg rpd rpn sK sf sg spd spn mc mm nc nm pd pn vo vd vs tl tb eo et ed em ef ez ek es en fi) := by
  refine MG_of (o := 6) (lv := [(0, .ref 0), (1, .long x1), (3, .int x3)]) ⟨by decide +kernel, rfl⟩ (Nat.le_of_ble_eq_true rfl) rfl (fun k C hR => ?_)
  rw [f_X6_digestPolynomial] at h
  refine G_r C [(.lload_n 1, 1, 0, 0, .null), (.lstore 4, 2, 0, 0, .null), (.iconst 0, 1, 0, 0, .int (0 : Int32)), (.istore 6, 2, 0, 0, .null)] 6 [(6, .int (0 : Int32)), (4, .long x1), (0, .ref 0), (1, .long x1), (3, .int x3)] [] (wSR cy kb kn kf rK rf rg rpd rpn sK sf sg spd spn mc mm nc nm pd pn vo vd vs tl tb eo et ed em ef ez ek es en fi) (by decide +kernel) rfl rfl ?_
  obtain ⟨q7, hq7, h⟩ := obd h
  refine G_lv [2, 4, 1, 0] (lv' := [(0, .ref 0), (3, .int x3), (4, .long x1), (6, .int (0 : Int32))]) rfl ?_
  refine g_X6_digestPolynomial_L6 C 200 x3 x1 (0 : Int32) kb kn kf rK rf rg rpd rpn sK sf sg spd spn mc mm nc nm pd pn vo vd vs tl tb eo et ed em ef ez ek es en fi q7 hq7 ?_
  refine G_r C [(.lload 4, 2, 0, 0, .null)] 82 [(4, .long q7)] [.long q7] (wSR cy kb kn kf rK rf rg rpd rpn sK sf sg spd spn mc mm nc nm pd pn vo vd vs tl tb eo et ed em ef ez ek es en fi) (by decide +kernel) rfl rfl ?_
  have h := Option.some.inj h
  subst h
  exact G_lret C hR (by decide +kernel)
def f_X6_digest_L6 : Nat → Int64 → Int32 → Int32 → Int32 → Int32 → Int32 → Int32 → Int32 → Option Int64
  | 0, _, _, _, _, _, _, _, _ => none
  | fu + 1, x1, x3, kb, kn, kf, rK, vd, tl => if (5 : Int32) < x3 then (some x1) else ((f_X6_tally x3 kb kn kf rK vd tl).bind fun q1 => f_X6_digest_L6 fu (((31 : Int64) * x1) + q1.toInt64) (x3 + (1 : Int32)) kb kn kf rK vd tl)
def f_X6_digest_L32 : Nat → Int64 → Int32 → Int32 → (Nat → Int32) → Option Int64
  | 0, _, _, _, _ => none
  | fu + 1, x1, x3, rK, rf => (f_X3_size rK).bind fun q3 => if q3 ≤ x3 then (some x1) else ((f_X3_at x3 rK rf).bind fun q4 => f_X6_digest_L32 fu (((31 : Int64) * x1) + q4.toInt64) (x3 + (1 : Int32)) rK rf)
def f_X6_digest_L71 : Nat → Int64 → Int32 → (Nat → Int32) → Option Int64
  | 0, _, _, _ => none
  | fu + 1, x1, x3, fi => if (4 : Int32) ≤ x3 then (some x1) else (if x3 < 0 ∨ 4 ≤ x3.toNatClampNeg then none else f_X6_digest_L71 fu (((31 : Int64) * x1) + ((fi x3.toNatClampNeg).toInt64)) (x3 + (1 : Int32)) fi)
def f_X6_digest_L102 : Nat → Int64 → Int32 → Int32 → (Nat → Int64) → Option Int64
  | 0, _, _, _, _ => none
  | fu + 1, x1, x3, rK, mm => if (4 : Int32) < x3 then (some x1) else ((f_X3_hasTable (0 : Int32) x3 rK).bind fun q8 => if (bI q8) = 0 then (f_X6_digest_L102 fu x1 (x3 + (1 : Int32)) rK mm) else ((f_X0_det x3 mm).bind fun q9 => f_X6_digest_L102 fu (((31 : Int64) * x1) + q9) (x3 + (1 : Int32)) rK mm))
def f_X6_digest_L142 : Nat → Int64 → Int32 → Int32 → (Nat → Int64) → Option Int64
  | 0, _, _, _, _ => none
  | fu + 1, x1, x3, mc, mm => if (3 : Int32) < x3 then (some x1) else ((f_X0_hasPolynomial x3 mc mm).bind fun q11 => if (bI q11) = 0 then (f_X6_digest_L142 fu x1 (x3 + (1 : Int32)) mc mm) else ((f_X6_digestPolynomial x1 x3 mm).bind fun q12 => f_X6_digest_L142 fu q12 (x3 + (1 : Int32)) mc mm))
def f_X6_digest (kb : Int32) (kn : Int32) (kf : Int32) (rK : Int32) (rf : Nat → Int32) (mm : Nat → Int64) (vd : Int32) (tl : Int32) (fi : Nat → Int32) : Option (Int64 × Int32 × (Nat → Int64) × (Nat → Int32)) := (f_X6_digest_L6 200 (2357 : Int64) (0 : Int32) kb kn kf rK vd tl).bind fun q2 => (f_X6_digest_L32 200 q2 (0 : Int32) rK rf).bind fun q5 => (f_X6_judge rK rf mm fi).bind fun q6 => (f_X6_digest_L71 200 q5 (0 : Int32) q6.2.2).bind fun q7 => (f_X6_digest_L102 200 q7 (0 : Int32) rK q6.2.1).bind fun q10 => (f_X6_digest_L142 200 q10 (1 : Int32) q6.1 q6.2.1).bind fun q13 => some (q13, q6.1, q6.2.1, q6.2.2)
set_option maxHeartbeats 4000000 in
set_option maxRecDepth 100000 in
theorem g_X6_digest_L6 {k : KX} {cy : Nat → ClassId} (C : OK k cX6_digest 6 4 cy 5 116) : ∀ (fu : Nat) (x1 : Int64) (x3 : Int32) (kb : Int32) (kn : Int32) (kf : Int32) (rK : Int32) (rf : Nat → Int32) (rg : Nat → Int64) (rpd : Int32) (rpn : Nat → Int64) (sK : Int32) (sf : Nat → Int32) (sg : Nat → Int64) (spd : Int32) (spn : Nat → Int64) (mc : Int32) (mm : Nat → Int64) (nc : Int32) (nm : Nat → Int64) (pd : Int32) (pn : Nat → Int64) (vo : Int32) (vd : Int32) (vs : Nat → Int32) (tl : Int32) (tb : Nat → Int32) (eo : Int32) (et : Int32) (ed : Int32) (em : Bool) (ef : Int32) (ez : Int32) (ek : Nat → Int32) (es : Nat → Int32) (en : Nat → Int32) (fi : Nat → Int32) (res : Int64), (f_X6_digest_L6 fu x1 x3 kb kn kf rK vd tl = some res) → G k 4 30 [(0, .ref 0), (1, .long res)] [] (wSR cy kb kn kf rK rf rg rpd rpn sK sf sg spd spn mc mm nc nm pd pn vo vd vs tl tb eo et ed em ef ez ek es en fi) → G k 4 6 [(0, .ref 0), (1, .long x1), (3, .int x3)] [] (wSR cy kb kn kf rK rf rg rpd rpn sK sf sg spd spn mc mm nc nm pd pn vo vd vs tl tb eo et ed em ef ez ek es en fi) := by
  intro fu
  induction fu with
  | zero =>
    intro x1 x3 kb kn kf rK rf rg rpd rpn sK sf sg spd spn mc mm nc nm pd pn vo vd vs tl tb eo et ed em ef ez ek es en fi res h hex
    rw [f_X6_digest_L6] at h
    cases h
  | succ fu ih =>
    intro x1 x3 kb kn kf rK rf rg rpd rpn sK sf sg spd spn mc mm nc nm pd pn vo vd vs tl tb eo et ed em ef ez ek es en fi res h hex
    rw [f_X6_digest_L6] at h
    refine G_r C [(.iload_n 3, 1, 0, 0, .null), (.iconst 5, 1, 0, 0, .int (5 : Int32))] 8 [(0, .ref 0), (1, .long x1), (3, .int x3)] [.int (5 : Int32), .int x3] (wSR cy kb kn kf rK rf rg rpd rpn sK sf sg spd spn mc mm nc nm pd pn vo vd vs tl tb eo et ed em ef ez ek es en fi) (by decide +kernel) rfl rfl ?_
    refine G_icmp_gt C (off := 22) (tgt := 30) (by decide +kernel) rfl (fun c => ?_) (fun c => ?_)
    · rw [if_pos c] at h
      have h := Option.some.inj h
      subst h
      refine G_lv [0, 1] (lv' := [(0, .ref 0), (1, .long x1)]) rfl ?_
      exact hex
    · rw [if_neg c] at h
      refine G_ldc2 C co_6_214 (by decide +kernel) ?_
      refine G_r C [(.lload_n 1, 1, 0, 0, .null), (.lmul, 1, 0, 0, .null), (.aload_n 0, 1, 0, 0, .null), (.iload_n 3, 1, 0, 0, .null)] 18 [(0, .ref 0), (1, .long x1), (3, .int x3)] [.int x3, .ref 0, .long ((31 : Int64) * x1)] (wSR cy kb kn kf rK rf rg rpd rpn sK sf sg spd spn mc mm nc nm pd pn vo vd vs tl tb eo et ed em ef ez ek es en fi) (by decide +kernel) rfl rfl ?_
      obtain ⟨q1, hq1, h⟩ := obd h
      refine G_c0 C lk_6_209 ⟨Nat.le_of_ble_eq_true rfl, Nat.le_of_ble_eq_true rfl⟩ (by decide +kernel) [.int q1, .long ((31 : Int64) * x1)] (c_X6_tally cy kb kn kf rK rf rg rpd rpn sK sf sg spd spn mc mm nc nm pd pn vo vd vs tl tb eo et ed em ef ez ek es en fi x3 q1 hq1) rfl rfl (Nat.le_of_ble_eq_true rfl) ⟨rfl, rfl⟩ rfl ?_
      refine G_r C [(.i2l, 1, 0, 0, .null), (.ladd, 1, 0, 0, .null), (.lstore_n 1, 1, 0, 0, .null), (.iinc 3 1, 3, 0, 0, .int (1 : Int32))] 27 [(3, .int (x3 + (1 : Int32))), (1, .long (((31 : Int64) * x1) + q1.toInt64)), (0, .ref 0)] [] (wSR cy kb kn kf rK rf rg rpd rpn sK sf sg spd spn mc mm nc nm pd pn vo vd vs tl tb eo et ed em ef ez ek es en fi) (by decide +kernel) rfl rfl ?_
      refine G_goto C (off := -21) (tgt := 6) (by decide +kernel) rfl ?_
      refine G_lv [2, 1, 0] (lv' := [(0, .ref 0), (1, .long (((31 : Int64) * x1) + q1.toInt64)), (3, .int (x3 + (1 : Int32)))]) rfl ?_
      exact ih (((31 : Int64) * x1) + q1.toInt64) (x3 + (1 : Int32)) kb kn kf rK rf rg rpd rpn sK sf sg spd spn mc mm nc nm pd pn vo vd vs tl tb eo et ed em ef ez ek es en fi res h hex
set_option maxHeartbeats 4000000 in
set_option maxRecDepth 100000 in
theorem g_X6_digest_L32 {k : KX} {cy : Nat → ClassId} (C : OK k cX6_digest 6 4 cy 5 116) : ∀ (fu : Nat) (x1 : Int64) (x3 : Int32) (kb : Int32) (kn : Int32) (kf : Int32) (rK : Int32) (rf : Nat → Int32) (rg : Nat → Int64) (rpd : Int32) (rpn : Nat → Int64) (sK : Int32) (sf : Nat → Int32) (sg : Nat → Int64) (spd : Int32) (spn : Nat → Int64) (mc : Int32) (mm : Nat → Int64) (nc : Int32) (nm : Nat → Int64) (pd : Int32) (pn : Nat → Int64) (vo : Int32) (vd : Int32) (vs : Nat → Int32) (tl : Int32) (tb : Nat → Int32) (eo : Int32) (et : Int32) (ed : Int32) (em : Bool) (ef : Int32) (ez : Int32) (ek : Nat → Int32) (es : Nat → Int32) (en : Nat → Int32) (fi : Nat → Int32) (res : Int64), (f_X6_digest_L32 fu x1 x3 rK rf = some res) → G k 4 65 [(0, .ref 0), (1, .long res)] [] (wSR cy kb kn kf rK rf rg rpd rpn sK sf sg spd spn mc mm nc nm pd pn vo vd vs tl tb eo et ed em ef ez ek es en fi) → G k 4 32 [(0, .ref 0), (1, .long x1), (3, .int x3)] [] (wSR cy kb kn kf rK rf rg rpd rpn sK sf sg spd spn mc mm nc nm pd pn vo vd vs tl tb eo et ed em ef ez ek es en fi) := by
  intro fu
  induction fu with
  | zero =>
    intro x1 x3 kb kn kf rK rf rg rpd rpn sK sf sg spd spn mc mm nc nm pd pn vo vd vs tl tb eo et ed em ef ez ek es en fi res h hex
    rw [f_X6_digest_L32] at h
    cases h
  | succ fu ih =>
    intro x1 x3 kb kn kf rK rf rg rpd rpn sK sf sg spd spn mc mm nc nm pd pn vo vd vs tl tb eo et ed em ef ez ek es en fi res h hex
    rw [f_X6_digest_L32] at h
    refine G_r C [(.iload_n 3, 1, 0, 0, .null), (.aload_n 0, 1, 0, 0, .null), (.getfield 12, 3, 6, 0, .null)] 37 [(0, .ref 0), (1, .long x1), (3, .int x3)] [.ref 1, .int x3] (wSR cy kb kn kf rK rf rg rpd rpn sK sf sg spd spn mc mm nc nm pd pn vo vd vs tl tb eo et ed em ef ez ek es en fi) (by decide +kernel) rfl rfl ?_
    obtain ⟨q3, hq3, h⟩ := obd h
    refine G_cV C lk_6_82 ⟨Nat.le_of_ble_eq_true rfl, Nat.le_of_ble_eq_true rfl⟩ (by decide +kernel) [1, 2, 3, 4, 5] [.int q3, .int x3] (wSR cy kb kn kf rK rf rg rpd rpn sK sf sg spd spn mc mm nc nm pd pn vo vd vs tl tb eo et ed em ef ez ek es en fi) (c_X3_size cy rK rf rg rpd rpn q3 hq3) rfl rfl (Nat.le_of_ble_eq_true rfl) rfl rfl ⟨rfl, rfl⟩ rfl rfl rfl ?_
    refine G_icmp_ge C (off := 25) (tgt := 65) (by decide +kernel) rfl (fun c => ?_) (fun c => ?_)
    · rw [if_pos c] at h
      have h := Option.some.inj h
      subst h
      refine G_lv [0, 1] (lv' := [(0, .ref 0), (1, .long x1)]) rfl ?_
      exact hex
    · rw [if_neg c] at h
      refine G_ldc2 C co_6_214 (by decide +kernel) ?_
      refine G_r C [(.lload_n 1, 1, 0, 0, .null), (.lmul, 1, 0, 0, .null), (.aload_n 0, 1, 0, 0, .null), (.getfield 12, 3, 6, 0, .null), (.iload_n 3, 1, 0, 0, .null)] 53 [(0, .ref 0), (1, .long x1), (3, .int x3)] [.int x3, .ref 1, .long ((31 : Int64) * x1)] (wSR cy kb kn kf rK rf rg rpd rpn sK sf sg spd spn mc mm nc nm pd pn vo vd vs tl tb eo et ed em ef ez ek es en fi) (by decide +kernel) rfl rfl ?_
      obtain ⟨q4, hq4, h⟩ := obd h
      refine G_cV C lk_6_61 ⟨Nat.le_of_ble_eq_true rfl, Nat.le_of_ble_eq_true rfl⟩ (by decide +kernel) [1, 2, 3, 4, 5] [.int q4, .long ((31 : Int64) * x1)] (wSR cy kb kn kf rK rf rg rpd rpn sK sf sg spd spn mc mm nc nm pd pn vo vd vs tl tb eo et ed em ef ez ek es en fi) (c_X3_at cy rK rf rg rpd rpn x3 q4 hq4) rfl rfl (Nat.le_of_ble_eq_true rfl) rfl rfl ⟨rfl, rfl⟩ rfl rfl rfl ?_
      refine G_r C [(.i2l, 1, 0, 0, .null), (.ladd, 1, 0, 0, .null), (.lstore_n 1, 1, 0, 0, .null), (.iinc 3 1, 3, 0, 0, .int (1 : Int32))] 62 [(3, .int (x3 + (1 : Int32))), (1, .long (((31 : Int64) * x1) + q4.toInt64)), (0, .ref 0)] [] (wSR cy kb kn kf rK rf rg rpd rpn sK sf sg spd spn mc mm nc nm pd pn vo vd vs tl tb eo et ed em ef ez ek es en fi) (by decide +kernel) rfl rfl ?_
      refine G_goto C (off := -30) (tgt := 32) (by decide +kernel) rfl ?_
      refine G_lv [2, 1, 0] (lv' := [(0, .ref 0), (1, .long (((31 : Int64) * x1) + q4.toInt64)), (3, .int (x3 + (1 : Int32)))]) rfl ?_
      exact ih (((31 : Int64) * x1) + q4.toInt64) (x3 + (1 : Int32)) kb kn kf rK rf rg rpd rpn sK sf sg spd spn mc mm nc nm pd pn vo vd vs tl tb eo et ed em ef ez ek es en fi res h hex
set_option maxHeartbeats 4000000 in
set_option maxRecDepth 100000 in
theorem g_X6_digest_L71 {k : KX} {cy : Nat → ClassId} (C : OK k cX6_digest 6 4 cy 5 116) : ∀ (fu : Nat) (x1 : Int64) (x3 : Int32) (kb : Int32) (kn : Int32) (kf : Int32) (rK : Int32) (rf : Nat → Int32) (rg : Nat → Int64) (rpd : Int32) (rpn : Nat → Int64) (sK : Int32) (sf : Nat → Int32) (sg : Nat → Int64) (spd : Int32) (spn : Nat → Int64) (mc : Int32) (mm : Nat → Int64) (nc : Int32) (nm : Nat → Int64) (pd : Int32) (pn : Nat → Int64) (vo : Int32) (vd : Int32) (vs : Nat → Int32) (tl : Int32) (tb : Nat → Int32) (eo : Int32) (et : Int32) (ed : Int32) (em : Bool) (ef : Int32) (ez : Int32) (ek : Nat → Int32) (es : Nat → Int32) (en : Nat → Int32) (fi : Nat → Int32) (res : Int64), (f_X6_digest_L71 fu x1 x3 fi = some res) → G k 4 100 [(0, .ref 0), (1, .long res)] [] (wSR cy kb kn kf rK rf rg rpd rpn sK sf sg spd spn mc mm nc nm pd pn vo vd vs tl tb eo et ed em ef ez ek es en fi) → G k 4 71 [(0, .ref 0), (1, .long x1), (3, .int x3)] [] (wSR cy kb kn kf rK rf rg rpd rpn sK sf sg spd spn mc mm nc nm pd pn vo vd vs tl tb eo et ed em ef ez ek es en fi) := by
  intro fu
  induction fu with
  | zero =>
    intro x1 x3 kb kn kf rK rf rg rpd rpn sK sf sg spd spn mc mm nc nm pd pn vo vd vs tl tb eo et ed em ef ez ek es en fi res h hex
    rw [f_X6_digest_L71] at h
    cases h
  | succ fu ih =>
    intro x1 x3 kb kn kf rK rf rg rpd rpn sK sf sg spd spn mc mm nc nm pd pn vo vd vs tl tb eo et ed em ef ez ek es en fi res h hex
    rw [f_X6_digest_L71] at h
    refine G_r C [(.iload_n 3, 1, 0, 0, .null), (.aload_n 0, 1, 0, 0, .null), (.getfield 57, 3, 6, 8, .null)] 76 [(0, .ref 0), (1, .long x1), (3, .int x3)] [.ref 25, .int x3] (wSR cy kb kn kf rK rf rg rpd rpn sK sf sg spd spn mc mm nc nm pd pn vo vd vs tl tb eo et ed em ef ez ek es en fi) (by decide +kernel) rfl rfl ?_
    refine G_alen C (t0 := 0) (v := (4 : Int32)) rfl rfl rfl (by decide +kernel) ?_
    refine G_icmp_ge C (off := 23) (tgt := 100) (by decide +kernel) rfl (fun c => ?_) (fun c => ?_)
    · rw [if_pos c] at h
      have h := Option.some.inj h
      subst h
      refine G_lv [0, 1] (lv' := [(0, .ref 0), (1, .long x1)]) rfl ?_
      exact hex
    · rw [if_neg c] at h
      refine G_ldc2 C co_6_214 (by decide +kernel) ?_
      refine G_r C [(.lload_n 1, 1, 0, 0, .null), (.lmul, 1, 0, 0, .null), (.aload_n 0, 1, 0, 0, .null), (.getfield 57, 3, 6, 8, .null), (.iload_n 3, 1, 0, 0, .null)] 90 [(0, .ref 0), (1, .long x1), (3, .int x3)] [.int x3, .ref 25, .long ((31 : Int64) * x1)] (wSR cy kb kn kf rK rf rg rpd rpn sK sf sg spd spn mc mm nc nm pd pn vo vd vs tl tb eo et ed em ef ez ek es en fi) (by decide +kernel) rfl rfl ?_
      obtain ⟨cg, h⟩ := oob h
      refine G_iald C (a := 25) rfl cg (by decide +kernel) ?_
      refine G_r C [(.i2l, 1, 0, 0, .null), (.ladd, 1, 0, 0, .null), (.lstore_n 1, 1, 0, 0, .null), (.iinc 3 1, 3, 0, 0, .int (1 : Int32))] 97 [(3, .int (x3 + (1 : Int32))), (1, .long (((31 : Int64) * x1) + ((fi x3.toNatClampNeg).toInt64))), (0, .ref 0)] [] (wSR cy kb kn kf rK rf rg rpd rpn sK sf sg spd spn mc mm nc nm pd pn vo vd vs tl tb eo et ed em ef ez ek es en fi) (by decide +kernel) rfl rfl ?_
      refine G_goto C (off := -26) (tgt := 71) (by decide +kernel) rfl ?_
      refine G_lv [2, 1, 0] (lv' := [(0, .ref 0), (1, .long (((31 : Int64) * x1) + ((fi x3.toNatClampNeg).toInt64))), (3, .int (x3 + (1 : Int32)))]) rfl ?_
      exact ih (((31 : Int64) * x1) + ((fi x3.toNatClampNeg).toInt64)) (x3 + (1 : Int32)) kb kn kf rK rf rg rpd rpn sK sf sg spd spn mc mm nc nm pd pn vo vd vs tl tb eo et ed em ef ez ek es en fi res h hex
set_option maxHeartbeats 4000000 in
set_option maxRecDepth 100000 in
theorem g_X6_digest_L102 {k : KX} {cy : Nat → ClassId} (C : OK k cX6_digest 6 4 cy 5 116) : ∀ (fu : Nat) (x1 : Int64) (x3 : Int32) (kb : Int32) (kn : Int32) (kf : Int32) (rK : Int32) (rf : Nat → Int32) (rg : Nat → Int64) (rpd : Int32) (rpn : Nat → Int64) (sK : Int32) (sf : Nat → Int32) (sg : Nat → Int64) (spd : Int32) (spn : Nat → Int64) (mc : Int32) (mm : Nat → Int64) (nc : Int32) (nm : Nat → Int64) (pd : Int32) (pn : Nat → Int64) (vo : Int32) (vd : Int32) (vs : Nat → Int32) (tl : Int32) (tb : Nat → Int32) (eo : Int32) (et : Int32) (ed : Int32) (em : Bool) (ef : Int32) (ez : Int32) (ek : Nat → Int32) (es : Nat → Int32) (en : Nat → Int32) (fi : Nat → Int32) (res : Int64), (f_X6_digest_L102 fu x1 x3 rK mm = some res) → G k 4 140 [(0, .ref 0), (1, .long res)] [] (wSR cy kb kn kf rK rf rg rpd rpn sK sf sg spd spn mc mm nc nm pd pn vo vd vs tl tb eo et ed em ef ez ek es en fi) → G k 4 102 [(0, .ref 0), (1, .long x1), (3, .int x3)] [] (wSR cy kb kn kf rK rf rg rpd rpn sK sf sg spd spn mc mm nc nm pd pn vo vd vs tl tb eo et ed em ef ez ek es en fi) := by
  intro fu
  induction fu with
  | zero =>
    intro x1 x3 kb kn kf rK rf rg rpd rpn sK sf sg spd spn mc mm nc nm pd pn vo vd vs tl tb eo et ed em ef ez ek es en fi res h hex
    rw [f_X6_digest_L102] at h
    cases h
  | succ fu ih =>
    intro x1 x3 kb kn kf rK rf rg rpd rpn sK sf sg spd spn mc mm nc nm pd pn vo vd vs tl tb eo et ed em ef ez ek es en fi res h hex
    rw [f_X6_digest_L102] at h
    refine G_r C [(.iload_n 3, 1, 0, 0, .null), (.iconst 4, 1, 0, 0, .int (4 : Int32))] 104 [(0, .ref 0), (1, .long x1), (3, .int x3)] [.int (4 : Int32), .int x3] (wSR cy kb kn kf rK rf rg rpd rpn sK sf sg spd spn mc mm nc nm pd pn vo vd vs tl tb eo et ed em ef ez ek es en fi) (by decide +kernel) rfl rfl ?_
    refine G_icmp_gt C (off := 36) (tgt := 140) (by decide +kernel) rfl (fun c => ?_) (fun c => ?_)
    · rw [if_pos c] at h
      have h := Option.some.inj h
      subst h
      refine G_lv [0, 1] (lv' := [(0, .ref 0), (1, .long x1)]) rfl ?_
      exact hex
    · rw [if_neg c] at h
      refine G_r C [(.aload_n 0, 1, 0, 0, .null), (.getfield 12, 3, 6, 0, .null), (.iconst 0, 1, 0, 0, .int (0 : Int32)), (.iload_n 3, 1, 0, 0, .null)] 113 [(0, .ref 0), (1, .long x1), (3, .int x3)] [.int x3, .int (0 : Int32), .ref 1] (wSR cy kb kn kf rK rf rg rpd rpn sK sf sg spd spn mc mm nc nm pd pn vo vd vs tl tb eo et ed em ef ez ek es en fi) (by decide +kernel) rfl rfl ?_
      obtain ⟨q8, hq8, h⟩ := obd h
      refine G_cV C lk_6_106 ⟨Nat.le_of_ble_eq_true rfl, Nat.le_of_ble_eq_true rfl⟩ (by decide +kernel) [1, 2, 3, 4, 5] [.int (bI q8)] (wSR cy kb kn kf rK rf rg rpd rpn sK sf sg spd spn mc mm nc nm pd pn vo vd vs tl tb eo et ed em ef ez ek es en fi) (c_X3_hasTable cy rK rf rg rpd rpn (0 : Int32) x3 q8 hq8) rfl rfl (Nat.le_of_ble_eq_true rfl) rfl rfl ⟨rfl, rfl⟩ rfl rfl rfl ?_
      refine G_if_eq C (off := 18) (tgt := 134) (by decide +kernel) rfl (fun c => ?_) (fun c => ?_)
      · rw [if_pos c] at h
        refine G_r C [(.iinc 3 1, 3, 0, 0, .int (1 : Int32))] 137 [(3, .int (x3 + (1 : Int32))), (0, .ref 0), (1, .long x1)] [] (wSR cy kb kn kf rK rf rg rpd rpn sK sf sg spd spn mc mm nc nm pd pn vo vd vs tl tb eo et ed em ef ez ek es en fi) (by decide +kernel) rfl rfl ?_
        refine G_goto C (off := -35) (tgt := 102) (by decide +kernel) rfl ?_
        refine G_lv [1, 2, 0] (lv' := [(0, .ref 0), (1, .long x1), (3, .int (x3 + (1 : Int32)))]) rfl ?_
        exact ih x1 (x3 + (1 : Int32)) kb kn kf rK rf rg rpd rpn sK sf sg spd spn mc mm nc nm pd pn vo vd vs tl tb eo et ed em ef ez ek es en fi res h hex
      · rw [if_neg c] at h
        refine G_ldc2 C co_6_214 (by decide +kernel) ?_
        refine G_r C [(.lload_n 1, 1, 0, 0, .null), (.lmul, 1, 0, 0, .null), (.aload_n 0, 1, 0, 0, .null), (.getfield 22, 3, 6, 2, .null), (.iload_n 3, 1, 0, 0, .null)] 129 [(0, .ref 0), (1, .long x1), (3, .int x3)] [.int x3, .ref 11, .long ((31 : Int64) * x1)] (wSR cy kb kn kf rK rf rg rpd rpn sK sf sg spd spn mc mm nc nm pd pn vo vd vs tl tb eo et ed em ef ez ek es en fi) (by decide +kernel) rfl rfl ?_
        obtain ⟨q9, hq9, h⟩ := obd h
        refine G_cV C lk_6_115 ⟨Nat.le_of_ble_eq_true rfl, Nat.le_of_ble_eq_true rfl⟩ (by decide +kernel) [11, 12] [.long q9, .long ((31 : Int64) * x1)] (wSR cy kb kn kf rK rf rg rpd rpn sK sf sg spd spn mc mm nc nm pd pn vo vd vs tl tb eo et ed em ef ez ek es en fi) (c_X0_det cy mc mm x3 q9 hq9) rfl rfl (Nat.le_of_ble_eq_true rfl) rfl rfl ⟨rfl, rfl⟩ rfl rfl rfl ?_
        refine G_r C [(.ladd, 1, 0, 0, .null), (.lstore_n 1, 1, 0, 0, .null), (.iinc 3 1, 3, 0, 0, .int (1 : Int32))] 137 [(3, .int (x3 + (1 : Int32))), (1, .long (((31 : Int64) * x1) + q9)), (0, .ref 0)] [] (wSR cy kb kn kf rK rf rg rpd rpn sK sf sg spd spn mc mm nc nm pd pn vo vd vs tl tb eo et ed em ef ez ek es en fi) (by decide +kernel) rfl rfl ?_
        refine G_goto C (off := -35) (tgt := 102) (by decide +kernel) rfl ?_
        refine G_lv [2, 1, 0] (lv' := [(0, .ref 0), (1, .long (((31 : Int64) * x1) + q9)), (3, .int (x3 + (1 : Int32)))]) rfl ?_
        exact ih (((31 : Int64) * x1) + q9) (x3 + (1 : Int32)) kb kn kf rK rf rg rpd rpn sK sf sg spd spn mc mm nc nm pd pn vo vd vs tl tb eo et ed em ef ez ek es en fi res h hex
set_option maxHeartbeats 4000000 in
set_option maxRecDepth 100000 in
theorem g_X6_digest_L142 {k : KX} {cy : Nat → ClassId} (C : OK k cX6_digest 6 4 cy 5 116) : ∀ (fu : Nat) (x1 : Int64) (x3 : Int32) (kb : Int32) (kn : Int32) (kf : Int32) (rK : Int32) (rf : Nat → Int32) (rg : Nat → Int64) (rpd : Int32) (rpn : Nat → Int64) (sK : Int32) (sf : Nat → Int32) (sg : Nat → Int64) (spd : Int32) (spn : Nat → Int64) (mc : Int32) (mm : Nat → Int64) (nc : Int32) (nm : Nat → Int64) (pd : Int32) (pn : Nat → Int64) (vo : Int32) (vd : Int32) (vs : Nat → Int32) (tl : Int32) (tb : Nat → Int32) (eo : Int32) (et : Int32) (ed : Int32) (em : Bool) (ef : Int32) (ez : Int32) (ek : Nat → Int32) (es : Nat → Int32) (en : Nat → Int32) (fi : Nat → Int32) (res : Int64), (f_X6_digest_L142 fu x1 x3 mc mm = some res) → G k 4 171 [(1, .long res)] [] (wSR cy kb kn kf rK rf rg rpd rpn sK sf sg spd spn mc mm nc nm pd pn vo vd vs tl tb eo et ed em ef ez ek es en fi) → G k 4 142 [(0, .ref 0), (1, .long x1), (3, .int x3)] [] (wSR cy kb kn kf rK rf rg rpd rpn sK sf sg spd spn mc mm nc nm pd pn vo vd vs tl tb eo et ed em ef ez ek es en fi) := by
  intro fu
  induction fu with
  | zero =>
    intro x1 x3 kb kn kf rK rf rg rpd rpn sK sf sg spd spn mc mm nc nm pd pn vo vd vs tl tb eo et ed em ef ez ek es en fi res h hex
    rw [f_X6_digest_L142] at h
    cases h
  | succ fu ih =>
    intro x1 x3 kb kn kf rK rf rg rpd rpn sK sf sg spd spn mc mm nc nm pd pn vo vd vs tl tb eo et ed em ef ez ek es en fi res h hex
    rw [f_X6_digest_L142] at h
    refine G_r C [(.iload_n 3, 1, 0, 0, .null), (.iconst 3, 1, 0, 0, .int (3 : Int32))] 144 [(0, .ref 0), (1, .long x1), (3, .int x3)] [.int (3 : Int32), .int x3] (wSR cy kb kn kf rK rf rg rpd rpn sK sf sg spd spn mc mm nc nm pd pn vo vd vs tl tb eo et ed em ef ez ek es en fi) (by decide +kernel) rfl rfl ?_
    refine G_icmp_gt C (off := 27) (tgt := 171) (by decide +kernel) rfl (fun c => ?_) (fun c => ?_)
    · rw [if_pos c] at h
      have h := Option.some.inj h
      subst h
      refine G_lv [1] (lv' := [(1, .long x1)]) rfl ?_
      exact hex
    · rw [if_neg c] at h
      refine G_r C [(.aload_n 0, 1, 0, 0, .null), (.getfield 22, 3, 6, 2, .null), (.iload_n 3, 1, 0, 0, .null)] 152 [(0, .ref 0), (1, .long x1), (3, .int x3)] [.int x3, .ref 11] (wSR cy kb kn kf rK rf rg rpd rpn sK sf sg spd spn mc mm nc nm pd pn vo vd vs tl tb eo et ed em ef ez ek es en fi) (by decide +kernel) rfl rfl ?_
      obtain ⟨q11, hq11, h⟩ := obd h
      refine G_cV C lk_6_216 ⟨Nat.le_of_ble_eq_true rfl, Nat.le_of_ble_eq_true rfl⟩ (by decide +kernel) [11, 12] [.int (bI q11)] (wSR cy kb kn kf rK rf rg rpd rpn sK sf sg spd spn mc mm nc nm pd pn vo vd vs tl tb eo et ed em ef ez ek es en fi) (c_X0_hasPolynomial cy mc mm x3 q11 hq11) rfl rfl (Nat.le_of_ble_eq_true rfl) rfl rfl ⟨rfl, rfl⟩ rfl rfl rfl ?_
      refine G_if_eq C (off := 10) (tgt := 165) (by decide +kernel) rfl (fun c => ?_) (fun c => ?_)
      · rw [if_pos c] at h
        refine G_r C [(.iinc 3 1, 3, 0, 0, .int (1 : Int32))] 168 [(3, .int (x3 + (1 : Int32))), (0, .ref 0), (1, .long x1)] [] (wSR cy kb kn kf rK rf rg rpd rpn sK sf sg spd spn mc mm nc nm pd pn vo vd vs tl tb eo et ed em ef ez ek es en fi) (by decide +kernel) rfl rfl ?_
        refine G_goto C (off := -26) (tgt := 142) (by decide +kernel) rfl ?_
        refine G_lv [1, 2, 0] (lv' := [(0, .ref 0), (1, .long x1), (3, .int (x3 + (1 : Int32)))]) rfl ?_
        exact ih x1 (x3 + (1 : Int32)) kb kn kf rK rf rg rpd rpn sK sf sg spd spn mc mm nc nm pd pn vo vd vs tl tb eo et ed em ef ez ek es en fi res h hex
      · rw [if_neg c] at h
        refine G_r C [(.aload_n 0, 1, 0, 0, .null), (.lload_n 1, 1, 0, 0, .null), (.iload_n 3, 1, 0, 0, .null)] 161 [(0, .ref 0), (1, .long x1), (3, .int x3)] [.int x3, .long x1, .ref 0] (wSR cy kb kn kf rK rf rg rpd rpn sK sf sg spd spn mc mm nc nm pd pn vo vd vs tl tb eo et ed em ef ez ek es en fi) (by decide +kernel) rfl rfl ?_
        obtain ⟨q12, hq12, h⟩ := obd h
        refine G_c0 C lk_6_219 ⟨Nat.le_of_ble_eq_true rfl, Nat.le_of_ble_eq_true rfl⟩ (by decide +kernel) [.long q12] (c_X6_digestPolynomial cy kb kn kf rK rf rg rpd rpn sK sf sg spd spn mc mm nc nm pd pn vo vd vs tl tb eo et ed em ef ez ek es en fi x1 x3 q12 hq12) rfl rfl (Nat.le_of_ble_eq_true rfl) ⟨rfl, rfl⟩ rfl ?_
        refine G_r C [(.lstore_n 1, 1, 0, 0, .null), (.iinc 3 1, 3, 0, 0, .int (1 : Int32))] 168 [(3, .int (x3 + (1 : Int32))), (1, .long q12), (0, .ref 0)] [] (wSR cy kb kn kf rK rf rg rpd rpn sK sf sg spd spn mc mm nc nm pd pn vo vd vs tl tb eo et ed em ef ez ek es en fi) (by decide +kernel) rfl rfl ?_
        refine G_goto C (off := -26) (tgt := 142) (by decide +kernel) rfl ?_
        refine G_lv [2, 1, 0] (lv' := [(0, .ref 0), (1, .long q12), (3, .int (x3 + (1 : Int32)))]) rfl ?_
        exact ih q12 (x3 + (1 : Int32)) kb kn kf rK rf rg rpd rpn sK sf sg spd spn mc mm nc nm pd pn vo vd vs tl tb eo et ed em ef ez ek es en fi res h hex
set_option maxHeartbeats 4000000 in
set_option maxRecDepth 100000 in
theorem c_X6_digest (cy : Nat → ClassId) (kb : Int32) (kn : Int32) (kf : Int32) (rK : Int32) (rf : Nat → Int32) (rg : Nat → Int64) (rpd : Int32) (rpn : Nat → Int64) (sK : Int32) (sf : Nat → Int32) (sg : Nat → Int64) (spd : Int32) (spn : Nat → Int64) (mc : Int32) (mm : Nat → Int64) (nc : Int32) (nm : Nat → Int64) (pd : Int32) (pn : Nat → Int64) (vo : Int32) (vd : Int32) (vs : Nat → Int32) (tl : Int32) (tb : Nat → Int32) (eo : Int32) (et : Int32) (ed : Int32) (em : Bool) (ef : Int32) (ez : Int32) (ek : Nat → Int32) (es : Nat → Int32) (en : Nat → Int32) (fi : Nat → Int32)  (res : (Int64 × Int32 × (Nat → Int64) × (Nat → Int32))) (h : f_X6_digest kb kn kf rK rf mm vd tl fi = some res) : MG cy yX6_digest cX6_digest 4 (some .long) 5 116 [.ref 0] (wSR cy kb kn kf rK rf rg rpd rpn sK sf sg spd spn mc mm nc nm pd pn vo vd vs tl tb eo et ed em ef ez ek es en fi) (some (.long res.1)) (wSR cy kb kn kf rK rf rg rpd rpn sK sf sg spd spn res.2.1 res.2.2.1 nc nm pd pn vo vd vs tl tb eo et ed em ef ez ek es en res.2.2.2) := by
  refine MG_of (o := 6) (lv := [(0, .ref 0)]) ⟨by decide +kernel, rfl⟩ (Nat.le_of_ble_eq_true rfl) rfl (fun k C hR => ?_)
  rw [f_X6_digest] at h
  refine G_ldc2 C co_6_212 (by decide +kernel) ?_
  refine G_r C [(.lstore_n 1, 1, 0, 0, .null), (.iconst 0, 1, 0, 0, .int (0 : Int32)), (.istore_n 3, 1, 0, 0, .null)] 6 [(3, .int (0 : Int32)), (1, .long (2357 : Int64)), (0, .ref 0)] [] (wSR cy kb kn kf rK rf rg rpd rpn sK sf sg spd spn mc mm nc nm pd pn vo vd vs tl tb eo et ed em ef ez ek es en fi) (by decide +kernel) rfl rfl ?_
  obtain ⟨q2, hq2, h⟩ := obd h
  refine G_lv [2, 1, 0] (lv' := [(0, .ref 0), (1, .long (2357 : Int64)), (3, .int (0 : Int32))]) rfl ?_
  refine g_X6_digest_L6 C 200 (2357 : Int64) (0 : Int32) kb kn kf rK rf rg rpd rpn sK sf sg spd spn mc mm nc nm pd pn vo vd vs tl tb eo et ed em ef ez ek es en fi q2 hq2 ?_
  refine G_r C [(.iconst 0, 1, 0, 0, .int (0 : Int32)), (.istore_n 3, 1, 0, 0, .null)] 32 [(3, .int (0 : Int32)), (0, .ref 0), (1, .long q2)] [] (wSR cy kb kn kf rK rf rg rpd rpn sK sf sg spd spn mc mm nc nm pd pn vo vd vs tl tb eo et ed em ef ez ek es en fi) (by decide +kernel) rfl rfl ?_
  obtain ⟨q5, hq5, h⟩ := obd h
  refine G_lv [1, 2, 0] (lv' := [(0, .ref 0), (1, .long q2), (3, .int (0 : Int32))]) rfl ?_
  refine g_X6_digest_L32 C 200 q2 (0 : Int32) kb kn kf rK rf rg rpd rpn sK sf sg spd spn mc mm nc nm pd pn vo vd vs tl tb eo et ed em ef ez ek es en fi q5 hq5 ?_
  refine G_r C [(.aload_n 0, 1, 0, 0, .null)] 66 [(0, .ref 0), (1, .long q5)] [.ref 0] (wSR cy kb kn kf rK rf rg rpd rpn sK sf sg spd spn mc mm nc nm pd pn vo vd vs tl tb eo et ed em ef ez ek es en fi) (by decide +kernel) rfl rfl ?_
  obtain ⟨q6, hq6, h⟩ := obd h
  refine G_c0 C lk_6_134 ⟨Nat.le_of_ble_eq_true rfl, Nat.le_of_ble_eq_true rfl⟩ (by decide +kernel) [] (c_X6_judge cy kb kn kf rK rf rg rpd rpn sK sf sg spd spn mc mm nc nm pd pn vo vd vs tl tb eo et ed em ef ez ek es en fi q6 hq6) rfl rfl (Nat.le_of_ble_eq_true rfl) ⟨rfl, rfl⟩ rfl ?_
  refine G_r C [(.iconst 0, 1, 0, 0, .int (0 : Int32)), (.istore_n 3, 1, 0, 0, .null)] 71 [(3, .int (0 : Int32)), (0, .ref 0), (1, .long q5)] [] (wSR cy kb kn kf rK rf rg rpd rpn sK sf sg spd spn q6.1 q6.2.1 nc nm pd pn vo vd vs tl tb eo et ed em ef ez ek es en q6.2.2) (by decide +kernel) rfl rfl ?_
  obtain ⟨q7, hq7, h⟩ := obd h
  refine G_lv [1, 2, 0] (lv' := [(0, .ref 0), (1, .long q5), (3, .int (0 : Int32))]) rfl ?_
  refine g_X6_digest_L71 C 200 q5 (0 : Int32) kb kn kf rK rf rg rpd rpn sK sf sg spd spn q6.1 q6.2.1 nc nm pd pn vo vd vs tl tb eo et ed em ef ez ek es en q6.2.2 q7 hq7 ?_
  refine G_r C [(.iconst 0, 1, 0, 0, .int (0 : Int32)), (.istore_n 3, 1, 0, 0, .null)] 102 [(3, .int (0 : Int32)), (0, .ref 0), (1, .long q7)] [] (wSR cy kb kn kf rK rf rg rpd rpn sK sf sg spd spn q6.1 q6.2.1 nc nm pd pn vo vd vs tl tb eo et ed em ef ez ek es en q6.2.2) (by decide +kernel) rfl rfl ?_
  obtain ⟨q10, hq10, h⟩ := obd h
  refine G_lv [1, 2, 0] (lv' := [(0, .ref 0), (1, .long q7), (3, .int (0 : Int32))]) rfl ?_
  refine g_X6_digest_L102 C 200 q7 (0 : Int32) kb kn kf rK rf rg rpd rpn sK sf sg spd spn q6.1 q6.2.1 nc nm pd pn vo vd vs tl tb eo et ed em ef ez ek es en q6.2.2 q10 hq10 ?_
  refine G_r C [(.iconst 1, 1, 0, 0, .int (1 : Int32)), (.istore_n 3, 1, 0, 0, .null)] 142 [(3, .int (1 : Int32)), (0, .ref 0), (1, .long q10)] [] (wSR cy kb kn kf rK rf rg rpd rpn sK sf sg spd spn q6.1 q6.2.1 nc nm pd pn vo vd vs tl tb eo et ed em ef ez ek es en q6.2.2) (by decide +kernel) rfl rfl ?_
  obtain ⟨q13, hq13, h⟩ := obd h
  refine G_lv [1, 2, 0] (lv' := [(0, .ref 0), (1, .long q10), (3, .int (1 : Int32))]) rfl ?_
  refine g_X6_digest_L142 C 200 q10 (1 : Int32) kb kn kf rK rf rg rpd rpn sK sf sg spd spn q6.1 q6.2.1 nc nm pd pn vo vd vs tl tb eo et ed em ef ez ek es en q6.2.2 q13 hq13 ?_
  refine G_r C [(.lload_n 1, 1, 0, 0, .null)] 172 [(1, .long q13)] [.long q13] (wSR cy kb kn kf rK rf rg rpd rpn sK sf sg spd spn q6.1 q6.2.1 nc nm pd pn vo vd vs tl tb eo et ed em ef ez ek es en q6.2.2) (by decide +kernel) rfl rfl ?_
  have h := Option.some.inj h
  subst h
  exact G_lret C hR (by decide +kernel)
def f_X7_in (x0 : Int64) (x2 : Int64) (x4 : Int64) : Option Bool := if x0 < x2 then (some false) else (if x4 < x0 then (some false) else (some true))
set_option maxHeartbeats 4000000 in
set_option maxRecDepth 100000 in
theorem c_X7_in (cy : Nat → ClassId)  (x0 : Int64) (x2 : Int64) (x4 : Int64) (res : Bool) (h : f_X7_in x0 x2 x4 = some res) : MG cy yX7_in cX7_in 6 (some .boolean) 0 0 [.long x0, .long x2, .long x4] [] (some (.int (bI res))) [] := by
  refine MG_of (o := 7) (lv := [(0, .long x0), (2, .long x2), (4, .long x4)]) ⟨by decide +kernel, rfl⟩ (Nat.le_of_ble_eq_true rfl) rfl (fun k C hR => ?_)
  rw [f_X7_in] at h
  refine G_r C [(.lload_n 0, 1, 0, 0, .null), (.lload_n 2, 1, 0, 0, .null)] 2 [(0, .long x0), (2, .long x2), (4, .long x4)] [.long x2, .long x0] [] (by decide +kernel) rfl rfl ?_
  refine G_lcmp_lt C (off := 14) (tgt := 17) (by decide +kernel) (by decide +kernel) rfl (fun c => ?_) (fun c => ?_)
  · rw [if_pos c] at h
    refine G_r C [(.iconst 0, 1, 0, 0, .int (0 : Int32))] 18 [(0, .long x0), (2, .long x2), (4, .long x4)] [.int (0 : Int32)] [] (by decide +kernel) rfl rfl ?_
    have h := Option.some.inj h
    subst h
    exact G_zret C (v := false) hR (by decide +kernel)
  · rw [if_neg c] at h
    refine G_r C [(.lload_n 0, 1, 0, 0, .null), (.lload 4, 2, 0, 0, .null)] 9 [(0, .long x0), (2, .long x2), (4, .long x4)] [.long x4, .long x0] [] (by decide +kernel) rfl rfl ?_
    refine G_lcmp_gt C (off := 7) (tgt := 17) (by decide +kernel) (by decide +kernel) rfl (fun c => ?_) (fun c => ?_)
    · rw [if_pos c] at h
      refine G_r C [(.iconst 0, 1, 0, 0, .int (0 : Int32))] 18 [(0, .long x0), (2, .long x2), (4, .long x4)] [.int (0 : Int32)] [] (by decide +kernel) rfl rfl ?_
      have h := Option.some.inj h
      subst h
      exact G_zret C (v := false) hR (by decide +kernel)
    · rw [if_neg c] at h
      refine G_r C [(.iconst 1, 1, 0, 0, .int (1 : Int32))] 14 [(0, .long x0), (2, .long x2), (4, .long x4)] [.int (1 : Int32)] [] (by decide +kernel) rfl rfl ?_
      refine G_goto C (off := 4) (tgt := 18) (by decide +kernel) rfl ?_
      have h := Option.some.inj h
      subst h
      exact G_zret C (v := true) hR (by decide +kernel)
def f_X7_bad (Mf : Nat → Int32) : Option (Int32 × (Nat → Int32)) := if (0 : Int32) < 0 ∨ 3 ≤ (0 : Int32).toNatClampNeg then none else if (0 : Int32) < 0 ∨ 3 ≤ (0 : Int32).toNatClampNeg then none else some ((-1000001 : Int32), (upd Mf (0 : Int32).toNatClampNeg ((Mf (0 : Int32).toNatClampNeg) + (1 : Int32))))
set_option maxHeartbeats 4000000 in
set_option maxRecDepth 100000 in
theorem c_X7_bad (cy : Nat → ClassId) (Ms : Int32) (Mb : Int32) (Mq : Int32) (MB : Int64) (My : Int32) (ML : Int32) (Mg : Int32) (MF : Int32) (MW : Bool) (MI : Bool) (MA : Int32) (Mr : Nat → Int32) (Ma : Nat → Int32) (Mp : Nat → Int32) (Mf : Nat → Int32) (Mt : Nat → Int32) (Ml : Nat → Int32) (Mo : Nat → Int32) (Mn : Nat → Int32) (Mm : Nat → Int64) (MT : Nat → Int64) (MP : Nat → Int64) (Mv : Nat → Int32) (Mx : Nat → Int64) (Mz : Nat → Int64)  (res : (Int32 × (Nat → Int32))) (h : f_X7_bad Mf = some res) : MG cy yX7_bad cX7_bad 1 (some .int) 0 0 [.ref 0] (wMo cy Ms Mb Mq MB My ML Mg MF MW MI MA Mr Ma Mp Mf Mt Ml Mo Mn Mm MT MP Mv Mx Mz) (some (.int res.1)) (wMo cy Ms Mb Mq MB My ML Mg MF MW MI MA Mr Ma Mp res.2 Mt Ml Mo Mn Mm MT MP Mv Mx Mz) := by
  refine MG_of (o := 7) (lv := [(0, .ref 0)]) ⟨by decide +kernel, rfl⟩ (Nat.le_of_ble_eq_true rfl) rfl (fun k C hR => ?_)
  rw [f_X7_bad] at h
  refine G_r C [(.aload_n 0, 1, 0, 0, .null), (.getfield 19, 3, 7, 4, .null), (.iconst 0, 1, 0, 0, .int (0 : Int32)), (.dup2, 1, 0, 0, .null)] 6 [(0, .ref 0)] [.int (0 : Int32), .ref 4, .int (0 : Int32), .ref 4] (wMo cy Ms Mb Mq MB My ML Mg MF MW MI MA Mr Ma Mp Mf Mt Ml Mo Mn Mm MT MP Mv Mx Mz) (by decide +kernel) rfl rfl ?_
  obtain ⟨cg, h⟩ := oob h
  refine G_iald C (a := 4) rfl cg (by decide +kernel) ?_
  refine G_r C [(.iconst 1, 1, 0, 0, .int (1 : Int32)), (.iadd, 1, 0, 0, .null)] 9 [(0, .ref 0)] [.int ((Mf (0 : Int32).toNatClampNeg) + (1 : Int32)), .int (0 : Int32), .ref 4] (wMo cy Ms Mb Mq MB My ML Mg MF MW MI MA Mr Ma Mp Mf Mt Ml Mo Mn Mm MT MP Mv Mx Mz) (by decide +kernel) rfl rfl ?_
  obtain ⟨cg, h⟩ := oob h
  refine G_iast C (a := 4) (w' := (wMo cy Ms Mb Mq MB My ML Mg MF MW MI MA Mr Ma Mp (upd Mf (0 : Int32).toNatClampNeg ((Mf (0 : Int32).toNatClampNeg) + (1 : Int32))) Mt Ml Mo Mn Mm MT MP Mv Mx Mz)) rfl cg (by decide +kernel) rfl ?_
  refine G_ldc C co_7_53 (by decide +kernel) ?_
  have h := Option.some.inj h
  subst h
  exact G_iret C hR (by decide +kernel)
def f_X7_bring_L3 : Nat → Int32 → Int32 → Int32 → (Nat → Int32) → (Nat → Int32) → Option (Nat → Int32)
  | 0, _, _, _, _, _ => none
  | fu + 1, x2, x4, x5, Mr, Mp => if (8 : Int32) ≤ x5 then (some Mp) else (if (x2 + x5) < 0 ∨ 8 ≤ (x2 + x5).toNatClampNeg then none else if (x4 + x5) < 0 ∨ 48 ≤ (x4 + x5).toNatClampNeg then none else f_X7_bring_L3 fu x2 x4 (x5 + (1 : Int32)) Mr (upd Mp (x4 + x5).toNatClampNeg (Mr (x2 + x5).toNatClampNeg)))
def f_X7_bring (x2 : Int32) (x4 : Int32) (Mr : Nat → Int32) (Mp : Nat → Int32) : Option (Nat → Int32) := (f_X7_bring_L3 200 x2 x4 (0 : Int32) Mr Mp).bind fun q1 => some q1
set_option maxHeartbeats 4000000 in
set_option maxRecDepth 100000 in
theorem g_X7_bring_L3 {k : KX} {cy : Nat → ClassId} (C : OK k cX7_bring 7 6 cy 0 0) : ∀ (fu : Nat) (x2 : Int32) (x4 : Int32) (x5 : Int32) (Ms : Int32) (Mb : Int32) (Mq : Int32) (MB : Int64) (My : Int32) (ML : Int32) (Mg : Int32) (MF : Int32) (MW : Bool) (MI : Bool) (MA : Int32) (Mr : Nat → Int32) (Ma : Nat → Int32) (Mp : Nat → Int32) (Mf : Nat → Int32) (Mt : Nat → Int32) (Ml : Nat → Int32) (Mo : Nat → Int32) (Mn : Nat → Int32) (Mm : Nat → Int64) (MT : Nat → Int64) (MP : Nat → Int64) (Mv : Nat → Int32) (Mx : Nat → Int64) (Mz : Nat → Int64) (res : (Nat → Int32)), (f_X7_bring_L3 fu x2 x4 x5 Mr Mp = some res) → G k 6 29 [] [] (wMo cy Ms Mb Mq MB My ML Mg MF MW MI MA Mr Ma res Mf Mt Ml Mo Mn Mm MT MP Mv Mx Mz) → G k 6 3 [(1, .ref 1), (2, .int x2), (3, .ref 3), (4, .int x4), (5, .int x5)] [] (wMo cy Ms Mb Mq MB My ML Mg MF MW MI MA Mr Ma Mp Mf Mt Ml Mo Mn Mm MT MP Mv Mx Mz) := by
  intro fu
  induction fu with
  | zero =>
    intro x2 x4 x5 Ms Mb Mq MB My ML Mg MF MW MI MA Mr Ma Mp Mf Mt Ml Mo Mn Mm MT MP Mv Mx Mz res h hex
    rw [f_X7_bring_L3] at h
    cases h
  | succ fu ih =>
    intro x2 x4 x5 Ms Mb Mq MB My ML Mg MF MW MI MA Mr Ma Mp Mf Mt Ml Mo Mn Mm MT MP Mv Mx Mz res h hex
    rw [f_X7_bring_L3] at h
    refine G_r C [(.iload 5, 2, 0, 0, .null), (.bipush 8, 2, 0, 0, .int (8 : Int32))] 7 [(1, .ref 1), (2, .int x2), (3, .ref 3), (4, .int x4), (5, .int x5)] [.int (8 : Int32), .int x5] (wMo cy Ms Mb Mq MB My ML Mg MF MW MI MA Mr Ma Mp Mf Mt Ml Mo Mn Mm MT MP Mv Mx Mz) (by decide +kernel) rfl rfl ?_
    refine G_icmp_ge C (off := 22) (tgt := 29) (by decide +kernel) rfl (fun c => ?_) (fun c => ?_)
    · rw [if_pos c] at h
      have h := Option.some.inj h
      subst h
      refine G_lv [] (lv' := []) rfl ?_
      exact hex
    · rw [if_neg c] at h
      refine G_r C [(.aload_n 3, 1, 0, 0, .null), (.iload 4, 2, 0, 0, .null), (.iload 5, 2, 0, 0, .null), (.iadd, 1, 0, 0, .null), (.aload_n 1, 1, 0, 0, .null), (.iload_n 2, 1, 0, 0, .null), (.iload 5, 2, 0, 0, .null), (.iadd, 1, 0, 0, .null)] 21 [(1, .ref 1), (2, .int x2), (3, .ref 3), (4, .int x4), (5, .int x5)] [.int (x2 + x5), .ref 1, .int (x4 + x5), .ref 3] (wMo cy Ms Mb Mq MB My ML Mg MF MW MI MA Mr Ma Mp Mf Mt Ml Mo Mn Mm MT MP Mv Mx Mz) (by decide +kernel) rfl rfl ?_
      obtain ⟨cg, h⟩ := oob h
      refine G_iald C (a := 1) rfl cg (by decide +kernel) ?_
      obtain ⟨cg, h⟩ := oob h
      refine G_iast C (a := 3) (w' := (wMo cy Ms Mb Mq MB My ML Mg MF MW MI MA Mr Ma (upd Mp (x4 + x5).toNatClampNeg (Mr (x2 + x5).toNatClampNeg)) Mf Mt Ml Mo Mn Mm MT MP Mv Mx Mz)) rfl cg (by decide +kernel) rfl ?_
      refine G_r C [(.iinc 5 1, 3, 0, 0, .int (1 : Int32))] 26 [(5, .int (x5 + (1 : Int32))), (1, .ref 1), (2, .int x2), (3, .ref 3), (4, .int x4)] [] (wMo cy Ms Mb Mq MB My ML Mg MF MW MI MA Mr Ma (upd Mp (x4 + x5).toNatClampNeg (Mr (x2 + x5).toNatClampNeg)) Mf Mt Ml Mo Mn Mm MT MP Mv Mx Mz) (by decide +kernel) rfl rfl ?_
      refine G_goto C (off := -23) (tgt := 3) (by decide +kernel) rfl ?_
      refine G_lv [1, 2, 3, 4, 0] (lv' := [(1, .ref 1), (2, .int x2), (3, .ref 3), (4, .int x4), (5, .int (x5 + (1 : Int32)))]) rfl ?_
      exact ih x2 x4 (x5 + (1 : Int32)) Ms Mb Mq MB My ML Mg MF MW MI MA Mr Ma (upd Mp (x4 + x5).toNatClampNeg (Mr (x2 + x5).toNatClampNeg)) Mf Mt Ml Mo Mn Mm MT MP Mv Mx Mz res h hex
set_option maxHeartbeats 4000000 in
set_option maxRecDepth 100000 in
theorem c_X7_bring (cy : Nat → ClassId) (Ms : Int32) (Mb : Int32) (Mq : Int32) (MB : Int64) (My : Int32) (ML : Int32) (Mg : Int32) (MF : Int32) (MW : Bool) (MI : Bool) (MA : Int32) (Mr : Nat → Int32) (Ma : Nat → Int32) (Mp : Nat → Int32) (Mf : Nat → Int32) (Mt : Nat → Int32) (Ml : Nat → Int32) (Mo : Nat → Int32) (Mn : Nat → Int32) (Mm : Nat → Int64) (MT : Nat → Int64) (MP : Nat → Int64) (Mv : Nat → Int32) (Mx : Nat → Int64) (Mz : Nat → Int64) (x2 : Int32) (x4 : Int32) (res : (Nat → Int32)) (h : f_X7_bring x2 x4 Mr Mp = some res) : MG cy yX7_bring cX7_bring 6 none 0 0 [.ref 0, .ref 1, .int x2, .ref 3, .int x4] (wMo cy Ms Mb Mq MB My ML Mg MF MW MI MA Mr Ma Mp Mf Mt Ml Mo Mn Mm MT MP Mv Mx Mz) none (wMo cy Ms Mb Mq MB My ML Mg MF MW MI MA Mr Ma res Mf Mt Ml Mo Mn Mm MT MP Mv Mx Mz) := by
  refine MG_of (o := 7) (lv := [(0, .ref 0), (1, .ref 1), (2, .int x2), (3, .ref 3), (4, .int x4)]) ⟨by decide +kernel, rfl⟩ (Nat.le_of_ble_eq_true rfl) rfl (fun k C hR => ?_)
  rw [f_X7_bring] at h
  refine G_r C [(.iconst 0, 1, 0, 0, .int (0 : Int32)), (.istore 5, 2, 0, 0, .null)] 3 [(5, .int (0 : Int32)), (0, .ref 0), (1, .ref 1), (2, .int x2), (3, .ref 3), (4, .int x4)] [] (wMo cy Ms Mb Mq MB My ML Mg MF MW MI MA Mr Ma Mp Mf Mt Ml Mo Mn Mm MT MP Mv Mx Mz) (by decide +kernel) rfl rfl ?_
  obtain ⟨q1, hq1, h⟩ := obd h
  refine G_lv [2, 3, 4, 5, 0] (lv' := [(1, .ref 1), (2, .int x2), (3, .ref 3), (4, .int x4), (5, .int (0 : Int32))]) rfl ?_
  refine g_X7_bring_L3 C 200 x2 x4 (0 : Int32) Ms Mb Mq MB My ML Mg MF MW MI MA Mr Ma Mp Mf Mt Ml Mo Mn Mm MT MP Mv Mx Mz q1 hq1 ?_
  have h := Option.some.inj h
  subst h
  exact G_vret C hR (by decide +kernel)
def f_X7_note_L11 : Nat → Int32 → (Nat → Int32) → Option (Nat → Int32)
  | 0, _, _ => none
  | fu + 1, x2, Mp => if (40 : Int32) ≤ x2 then (some Mp) else (if (x2 + (8 : Int32)) < 0 ∨ 48 ≤ (x2 + (8 : Int32)).toNatClampNeg then none else if x2 < 0 ∨ 48 ≤ x2.toNatClampNeg then none else f_X7_note_L11 fu (x2 + (1 : Int32)) (upd Mp x2.toNatClampNeg (Mp (x2 + (8 : Int32)).toNatClampNeg)))
def f_X7_note (Ms : Int32) (Mr : Nat → Int32) (Mp : Nat → Int32) : Option (Int32 × (Nat → Int32)) := if Ms = (6 : Int32) then ((f_X7_note_L11 200 (0 : Int32) Mp).bind fun q2 => (f_X7_bring (0 : Int32) ((8 : Int32) * (Ms - (1 : Int32))) Mr q2).bind fun q3 => some (((Ms - (1 : Int32)) + (1 : Int32)), q3)) else ((f_X7_bring (0 : Int32) ((8 : Int32) * Ms) Mr Mp).bind fun q1 => some ((Ms + (1 : Int32)), q1))
set_option maxHeartbeats 4000000 in
set_option maxRecDepth 100000 in
theorem g_X7_note_L11 {k : KX} {cy : Nat → ClassId} (C : OK k cX7_note 7 3 cy 1 25) : ∀ (fu : Nat) (x2 : Int32) (Ms : Int32) (Mb : Int32) (Mq : Int32) (MB : Int64) (My : Int32) (ML : Int32) (Mg : Int32) (MF : Int32) (MW : Bool) (MI : Bool) (MA : Int32) (Mr : Nat → Int32) (Ma : Nat → Int32) (Mp : Nat → Int32) (Mf : Nat → Int32) (Mt : Nat → Int32) (Ml : Nat → Int32) (Mo : Nat → Int32) (Mn : Nat → Int32) (Mm : Nat → Int64) (MT : Nat → Int64) (MP : Nat → Int64) (Mv : Nat → Int32) (Mx : Nat → Int64) (Mz : Nat → Int64) (res : (Nat → Int32)), (f_X7_note_L11 fu x2 Mp = some res) → G k 3 38 [(0, .ref 0), (1, .ref 1)] [] (wMo cy Ms Mb Mq MB My ML Mg MF MW MI MA Mr Ma res Mf Mt Ml Mo Mn Mm MT MP Mv Mx Mz) → G k 3 11 [(0, .ref 0), (1, .ref 1), (2, .int x2)] [] (wMo cy Ms Mb Mq MB My ML Mg MF MW MI MA Mr Ma Mp Mf Mt Ml Mo Mn Mm MT MP Mv Mx Mz) := by
  intro fu
  induction fu with
  | zero =>
    intro x2 Ms Mb Mq MB My ML Mg MF MW MI MA Mr Ma Mp Mf Mt Ml Mo Mn Mm MT MP Mv Mx Mz res h hex
    rw [f_X7_note_L11] at h
    cases h
  | succ fu ih =>
    intro x2 Ms Mb Mq MB My ML Mg MF MW MI MA Mr Ma Mp Mf Mt Ml Mo Mn Mm MT MP Mv Mx Mz res h hex
    rw [f_X7_note_L11] at h
    refine G_r C [(.iload_n 2, 1, 0, 0, .null), (.bipush 40, 2, 0, 0, .int (40 : Int32))] 14 [(0, .ref 0), (1, .ref 1), (2, .int x2)] [.int (40 : Int32), .int x2] (wMo cy Ms Mb Mq MB My ML Mg MF MW MI MA Mr Ma Mp Mf Mt Ml Mo Mn Mm MT MP Mv Mx Mz) (by decide +kernel) rfl rfl ?_
    refine G_icmp_ge C (off := 24) (tgt := 38) (by decide +kernel) rfl (fun c => ?_) (fun c => ?_)
    · rw [if_pos c] at h
      have h := Option.some.inj h
      subst h
      refine G_lv [0, 1] (lv' := [(0, .ref 0), (1, .ref 1)]) rfl ?_
      exact hex
    · rw [if_neg c] at h
      refine G_r C [(.aload_n 0, 1, 0, 0, .null), (.getfield 16, 3, 7, 2, .null), (.iload_n 2, 1, 0, 0, .null), (.aload_n 0, 1, 0, 0, .null), (.getfield 16, 3, 7, 2, .null), (.iload_n 2, 1, 0, 0, .null), (.bipush 8, 2, 0, 0, .int (8 : Int32)), (.iadd, 1, 0, 0, .null)] 30 [(0, .ref 0), (1, .ref 1), (2, .int x2)] [.int (x2 + (8 : Int32)), .ref 3, .int x2, .ref 3] (wMo cy Ms Mb Mq MB My ML Mg MF MW MI MA Mr Ma Mp Mf Mt Ml Mo Mn Mm MT MP Mv Mx Mz) (by decide +kernel) rfl rfl ?_
      obtain ⟨cg, h⟩ := oob h
      refine G_iald C (a := 3) rfl cg (by decide +kernel) ?_
      obtain ⟨cg, h⟩ := oob h
      refine G_iast C (a := 3) (w' := (wMo cy Ms Mb Mq MB My ML Mg MF MW MI MA Mr Ma (upd Mp x2.toNatClampNeg (Mp (x2 + (8 : Int32)).toNatClampNeg)) Mf Mt Ml Mo Mn Mm MT MP Mv Mx Mz)) rfl cg (by decide +kernel) rfl ?_
      refine G_r C [(.iinc 2 1, 3, 0, 0, .int (1 : Int32))] 35 [(2, .int (x2 + (1 : Int32))), (0, .ref 0), (1, .ref 1)] [] (wMo cy Ms Mb Mq MB My ML Mg MF MW MI MA Mr Ma (upd Mp x2.toNatClampNeg (Mp (x2 + (8 : Int32)).toNatClampNeg)) Mf Mt Ml Mo Mn Mm MT MP Mv Mx Mz) (by decide +kernel) rfl rfl ?_
      refine G_goto C (off := -24) (tgt := 11) (by decide +kernel) rfl ?_
      refine G_lv [1, 2, 0] (lv' := [(0, .ref 0), (1, .ref 1), (2, .int (x2 + (1 : Int32)))]) rfl ?_
      exact ih (x2 + (1 : Int32)) Ms Mb Mq MB My ML Mg MF MW MI MA Mr Ma (upd Mp x2.toNatClampNeg (Mp (x2 + (8 : Int32)).toNatClampNeg)) Mf Mt Ml Mo Mn Mm MT MP Mv Mx Mz res h hex
set_option maxHeartbeats 4000000 in
set_option maxRecDepth 100000 in
theorem c_X7_note (cy : Nat → ClassId) (Ms : Int32) (Mb : Int32) (Mq : Int32) (MB : Int64) (My : Int32) (ML : Int32) (Mg : Int32) (MF : Int32) (MW : Bool) (MI : Bool) (MA : Int32) (Mr : Nat → Int32) (Ma : Nat → Int32) (Mp : Nat → Int32) (Mf : Nat → Int32) (Mt : Nat → Int32) (Ml : Nat → Int32) (Mo : Nat → Int32) (Mn : Nat → Int32) (Mm : Nat → Int64) (MT : Nat → Int64) (MP : Nat → Int64) (Mv : Nat → Int32) (Mx : Nat → Int64) (Mz : Nat → Int64)  (res : (Int32 × (Nat → Int32))) (h : f_X7_note Ms Mr Mp = some res) : MG cy yX7_note cX7_note 3 none 1 25 [.ref 0, .ref 1] (wMo cy Ms Mb Mq MB My ML Mg MF MW MI MA Mr Ma Mp Mf Mt Ml Mo Mn Mm MT MP Mv Mx Mz) none (wMo cy res.1 Mb Mq MB My ML Mg MF MW MI MA Mr Ma res.2 Mf Mt Ml Mo Mn Mm MT MP Mv Mx Mz) := by
  refine MG_of (o := 7) (lv := [(0, .ref 0), (1, .ref 1)]) ⟨by decide +kernel, rfl⟩ (Nat.le_of_ble_eq_true rfl) rfl (fun k C hR => ?_)
  rw [f_X7_note] at h
  refine G_r C [(.aload_n 0, 1, 0, 0, .null), (.getfield 56, 3, 7, 3, .null), (.bipush 6, 2, 0, 0, .int (6 : Int32))] 6 [(0, .ref 0), (1, .ref 1)] [.int (6 : Int32), .int Ms] (wMo cy Ms Mb Mq MB My ML Mg MF MW MI MA Mr Ma Mp Mf Mt Ml Mo Mn Mm MT MP Mv Mx Mz) (by decide +kernel) rfl rfl ?_
  refine G_icmp_ne C (off := 42) (tgt := 48) (by decide +kernel) rfl (fun c => ?_) (fun c => ?_)
  · rw [if_neg c] at h
    refine G_r C [(.aload_n 0, 1, 0, 0, .null), (.aload_n 1, 1, 0, 0, .null), (.iconst 0, 1, 0, 0, .int (0 : Int32)), (.aload_n 0, 1, 0, 0, .null), (.getfield 16, 3, 7, 2, .null), (.bipush 8, 2, 0, 0, .int (8 : Int32)), (.aload_n 0, 1, 0, 0, .null), (.getfield 56, 3, 7, 3, .null), (.imul, 1, 0, 0, .null)] 62 [(0, .ref 0), (1, .ref 1)] [.int ((8 : Int32) * Ms), .ref 3, .int (0 : Int32), .ref 1, .ref 0] (wMo cy Ms Mb Mq MB My ML Mg MF MW MI MA Mr Ma Mp Mf Mt Ml Mo Mn Mm MT MP Mv Mx Mz) (by decide +kernel) rfl rfl ?_
    obtain ⟨q1, hq1, h⟩ := obd h
    refine G_c0 C lk_7_60 ⟨Nat.le_of_ble_eq_true rfl, Nat.le_of_ble_eq_true rfl⟩ (by decide +kernel) [] (c_X7_bring cy Ms Mb Mq MB My ML Mg MF MW MI MA Mr Ma Mp Mf Mt Ml Mo Mn Mm MT MP Mv Mx Mz (0 : Int32) ((8 : Int32) * Ms) q1 hq1) rfl rfl (Nat.le_of_ble_eq_true rfl) ⟨rfl, rfl⟩ rfl ?_
    refine G_r C [(.aload_n 0, 1, 0, 0, .null), (.dup, 1, 0, 0, .null), (.getfield 56, 3, 7, 3, .null), (.iconst 1, 1, 0, 0, .int (1 : Int32)), (.iadd, 1, 0, 0, .null), (.putfield 56, 3, 7, 3, .null)] 75 [(0, .ref 0), (1, .ref 1)] [] (wMo cy (Ms + (1 : Int32)) Mb Mq MB My ML Mg MF MW MI MA Mr Ma q1 Mf Mt Ml Mo Mn Mm MT MP Mv Mx Mz) (by decide +kernel) rfl rfl ?_
    have h := Option.some.inj h
    subst h
    exact G_vret C hR (by decide +kernel)
  · rw [if_pos c] at h
    refine G_r C [(.iconst 0, 1, 0, 0, .int (0 : Int32)), (.istore_n 2, 1, 0, 0, .null)] 11 [(2, .int (0 : Int32)), (0, .ref 0), (1, .ref 1)] [] (wMo cy Ms Mb Mq MB My ML Mg MF MW MI MA Mr Ma Mp Mf Mt Ml Mo Mn Mm MT MP Mv Mx Mz) (by decide +kernel) rfl rfl ?_
    obtain ⟨q2, hq2, h⟩ := obd h
    refine G_lv [1, 2, 0] (lv' := [(0, .ref 0), (1, .ref 1), (2, .int (0 : Int32))]) rfl ?_
    refine g_X7_note_L11 C 200 (0 : Int32) Ms Mb Mq MB My ML Mg MF MW MI MA Mr Ma Mp Mf Mt Ml Mo Mn Mm MT MP Mv Mx Mz q2 hq2 ?_
    refine G_r C [(.aload_n 0, 1, 0, 0, .null), (.dup, 1, 0, 0, .null), (.getfield 56, 3, 7, 3, .null), (.iconst 1, 1, 0, 0, .int (1 : Int32)), (.isub, 1, 0, 0, .null), (.putfield 56, 3, 7, 3, .null), (.aload_n 0, 1, 0, 0, .null), (.aload_n 1, 1, 0, 0, .null), (.iconst 0, 1, 0, 0, .int (0 : Int32)), (.aload_n 0, 1, 0, 0, .null), (.getfield 16, 3, 7, 2, .null), (.bipush 8, 2, 0, 0, .int (8 : Int32)), (.aload_n 0, 1, 0, 0, .null), (.getfield 56, 3, 7, 3, .null), (.imul, 1, 0, 0, .null)] 62 [(0, .ref 0), (1, .ref 1)] [.int ((8 : Int32) * (Ms - (1 : Int32))), .ref 3, .int (0 : Int32), .ref 1, .ref 0] (wMo cy (Ms - (1 : Int32)) Mb Mq MB My ML Mg MF MW MI MA Mr Ma q2 Mf Mt Ml Mo Mn Mm MT MP Mv Mx Mz) (by decide +kernel) rfl rfl ?_
    obtain ⟨q3, hq3, h⟩ := obd h
    refine G_c0 C lk_7_60 ⟨Nat.le_of_ble_eq_true rfl, Nat.le_of_ble_eq_true rfl⟩ (by decide +kernel) [] (c_X7_bring cy (Ms - (1 : Int32)) Mb Mq MB My ML Mg MF MW MI MA Mr Ma q2 Mf Mt Ml Mo Mn Mm MT MP Mv Mx Mz (0 : Int32) ((8 : Int32) * (Ms - (1 : Int32))) q3 hq3) rfl rfl (Nat.le_of_ble_eq_true rfl) ⟨rfl, rfl⟩ rfl ?_
    refine G_r C [(.aload_n 0, 1, 0, 0, .null), (.dup, 1, 0, 0, .null), (.getfield 56, 3, 7, 3, .null), (.iconst 1, 1, 0, 0, .int (1 : Int32)), (.iadd, 1, 0, 0, .null), (.putfield 56, 3, 7, 3, .null)] 75 [(0, .ref 0), (1, .ref 1)] [] (wMo cy ((Ms - (1 : Int32)) + (1 : Int32)) Mb Mq MB My ML Mg MF MW MI MA Mr Ma q3 Mf Mt Ml Mo Mn Mm MT MP Mv Mx Mz) (by decide +kernel) rfl rfl ?_
    have h := Option.some.inj h
    subst h
    exact G_vret C hR (by decide +kernel)
def f_X7_moment (x1 : Int32) (x2 : Int32) (Ms : Int32) (Mr : Nat → Int32) (Mp : Nat → Int32) (Mf : Nat → Int32) : Option (Int32 × Int32 × (Nat → Int32) × (Nat → Int32) × (Nat → Int32)) := if (7 : Int32) < 0 ∨ 8 ≤ (7 : Int32).toNatClampNeg then none else (f_X7_in x1.toInt64 (0 : Int64) (((Mr (7 : Int32).toNatClampNeg) - (1 : Int32)).toInt64)).bind fun q1 => if (bI q1) = 0 then ((f_X7_bad Mf).bind fun q2 => some (q2.1, Ms, Mr, Mp, q2.2)) else ((f_X7_in x2.toInt64 (-500 : Int64) (500 : Int64)).bind fun q3 => if (bI q3) = 0 then ((f_X7_bad Mf).bind fun q5 => some (q5.1, Ms, Mr, Mp, q5.2)) else ((f_X7_note Ms Mr Mp).bind fun q4 => if x1 < 0 ∨ 8 ≤ x1.toNatClampNeg then none else if x1 < 0 ∨ 8 ≤ x1.toNatClampNeg then none else some ((Mr x1.toNatClampNeg), q4.1, (upd Mr x1.toNatClampNeg x2), q4.2, Mf)))
set_option maxHeartbeats 4000000 in
set_option maxRecDepth 100000 in
theorem c_X7_moment (cy : Nat → ClassId) (Ms : Int32) (Mb : Int32) (Mq : Int32) (MB : Int64) (My : Int32) (ML : Int32) (Mg : Int32) (MF : Int32) (MW : Bool) (MI : Bool) (MA : Int32) (Mr : Nat → Int32) (Ma : Nat → Int32) (Mp : Nat → Int32) (Mf : Nat → Int32) (Mt : Nat → Int32) (Ml : Nat → Int32) (Mo : Nat → Int32) (Mn : Nat → Int32) (Mm : Nat → Int64) (MT : Nat → Int64) (MP : Nat → Int64) (Mv : Nat → Int32) (Mx : Nat → Int64) (Mz : Nat → Int64) (x1 : Int32) (x2 : Int32) (res : (Int32 × Int32 × (Nat → Int32) × (Nat → Int32) × (Nat → Int32))) (h : f_X7_moment x1 x2 Ms Mr Mp Mf = some res) : MG cy yX7_moment cX7_moment 4 (some .int) 2 47 [.ref 0, .int x1, .int x2] (wMo cy Ms Mb Mq MB My ML Mg MF MW MI MA Mr Ma Mp Mf Mt Ml Mo Mn Mm MT MP Mv Mx Mz) (some (.int res.1)) (wMo cy res.2.1 Mb Mq MB My ML Mg MF MW MI MA res.2.2.1 Ma res.2.2.2.1 res.2.2.2.2 Mt Ml Mo Mn Mm MT MP Mv Mx Mz) := by
  refine MG_of (o := 7) (lv := [(0, .ref 0), (1, .int x1), (2, .int x2)]) ⟨by decide +kernel, rfl⟩ (Nat.le_of_ble_eq_true rfl) rfl (fun k C hR => ?_)
  rw [f_X7_moment] at h
  refine G_r C [(.iload_n 1, 1, 0, 0, .null), (.i2l, 1, 0, 0, .null), (.lconst 0, 1, 0, 0, .long (0 : Int64)), (.aload_n 0, 1, 0, 0, .null), (.getfield 7, 3, 7, 0, .null), (.bipush 7, 2, 0, 0, .int (7 : Int32))] 9 [(0, .ref 0), (1, .int x1), (2, .int x2)] [.int (7 : Int32), .ref 1, .long (0 : Int64), .long x1.toInt64] (wMo cy Ms Mb Mq MB My ML Mg MF MW MI MA Mr Ma Mp Mf Mt Ml Mo Mn Mm MT MP Mv Mx Mz) (by decide +kernel) rfl rfl ?_
  obtain ⟨cg, h⟩ := oob h
  refine G_iald C (a := 1) rfl cg (by decide +kernel) ?_
  refine G_r C [(.iconst 1, 1, 0, 0, .int (1 : Int32)), (.isub, 1, 0, 0, .null), (.i2l, 1, 0, 0, .null)] 13 [(0, .ref 0), (1, .int x1), (2, .int x2)] [.long (((Mr (7 : Int32).toNatClampNeg) - (1 : Int32)).toInt64), .long (0 : Int64), .long x1.toInt64] (wMo cy Ms Mb Mq MB My ML Mg MF MW MI MA Mr Ma Mp Mf Mt Ml Mo Mn Mm MT MP Mv Mx Mz) (by decide +kernel) rfl rfl ?_
  obtain ⟨q1, hq1, h⟩ := obd h
  refine G_cS C lk_7_64 ⟨Nat.le_of_ble_eq_true rfl, Nat.le_of_ble_eq_true rfl⟩ (by decide +kernel) [.int (bI q1)] (c_X7_in cy x1.toInt64 (0 : Int64) (((Mr (7 : Int32).toNatClampNeg) - (1 : Int32)).toInt64) q1 hq1) rfl rfl (Nat.le_of_ble_eq_true rfl) rfl ?_
  refine G_if_eq C (off := 17) (tgt := 33) (by decide +kernel) rfl (fun c => ?_) (fun c => ?_)
  · rw [if_pos c] at h
    refine G_r C [(.aload_n 0, 1, 0, 0, .null)] 34 [(0, .ref 0), (1, .int x1), (2, .int x2)] [.ref 0] (wMo cy Ms Mb Mq MB My ML Mg MF MW MI MA Mr Ma Mp Mf Mt Ml Mo Mn Mm MT MP Mv Mx Mz) (by decide +kernel) rfl rfl ?_
    obtain ⟨q2, hq2, h⟩ := obd h
    refine G_c0 C lk_7_72 ⟨Nat.le_of_ble_eq_true rfl, Nat.le_of_ble_eq_true rfl⟩ (by decide +kernel) [.int q2.1] (c_X7_bad cy Ms Mb Mq MB My ML Mg MF MW MI MA Mr Ma Mp Mf Mt Ml Mo Mn Mm MT MP Mv Mx Mz q2 hq2) rfl rfl (Nat.le_of_ble_eq_true rfl) ⟨rfl, rfl⟩ rfl ?_
    have h := Option.some.inj h
    subst h
    exact G_iret C hR (by decide +kernel)
  · rw [if_neg c] at h
    refine G_r C [(.iload_n 2, 1, 0, 0, .null), (.i2l, 1, 0, 0, .null)] 21 [(0, .ref 0), (1, .int x1), (2, .int x2)] [.long x2.toInt64] (wMo cy Ms Mb Mq MB My ML Mg MF MW MI MA Mr Ma Mp Mf Mt Ml Mo Mn Mm MT MP Mv Mx Mz) (by decide +kernel) rfl rfl ?_
    refine G_ldc2 C co_7_68 (by decide +kernel) ?_
    refine G_ldc2 C co_7_70 (by decide +kernel) ?_
    obtain ⟨q3, hq3, h⟩ := obd h
    refine G_cS C lk_7_64 ⟨Nat.le_of_ble_eq_true rfl, Nat.le_of_ble_eq_true rfl⟩ (by decide +kernel) [.int (bI q3)] (c_X7_in cy x2.toInt64 (-500 : Int64) (500 : Int64) q3 hq3) rfl rfl (Nat.le_of_ble_eq_true rfl) rfl ?_
    refine G_if_ne C (off := 8) (tgt := 38) (by decide +kernel) rfl (fun c => ?_) (fun c => ?_)
    · rw [if_neg c] at h
      refine G_r C [(.aload_n 0, 1, 0, 0, .null), (.aload_n 0, 1, 0, 0, .null), (.getfield 7, 3, 7, 0, .null)] 43 [(0, .ref 0), (1, .int x1), (2, .int x2)] [.ref 1, .ref 0] (wMo cy Ms Mb Mq MB My ML Mg MF MW MI MA Mr Ma Mp Mf Mt Ml Mo Mn Mm MT MP Mv Mx Mz) (by decide +kernel) rfl rfl ?_
      obtain ⟨q4, hq4, h⟩ := obd h
      refine G_c0 C lk_7_76 ⟨Nat.le_of_ble_eq_true rfl, Nat.le_of_ble_eq_true rfl⟩ (by decide +kernel) [] (c_X7_note cy Ms Mb Mq MB My ML Mg MF MW MI MA Mr Ma Mp Mf Mt Ml Mo Mn Mm MT MP Mv Mx Mz q4 hq4) rfl rfl (Nat.le_of_ble_eq_true rfl) ⟨rfl, rfl⟩ rfl ?_
      refine G_r C [(.aload_n 0, 1, 0, 0, .null), (.getfield 7, 3, 7, 0, .null), (.iload_n 1, 1, 0, 0, .null)] 51 [(0, .ref 0), (1, .int x1), (2, .int x2)] [.int x1, .ref 1] (wMo cy q4.1 Mb Mq MB My ML Mg MF MW MI MA Mr Ma q4.2 Mf Mt Ml Mo Mn Mm MT MP Mv Mx Mz) (by decide +kernel) rfl rfl ?_
      obtain ⟨cg, h⟩ := oob h
      refine G_iald C (a := 1) rfl cg (by decide +kernel) ?_
      refine G_r C [(.istore_n 3, 1, 0, 0, .null), (.aload_n 0, 1, 0, 0, .null), (.getfield 7, 3, 7, 0, .null), (.iload_n 1, 1, 0, 0, .null), (.iload_n 2, 1, 0, 0, .null)] 59 [(3, .int (Mr x1.toNatClampNeg)), (0, .ref 0), (1, .int x1), (2, .int x2)] [.int x2, .int x1, .ref 1] (wMo cy q4.1 Mb Mq MB My ML Mg MF MW MI MA Mr Ma q4.2 Mf Mt Ml Mo Mn Mm MT MP Mv Mx Mz) (by decide +kernel) rfl rfl ?_
      obtain ⟨cg, h⟩ := oob h
      refine G_iast C (a := 1) (w' := (wMo cy q4.1 Mb Mq MB My ML Mg MF MW MI MA (upd Mr x1.toNatClampNeg x2) Ma q4.2 Mf Mt Ml Mo Mn Mm MT MP Mv Mx Mz)) rfl cg (by decide +kernel) rfl ?_
      refine G_r C [(.iload_n 3, 1, 0, 0, .null)] 61 [(3, .int (Mr x1.toNatClampNeg)), (0, .ref 0), (1, .int x1), (2, .int x2)] [.int (Mr x1.toNatClampNeg)] (wMo cy q4.1 Mb Mq MB My ML Mg MF MW MI MA (upd Mr x1.toNatClampNeg x2) Ma q4.2 Mf Mt Ml Mo Mn Mm MT MP Mv Mx Mz) (by decide +kernel) rfl rfl ?_
      have h := Option.some.inj h
      subst h
      exact G_iret C hR (by decide +kernel)
    · rw [if_pos c] at h
      refine G_r C [(.aload_n 0, 1, 0, 0, .null)] 34 [(0, .ref 0), (1, .int x1), (2, .int x2)] [.ref 0] (wMo cy Ms Mb Mq MB My ML Mg MF MW MI MA Mr Ma Mp Mf Mt Ml Mo Mn Mm MT MP Mv Mx Mz) (by decide +kernel) rfl rfl ?_
      obtain ⟨q5, hq5, h⟩ := obd h
      refine G_c0 C lk_7_72 ⟨Nat.le_of_ble_eq_true rfl, Nat.le_of_ble_eq_true rfl⟩ (by decide +kernel) [.int q5.1] (c_X7_bad cy Ms Mb Mq MB My ML Mg MF MW MI MA Mr Ma Mp Mf Mt Ml Mo Mn Mm MT MP Mv Mx Mz q5 hq5) rfl rfl (Nat.le_of_ble_eq_true rfl) ⟨rfl, rfl⟩ rfl ?_
      have h := Option.some.inj h
      subst h
      exact G_iret C hR (by decide +kernel)
