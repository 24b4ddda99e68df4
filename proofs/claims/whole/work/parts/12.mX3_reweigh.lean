def f_X3_reweigh_L23 : Nat → Int32 → Int32 → Int32 → (Nat → Int32) → (Nat → Int64) → Option (Nat → Int64)
  | 0, _, _, _, _, _ => none
  | fu + 1, x1, x2, rK, rf, rg => if (rK - (1 : Int32)) ≤ x2 then (some rg) else ((f_X3_at (x2 + (1 : Int32)) rK rf).bind fun q2 => (f_X3_at x2 rK rf).bind fun q3 => if x2 < 0 ∨ 7 ≤ x2.toNatClampNeg then none else f_X3_reweigh_L23 fu x1 (x2 + (1 : Int32)) rK rf (vp_updL rg x2.toNatClampNeg (q2.toInt64 - (x1.toInt64 * q3.toInt64))))
def f_X3_reweigh (x1 : Int32) (rK : Int32) (rf : Nat → Int32) (rg : Nat → Int64) : Option (Int32 × Int32 × (Nat → Int32) × (Nat → Int64)) := (f_X3_isNoShift x1).bind fun q1 => if (bI q1) = 0 then (if (1 : Int32) < rK then ((f_X3_reweigh_L23 200 x1 (0 : Int32) rK rf rg).bind fun q4 => (f_X3_takeNext (rK - (1 : Int32)) rK rf q4).bind fun q5 => some (q5.1, q5.2.1, q5.2.2, q4)) else (some ((-1000002 : Int32), rK, rf, rg))) else (some ((-1000001 : Int32), rK, rf, rg))
set_option maxHeartbeats 4000000 in
set_option maxRecDepth 100000 in
theorem g_X3_reweigh_L23 {k : KX} {cy : Nat → ClassId} (C : OK k cX3_reweigh 3 3 cy 2 44) : ∀ (fu : Nat) (x1 : Int32) (x2 : Int32) (rK : Int32) (rf : Nat → Int32) (rg : Nat → Int64) (rpd : Int32) (rpn : Nat → Int64) (res : (Nat → Int64)), (f_X3_reweigh_L23 fu x1 x2 rK rf rg = some res) → G k 3 63 [(0, .ref 0)] [] (wRow cy 0 rK rf res rpd rpn) → G k 3 23 [(0, .ref 0), (1, .int x1), (2, .int x2)] [] (wRow cy 0 rK rf rg rpd rpn) := by
  intro fu
  induction fu with
  | zero =>
    intro x1 x2 rK rf rg rpd rpn res h hex
    rw [f_X3_reweigh_L23] at h
    cases h
  | succ fu ih =>
    intro x1 x2 rK rf rg rpd rpn res h hex
    rw [f_X3_reweigh_L23] at h
    refine G_r C [(.iload_n 2, 1, 0, 0, .null), (.aload_n 0, 1, 0, 0, .null), (.getfield 26, 3, 3, 3, .null), (.iconst 1, 1, 0, 0, .int (1 : Int32)), (.isub, 1, 0, 0, .null)] 30 [(0, .ref 0), (1, .int x1), (2, .int x2)] [.int (rK - (1 : Int32)), .int x2] (wRow cy 0 rK rf rg rpd rpn) (by decide +kernel) rfl rfl ?_
    refine G_icmp_ge C (off := 33) (tgt := 63) (by decide +kernel) rfl (fun c => ?_) (fun c => ?_)
    · rw [if_pos c] at h
      have h := Option.some.inj h
      subst h
      refine G_lv [0] (lv' := [(0, .ref 0)]) rfl ?_
      exact hex
    · rw [if_neg c] at h
      refine G_r C [(.aload_n 0, 1, 0, 0, .null), (.getfield 15, 3, 3, 1, .null), (.iload_n 2, 1, 0, 0, .null), (.aload_n 0, 1, 0, 0, .null), (.iload_n 2, 1, 0, 0, .null), (.iconst 1, 1, 0, 0, .int (1 : Int32)), (.iadd, 1, 0, 0, .null)] 42 [(0, .ref 0), (1, .int x1), (2, .int x2)] [.int (x2 + (1 : Int32)), .ref 0, .int x2, .ref 2] (wRow cy 0 rK rf rg rpd rpn) (by decide +kernel) rfl rfl ?_
      obtain ⟨q2, hq2, h⟩ := obd h
      refine G_c0 C lk_3_38 ⟨Nat.le_of_ble_eq_true rfl, Nat.le_of_ble_eq_true rfl⟩ (by decide +kernel) [.int q2, .int x2, .ref 2] (c_X3_at cy rK rf rg rpd rpn (x2 + (1 : Int32)) q2 hq2) rfl rfl (Nat.le_of_ble_eq_true rfl) ⟨rfl, rfl⟩ rfl ?_
      refine G_r C [(.i2l, 1, 0, 0, .null), (.iload_n 1, 1, 0, 0, .null), (.i2l, 1, 0, 0, .null), (.aload_n 0, 1, 0, 0, .null), (.iload_n 2, 1, 0, 0, .null)] 50 [(0, .ref 0), (1, .int x1), (2, .int x2)] [.int x2, .ref 0, .long x1.toInt64, .long q2.toInt64, .int x2, .ref 2] (wRow cy 0 rK rf rg rpd rpn) (by decide +kernel) rfl rfl ?_
      obtain ⟨q3, hq3, h⟩ := obd h
      refine G_c0 C lk_3_38 ⟨Nat.le_of_ble_eq_true rfl, Nat.le_of_ble_eq_true rfl⟩ (by decide +kernel) [.int q3, .long x1.toInt64, .long q2.toInt64, .int x2, .ref 2] (c_X3_at cy rK rf rg rpd rpn x2 q3 hq3) rfl rfl (Nat.le_of_ble_eq_true rfl) ⟨rfl, rfl⟩ rfl ?_
      refine G_r C [(.i2l, 1, 0, 0, .null), (.lmul, 1, 0, 0, .null), (.lsub, 1, 0, 0, .null)] 56 [(0, .ref 0), (1, .int x1), (2, .int x2)] [.long (q2.toInt64 - (x1.toInt64 * q3.toInt64)), .int x2, .ref 2] (wRow cy 0 rK rf rg rpd rpn) (by decide +kernel) rfl rfl ?_
      obtain ⟨cg, h⟩ := oob h
      refine G_last C (a := 2) (w' := (wRow cy 0 rK rf (vp_updL rg x2.toNatClampNeg (q2.toInt64 - (x1.toInt64 * q3.toInt64))) rpd rpn)) rfl cg (by decide +kernel) rfl ?_
      refine G_r C [(.iinc 2 1, 3, 0, 0, .int (1 : Int32))] 60 [(2, .int (x2 + (1 : Int32))), (0, .ref 0), (1, .int x1)] [] (wRow cy 0 rK rf (vp_updL rg x2.toNatClampNeg (q2.toInt64 - (x1.toInt64 * q3.toInt64))) rpd rpn) (by decide +kernel) rfl rfl ?_
      refine G_goto C (off := -37) (tgt := 23) (by decide +kernel) rfl ?_
      refine G_lv [1, 2, 0] (lv' := [(0, .ref 0), (1, .int x1), (2, .int (x2 + (1 : Int32)))]) rfl ?_
      exact ih x1 (x2 + (1 : Int32)) rK rf (vp_updL rg x2.toNatClampNeg (q2.toInt64 - (x1.toInt64 * q3.toInt64))) rpd rpn res h hex
set_option maxHeartbeats 4000000 in
set_option maxRecDepth 100000 in
theorem c_X3_reweigh (cy : Nat → ClassId) (rK : Int32) (rf : Nat → Int32) (rg : Nat → Int64) (rpd : Int32) (rpn : Nat → Int64) (x1 : Int32) (res : (Int32 × Int32 × (Nat → Int32) × (Nat → Int64))) (h : f_X3_reweigh x1 rK rf rg = some res) : MG cy yX3_reweigh cX3_reweigh 3 (some .int) 2 44 [.ref 0, .int x1] (wRow cy 0 rK rf rg rpd rpn) (some (.int res.1)) (wRow cy 0 res.2.1 res.2.2.1 res.2.2.2 rpd rpn) := by
  refine MG_of (o := 3) (lv := [(0, .ref 0), (1, .int x1)]) ⟨by decide +kernel, rfl⟩ (Nat.le_of_ble_eq_true rfl) rfl (fun k C hR => ?_)
  rw [f_X3_reweigh] at h
  refine G_r C [(.iload_n 1, 1, 0, 0, .null)] 1 [(0, .ref 0), (1, .int x1)] [.int x1] (wRow cy 0 rK rf rg rpd rpn) (by decide +kernel) rfl rfl ?_
  obtain ⟨q1, hq1, h⟩ := obd h
  refine G_cS C lk_3_56 ⟨Nat.le_of_ble_eq_true rfl, Nat.le_of_ble_eq_true rfl⟩ (by decide +kernel) [.int (bI q1)] (c_X3_isNoShift cy x1 q1 hq1) rfl rfl (Nat.le_of_ble_eq_true rfl) rfl ?_
  refine G_if_eq C (off := 6) (tgt := 10) (by decide +kernel) rfl (fun c => ?_) (fun c => ?_)
  · rw [if_pos c] at h
    refine G_r C [(.aload_n 0, 1, 0, 0, .null), (.getfield 26, 3, 3, 3, .null), (.iconst 1, 1, 0, 0, .int (1 : Int32))] 15 [(0, .ref 0), (1, .int x1)] [.int (1 : Int32), .int rK] (wRow cy 0 rK rf rg rpd rpn) (by decide +kernel) rfl rfl ?_
    refine G_icmp_gt C (off := 6) (tgt := 21) (by decide +kernel) rfl (fun c => ?_) (fun c => ?_)
    · rw [if_pos c] at h
      refine G_r C [(.iconst 0, 1, 0, 0, .int (0 : Int32)), (.istore_n 2, 1, 0, 0, .null)] 23 [(2, .int (0 : Int32)), (0, .ref 0), (1, .int x1)] [] (wRow cy 0 rK rf rg rpd rpn) (by decide +kernel) rfl rfl ?_
      obtain ⟨q4, hq4, h⟩ := obd h
      refine G_lv [1, 2, 0] (lv' := [(0, .ref 0), (1, .int x1), (2, .int (0 : Int32))]) rfl ?_
      refine g_X3_reweigh_L23 C 200 x1 (0 : Int32) rK rf rg rpd rpn q4 hq4 ?_
      refine G_r C [(.aload_n 0, 1, 0, 0, .null), (.aload_n 0, 1, 0, 0, .null), (.getfield 26, 3, 3, 3, .null), (.iconst 1, 1, 0, 0, .int (1 : Int32)), (.isub, 1, 0, 0, .null)] 70 [(0, .ref 0)] [.int (rK - (1 : Int32)), .ref 0] (wRow cy 0 rK rf q4 rpd rpn) (by decide +kernel) rfl rfl ?_
      obtain ⟨q5, hq5, h⟩ := obd h
      refine G_c0 C lk_3_59 ⟨Nat.le_of_ble_eq_true rfl, Nat.le_of_ble_eq_true rfl⟩ (by decide +kernel) [.int q5.1] (c_X3_takeNext cy rK rf q4 rpd rpn (rK - (1 : Int32)) q5 hq5) rfl rfl (Nat.le_of_ble_eq_true rfl) ⟨rfl, rfl⟩ rfl ?_
      have h := Option.some.inj h
      subst h
      exact G_iret C hR (by decide +kernel)
    · rw [if_neg c] at h
      refine G_ldc C co_3_55 (by decide +kernel) ?_
      have h := Option.some.inj h
      subst h
      exact G_iret C hR (by decide +kernel)
  · rw [if_neg c] at h
    refine G_ldc C co_3_53 (by decide +kernel) ?_
    have h := Option.some.inj h
    subst h
    exact G_iret C hR (by decide +kernel)
def f_X6_weighs (x1 : Int32) (kb : Int32) (kn : Int32) (kf : Int32) (rK : Int32) (rf : Nat → Int32) (sf : Nat → Int32) (sg : Nat → Int64) (vo : Int32) (vd : Int32) (vs : Nat → Int32) : Option (Int32 × Int32 × Int32 × Int32 × Int32 × (Nat → Int32) × Int32 × (Nat → Int32) × (Nat → Int64) × Int32 × Int32 × (Nat → Int32)) := (f_X3_copy sf rK rf).bind fun q1 => (f_X3_reweigh x1 q1.1 q1.2 sg).bind fun q2 => if q2.1 = 0 then ((f_X6_keepTrial rK rf q2.2.1 q2.2.2.1 vo vd vs).bind fun q3 => (f_X3_at (0 : Int32) q3.1 q3.2.1).bind fun q4 => some (q4, kb, kn, kf, q3.1, q3.2.1, q2.2.1, q2.2.2.1, q2.2.2.2, q3.2.2.1, q3.2.2.2.1, q3.2.2.2.2)) else ((f_X6_refuse q2.1 kb kn kf).bind fun q5 => some (q5.1, q5.2.1, q5.2.2.1, q5.2.2.2, rK, rf, q2.2.1, q2.2.2.1, q2.2.2.2, vo, vd, vs))
set_option maxHeartbeats 4000000 in
set_option maxRecDepth 100000 in
theorem c_X6_weighs (cy : Nat → ClassId) (kb : Int32) (kn : Int32) (kf : Int32) (rK : Int32) (rf : Nat → Int32) (rg : Nat → Int64) (rpd : Int32) (rpn : Nat → Int64) (sK : Int32) (sf : Nat → Int32) (sg : Nat → Int64) (spd : Int32) (spn : Nat → Int64) (mc : Int32) (mm : Nat → Int64) (nc : Int32) (nm : Nat → Int64) (pd : Int32) (pn : Nat → Int64) (vo : Int32) (vd : Int32) (vs : Nat → Int32) (tl : Int32) (tb : Nat → Int32) (eo : Int32) (et : Int32) (ed : Int32) (em : Bool) (ef : Int32) (ez : Int32) (ek : Nat → Int32) (es : Nat → Int32) (en : Nat → Int32) (fi : Nat → Int32) (x1 : Int32) (res : (Int32 × Int32 × Int32 × Int32 × Int32 × (Nat → Int32) × Int32 × (Nat → Int32) × (Nat → Int64) × Int32 × Int32 × (Nat → Int32))) (h : f_X6_weighs x1 kb kn kf rK rf sf sg vo vd vs = some res) : MG cy yX6_weighs cX6_weighs 3 (some .int) 4 85 [.ref 0, .int x1] (wSR cy kb kn kf rK rf rg rpd rpn sK sf sg spd spn mc mm nc nm pd pn vo vd vs tl tb eo et ed em ef ez ek es en fi) (some (.int res.1)) (wSR cy res.2.1 res.2.2.1 res.2.2.2.1 res.2.2.2.2.1 res.2.2.2.2.2.1 rg rpd rpn res.2.2.2.2.2.2.1 res.2.2.2.2.2.2.2.1 res.2.2.2.2.2.2.2.2.1 spd spn mc mm nc nm pd pn res.2.2.2.2.2.2.2.2.2.1 res.2.2.2.2.2.2.2.2.2.2.1 res.2.2.2.2.2.2.2.2.2.2.2 tl tb eo et ed em ef ez ek es en fi) := by
  refine MG_of (o := 6) (lv := [(0, .ref 0), (1, .int x1)]) ⟨by decide +kernel, rfl⟩ (Nat.le_of_ble_eq_true rfl) rfl (fun k C hR => ?_)
  rw [f_X6_weighs] at h
  refine G_r C [(.aload_n 0, 1, 0, 0, .null), (.getfield 16, 3, 6, 1, .null), (.aload_n 0, 1, 0, 0, .null), (.getfield 12, 3, 6, 0, .null)] 8 [(0, .ref 0), (1, .int x1)] [.ref 1, .ref 6] (wSR cy kb kn kf rK rf rg rpd rpn sK sf sg spd spn mc mm nc nm pd pn vo vd vs tl tb eo et ed em ef ez ek es en fi) (by decide +kernel) rfl rfl ?_
  obtain ⟨q1, hq1, h⟩ := obd h
  refine G_cV C lk_6_65 ⟨Nat.le_of_ble_eq_true rfl, Nat.le_of_ble_eq_true rfl⟩ (by decide +kernel) [6, 7, 8, 9, 10, 1, 2, 3, 4, 5] [] (wSR cy kb kn kf rK rf rg rpd rpn q1.1 q1.2 sg spd spn mc mm nc nm pd pn vo vd vs tl tb eo et ed em ef ez ek es en fi) (c_X3_copy cy sK sf sg spd spn rK rf rg rpd rpn q1 hq1) rfl rfl (Nat.le_of_ble_eq_true rfl) rfl rfl ⟨rfl, rfl⟩ rfl rfl rfl ?_
  refine G_r C [(.aload_n 0, 1, 0, 0, .null), (.getfield 16, 3, 6, 1, .null), (.iload_n 1, 1, 0, 0, .null)] 16 [(0, .ref 0), (1, .int x1)] [.int x1, .ref 6] (wSR cy kb kn kf rK rf rg rpd rpn q1.1 q1.2 sg spd spn mc mm nc nm pd pn vo vd vs tl tb eo et ed em ef ez ek es en fi) (by decide +kernel) rfl rfl ?_
  obtain ⟨q2, hq2, h⟩ := obd h
  refine G_cV C lk_6_98 ⟨Nat.le_of_ble_eq_true rfl, Nat.le_of_ble_eq_true rfl⟩ (by decide +kernel) [6, 7, 8, 9, 10] [.int q2.1] (wSR cy kb kn kf rK rf rg rpd rpn q2.2.1 q2.2.2.1 q2.2.2.2 spd spn mc mm nc nm pd pn vo vd vs tl tb eo et ed em ef ez ek es en fi) (c_X3_reweigh cy q1.1 q1.2 sg spd spn x1 q2 hq2) rfl rfl (Nat.le_of_ble_eq_true rfl) rfl rfl ⟨rfl, rfl⟩ rfl rfl rfl ?_
  refine G_r C [(.istore_n 2, 1, 0, 0, .null), (.iload_n 2, 1, 0, 0, .null)] 21 [(2, .int q2.1), (0, .ref 0), (1, .int x1)] [.int q2.1] (wSR cy kb kn kf rK rf rg rpd rpn q2.2.1 q2.2.2.1 q2.2.2.2 spd spn mc mm nc nm pd pn vo vd vs tl tb eo et ed em ef ez ek es en fi) (by decide +kernel) rfl rfl ?_
  refine G_if_eq C (off := 9) (tgt := 30) (by decide +kernel) rfl (fun c => ?_) (fun c => ?_)
  · rw [if_pos c] at h
    refine G_r C [(.aload_n 0, 1, 0, 0, .null)] 31 [(2, .int q2.1), (0, .ref 0), (1, .int x1)] [.ref 0] (wSR cy kb kn kf rK rf rg rpd rpn q2.2.1 q2.2.2.1 q2.2.2.2 spd spn mc mm nc nm pd pn vo vd vs tl tb eo et ed em ef ez ek es en fi) (by decide +kernel) rfl rfl ?_
    obtain ⟨q3, hq3, h⟩ := obd h
    refine G_c0 C lk_6_76 ⟨Nat.le_of_ble_eq_true rfl, Nat.le_of_ble_eq_true rfl⟩ (by decide +kernel) [] (c_X6_keepTrial cy kb kn kf rK rf rg rpd rpn q2.2.1 q2.2.2.1 q2.2.2.2 spd spn mc mm nc nm pd pn vo vd vs tl tb eo et ed em ef ez ek es en fi q3 hq3) rfl rfl (Nat.le_of_ble_eq_true rfl) ⟨rfl, rfl⟩ rfl ?_
    refine G_r C [(.aload_n 0, 1, 0, 0, .null), (.getfield 12, 3, 6, 0, .null), (.iconst 0, 1, 0, 0, .int (0 : Int32))] 39 [(2, .int q2.1), (0, .ref 0), (1, .int x1)] [.int (0 : Int32), .ref 1] (wSR cy kb kn kf q3.1 q3.2.1 rg rpd rpn q2.2.1 q2.2.2.1 q2.2.2.2 spd spn mc mm nc nm pd pn q3.2.2.1 q3.2.2.2.1 q3.2.2.2.2 tl tb eo et ed em ef ez ek es en fi) (by decide +kernel) rfl rfl ?_
    obtain ⟨q4, hq4, h⟩ := obd h
    refine G_cV C lk_6_61 ⟨Nat.le_of_ble_eq_true rfl, Nat.le_of_ble_eq_true rfl⟩ (by decide +kernel) [1, 2, 3, 4, 5] [.int q4] (wSR cy kb kn kf q3.1 q3.2.1 rg rpd rpn q2.2.1 q2.2.2.1 q2.2.2.2 spd spn mc mm nc nm pd pn q3.2.2.1 q3.2.2.2.1 q3.2.2.2.2 tl tb eo et ed em ef ez ek es en fi) (c_X3_at cy q3.1 q3.2.1 rg rpd rpn (0 : Int32) q4 hq4) rfl rfl (Nat.le_of_ble_eq_true rfl) rfl rfl ⟨rfl, rfl⟩ rfl rfl rfl ?_
    have h := Option.some.inj h
    subst h
    exact G_iret C hR (by decide +kernel)
  · rw [if_neg c] at h
    refine G_r C [(.aload_n 0, 1, 0, 0, .null), (.iload_n 2, 1, 0, 0, .null)] 26 [(2, .int q2.1), (0, .ref 0), (1, .int x1)] [.int q2.1, .ref 0] (wSR cy kb kn kf rK rf rg rpd rpn q2.2.1 q2.2.2.1 q2.2.2.2 spd spn mc mm nc nm pd pn vo vd vs tl tb eo et ed em ef ez ek es en fi) (by decide +kernel) rfl rfl ?_
    obtain ⟨q5, hq5, h⟩ := obd h
    refine G_c0 C lk_6_73 ⟨Nat.le_of_ble_eq_true rfl, Nat.le_of_ble_eq_true rfl⟩ (by decide +kernel) [.int q5.1] (c_X6_refuse cy kb kn kf rK rf rg rpd rpn q2.2.1 q2.2.2.1 q2.2.2.2 spd spn mc mm nc nm pd pn vo vd vs tl tb eo et ed em ef ez ek es en fi q2.1 q5 hq5) rfl rfl (Nat.le_of_ble_eq_true rfl) ⟨rfl, rfl⟩ rfl ?_
    have h := Option.some.inj h
    subst h
    exact G_iret C hR (by decide +kernel)
def f_X6_of (x1 : Int32) (kb : Int32) (kn : Int32) (kf : Int32) (rK : Int32) (rf : Nat → Int32) : Option (Int32 × Int32 × Int32 × Int32) := (f_X3_size rK).bind fun q1 => (f_X6_isOutside x1 (0 : Int32) (q1 - (1 : Int32))).bind fun q2 => if (bI q2) = 0 then ((f_X3_at x1 rK rf).bind fun q3 => some (q3, kb, kn, kf)) else ((f_X6_refuse (-1000001 : Int32) kb kn kf).bind fun q4 => some (q4.1, q4.2.1, q4.2.2.1, q4.2.2.2))
set_option maxHeartbeats 4000000 in
set_option maxRecDepth 100000 in
theorem c_X6_of (cy : Nat → ClassId) (kb : Int32) (kn : Int32) (kf : Int32) (rK : Int32) (rf : Nat → Int32) (rg : Nat → Int64) (rpd : Int32) (rpn : Nat → Int64) (sK : Int32) (sf : Nat → Int32) (sg : Nat → Int64) (spd : Int32) (spn : Nat → Int64) (mc : Int32) (mm : Nat → Int64) (nc : Int32) (nm : Nat → Int64) (pd : Int32) (pn : Nat → Int64) (vo : Int32) (vd : Int32) (vs : Nat → Int32) (tl : Int32) (tb : Nat → Int32) (eo : Int32) (et : Int32) (ed : Int32) (em : Bool) (ef : Int32) (ez : Int32) (ek : Nat → Int32) (es : Nat → Int32) (en : Nat → Int32) (fi : Nat → Int32) (x1 : Int32) (res : (Int32 × Int32 × Int32 × Int32)) (h : f_X6_of x1 kb kn kf rK rf = some res) : MG cy yX6_of cX6_of 2 (some .int) 1 22 [.ref 0, .int x1] (wSR cy kb kn kf rK rf rg rpd rpn sK sf sg spd spn mc mm nc nm pd pn vo vd vs tl tb eo et ed em ef ez ek es en fi) (some (.int res.1)) (wSR cy res.2.1 res.2.2.1 res.2.2.2 rK rf rg rpd rpn sK sf sg spd spn mc mm nc nm pd pn vo vd vs tl tb eo et ed em ef ez ek es en fi) := by
  refine MG_of (o := 6) (lv := [(0, .ref 0), (1, .int x1)]) ⟨by decide +kernel, rfl⟩ (Nat.le_of_ble_eq_true rfl) rfl (fun k C hR => ?_)
  rw [f_X6_of] at h
  refine G_r C [(.iload_n 1, 1, 0, 0, .null), (.iconst 0, 1, 0, 0, .int (0 : Int32)), (.aload_n 0, 1, 0, 0, .null), (.getfield 12, 3, 6, 0, .null)] 6 [(0, .ref 0), (1, .int x1)] [.ref 1, .int (0 : Int32), .int x1] (wSR cy kb kn kf rK rf rg rpd rpn sK sf sg spd spn mc mm nc nm pd pn vo vd vs tl tb eo et ed em ef ez ek es en fi) (by decide +kernel) rfl rfl ?_
  obtain ⟨q1, hq1, h⟩ := obd h
  refine G_cV C lk_6_82 ⟨Nat.le_of_ble_eq_true rfl, Nat.le_of_ble_eq_true rfl⟩ (by decide +kernel) [1, 2, 3, 4, 5] [.int q1, .int (0 : Int32), .int x1] (wSR cy kb kn kf rK rf rg rpd rpn sK sf sg spd spn mc mm nc nm pd pn vo vd vs tl tb eo et ed em ef ez ek es en fi) (c_X3_size cy rK rf rg rpd rpn q1 hq1) rfl rfl (Nat.le_of_ble_eq_true rfl) rfl rfl ⟨rfl, rfl⟩ rfl rfl rfl ?_
  refine G_r C [(.iconst 1, 1, 0, 0, .int (1 : Int32)), (.isub, 1, 0, 0, .null)] 11 [(0, .ref 0), (1, .int x1)] [.int (q1 - (1 : Int32)), .int (0 : Int32), .int x1] (wSR cy kb kn kf rK rf rg rpd rpn sK sf sg spd spn mc mm nc nm pd pn vo vd vs tl tb eo et ed em ef ez ek es en fi) (by decide +kernel) rfl rfl ?_
  obtain ⟨q2, hq2, h⟩ := obd h
  refine G_cS C lk_6_101 ⟨Nat.le_of_ble_eq_true rfl, Nat.le_of_ble_eq_true rfl⟩ (by decide +kernel) [.int (bI q2)] (c_X6_isOutside cy x1 (0 : Int32) (q1 - (1 : Int32)) q2 hq2) rfl rfl (Nat.le_of_ble_eq_true rfl) rfl ?_
  refine G_if_eq C (off := 10) (tgt := 24) (by decide +kernel) rfl (fun c => ?_) (fun c => ?_)
  · rw [if_pos c] at h
    refine G_r C [(.aload_n 0, 1, 0, 0, .null), (.getfield 12, 3, 6, 0, .null), (.iload_n 1, 1, 0, 0, .null)] 29 [(0, .ref 0), (1, .int x1)] [.int x1, .ref 1] (wSR cy kb kn kf rK rf rg rpd rpn sK sf sg spd spn mc mm nc nm pd pn vo vd vs tl tb eo et ed em ef ez ek es en fi) (by decide +kernel) rfl rfl ?_
    obtain ⟨q3, hq3, h⟩ := obd h
    refine G_cV C lk_6_61 ⟨Nat.le_of_ble_eq_true rfl, Nat.le_of_ble_eq_true rfl⟩ (by decide +kernel) [1, 2, 3, 4, 5] [.int q3] (wSR cy kb kn kf rK rf rg rpd rpn sK sf sg spd spn mc mm nc nm pd pn vo vd vs tl tb eo et ed em ef ez ek es en fi) (c_X3_at cy rK rf rg rpd rpn x1 q3 hq3) rfl rfl (Nat.le_of_ble_eq_true rfl) rfl rfl ⟨rfl, rfl⟩ rfl rfl rfl ?_
    have h := Option.some.inj h
    subst h
    exact G_iret C hR (by decide +kernel)
  · rw [if_neg c] at h
    refine G_r C [(.aload_n 0, 1, 0, 0, .null)] 18 [(0, .ref 0), (1, .int x1)] [.ref 0] (wSR cy kb kn kf rK rf rg rpd rpn sK sf sg spd spn mc mm nc nm pd pn vo vd vs tl tb eo et ed em ef ez ek es en fi) (by decide +kernel) rfl rfl ?_
    refine G_ldc C co_6_105 (by decide +kernel) ?_
    obtain ⟨q4, hq4, h⟩ := obd h
    refine G_c0 C lk_6_73 ⟨Nat.le_of_ble_eq_true rfl, Nat.le_of_ble_eq_true rfl⟩ (by decide +kernel) [.int q4.1] (c_X6_refuse cy kb kn kf rK rf rg rpd rpn sK sf sg spd spn mc mm nc nm pd pn vo vd vs tl tb eo et ed em ef ez ek es en fi (-1000001 : Int32) q4 hq4) rfl rfl (Nat.le_of_ble_eq_true rfl) ⟨rfl, rfl⟩ rfl ?_
    have h := Option.some.inj h
    subst h
    exact G_iret C hR (by decide +kernel)
def f_X3_hasTable (x1 : Int32) (x2 : Int32) (rK : Int32) : Option Bool := if x2 = 0 then (some true) else (if rK ≤ (x1 + ((2 : Int32) * (x2 - (1 : Int32)))) then (some false) else (some true))
set_option maxHeartbeats 4000000 in
set_option maxRecDepth 100000 in
theorem c_X3_hasTable (cy : Nat → ClassId) (rK : Int32) (rf : Nat → Int32) (rg : Nat → Int64) (rpd : Int32) (rpn : Nat → Int64) (x1 : Int32) (x2 : Int32) (res : Bool) (h : f_X3_hasTable x1 x2 rK = some res) : MG cy yX3_hasTable cX3_hasTable 3 (some .boolean) 0 0 [.ref 0, .int x1, .int x2] (wRow cy 0 rK rf rg rpd rpn) (some (.int (bI res))) (wRow cy 0 rK rf rg rpd rpn) := by
  refine MG_of (o := 3) (lv := [(0, .ref 0), (1, .int x1), (2, .int x2)]) ⟨by decide +kernel, rfl⟩ (Nat.le_of_ble_eq_true rfl) rfl (fun k C hR => ?_)
  rw [f_X3_hasTable] at h
  refine G_r C [(.iload_n 2, 1, 0, 0, .null)] 1 [(0, .ref 0), (1, .int x1), (2, .int x2)] [.int x2] (wRow cy 0 rK rf rg rpd rpn) (by decide +kernel) rfl rfl ?_
  refine G_if_eq C (off := 17) (tgt := 18) (by decide +kernel) rfl (fun c => ?_) (fun c => ?_)
  · rw [if_pos c] at h
    refine G_r C [(.iconst 1, 1, 0, 0, .int (1 : Int32))] 19 [(0, .ref 0), (1, .int x1), (2, .int x2)] [.int (1 : Int32)] (wRow cy 0 rK rf rg rpd rpn) (by decide +kernel) rfl rfl ?_
    refine G_goto C (off := 4) (tgt := 23) (by decide +kernel) rfl ?_
    have h := Option.some.inj h
    subst h
    exact G_zret C (v := true) hR (by decide +kernel)
  · rw [if_neg c] at h
    refine G_r C [(.aload_n 0, 1, 0, 0, .null), (.getfield 26, 3, 3, 3, .null), (.iload_n 1, 1, 0, 0, .null), (.iconst 2, 1, 0, 0, .int (2 : Int32)), (.iload_n 2, 1, 0, 0, .null), (.iconst 1, 1, 0, 0, .int (1 : Int32)), (.isub, 1, 0, 0, .null), (.imul, 1, 0, 0, .null), (.iadd, 1, 0, 0, .null)] 15 [(0, .ref 0), (1, .int x1), (2, .int x2)] [.int (x1 + ((2 : Int32) * (x2 - (1 : Int32)))), .int rK] (wRow cy 0 rK rf rg rpd rpn) (by decide +kernel) rfl rfl ?_
    refine G_icmp_le C (off := 7) (tgt := 22) (by decide +kernel) rfl (fun c => ?_) (fun c => ?_)
    · rw [if_pos c] at h
      refine G_r C [(.iconst 0, 1, 0, 0, .int (0 : Int32))] 23 [(0, .ref 0), (1, .int x1), (2, .int x2)] [.int (0 : Int32)] (wRow cy 0 rK rf rg rpd rpn) (by decide +kernel) rfl rfl ?_
      have h := Option.some.inj h
      subst h
      exact G_zret C (v := false) hR (by decide +kernel)
    · rw [if_neg c] at h
      refine G_r C [(.iconst 1, 1, 0, 0, .int (1 : Int32))] 19 [(0, .ref 0), (1, .int x1), (2, .int x2)] [.int (1 : Int32)] (wRow cy 0 rK rf rg rpd rpn) (by decide +kernel) rfl rfl ?_
      refine G_goto C (off := 4) (tgt := 23) (by decide +kernel) rfl ?_
      have h := Option.some.inj h
      subst h
      exact G_zret C (v := true) hR (by decide +kernel)
def f_J6_bitCount_0f7a4 (x0 : Int32) : Option Int32 := (some (x0 - (((x0.toUInt32 >>> ((1 : Int32).toUInt32 &&& Int32.toUInt32 31)).toInt32) &&& (1431655765 : Int32)))).bind fun (q1 : Int32) => (some ((q1 &&& (858993459 : Int32)) + (((q1.toUInt32 >>> ((2 : Int32).toUInt32 &&& Int32.toUInt32 31)).toInt32) &&& (858993459 : Int32)))).bind fun (q2 : Int32) => (some ((q2 + ((q2.toUInt32 >>> ((4 : Int32).toUInt32 &&& Int32.toUInt32 31)).toInt32)) &&& (252645135 : Int32))).bind fun (q3 : Int32) => (some ((q3 + ((q3.toUInt32 >>> ((8 : Int32).toUInt32 &&& Int32.toUInt32 31)).toInt32)) + (((q3 + ((q3.toUInt32 >>> ((8 : Int32).toUInt32 &&& Int32.toUInt32 31)).toInt32)).toUInt32 >>> ((16 : Int32).toUInt32 &&& Int32.toUInt32 31)).toInt32))).bind fun (q4 : Int32) => some (q4 &&& (63 : Int32))
set_option maxHeartbeats 4000000 in
set_option maxRecDepth 100000 in
theorem c_J6_bitCount_0f7a4 (cy : Nat → ClassId)  (x0 : Int32) (res : Int32) (h : f_J6_bitCount_0f7a4 x0 = some res) : MG cy yJ6_bitCount_0f7a4 cJ6_bitCount_0f7a4 1 (some .int) 0 0 [.int x0] [] (some (.int res)) [] := by
  refine MG_of (o := 8) (lv := [(0, .int x0)]) ⟨by decide +kernel, rfl⟩ (Nat.le_of_ble_eq_true rfl) rfl (fun k C hR => ?_)
  rw [f_J6_bitCount_0f7a4] at h
  refine G_r C [(.iload_n 0, 1, 0, 0, .null), (.iload_n 0, 1, 0, 0, .null), (.iconst 1, 1, 0, 0, .int (1 : Int32)), (.iushr, 1, 0, 0, .null)] 4 [(0, .int x0)] [.int ((x0.toUInt32 >>> ((1 : Int32).toUInt32 &&& Int32.toUInt32 31)).toInt32), .int x0] [] (by decide +kernel) rfl rfl ?_
  refine G_ldcw C co_8_265 (by decide +kernel) ?_
  refine G_r C [(.iand, 1, 0, 0, .null), (.isub, 1, 0, 0, .null), (.istore_n 0, 1, 0, 0, .null)] 10 [(0, .int (x0 - (((x0.toUInt32 >>> ((1 : Int32).toUInt32 &&& Int32.toUInt32 31)).toInt32) &&& (1431655765 : Int32))))] [] [] (by decide +kernel) rfl rfl ?_
  obtain ⟨q1, hq1, h⟩ := obd h
  have hq1 := Option.some.inj hq1
  rw [hq1]
  refine G_r C [(.iload_n 0, 1, 0, 0, .null)] 11 [(0, .int q1)] [.int q1] [] (by decide +kernel) rfl rfl ?_
  refine G_ldcw C co_8_266 (by decide +kernel) ?_
  refine G_r C [(.iand, 1, 0, 0, .null), (.iload_n 0, 1, 0, 0, .null), (.iconst 2, 1, 0, 0, .int (2 : Int32)), (.iushr, 1, 0, 0, .null)] 18 [(0, .int q1)] [.int ((q1.toUInt32 >>> ((2 : Int32).toUInt32 &&& Int32.toUInt32 31)).toInt32), .int (q1 &&& (858993459 : Int32))] [] (by decide +kernel) rfl rfl ?_
  refine G_ldcw C co_8_266 (by decide +kernel) ?_
  refine G_r C [(.iand, 1, 0, 0, .null), (.iadd, 1, 0, 0, .null), (.istore_n 0, 1, 0, 0, .null)] 24 [(0, .int ((q1 &&& (858993459 : Int32)) + (((q1.toUInt32 >>> ((2 : Int32).toUInt32 &&& Int32.toUInt32 31)).toInt32) &&& (858993459 : Int32))))] [] [] (by decide +kernel) rfl rfl ?_
  obtain ⟨q2, hq2, h⟩ := obd h
  have hq2 := Option.some.inj hq2
  rw [hq2]
  refine G_r C [(.iload_n 0, 1, 0, 0, .null), (.iload_n 0, 1, 0, 0, .null), (.iconst 4, 1, 0, 0, .int (4 : Int32)), (.iushr, 1, 0, 0, .null), (.iadd, 1, 0, 0, .null)] 29 [(0, .int q2)] [.int (q2 + ((q2.toUInt32 >>> ((4 : Int32).toUInt32 &&& Int32.toUInt32 31)).toInt32))] [] (by decide +kernel) rfl rfl ?_
  refine G_ldcw C co_8_267 (by decide +kernel) ?_
  refine G_r C [(.iand, 1, 0, 0, .null), (.istore_n 0, 1, 0, 0, .null)] 34 [(0, .int ((q2 + ((q2.toUInt32 >>> ((4 : Int32).toUInt32 &&& Int32.toUInt32 31)).toInt32)) &&& (252645135 : Int32)))] [] [] (by decide +kernel) rfl rfl ?_
  obtain ⟨q3, hq3, h⟩ := obd h
  have hq3 := Option.some.inj hq3
  rw [hq3]
  refine G_r C [(.iload_n 0, 1, 0, 0, .null), (.iload_n 0, 1, 0, 0, .null), (.bipush 8, 2, 0, 0, .int (8 : Int32)), (.iushr, 1, 0, 0, .null), (.iadd, 1, 0, 0, .null), (.istore_n 0, 1, 0, 0, .null), (.iload_n 0, 1, 0, 0, .null), (.iload_n 0, 1, 0, 0, .null), (.bipush 16, 2, 0, 0, .int (16 : Int32)), (.iushr, 1, 0, 0, .null), (.iadd, 1, 0, 0, .null), (.istore_n 0, 1, 0, 0, .null)] 48 [(0, .int ((q3 + ((q3.toUInt32 >>> ((8 : Int32).toUInt32 &&& Int32.toUInt32 31)).toInt32)) + (((q3 + ((q3.toUInt32 >>> ((8 : Int32).toUInt32 &&& Int32.toUInt32 31)).toInt32)).toUInt32 >>> ((16 : Int32).toUInt32 &&& Int32.toUInt32 31)).toInt32)))] [] [] (by decide +kernel) rfl rfl ?_
  obtain ⟨q4, hq4, h⟩ := obd h
  have hq4 := Option.some.inj hq4
  rw [hq4]
  refine G_r C [(.iload_n 0, 1, 0, 0, .null), (.bipush 63, 2, 0, 0, .int (63 : Int32)), (.iand, 1, 0, 0, .null)] 52 [(0, .int q4)] [.int (q4 &&& (63 : Int32))] [] (by decide +kernel) rfl rfl ?_
  have h := Option.some.inj h
  subst h
  exact G_iret C hR (by decide +kernel)
def f_X0_minor (x1 : Int32) (mm : Nat → Int64) : Option Int64 := if x1 < 0 then (some (0 : Int64)) else (if x1 < (16 : Int32) then (if x1 < 0 ∨ 16 ≤ x1.toNatClampNeg then none else some (mm x1.toNatClampNeg)) else (some (0 : Int64)))
set_option maxHeartbeats 4000000 in
set_option maxRecDepth 100000 in
theorem c_X0_minor (cy : Nat → ClassId) (mc : Int32) (mm : Nat → Int64) (x1 : Int32) (res : Int64) (h : f_X0_minor x1 mm = some res) : MG cy yX0_minor cX0_minor 2 (some .long) 0 0 [.ref 0, .int x1] (wMin cy 0 mc mm) (some (.long res)) (wMin cy 0 mc mm) := by
  refine MG_of (o := 0) (lv := [(0, .ref 0), (1, .int x1)]) ⟨by decide +kernel, rfl⟩ (Nat.le_of_ble_eq_true rfl) rfl (fun k C hR => ?_)
  rw [f_X0_minor] at h
  refine G_r C [(.iload_n 1, 1, 0, 0, .null)] 1 [(0, .ref 0), (1, .int x1)] [.int x1] (wMin cy 0 mc mm) (by decide +kernel) rfl rfl ?_
  refine G_if_lt C (off := 9) (tgt := 10) (by decide +kernel) rfl (fun c => ?_) (fun c => ?_)
  · rw [if_pos c] at h
    refine G_r C [(.lconst 0, 1, 0, 0, .long (0 : Int64))] 11 [(0, .ref 0), (1, .int x1)] [.long (0 : Int64)] (wMin cy 0 mc mm) (by decide +kernel) rfl rfl ?_
    refine G_goto C (off := 9) (tgt := 20) (by decide +kernel) rfl ?_
    have h := Option.some.inj h
    subst h
    exact G_lret C hR (by decide +kernel)
  · rw [if_neg c] at h
    refine G_r C [(.iload_n 1, 1, 0, 0, .null), (.bipush 16, 2, 0, 0, .int (16 : Int32))] 7 [(0, .ref 0), (1, .int x1)] [.int (16 : Int32), .int x1] (wMin cy 0 mc mm) (by decide +kernel) rfl rfl ?_
    refine G_icmp_lt C (off := 7) (tgt := 14) (by decide +kernel) rfl (fun c => ?_) (fun c => ?_)
    · rw [if_pos c] at h
      refine G_r C [(.aload_n 0, 1, 0, 0, .null), (.getfield 11, 3, 0, 0, .null), (.iload_n 1, 1, 0, 0, .null)] 19 [(0, .ref 0), (1, .int x1)] [.int x1, .ref 1] (wMin cy 0 mc mm) (by decide +kernel) rfl rfl ?_
      obtain ⟨cg, h⟩ := oob h
      refine G_lald C (a := 1) rfl cg (by decide +kernel) ?_
      have h := Option.some.inj h
      subst h
      exact G_lret C hR (by decide +kernel)
    · rw [if_neg c] at h
      refine G_r C [(.lconst 0, 1, 0, 0, .long (0 : Int64))] 11 [(0, .ref 0), (1, .int x1)] [.long (0 : Int64)] (wMin cy 0 mc mm) (by decide +kernel) rfl rfl ?_
      refine G_goto C (off := 9) (tgt := 20) (by decide +kernel) rfl ?_
      have h := Option.some.inj h
      subst h
      exact G_lret C hR (by decide +kernel)
def f_X0_expand_L14 : Nat → Int32 → Int32 → Int32 → Int64 → Int32 → (Nat → Int64) → Int32 → (Nat → Int32) → Option Int64
  | 0, _, _, _, _, _, _, _, _ => none
  | fu + 1, x2, x3, x4, x5, x7, mm, rK, rf => if (4 : Int32) ≤ x7 then (some x5) else (if (x3 &&& ((1 : Int32) <<< (x7 &&& 31))) = 0 then (f_X0_expand_L14 fu x2 x3 x4 x5 (x7 + (1 : Int32)) mm rK rf) else ((f_X3_at ((x2 + x4) + x7) rK rf).bind fun q2 => (f_X0_minor (x3 ^^^ ((1 : Int32) <<< (x7 &&& 31))) mm).bind fun q3 => (f_J6_bitCount_0f7a4 (x3 >>> ((x7 + (1 : Int32)) &&& 31))).bind fun q4 => if (2 : Int32) = 0 then none else if (q4 - q4 / (2 : Int32) * (2 : Int32)) = 0 then (f_X0_expand_L14 fu x2 x3 x4 (x5 + (q2.toInt64 * q3)) (x7 + (1 : Int32)) mm rK rf) else (f_X0_expand_L14 fu x2 x3 x4 (x5 + (-(q2.toInt64 * q3))) (x7 + (1 : Int32)) mm rK rf)))
def f_X0_expand (x2 : Int32) (x3 : Int32) (mm : Nat → Int64) (rK : Int32) (rf : Nat → Int32) : Option Int64 := (f_J6_bitCount_0f7a4 x3).bind fun q1 => (f_X0_expand_L14 200 x2 x3 (q1 - (1 : Int32)) (0 : Int64) (0 : Int32) mm rK rf).bind fun q5 => some q5
set_option maxHeartbeats 4000000 in
set_option maxRecDepth 100000 in
theorem g_X0_expand_L14 {k : KX} {cy : Nat → ClassId} (C : OK k cX0_expand 0 12 cy 1 21) : ∀ (fu : Nat) (x2 : Int32) (x3 : Int32) (x4 : Int32) (x5 : Int64) (x7 : Int32) (mc : Int32) (mm : Nat → Int64) (rK : Int32) (rf : Nat → Int32) (rg : Nat → Int64) (rpd : Int32) (rpn : Nat → Int64) (res : Int64), (f_X0_expand_L14 fu x2 x3 x4 x5 x7 mm rK rf = some res) → G k 12 101 [(5, .long res)] [] ((wMin cy 0 mc mm) ++ (wRow cy 2 rK rf rg rpd rpn)) → G k 12 14 [(0, .ref 0), (1, .ref 2), (2, .int x2), (3, .int x3), (4, .int x4), (5, .long x5), (7, .int x7)] [] ((wMin cy 0 mc mm) ++ (wRow cy 2 rK rf rg rpd rpn)) := by
  intro fu
  induction fu with
  | zero =>
    intro x2 x3 x4 x5 x7 mc mm rK rf rg rpd rpn res h hex
    rw [f_X0_expand_L14] at h
    cases h
  | succ fu ih =>
    intro x2 x3 x4 x5 x7 mc mm rK rf rg rpd rpn res h hex
    rw [f_X0_expand_L14] at h
    refine G_r C [(.iload 7, 2, 0, 0, .null), (.iconst 4, 1, 0, 0, .int (4 : Int32))] 17 [(0, .ref 0), (1, .ref 2), (2, .int x2), (3, .int x3), (4, .int x4), (5, .long x5), (7, .int x7)] [.int (4 : Int32), .int x7] ((wMin cy 0 mc mm) ++ (wRow cy 2 rK rf rg rpd rpn)) (by decide +kernel) rfl rfl ?_
    refine G_icmp_ge C (off := 84) (tgt := 101) (by decide +kernel) rfl (fun c => ?_) (fun c => ?_)
    · rw [if_pos c] at h
      have h := Option.some.inj h
      subst h
      refine G_lv [5] (lv' := [(5, .long x5)]) rfl ?_
      exact hex
    · rw [if_neg c] at h
      refine G_r C [(.iconst 1, 1, 0, 0, .int (1 : Int32)), (.iload 7, 2, 0, 0, .null), (.ishl, 1, 0, 0, .null), (.istore 8, 2, 0, 0, .null), (.iload_n 3, 1, 0, 0, .null), (.iload 8, 2, 0, 0, .null), (.iand, 1, 0, 0, .null)] 30 [(8, .int ((1 : Int32) <<< (x7 &&& 31))), (0, .ref 0), (1, .ref 2), (2, .int x2), (3, .int x3), (4, .int x4), (5, .long x5), (7, .int x7)] [.int (x3 &&& ((1 : Int32) <<< (x7 &&& 31)))] ((wMin cy 0 mc mm) ++ (wRow cy 2 rK rf rg rpd rpn)) (by decide +kernel) rfl rfl ?_
      refine G_if_eq C (off := 65) (tgt := 95) (by decide +kernel) rfl (fun c => ?_) (fun c => ?_)
      · rw [if_pos c] at h
        refine G_r C [(.iinc 7 1, 3, 0, 0, .int (1 : Int32))] 98 [(7, .int (x7 + (1 : Int32))), (8, .int ((1 : Int32) <<< (x7 &&& 31))), (0, .ref 0), (1, .ref 2), (2, .int x2), (3, .int x3), (4, .int x4), (5, .long x5)] [] ((wMin cy 0 mc mm) ++ (wRow cy 2 rK rf rg rpd rpn)) (by decide +kernel) rfl rfl ?_
        refine G_goto C (off := -84) (tgt := 14) (by decide +kernel) rfl ?_
        refine G_lv [2, 3, 4, 5, 6, 7, 0] (lv' := [(0, .ref 0), (1, .ref 2), (2, .int x2), (3, .int x3), (4, .int x4), (5, .long x5), (7, .int (x7 + (1 : Int32)))]) rfl ?_
        exact ih x2 x3 x4 x5 (x7 + (1 : Int32)) mc mm rK rf rg rpd rpn res h hex
      · rw [if_neg c] at h
        refine G_r C [(.aload_n 1, 1, 0, 0, .null), (.iload_n 2, 1, 0, 0, .null), (.iload 4, 2, 0, 0, .null), (.iadd, 1, 0, 0, .null), (.iload 7, 2, 0, 0, .null), (.iadd, 1, 0, 0, .null)] 41 [(8, .int ((1 : Int32) <<< (x7 &&& 31))), (0, .ref 0), (1, .ref 2), (2, .int x2), (3, .int x3), (4, .int x4), (5, .long x5), (7, .int x7)] [.int ((x2 + x4) + x7), .ref 2] ((wMin cy 0 mc mm) ++ (wRow cy 2 rK rf rg rpd rpn)) (by decide +kernel) rfl rfl ?_
        obtain ⟨q2, hq2, h⟩ := obd h
        refine G_cV C lk_0_35 ⟨Nat.le_of_ble_eq_true rfl, Nat.le_of_ble_eq_true rfl⟩ (by decide +kernel) [2, 3, 4, 5, 6] [.int q2] ((wMin cy 0 mc mm) ++ (wRow cy 2 rK rf rg rpd rpn)) (c_X3_at cy rK rf rg rpd rpn ((x2 + x4) + x7) q2 hq2) rfl rfl (Nat.le_of_ble_eq_true rfl) rfl rfl ⟨rfl, rfl⟩ rfl rfl rfl ?_
        refine G_r C [(.i2l, 1, 0, 0, .null), (.aload_n 0, 1, 0, 0, .null), (.iload_n 3, 1, 0, 0, .null), (.iload 8, 2, 0, 0, .null), (.ixor, 1, 0, 0, .null)] 50 [(8, .int ((1 : Int32) <<< (x7 &&& 31))), (0, .ref 0), (1, .ref 2), (2, .int x2), (3, .int x3), (4, .int x4), (5, .long x5), (7, .int x7)] [.int (x3 ^^^ ((1 : Int32) <<< (x7 &&& 31))), .ref 0, .long q2.toInt64] ((wMin cy 0 mc mm) ++ (wRow cy 2 rK rf rg rpd rpn)) (by decide +kernel) rfl rfl ?_
        obtain ⟨q3, hq3, h⟩ := obd h
        refine G_cV C lk_0_38 ⟨Nat.le_of_ble_eq_true rfl, Nat.le_of_ble_eq_true rfl⟩ (by decide +kernel) [0, 1] [.long q3, .long q2.toInt64] ((wMin cy 0 mc mm) ++ (wRow cy 2 rK rf rg rpd rpn)) (c_X0_minor cy mc mm (x3 ^^^ ((1 : Int32) <<< (x7 &&& 31))) q3 hq3) rfl rfl (Nat.le_of_ble_eq_true rfl) rfl rfl ⟨rfl, rfl⟩ rfl rfl rfl ?_
        refine G_r C [(.lmul, 1, 0, 0, .null), (.lstore 9, 2, 0, 0, .null), (.iload_n 3, 1, 0, 0, .null), (.iload 7, 2, 0, 0, .null), (.iconst 1, 1, 0, 0, .int (1 : Int32)), (.iadd, 1, 0, 0, .null), (.ishr, 1, 0, 0, .null)] 62 [(9, .long (q2.toInt64 * q3)), (8, .int ((1 : Int32) <<< (x7 &&& 31))), (0, .ref 0), (1, .ref 2), (2, .int x2), (3, .int x3), (4, .int x4), (5, .long x5), (7, .int x7)] [.int (x3 >>> ((x7 + (1 : Int32)) &&& 31))] ((wMin cy 0 mc mm) ++ (wRow cy 2 rK rf rg rpd rpn)) (by decide +kernel) rfl rfl ?_
        obtain ⟨q4, hq4, h⟩ := obd h
        refine G_cS C lk_0_29 ⟨Nat.le_of_ble_eq_true rfl, Nat.le_of_ble_eq_true rfl⟩ (by decide +kernel) [.int q4] (c_J6_bitCount_0f7a4 cy (x3 >>> ((x7 + (1 : Int32)) &&& 31)) q4 hq4) rfl rfl (Nat.le_of_ble_eq_true rfl) rfl ?_
        refine G_r C [(.iconst 2, 1, 0, 0, .int (2 : Int32))] 66 [(9, .long (q2.toInt64 * q3)), (8, .int ((1 : Int32) <<< (x7 &&& 31))), (0, .ref 0), (1, .ref 2), (2, .int x2), (3, .int x3), (4, .int x4), (5, .long x5), (7, .int x7)] [.int (2 : Int32), .int q4] ((wMin cy 0 mc mm) ++ (wRow cy 2 rK rf rg rpd rpn)) (by decide +kernel) rfl rfl ?_
        obtain ⟨cg, h⟩ := oob h
        refine G_irem C (by decide +kernel) cg ?_
        refine G_if_ne C (off := 7) (tgt := 74) (by decide +kernel) rfl (fun c => ?_) (fun c => ?_)
        · rw [if_neg c] at h
          refine G_r C [(.iconst 0, 1, 0, 0, .int (0 : Int32)), (.istore 11, 2, 0, 0, .null), (.lload 5, 2, 0, 0, .null), (.iload 11, 2, 0, 0, .null)] 81 [(11, .int (0 : Int32)), (9, .long (q2.toInt64 * q3)), (8, .int ((1 : Int32) <<< (x7 &&& 31))), (0, .ref 0), (1, .ref 2), (2, .int x2), (3, .int x3), (4, .int x4), (5, .long x5), (7, .int x7)] [.int (0 : Int32), .long x5] ((wMin cy 0 mc mm) ++ (wRow cy 2 rK rf rg rpd rpn)) (by decide +kernel) rfl rfl ?_
          refine G_if_eq C (off := 8) (tgt := 89) (by decide +kernel) rfl (fun _ => ?_) (fun c => absurd (by decide) c)
          refine G_r C [(.lload 9, 2, 0, 0, .null), (.lneg, 1, 0, 0, .null), (.ladd, 1, 0, 0, .null), (.lstore 5, 2, 0, 0, .null), (.iinc 7 1, 3, 0, 0, .int (1 : Int32))] 98 [(7, .int (x7 + (1 : Int32))), (5, .long (x5 + (-(q2.toInt64 * q3)))), (11, .int (0 : Int32)), (9, .long (q2.toInt64 * q3)), (8, .int ((1 : Int32) <<< (x7 &&& 31))), (0, .ref 0), (1, .ref 2), (2, .int x2), (3, .int x3), (4, .int x4)] [] ((wMin cy 0 mc mm) ++ (wRow cy 2 rK rf rg rpd rpn)) (by decide +kernel) rfl rfl ?_
          refine G_goto C (off := -84) (tgt := 14) (by decide +kernel) rfl ?_
          refine G_lv [5, 6, 7, 8, 9, 1, 0] (lv' := [(0, .ref 0), (1, .ref 2), (2, .int x2), (3, .int x3), (4, .int x4), (5, .long (x5 + (-(q2.toInt64 * q3)))), (7, .int (x7 + (1 : Int32)))]) rfl ?_
          exact ih x2 x3 x4 (x5 + (-(q2.toInt64 * q3))) (x7 + (1 : Int32)) mc mm rK rf rg rpd rpn res h hex
        · rw [if_pos c] at h
          refine G_r C [(.iconst 1, 1, 0, 0, .int (1 : Int32))] 71 [(9, .long (q2.toInt64 * q3)), (8, .int ((1 : Int32) <<< (x7 &&& 31))), (0, .ref 0), (1, .ref 2), (2, .int x2), (3, .int x3), (4, .int x4), (5, .long x5), (7, .int x7)] [.int (1 : Int32)] ((wMin cy 0 mc mm) ++ (wRow cy 2 rK rf rg rpd rpn)) (by decide +kernel) rfl rfl ?_
          refine G_goto C (off := 4) (tgt := 75) (by decide +kernel) rfl ?_
          refine G_r C [(.istore 11, 2, 0, 0, .null), (.lload 5, 2, 0, 0, .null), (.iload 11, 2, 0, 0, .null)] 81 [(11, .int (1 : Int32)), (9, .long (q2.toInt64 * q3)), (8, .int ((1 : Int32) <<< (x7 &&& 31))), (0, .ref 0), (1, .ref 2), (2, .int x2), (3, .int x3), (4, .int x4), (5, .long x5), (7, .int x7)] [.int (1 : Int32), .long x5] ((wMin cy 0 mc mm) ++ (wRow cy 2 rK rf rg rpd rpn)) (by decide +kernel) rfl rfl ?_
          refine G_if_eq C (off := 8) (tgt := 89) (by decide +kernel) rfl (fun c => absurd c (by decide)) (fun _ => ?_)
          refine G_r C [(.lload 9, 2, 0, 0, .null)] 86 [(11, .int (1 : Int32)), (9, .long (q2.toInt64 * q3)), (8, .int ((1 : Int32) <<< (x7 &&& 31))), (0, .ref 0), (1, .ref 2), (2, .int x2), (3, .int x3), (4, .int x4), (5, .long x5), (7, .int x7)] [.long (q2.toInt64 * q3), .long x5] ((wMin cy 0 mc mm) ++ (wRow cy 2 rK rf rg rpd rpn)) (by decide +kernel) rfl rfl ?_
          refine G_goto C (off := 6) (tgt := 92) (by decide +kernel) rfl ?_
          refine G_r C [(.ladd, 1, 0, 0, .null), (.lstore 5, 2, 0, 0, .null), (.iinc 7 1, 3, 0, 0, .int (1 : Int32))] 98 [(7, .int (x7 + (1 : Int32))), (5, .long (x5 + (q2.toInt64 * q3))), (11, .int (1 : Int32)), (9, .long (q2.toInt64 * q3)), (8, .int ((1 : Int32) <<< (x7 &&& 31))), (0, .ref 0), (1, .ref 2), (2, .int x2), (3, .int x3), (4, .int x4)] [] ((wMin cy 0 mc mm) ++ (wRow cy 2 rK rf rg rpd rpn)) (by decide +kernel) rfl rfl ?_
          refine G_goto C (off := -84) (tgt := 14) (by decide +kernel) rfl ?_
          refine G_lv [5, 6, 7, 8, 9, 1, 0] (lv' := [(0, .ref 0), (1, .ref 2), (2, .int x2), (3, .int x3), (4, .int x4), (5, .long (x5 + (q2.toInt64 * q3))), (7, .int (x7 + (1 : Int32)))]) rfl ?_
          exact ih x2 x3 x4 (x5 + (q2.toInt64 * q3)) (x7 + (1 : Int32)) mc mm rK rf rg rpd rpn res h hex
set_option maxHeartbeats 4000000 in
set_option maxRecDepth 100000 in
theorem c_X0_expand (cy : Nat → ClassId) (mc : Int32) (mm : Nat → Int64) (rK : Int32) (rf : Nat → Int32) (rg : Nat → Int64) (rpd : Int32) (rpn : Nat → Int64) (x2 : Int32) (x3 : Int32) (res : Int64) (h : f_X0_expand x2 x3 mm rK rf = some res) : MG cy yX0_expand cX0_expand 12 (some .long) 1 21 [.ref 0, .ref 2, .int x2, .int x3] ((wMin cy 0 mc mm) ++ (wRow cy 2 rK rf rg rpd rpn)) (some (.long res)) ((wMin cy 0 mc mm) ++ (wRow cy 2 rK rf rg rpd rpn)) := by
  refine MG_of (o := 0) (lv := [(0, .ref 0), (1, .ref 2), (2, .int x2), (3, .int x3)]) ⟨by decide +kernel, rfl⟩ (Nat.le_of_ble_eq_true rfl) rfl (fun k C hR => ?_)
  rw [f_X0_expand] at h
  refine G_r C [(.iload_n 3, 1, 0, 0, .null)] 1 [(0, .ref 0), (1, .ref 2), (2, .int x2), (3, .int x3)] [.int x3] ((wMin cy 0 mc mm) ++ (wRow cy 2 rK rf rg rpd rpn)) (by decide +kernel) rfl rfl ?_
  obtain ⟨q1, hq1, h⟩ := obd h
  refine G_cS C lk_0_29 ⟨Nat.le_of_ble_eq_true rfl, Nat.le_of_ble_eq_true rfl⟩ (by decide +kernel) [.int q1] (c_J6_bitCount_0f7a4 cy x3 q1 hq1) rfl rfl (Nat.le_of_ble_eq_true rfl) rfl ?_
  refine G_r C [(.iconst 1, 1, 0, 0, .int (1 : Int32)), (.isub, 1, 0, 0, .null), (.istore 4, 2, 0, 0, .null), (.lconst 0, 1, 0, 0, .long (0 : Int64)), (.lstore 5, 2, 0, 0, .null), (.iconst 0, 1, 0, 0, .int (0 : Int32)), (.istore 7, 2, 0, 0, .null)] 14 [(7, .int (0 : Int32)), (5, .long (0 : Int64)), (4, .int (q1 - (1 : Int32))), (0, .ref 0), (1, .ref 2), (2, .int x2), (3, .int x3)] [] ((wMin cy 0 mc mm) ++ (wRow cy 2 rK rf rg rpd rpn)) (by decide +kernel) rfl rfl ?_
  obtain ⟨q5, hq5, h⟩ := obd h
  refine G_lv [3, 4, 5, 6, 2, 1, 0] (lv' := [(0, .ref 0), (1, .ref 2), (2, .int x2), (3, .int x3), (4, .int (q1 - (1 : Int32))), (5, .long (0 : Int64)), (7, .int (0 : Int32))]) rfl ?_
  refine g_X0_expand_L14 C 200 x2 x3 (q1 - (1 : Int32)) (0 : Int64) (0 : Int32) mc mm rK rf rg rpd rpn q5 hq5 ?_
  refine G_r C [(.lload 5, 2, 0, 0, .null)] 103 [(5, .long q5)] [.long q5] ((wMin cy 0 mc mm) ++ (wRow cy 2 rK rf rg rpd rpn)) (by decide +kernel) rfl rfl ?_
  have h := Option.some.inj h
  subst h
  exact G_lret C hR (by decide +kernel)
def f_X0_fill_L17 : Nat → Int32 → Int32 → (Nat → Int64) → Int32 → (Nat → Int32) → Option (Nat → Int64)
  | 0, _, _, _, _, _ => none
  | fu + 1, x2, x3, mm, rK, rf => if (16 : Int32) ≤ x3 then (some mm) else ((f_X0_expand x2 x3 mm rK rf).bind fun q2 => if x3 < 0 ∨ 16 ≤ x3.toNatClampNeg then none else f_X0_fill_L17 fu x2 (x3 + (1 : Int32)) (vp_updL mm x3.toNatClampNeg q2) rK rf)
def f_X0_fill (x2 : Int32) (mm : Nat → Int64) (rK : Int32) (rf : Nat → Int32) : Option (Int32 × (Nat → Int64)) := (f_X3_size rK).bind fun q1 => if (0 : Int32) < 0 ∨ 16 ≤ (0 : Int32).toNatClampNeg then none else (f_X0_fill_L17 200 x2 (1 : Int32) (vp_updL mm (0 : Int32).toNatClampNeg (1 : Int64)) rK rf).bind fun q3 => some (q1, q3)
set_option maxHeartbeats 4000000 in
set_option maxRecDepth 100000 in
theorem g_X0_fill_L17 {k : KX} {cy : Nat → ClassId} (C : OK k cX0_fill 0 4 cy 2 52) : ∀ (fu : Nat) (x2 : Int32) (x3 : Int32) (mc : Int32) (mm : Nat → Int64) (rK : Int32) (rf : Nat → Int32) (rg : Nat → Int64) (rpd : Int32) (rpn : Nat → Int64) (res : (Nat → Int64)), (f_X0_fill_L17 fu x2 x3 mm rK rf = some res) → G k 4 42 [] [] ((wMin cy 0 mc res) ++ (wRow cy 2 rK rf rg rpd rpn)) → G k 4 17 [(0, .ref 0), (1, .ref 2), (2, .int x2), (3, .int x3)] [] ((wMin cy 0 mc mm) ++ (wRow cy 2 rK rf rg rpd rpn)) := by
  intro fu
  induction fu with
  | zero =>
    intro x2 x3 mc mm rK rf rg rpd rpn res h hex
    rw [f_X0_fill_L17] at h
    cases h
  | succ fu ih =>
    intro x2 x3 mc mm rK rf rg rpd rpn res h hex
    rw [f_X0_fill_L17] at h
    refine G_r C [(.iload_n 3, 1, 0, 0, .null), (.bipush 16, 2, 0, 0, .int (16 : Int32))] 20 [(0, .ref 0), (1, .ref 2), (2, .int x2), (3, .int x3)] [.int (16 : Int32), .int x3] ((wMin cy 0 mc mm) ++ (wRow cy 2 rK rf rg rpd rpn)) (by decide +kernel) rfl rfl ?_
    refine G_icmp_ge C (off := 22) (tgt := 42) (by decide +kernel) rfl (fun c => ?_) (fun c => ?_)
    · rw [if_pos c] at h
      have h := Option.some.inj h
      subst h
      refine G_lv [] (lv' := []) rfl ?_
      exact hex
    · rw [if_neg c] at h
      refine G_r C [(.aload_n 0, 1, 0, 0, .null), (.getfield 11, 3, 0, 0, .null), (.iload_n 3, 1, 0, 0, .null), (.aload_n 0, 1, 0, 0, .null), (.aload_n 1, 1, 0, 0, .null), (.iload_n 2, 1, 0, 0, .null), (.iload_n 3, 1, 0, 0, .null)] 32 [(0, .ref 0), (1, .ref 2), (2, .int x2), (3, .int x3)] [.int x3, .int x2, .ref 2, .ref 0, .int x3, .ref 1] ((wMin cy 0 mc mm) ++ (wRow cy 2 rK rf rg rpd rpn)) (by decide +kernel) rfl rfl ?_
      obtain ⟨q2, hq2, h⟩ := obd h
      refine G_c0 C lk_0_25 ⟨Nat.le_of_ble_eq_true rfl, Nat.le_of_ble_eq_true rfl⟩ (by decide +kernel) [.long q2, .int x3, .ref 1] (c_X0_expand cy mc mm rK rf rg rpd rpn x2 x3 q2 hq2) rfl rfl (Nat.le_of_ble_eq_true rfl) ⟨rfl, rfl⟩ rfl ?_
      obtain ⟨cg, h⟩ := oob h
      refine G_last C (a := 1) (w' := ((wMin cy 0 mc (vp_updL mm x3.toNatClampNeg q2)) ++ (wRow cy 2 rK rf rg rpd rpn))) rfl cg (by decide +kernel) rfl ?_
      refine G_r C [(.iinc 3 1, 3, 0, 0, .int (1 : Int32))] 39 [(3, .int (x3 + (1 : Int32))), (0, .ref 0), (1, .ref 2), (2, .int x2)] [] ((wMin cy 0 mc (vp_updL mm x3.toNatClampNeg q2)) ++ (wRow cy 2 rK rf rg rpd rpn)) (by decide +kernel) rfl rfl ?_
      refine G_goto C (off := -22) (tgt := 17) (by decide +kernel) rfl ?_
      refine G_lv [1, 2, 3, 0] (lv' := [(0, .ref 0), (1, .ref 2), (2, .int x2), (3, .int (x3 + (1 : Int32)))]) rfl ?_
      exact ih x2 (x3 + (1 : Int32)) mc (vp_updL mm x3.toNatClampNeg q2) rK rf rg rpd rpn res h hex
set_option maxHeartbeats 4000000 in
set_option maxRecDepth 100000 in
theorem c_X0_fill (cy : Nat → ClassId) (mc : Int32) (mm : Nat → Int64) (rK : Int32) (rf : Nat → Int32) (rg : Nat → Int64) (rpd : Int32) (rpn : Nat → Int64) (x2 : Int32) (res : (Int32 × (Nat → Int64))) (h : f_X0_fill x2 mm rK rf = some res) : MG cy yX0_fill cX0_fill 4 none 2 52 [.ref 0, .ref 2, .int x2] ((wMin cy 0 mc mm) ++ (wRow cy 2 rK rf rg rpd rpn)) none ((wMin cy 0 res.1 res.2) ++ (wRow cy 2 rK rf rg rpd rpn)) := by
  refine MG_of (o := 0) (lv := [(0, .ref 0), (1, .ref 2), (2, .int x2)]) ⟨by decide +kernel, rfl⟩ (Nat.le_of_ble_eq_true rfl) rfl (fun k C hR => ?_)
  rw [f_X0_fill] at h
  refine G_r C [(.aload_n 0, 1, 0, 0, .null), (.aload_n 1, 1, 0, 0, .null)] 2 [(0, .ref 0), (1, .ref 2), (2, .int x2)] [.ref 2, .ref 0] ((wMin cy 0 mc mm) ++ (wRow cy 2 rK rf rg rpd rpn)) (by decide +kernel) rfl rfl ?_
  obtain ⟨q1, hq1, h⟩ := obd h
  refine G_cV C lk_0_15 ⟨Nat.le_of_ble_eq_true rfl, Nat.le_of_ble_eq_true rfl⟩ (by decide +kernel) [2, 3, 4, 5, 6] [.int q1, .ref 0] ((wMin cy 0 mc mm) ++ (wRow cy 2 rK rf rg rpd rpn)) (c_X3_size cy rK rf rg rpd rpn q1 hq1) rfl rfl (Nat.le_of_ble_eq_true rfl) rfl rfl ⟨rfl, rfl⟩ rfl rfl rfl ?_
  refine G_r C [(.putfield 21, 3, 0, 1, .null), (.aload_n 0, 1, 0, 0, .null), (.getfield 11, 3, 0, 0, .null), (.iconst 0, 1, 0, 0, .int (0 : Int32)), (.lconst 1, 1, 0, 0, .long (1 : Int64))] 14 [(0, .ref 0), (1, .ref 2), (2, .int x2)] [.long (1 : Int64), .int (0 : Int32), .ref 1] ((wMin cy 0 q1 mm) ++ (wRow cy 2 rK rf rg rpd rpn)) (by decide +kernel) rfl rfl ?_
  obtain ⟨cg, h⟩ := oob h
  refine G_last C (a := 1) (w' := ((wMin cy 0 q1 (vp_updL mm (0 : Int32).toNatClampNeg (1 : Int64))) ++ (wRow cy 2 rK rf rg rpd rpn))) rfl cg (by decide +kernel) rfl ?_
  refine G_r C [(.iconst 1, 1, 0, 0, .int (1 : Int32)), (.istore_n 3, 1, 0, 0, .null)] 17 [(3, .int (1 : Int32)), (0, .ref 0), (1, .ref 2), (2, .int x2)] [] ((wMin cy 0 q1 (vp_updL mm (0 : Int32).toNatClampNeg (1 : Int64))) ++ (wRow cy 2 rK rf rg rpd rpn)) (by decide +kernel) rfl rfl ?_
  obtain ⟨q3, hq3, h⟩ := obd h
  refine G_lv [1, 2, 3, 0] (lv' := [(0, .ref 0), (1, .ref 2), (2, .int x2), (3, .int (1 : Int32))]) rfl ?_
  refine g_X0_fill_L17 C 200 x2 (1 : Int32) q1 (vp_updL mm (0 : Int32).toNatClampNeg (1 : Int64)) rK rf rg rpd rpn q3 hq3 ?_
  have h := Option.some.inj h
  subst h
  exact G_vret C hR (by decide +kernel)
def f_X0_det (x1 : Int32) (mm : Nat → Int64) : Option Int64 := (f_X6_isOutside x1 (0 : Int32) (4 : Int32)).bind fun q1 => if (bI q1) = 0 then ((f_X0_minor (((1 : Int32) <<< (x1 &&& 31)) - (1 : Int32)) mm).bind fun q2 => some q2) else (some (0 : Int64))
set_option maxHeartbeats 4000000 in
set_option maxRecDepth 100000 in
theorem c_X0_det (cy : Nat → ClassId) (mc : Int32) (mm : Nat → Int64) (x1 : Int32) (res : Int64) (h : f_X0_det x1 mm = some res) : MG cy yX0_det cX0_det 2 (some .long) 1 22 [.ref 0, .int x1] (wMin cy 0 mc mm) (some (.long res)) (wMin cy 0 mc mm) := by
  refine MG_of (o := 0) (lv := [(0, .ref 0), (1, .int x1)]) ⟨by decide +kernel, rfl⟩ (Nat.le_of_ble_eq_true rfl) rfl (fun k C hR => ?_)
  rw [f_X0_det] at h
  refine G_r C [(.iload_n 1, 1, 0, 0, .null), (.iconst 0, 1, 0, 0, .int (0 : Int32)), (.iconst 4, 1, 0, 0, .int (4 : Int32))] 3 [(0, .ref 0), (1, .int x1)] [.int (4 : Int32), .int (0 : Int32), .int x1] (wMin cy 0 mc mm) (by decide +kernel) rfl rfl ?_
  obtain ⟨q1, hq1, h⟩ := obd h
  refine G_cN C lk_0_42 ⟨Nat.le_of_ble_eq_true rfl, Nat.le_of_ble_eq_true rfl⟩ (by decide +kernel) [.int (bI q1)] (c_X6_isOutside cy x1 (0 : Int32) (4 : Int32) q1 hq1) rfl rfl (Nat.le_of_ble_eq_true rfl) rfl ?_
  refine G_if_eq C (off := 7) (tgt := 13) (by decide +kernel) rfl (fun c => ?_) (fun c => ?_)
  · rw [if_pos c] at h
    refine G_r C [(.aload_n 0, 1, 0, 0, .null), (.iconst 1, 1, 0, 0, .int (1 : Int32)), (.iload_n 1, 1, 0, 0, .null), (.ishl, 1, 0, 0, .null), (.iconst 1, 1, 0, 0, .int (1 : Int32)), (.isub, 1, 0, 0, .null)] 19 [(0, .ref 0), (1, .int x1)] [.int (((1 : Int32) <<< (x1 &&& 31)) - (1 : Int32)), .ref 0] (wMin cy 0 mc mm) (by decide +kernel) rfl rfl ?_
    obtain ⟨q2, hq2, h⟩ := obd h
    refine G_c0 C lk_0_38 ⟨Nat.le_of_ble_eq_true rfl, Nat.le_of_ble_eq_true rfl⟩ (by decide +kernel) [.long q2] (c_X0_minor cy mc mm (((1 : Int32) <<< (x1 &&& 31)) - (1 : Int32)) q2 hq2) rfl rfl (Nat.le_of_ble_eq_true rfl) ⟨rfl, rfl⟩ rfl ?_
    have h := Option.some.inj h
    subst h
    exact G_lret C hR (by decide +kernel)
  · rw [if_neg c] at h
    refine G_r C [(.lconst 0, 1, 0, 0, .long (0 : Int64))] 10 [(0, .ref 0), (1, .int x1)] [.long (0 : Int64)] (wMin cy 0 mc mm) (by decide +kernel) rfl rfl ?_
    refine G_goto C (off := 12) (tgt := 22) (by decide +kernel) rfl ?_
    have h := Option.some.inj h
    subst h
    exact G_lret C hR (by decide +kernel)
def f_X6_determinant (x1 : Int32) (x2 : Int32) (kb : Int32) (kn : Int32) (kf : Int32) (rK : Int32) (rf : Nat → Int32) (nc : Int32) (nm : Nat → Int64) : Option (Int64 × Int32 × Int32 × Int32 × Int32 × (Nat → Int64)) := (f_X6_isOutside x1 (0 : Int32) (6 : Int32)).bind fun q1 => if (bI q1) = 0 then ((f_X6_isOutside x2 (0 : Int32) (4 : Int32)).bind fun q3 => if (bI q3) = 0 then ((f_X3_hasTable x1 x2 rK).bind fun q4 => if (bI q4) = 0 then ((f_X6_refuse (-1000002 : Int32) kb kn kf).bind fun q7 => some (q7.1.toInt64, q7.2.1, q7.2.2.1, q7.2.2.2, nc, nm)) else ((f_X0_fill x1 nm rK rf).bind fun q5 => (f_X0_det x2 q5.2).bind fun q6 => some (q6, kb, kn, kf, q5.1, q5.2))) else ((f_X6_refuse (-1000001 : Int32) kb kn kf).bind fun q8 => some (q8.1.toInt64, q8.2.1, q8.2.2.1, q8.2.2.2, nc, nm))) else ((f_X6_refuse (-1000001 : Int32) kb kn kf).bind fun q2 => some (q2.1.toInt64, q2.2.1, q2.2.2.1, q2.2.2.2, nc, nm))
set_option maxHeartbeats 4000000 in
set_option maxRecDepth 100000 in
theorem c_X6_determinant (cy : Nat → ClassId) (kb : Int32) (kn : Int32) (kf : Int32) (rK : Int32) (rf : Nat → Int32) (rg : Nat → Int64) (rpd : Int32) (rpn : Nat → Int64) (sK : Int32) (sf : Nat → Int32) (sg : Nat → Int64) (spd : Int32) (spn : Nat → Int64) (mc : Int32) (mm : Nat → Int64) (nc : Int32) (nm : Nat → Int64) (pd : Int32) (pn : Nat → Int64) (vo : Int32) (vd : Int32) (vs : Nat → Int32) (tl : Int32) (tb : Nat → Int32) (eo : Int32) (et : Int32) (ed : Int32) (em : Bool) (ef : Int32) (ez : Int32) (ek : Nat → Int32) (es : Nat → Int32) (en : Nat → Int32) (fi : Nat → Int32) (x1 : Int32) (x2 : Int32) (res : (Int64 × Int32 × Int32 × Int32 × Int32 × (Nat → Int64))) (h : f_X6_determinant x1 x2 kb kn kf rK rf nc nm = some res) : MG cy yX6_determinant cX6_determinant 3 (some .long) 3 75 [.ref 0, .int x1, .int x2] (wSR cy kb kn kf rK rf rg rpd rpn sK sf sg spd spn mc mm nc nm pd pn vo vd vs tl tb eo et ed em ef ez ek es en fi) (some (.long res.1)) (wSR cy res.2.1 res.2.2.1 res.2.2.2.1 rK rf rg rpd rpn sK sf sg spd spn mc mm res.2.2.2.2.1 res.2.2.2.2.2 pd pn vo vd vs tl tb eo et ed em ef ez ek es en fi) := by
  refine MG_of (o := 6) (lv := [(0, .ref 0), (1, .int x1), (2, .int x2)]) ⟨by decide +kernel, rfl⟩ (Nat.le_of_ble_eq_true rfl) rfl (fun k C hR => ?_)
  rw [f_X6_determinant] at h
  refine G_r C [(.iload_n 1, 1, 0, 0, .null), (.iconst 0, 1, 0, 0, .int (0 : Int32)), (.bipush 6, 2, 0, 0, .int (6 : Int32))] 4 [(0, .ref 0), (1, .int x1), (2, .int x2)] [.int (6 : Int32), .int (0 : Int32), .int x1] (wSR cy kb kn kf rK rf rg rpd rpn sK sf sg spd spn mc mm nc nm pd pn vo vd vs tl tb eo et ed em ef ez ek es en fi) (by decide +kernel) rfl rfl ?_
  obtain ⟨q1, hq1, h⟩ := obd h
  refine G_cS C lk_6_101 ⟨Nat.le_of_ble_eq_true rfl, Nat.le_of_ble_eq_true rfl⟩ (by decide +kernel) [.int (bI q1)] (c_X6_isOutside cy x1 (0 : Int32) (6 : Int32) q1 hq1) rfl rfl (Nat.le_of_ble_eq_true rfl) rfl ?_
  refine G_if_ne C (off := 12) (tgt := 19) (by decide +kernel) rfl (fun c => ?_) (fun c => ?_)
  · rw [if_neg c] at h
    refine G_r C [(.aload_n 0, 1, 0, 0, .null)] 20 [(0, .ref 0), (1, .int x1), (2, .int x2)] [.ref 0] (wSR cy kb kn kf rK rf rg rpd rpn sK sf sg spd spn mc mm nc nm pd pn vo vd vs tl tb eo et ed em ef ez ek es en fi) (by decide +kernel) rfl rfl ?_
    refine G_ldc C co_6_105 (by decide +kernel) ?_
    obtain ⟨q2, hq2, h⟩ := obd h
    refine G_c0 C lk_6_73 ⟨Nat.le_of_ble_eq_true rfl, Nat.le_of_ble_eq_true rfl⟩ (by decide +kernel) [.int q2.1] (c_X6_refuse cy kb kn kf rK rf rg rpd rpn sK sf sg spd spn mc mm nc nm pd pn vo vd vs tl tb eo et ed em ef ez ek es en fi (-1000001 : Int32) q2 hq2) rfl rfl (Nat.le_of_ble_eq_true rfl) ⟨rfl, rfl⟩ rfl ?_
    refine G_r C [(.i2l, 1, 0, 0, .null)] 26 [(0, .ref 0), (1, .int x1), (2, .int x2)] [.long q2.1.toInt64] (wSR cy q2.2.1 q2.2.2.1 q2.2.2.2 rK rf rg rpd rpn sK sf sg spd spn mc mm nc nm pd pn vo vd vs tl tb eo et ed em ef ez ek es en fi) (by decide +kernel) rfl rfl ?_
    have h := Option.some.inj h
    subst h
    exact G_lret C hR (by decide +kernel)
  · rw [if_pos c] at h
    refine G_r C [(.iload_n 2, 1, 0, 0, .null), (.iconst 0, 1, 0, 0, .int (0 : Int32)), (.iconst 4, 1, 0, 0, .int (4 : Int32))] 13 [(0, .ref 0), (1, .int x1), (2, .int x2)] [.int (4 : Int32), .int (0 : Int32), .int x2] (wSR cy kb kn kf rK rf rg rpd rpn sK sf sg spd spn mc mm nc nm pd pn vo vd vs tl tb eo et ed em ef ez ek es en fi) (by decide +kernel) rfl rfl ?_
    obtain ⟨q3, hq3, h⟩ := obd h
    refine G_cS C lk_6_101 ⟨Nat.le_of_ble_eq_true rfl, Nat.le_of_ble_eq_true rfl⟩ (by decide +kernel) [.int (bI q3)] (c_X6_isOutside cy x2 (0 : Int32) (4 : Int32) q3 hq3) rfl rfl (Nat.le_of_ble_eq_true rfl) rfl ?_
    refine G_if_eq C (off := 11) (tgt := 27) (by decide +kernel) rfl (fun c => ?_) (fun c => ?_)
    · rw [if_pos c] at h
      refine G_r C [(.aload_n 0, 1, 0, 0, .null), (.getfield 12, 3, 6, 0, .null), (.iload_n 1, 1, 0, 0, .null), (.iload_n 2, 1, 0, 0, .null)] 33 [(0, .ref 0), (1, .int x1), (2, .int x2)] [.int x2, .int x1, .ref 1] (wSR cy kb kn kf rK rf rg rpd rpn sK sf sg spd spn mc mm nc nm pd pn vo vd vs tl tb eo et ed em ef ez ek es en fi) (by decide +kernel) rfl rfl ?_
      obtain ⟨q4, hq4, h⟩ := obd h
      refine G_cV C lk_6_106 ⟨Nat.le_of_ble_eq_true rfl, Nat.le_of_ble_eq_true rfl⟩ (by decide +kernel) [1, 2, 3, 4, 5] [.int (bI q4)] (wSR cy kb kn kf rK rf rg rpd rpn sK sf sg spd spn mc mm nc nm pd pn vo vd vs tl tb eo et ed em ef ez ek es en fi) (c_X3_hasTable cy rK rf rg rpd rpn x1 x2 q4 hq4) rfl rfl (Nat.le_of_ble_eq_true rfl) rfl rfl ⟨rfl, rfl⟩ rfl rfl rfl ?_
      refine G_if_ne C (off := 11) (tgt := 47) (by decide +kernel) rfl (fun c => ?_) (fun c => ?_)
      · rw [if_neg c] at h
        refine G_r C [(.aload_n 0, 1, 0, 0, .null), (.getfield 26, 3, 6, 3, .null), (.aload_n 0, 1, 0, 0, .null), (.getfield 12, 3, 6, 0, .null), (.iload_n 1, 1, 0, 0, .null)] 56 [(0, .ref 0), (1, .int x1), (2, .int x2)] [.int x1, .ref 1, .ref 13] (wSR cy kb kn kf rK rf rg rpd rpn sK sf sg spd spn mc mm nc nm pd pn vo vd vs tl tb eo et ed em ef ez ek es en fi) (by decide +kernel) rfl rfl ?_
        obtain ⟨q5, hq5, h⟩ := obd h
        refine G_cV C lk_6_111 ⟨Nat.le_of_ble_eq_true rfl, Nat.le_of_ble_eq_true rfl⟩ (by decide +kernel) [13, 14, 1, 2, 3, 4, 5] [] (wSR cy kb kn kf rK rf rg rpd rpn sK sf sg spd spn mc mm q5.1 q5.2 pd pn vo vd vs tl tb eo et ed em ef ez ek es en fi) (c_X0_fill cy nc nm rK rf rg rpd rpn x1 q5 hq5) rfl rfl (Nat.le_of_ble_eq_true rfl) rfl rfl ⟨rfl, rfl⟩ rfl rfl rfl ?_
        refine G_r C [(.aload_n 0, 1, 0, 0, .null), (.getfield 26, 3, 6, 3, .null), (.iload_n 2, 1, 0, 0, .null)] 64 [(0, .ref 0), (1, .int x1), (2, .int x2)] [.int x2, .ref 13] (wSR cy kb kn kf rK rf rg rpd rpn sK sf sg spd spn mc mm q5.1 q5.2 pd pn vo vd vs tl tb eo et ed em ef ez ek es en fi) (by decide +kernel) rfl rfl ?_
        obtain ⟨q6, hq6, h⟩ := obd h
        refine G_cV C lk_6_115 ⟨Nat.le_of_ble_eq_true rfl, Nat.le_of_ble_eq_true rfl⟩ (by decide +kernel) [13, 14] [.long q6] (wSR cy kb kn kf rK rf rg rpd rpn sK sf sg spd spn mc mm q5.1 q5.2 pd pn vo vd vs tl tb eo et ed em ef ez ek es en fi) (c_X0_det cy q5.1 q5.2 x2 q6 hq6) rfl rfl (Nat.le_of_ble_eq_true rfl) rfl rfl ⟨rfl, rfl⟩ rfl rfl rfl ?_
        have h := Option.some.inj h
        subst h
        exact G_lret C hR (by decide +kernel)
      · rw [if_pos c] at h
        refine G_r C [(.aload_n 0, 1, 0, 0, .null)] 40 [(0, .ref 0), (1, .int x1), (2, .int x2)] [.ref 0] (wSR cy kb kn kf rK rf rg rpd rpn sK sf sg spd spn mc mm nc nm pd pn vo vd vs tl tb eo et ed em ef ez ek es en fi) (by decide +kernel) rfl rfl ?_
        refine G_ldc C co_6_110 (by decide +kernel) ?_
        obtain ⟨q7, hq7, h⟩ := obd h
        refine G_c0 C lk_6_73 ⟨Nat.le_of_ble_eq_true rfl, Nat.le_of_ble_eq_true rfl⟩ (by decide +kernel) [.int q7.1] (c_X6_refuse cy kb kn kf rK rf rg rpd rpn sK sf sg spd spn mc mm nc nm pd pn vo vd vs tl tb eo et ed em ef ez ek es en fi (-1000002 : Int32) q7 hq7) rfl rfl (Nat.le_of_ble_eq_true rfl) ⟨rfl, rfl⟩ rfl ?_
        refine G_r C [(.i2l, 1, 0, 0, .null)] 46 [(0, .ref 0), (1, .int x1), (2, .int x2)] [.long q7.1.toInt64] (wSR cy q7.2.1 q7.2.2.1 q7.2.2.2 rK rf rg rpd rpn sK sf sg spd spn mc mm nc nm pd pn vo vd vs tl tb eo et ed em ef ez ek es en fi) (by decide +kernel) rfl rfl ?_
        have h := Option.some.inj h
        subst h
        exact G_lret C hR (by decide +kernel)
    · rw [if_neg c] at h
      refine G_r C [(.aload_n 0, 1, 0, 0, .null)] 20 [(0, .ref 0), (1, .int x1), (2, .int x2)] [.ref 0] (wSR cy kb kn kf rK rf rg rpd rpn sK sf sg spd spn mc mm nc nm pd pn vo vd vs tl tb eo et ed em ef ez ek es en fi) (by decide +kernel) rfl rfl ?_
      refine G_ldc C co_6_105 (by decide +kernel) ?_
      obtain ⟨q8, hq8, h⟩ := obd h
      refine G_c0 C lk_6_73 ⟨Nat.le_of_ble_eq_true rfl, Nat.le_of_ble_eq_true rfl⟩ (by decide +kernel) [.int q8.1] (c_X6_refuse cy kb kn kf rK rf rg rpd rpn sK sf sg spd spn mc mm nc nm pd pn vo vd vs tl tb eo et ed em ef ez ek es en fi (-1000001 : Int32) q8 hq8) rfl rfl (Nat.le_of_ble_eq_true rfl) ⟨rfl, rfl⟩ rfl ?_
      refine G_r C [(.i2l, 1, 0, 0, .null)] 26 [(0, .ref 0), (1, .int x1), (2, .int x2)] [.long q8.1.toInt64] (wSR cy q8.2.1 q8.2.2.1 q8.2.2.2 rK rf rg rpd rpn sK sf sg spd spn mc mm nc nm pd pn vo vd vs tl tb eo et ed em ef ez ek es en fi) (by decide +kernel) rfl rfl ?_
      have h := Option.some.inj h
      subst h
      exact G_lret C hR (by decide +kernel)
def f_X0_hasPolynomial (x1 : Int32) (mc : Int32) (mm : Nat → Int64) : Option Bool := if x1 = 0 then (some true) else (if mc < ((2 : Int32) * x1) then (some false) else ((f_X0_det x1 mm).bind fun q1 => if q1 = (0 : Int64) then (some false) else (some true)))
set_option maxHeartbeats 4000000 in
set_option maxRecDepth 100000 in
theorem c_X0_hasPolynomial (cy : Nat → ClassId) (mc : Int32) (mm : Nat → Int64) (x1 : Int32) (res : Bool) (h : f_X0_hasPolynomial x1 mc mm = some res) : MG cy yX0_hasPolynomial cX0_hasPolynomial 2 (some .boolean) 2 43 [.ref 0, .int x1] (wMin cy 0 mc mm) (some (.int (bI res))) (wMin cy 0 mc mm) := by
  refine MG_of (o := 0) (lv := [(0, .ref 0), (1, .int x1)]) ⟨by decide +kernel, rfl⟩ (Nat.le_of_ble_eq_true rfl) rfl (fun k C hR => ?_)
  rw [f_X0_hasPolynomial] at h
  refine G_r C [(.iload_n 1, 1, 0, 0, .null)] 1 [(0, .ref 0), (1, .int x1)] [.int x1] (wMin cy 0 mc mm) (by decide +kernel) rfl rfl ?_
  refine G_if_eq C (off := 23) (tgt := 24) (by decide +kernel) rfl (fun c => ?_) (fun c => ?_)
  · rw [if_pos c] at h
    refine G_r C [(.iconst 1, 1, 0, 0, .int (1 : Int32))] 25 [(0, .ref 0), (1, .int x1)] [.int (1 : Int32)] (wMin cy 0 mc mm) (by decide +kernel) rfl rfl ?_
    refine G_goto C (off := 4) (tgt := 29) (by decide +kernel) rfl ?_
    have h := Option.some.inj h
    subst h
    exact G_zret C (v := true) hR (by decide +kernel)
  · rw [if_neg c] at h
    refine G_r C [(.aload_n 0, 1, 0, 0, .null), (.getfield 21, 3, 0, 1, .null), (.iconst 2, 1, 0, 0, .int (2 : Int32)), (.iload_n 1, 1, 0, 0, .null), (.imul, 1, 0, 0, .null)] 11 [(0, .ref 0), (1, .int x1)] [.int ((2 : Int32) * x1), .int mc] (wMin cy 0 mc mm) (by decide +kernel) rfl rfl ?_
    refine G_icmp_lt C (off := 17) (tgt := 28) (by decide +kernel) rfl (fun c => ?_) (fun c => ?_)
    · rw [if_pos c] at h
      refine G_r C [(.iconst 0, 1, 0, 0, .int (0 : Int32))] 29 [(0, .ref 0), (1, .int x1)] [.int (0 : Int32)] (wMin cy 0 mc mm) (by decide +kernel) rfl rfl ?_
      have h := Option.some.inj h
      subst h
      exact G_zret C (v := false) hR (by decide +kernel)
    · rw [if_neg c] at h
      refine G_r C [(.aload_n 0, 1, 0, 0, .null), (.iload_n 1, 1, 0, 0, .null)] 16 [(0, .ref 0), (1, .int x1)] [.int x1, .ref 0] (wMin cy 0 mc mm) (by decide +kernel) rfl rfl ?_
      obtain ⟨q1, hq1, h⟩ := obd h
      refine G_c0 C lk_0_46 ⟨Nat.le_of_ble_eq_true rfl, Nat.le_of_ble_eq_true rfl⟩ (by decide +kernel) [.long q1] (c_X0_det cy mc mm x1 q1 hq1) rfl rfl (Nat.le_of_ble_eq_true rfl) ⟨rfl, rfl⟩ rfl ?_
      refine G_r C [(.lconst 0, 1, 0, 0, .long (0 : Int64))] 20 [(0, .ref 0), (1, .int x1)] [.long (0 : Int64), .long q1] (wMin cy 0 mc mm) (by decide +kernel) rfl rfl ?_
      refine G_lcmp_eq C (off := 7) (tgt := 28) (by decide +kernel) (by decide +kernel) rfl (fun c => ?_) (fun c => ?_)
      · rw [if_pos c] at h
        refine G_r C [(.iconst 0, 1, 0, 0, .int (0 : Int32))] 29 [(0, .ref 0), (1, .int x1)] [.int (0 : Int32)] (wMin cy 0 mc mm) (by decide +kernel) rfl rfl ?_
        have h := Option.some.inj h
        subst h
        exact G_zret C (v := false) hR (by decide +kernel)
      · rw [if_neg c] at h
        refine G_r C [(.iconst 1, 1, 0, 0, .int (1 : Int32))] 25 [(0, .ref 0), (1, .int x1)] [.int (1 : Int32)] (wMin cy 0 mc mm) (by decide +kernel) rfl rfl ?_
        refine G_goto C (off := 4) (tgt := 29) (by decide +kernel) rfl ?_
        have h := Option.some.inj h
        subst h
        exact G_zret C (v := true) hR (by decide +kernel)
def f_X6_findPolynomial (x1 : Int32) (rK : Int32) (rf : Nat → Int32) (mm : Nat → Int64) : Option (Bool × Int32 × (Nat → Int64)) := (f_X0_fill (0 : Int32) mm rK rf).bind fun q1 => (f_X0_hasPolynomial x1 q1.1 q1.2).bind fun q2 => some (q2, q1.1, q1.2)
set_option maxHeartbeats 4000000 in
set_option maxRecDepth 100000 in
theorem c_X6_findPolynomial (cy : Nat → ClassId) (kb : Int32) (kn : Int32) (kf : Int32) (rK : Int32) (rf : Nat → Int32) (rg : Nat → Int64) (rpd : Int32) (rpn : Nat → Int64) (sK : Int32) (sf : Nat → Int32) (sg : Nat → Int64) (spd : Int32) (spn : Nat → Int64) (mc : Int32) (mm : Nat → Int64) (nc : Int32) (nm : Nat → Int64) (pd : Int32) (pn : Nat → Int64) (vo : Int32) (vd : Int32) (vs : Nat → Int32) (tl : Int32) (tb : Nat → Int32) (eo : Int32) (et : Int32) (ed : Int32) (em : Bool) (ef : Int32) (ez : Int32) (ek : Nat → Int32) (es : Nat → Int32) (en : Nat → Int32) (fi : Nat → Int32) (x1 : Int32) (res : (Bool × Int32 × (Nat → Int64))) (h : f_X6_findPolynomial x1 rK rf mm = some res) : MG cy yX6_findPolynomial cX6_findPolynomial 2 (some .boolean) 3 75 [.ref 0, .int x1] (wSR cy kb kn kf rK rf rg rpd rpn sK sf sg spd spn mc mm nc nm pd pn vo vd vs tl tb eo et ed em ef ez ek es en fi) (some (.int (bI res.1))) (wSR cy kb kn kf rK rf rg rpd rpn sK sf sg spd spn res.2.1 res.2.2 nc nm pd pn vo vd vs tl tb eo et ed em ef ez ek es en fi) := by
  refine MG_of (o := 6) (lv := [(0, .ref 0), (1, .int x1)]) ⟨by decide +kernel, rfl⟩ (Nat.le_of_ble_eq_true rfl) rfl (fun k C hR => ?_)
  rw [f_X6_findPolynomial] at h
  refine G_r C [(.aload_n 0, 1, 0, 0, .null), (.getfield 22, 3, 6, 2, .null), (.aload_n 0, 1, 0, 0, .null), (.getfield 12, 3, 6, 0, .null), (.iconst 0, 1, 0, 0, .int (0 : Int32))] 9 [(0, .ref 0), (1, .int x1)] [.int (0 : Int32), .ref 1, .ref 11] (wSR cy kb kn kf rK rf rg rpd rpn sK sf sg spd spn mc mm nc nm pd pn vo vd vs tl tb eo et ed em ef ez ek es en fi) (by decide +kernel) rfl rfl ?_
  obtain ⟨q1, hq1, h⟩ := obd h
  refine G_cV C lk_6_111 ⟨Nat.le_of_ble_eq_true rfl, Nat.le_of_ble_eq_true rfl⟩ (by decide +kernel) [11, 12, 1, 2, 3, 4, 5] [] (wSR cy kb kn kf rK rf rg rpd rpn sK sf sg spd spn q1.1 q1.2 nc nm pd pn vo vd vs tl tb eo et ed em ef ez ek es en fi) (c_X0_fill cy mc mm rK rf rg rpd rpn (0 : Int32) q1 hq1) rfl rfl (Nat.le_of_ble_eq_true rfl) rfl rfl ⟨rfl, rfl⟩ rfl rfl rfl ?_
  refine G_r C [(.aload_n 0, 1, 0, 0, .null), (.getfield 22, 3, 6, 2, .null), (.iload_n 1, 1, 0, 0, .null)] 17 [(0, .ref 0), (1, .int x1)] [.int x1, .ref 11] (wSR cy kb kn kf rK rf rg rpd rpn sK sf sg spd spn q1.1 q1.2 nc nm pd pn vo vd vs tl tb eo et ed em ef ez ek es en fi) (by decide +kernel) rfl rfl ?_
  obtain ⟨q2, hq2, h⟩ := obd h
  refine G_cV C lk_6_216 ⟨Nat.le_of_ble_eq_true rfl, Nat.le_of_ble_eq_true rfl⟩ (by decide +kernel) [11, 12] [.int (bI q2)] (wSR cy kb kn kf rK rf rg rpd rpn sK sf sg spd spn q1.1 q1.2 nc nm pd pn vo vd vs tl tb eo et ed em ef ez ek es en fi) (c_X0_hasPolynomial cy q1.1 q1.2 x1 q2 hq2) rfl rfl (Nat.le_of_ble_eq_true rfl) rfl rfl ⟨rfl, rfl⟩ rfl rfl rfl ?_
  have h := Option.some.inj h
  subst h
  exact G_zret C (v := q2) hR (by decide +kernel)
def f_X0_coefficient (x1 : Int32) (x2 : Int32) (mm : Nat → Int64) : Option Int64 := (f_X6_isOutside x1 (0 : Int32) (3 : Int32)).bind fun q1 => if (bI q1) = 0 then ((f_X6_isOutside x2 (0 : Int32) x1).bind fun q2 => if (bI q2) = 0 then ((f_X0_minor ((((1 : Int32) <<< ((x1 + (1 : Int32)) &&& 31)) - (1 : Int32)) ^^^ ((1 : Int32) <<< (x2 &&& 31))) mm).bind fun q3 => if (2 : Int32) = 0 then none else if ((x1 - x2) - (x1 - x2) / (2 : Int32) * (2 : Int32)) = 0 then (some q3) else (some (-q3))) else (some (0 : Int64))) else (some (0 : Int64))
set_option maxHeartbeats 4000000 in
set_option maxRecDepth 100000 in
theorem c_X0_coefficient (cy : Nat → ClassId) (mc : Int32) (mm : Nat → Int64) (x1 : Int32) (x2 : Int32) (res : Int64) (h : f_X0_coefficient x1 x2 mm = some res) : MG cy yX0_coefficient cX0_coefficient 5 (some .long) 1 22 [.ref 0, .int x1, .int x2] (wMin cy 0 mc mm) (some (.long res)) (wMin cy 0 mc mm) := by
  refine MG_of (o := 0) (lv := [(0, .ref 0), (1, .int x1), (2, .int x2)]) ⟨by decide +kernel, rfl⟩ (Nat.le_of_ble_eq_true rfl) rfl (fun k C hR => ?_)
  rw [f_X0_coefficient] at h
  refine G_r C [(.iload_n 1, 1, 0, 0, .null), (.iconst 0, 1, 0, 0, .int (0 : Int32)), (.iconst 3, 1, 0, 0, .int (3 : Int32))] 3 [(0, .ref 0), (1, .int x1), (2, .int x2)] [.int (3 : Int32), .int (0 : Int32), .int x1] (wMin cy 0 mc mm) (by decide +kernel) rfl rfl ?_
  obtain ⟨q1, hq1, h⟩ := obd h
  refine G_cN C lk_0_42 ⟨Nat.le_of_ble_eq_true rfl, Nat.le_of_ble_eq_true rfl⟩ (by decide +kernel) [.int (bI q1)] (c_X6_isOutside cy x1 (0 : Int32) (3 : Int32) q1 hq1) rfl rfl (Nat.le_of_ble_eq_true rfl) rfl ?_
  refine G_if_ne C (off := 12) (tgt := 18) (by decide +kernel) rfl (fun c => ?_) (fun c => ?_)
  · rw [if_neg c] at h
    refine G_r C [(.lconst 0, 1, 0, 0, .long (0 : Int64))] 19 [(0, .ref 0), (1, .int x1), (2, .int x2)] [.long (0 : Int64)] (wMin cy 0 mc mm) (by decide +kernel) rfl rfl ?_
    have h := Option.some.inj h
    subst h
    exact G_lret C hR (by decide +kernel)
  · rw [if_pos c] at h
    refine G_r C [(.iload_n 2, 1, 0, 0, .null), (.iconst 0, 1, 0, 0, .int (0 : Int32)), (.iload_n 1, 1, 0, 0, .null)] 12 [(0, .ref 0), (1, .int x1), (2, .int x2)] [.int x1, .int (0 : Int32), .int x2] (wMin cy 0 mc mm) (by decide +kernel) rfl rfl ?_
    obtain ⟨q2, hq2, h⟩ := obd h
    refine G_cN C lk_0_42 ⟨Nat.le_of_ble_eq_true rfl, Nat.le_of_ble_eq_true rfl⟩ (by decide +kernel) [.int (bI q2)] (c_X6_isOutside cy x2 (0 : Int32) x1 q2 hq2) rfl rfl (Nat.le_of_ble_eq_true rfl) rfl ?_
    refine G_if_eq C (off := 5) (tgt := 20) (by decide +kernel) rfl (fun c => ?_) (fun c => ?_)
    · rw [if_pos c] at h
      refine G_r C [(.aload_n 0, 1, 0, 0, .null), (.iconst 1, 1, 0, 0, .int (1 : Int32)), (.iload_n 1, 1, 0, 0, .null), (.iconst 1, 1, 0, 0, .int (1 : Int32)), (.iadd, 1, 0, 0, .null), (.ishl, 1, 0, 0, .null), (.iconst 1, 1, 0, 0, .int (1 : Int32)), (.isub, 1, 0, 0, .null), (.iconst 1, 1, 0, 0, .int (1 : Int32)), (.iload_n 2, 1, 0, 0, .null), (.ishl, 1, 0, 0, .null), (.ixor, 1, 0, 0, .null)] 32 [(0, .ref 0), (1, .int x1), (2, .int x2)] [.int ((((1 : Int32) <<< ((x1 + (1 : Int32)) &&& 31)) - (1 : Int32)) ^^^ ((1 : Int32) <<< (x2 &&& 31))), .ref 0] (wMin cy 0 mc mm) (by decide +kernel) rfl rfl ?_
      obtain ⟨q3, hq3, h⟩ := obd h
      refine G_c0 C lk_0_38 ⟨Nat.le_of_ble_eq_true rfl, Nat.le_of_ble_eq_true rfl⟩ (by decide +kernel) [.long q3] (c_X0_minor cy mc mm ((((1 : Int32) <<< ((x1 + (1 : Int32)) &&& 31)) - (1 : Int32)) ^^^ ((1 : Int32) <<< (x2 &&& 31))) q3 hq3) rfl rfl (Nat.le_of_ble_eq_true rfl) ⟨rfl, rfl⟩ rfl ?_
      refine G_r C [(.lstore_n 3, 1, 0, 0, .null), (.iload_n 1, 1, 0, 0, .null), (.iload_n 2, 1, 0, 0, .null), (.isub, 1, 0, 0, .null), (.iconst 2, 1, 0, 0, .int (2 : Int32))] 40 [(3, .long q3), (0, .ref 0), (1, .int x1), (2, .int x2)] [.int (2 : Int32), .int (x1 - x2)] (wMin cy 0 mc mm) (by decide +kernel) rfl rfl ?_
      obtain ⟨cg, h⟩ := oob h
      refine G_irem C (by decide +kernel) cg ?_
      refine G_if_ne C (off := 7) (tgt := 48) (by decide +kernel) rfl (fun c => ?_) (fun c => ?_)
      · rw [if_neg c] at h
        refine G_r C [(.lload_n 3, 1, 0, 0, .null), (.lneg, 1, 0, 0, .null)] 50 [(3, .long q3), (0, .ref 0), (1, .int x1), (2, .int x2)] [.long (-q3)] (wMin cy 0 mc mm) (by decide +kernel) rfl rfl ?_
        have h := Option.some.inj h
        subst h
        exact G_lret C hR (by decide +kernel)
      · rw [if_pos c] at h
        refine G_r C [(.lload_n 3, 1, 0, 0, .null)] 45 [(3, .long q3), (0, .ref 0), (1, .int x1), (2, .int x2)] [.long q3] (wMin cy 0 mc mm) (by decide +kernel) rfl rfl ?_
        refine G_goto C (off := 5) (tgt := 50) (by decide +kernel) rfl ?_
        have h := Option.some.inj h
        subst h
        exact G_lret C hR (by decide +kernel)
    · rw [if_neg c] at h
      refine G_r C [(.lconst 0, 1, 0, 0, .long (0 : Int64))] 19 [(0, .ref 0), (1, .int x1), (2, .int x2)] [.long (0 : Int64)] (wMin cy 0 mc mm) (by decide +kernel) rfl rfl ?_
      have h := Option.some.inj h
      subst h
      exact G_lret C hR (by decide +kernel)
