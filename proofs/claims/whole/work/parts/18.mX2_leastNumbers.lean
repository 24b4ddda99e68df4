def f_X2_leastNumbers (x0 : Int32) : Option Int32 := if x0 = (109 : Int32) then (some (1 : Int32)) else ((f_X2_mostNumbers x0).bind fun q1 => some q1)
set_option maxHeartbeats 4000000 in
set_option maxRecDepth 100000 in
theorem c_X2_leastNumbers (cy : Nat → ClassId)  (x0 : Int32) (res : Int32) (h : f_X2_leastNumbers x0 = some res) : MG cy yX2_leastNumbers cX2_leastNumbers 1 (some .int) 1 20 [.int x0] [] (some (.int res)) [] := by
  refine MG_of (o := 2) (lv := [(0, .int x0)]) ⟨by decide +kernel, rfl⟩ (Nat.le_of_ble_eq_true rfl) rfl (fun k C hR => ?_)
  rw [f_X2_leastNumbers] at h
  refine G_r C [(.iload_n 0, 1, 0, 0, .null), (.bipush 109, 2, 0, 0, .int (109 : Int32))] 3 [(0, .int x0)] [.int (109 : Int32), .int x0] [] (by decide +kernel) rfl rfl ?_
  refine G_icmp_ne C (off := 7) (tgt := 10) (by decide +kernel) rfl (fun c => ?_) (fun c => ?_)
  · rw [if_neg c] at h
    refine G_r C [(.iload_n 0, 1, 0, 0, .null)] 11 [(0, .int x0)] [.int x0] [] (by decide +kernel) rfl rfl ?_
    obtain ⟨q1, hq1, h⟩ := obd h
    refine G_cS C lk_2_71 ⟨Nat.le_of_ble_eq_true rfl, Nat.le_of_ble_eq_true rfl⟩ (by decide +kernel) [.int q1] (c_X2_mostNumbers cy x0 q1 hq1) rfl rfl (Nat.le_of_ble_eq_true rfl) rfl ?_
    have h := Option.some.inj h
    subst h
    exact G_iret C hR (by decide +kernel)
  · rw [if_pos c] at h
    refine G_r C [(.iconst 1, 1, 0, 0, .int (1 : Int32))] 7 [(0, .int x0)] [.int (1 : Int32)] [] (by decide +kernel) rfl rfl ?_
    refine G_goto C (off := 7) (tgt := 14) (by decide +kernel) rfl ?_
    have h := Option.some.inj h
    subst h
    exact G_iret C hR (by decide +kernel)
def f_X2_closeOrder (eo : Int32) (et : Int32) (ed : Int32) (es : Nat → Int32) : Option (Bool × Int32 × Int32 × (Nat → Int32)) := (f_X2_given eo et es).bind fun q1 => (f_X2_leastNumbers ed).bind fun q2 => if q1 < q2 then (some (false, eo, ed, es)) else (if eo < (50 : Int32) then (if (eo + (1 : Int32)) < 0 ∨ 51 ≤ (eo + (1 : Int32)).toNatClampNeg then none else some (true, (eo + (1 : Int32)), (0 : Int32), (upd es (eo + (1 : Int32)).toNatClampNeg et))) else (some (false, eo, ed, es)))
set_option maxHeartbeats 4000000 in
set_option maxRecDepth 100000 in
theorem c_X2_closeOrder (cy : Nat → ClassId) (eo : Int32) (et : Int32) (ed : Int32) (em : Bool) (ef : Int32) (ez : Int32) (ek : Nat → Int32) (es : Nat → Int32) (en : Nat → Int32)  (res : (Bool × Int32 × Int32 × (Nat → Int32))) (h : f_X2_closeOrder eo et ed es = some res) : MG cy yX2_closeOrder cX2_closeOrder 1 (some .boolean) 2 40 [.ref 0] (wReader cy 0 eo et ed em ef ez ek es en) (some (.int (bI res.1))) (wReader cy 0 res.2.1 et res.2.2.1 em ef ez ek res.2.2.2 en) := by
  refine MG_of (o := 2) (lv := [(0, .ref 0)]) ⟨by decide +kernel, rfl⟩ (Nat.le_of_ble_eq_true rfl) rfl (fun k C hR => ?_)
  rw [f_X2_closeOrder] at h
  refine G_r C [(.aload_n 0, 1, 0, 0, .null)] 1 [(0, .ref 0)] [.ref 0] (wReader cy 0 eo et ed em ef ez ek es en) (by decide +kernel) rfl rfl ?_
  obtain ⟨q1, hq1, h⟩ := obd h
  refine G_c0 C lk_2_68 ⟨Nat.le_of_ble_eq_true rfl, Nat.le_of_ble_eq_true rfl⟩ (by decide +kernel) [.int q1] (c_X2_given cy eo et ed em ef ez ek es en q1 hq1) rfl rfl (Nat.le_of_ble_eq_true rfl) ⟨rfl, rfl⟩ rfl ?_
  refine G_r C [(.aload_n 0, 1, 0, 0, .null), (.getfield 28, 3, 2, 5, .null)] 8 [(0, .ref 0)] [.int ed, .int q1] (wReader cy 0 eo et ed em ef ez ek es en) (by decide +kernel) rfl rfl ?_
  obtain ⟨q2, hq2, h⟩ := obd h
  refine G_cS C lk_2_77 ⟨Nat.le_of_ble_eq_true rfl, Nat.le_of_ble_eq_true rfl⟩ (by decide +kernel) [.int q2, .int q1] (c_X2_leastNumbers cy ed q2 hq2) rfl rfl (Nat.le_of_ble_eq_true rfl) rfl ?_
  refine G_icmp_lt C (off := 12) (tgt := 23) (by decide +kernel) rfl (fun c => ?_) (fun c => ?_)
  · rw [if_pos c] at h
    refine G_r C [(.iconst 0, 1, 0, 0, .int (0 : Int32))] 24 [(0, .ref 0)] [.int (0 : Int32)] (wReader cy 0 eo et ed em ef ez ek es en) (by decide +kernel) rfl rfl ?_
    have h := Option.some.inj h
    subst h
    exact G_zret C (v := false) hR (by decide +kernel)
  · rw [if_neg c] at h
    refine G_r C [(.aload_n 0, 1, 0, 0, .null), (.getfield 21, 3, 2, 3, .null), (.bipush 50, 2, 0, 0, .int (50 : Int32))] 20 [(0, .ref 0)] [.int (50 : Int32), .int eo] (wReader cy 0 eo et ed em ef ez ek es en) (by decide +kernel) rfl rfl ?_
    refine G_icmp_lt C (off := 5) (tgt := 25) (by decide +kernel) rfl (fun c => ?_) (fun c => ?_)
    · rw [if_pos c] at h
      refine G_r C [(.aload_n 0, 1, 0, 0, .null), (.dup, 1, 0, 0, .null), (.getfield 21, 3, 2, 3, .null), (.iconst 1, 1, 0, 0, .int (1 : Int32)), (.iadd, 1, 0, 0, .null), (.putfield 21, 3, 2, 3, .null), (.aload_n 0, 1, 0, 0, .null), (.getfield 15, 3, 2, 1, .null), (.aload_n 0, 1, 0, 0, .null), (.getfield 21, 3, 2, 3, .null), (.aload_n 0, 1, 0, 0, .null), (.getfield 25, 3, 2, 4, .null)] 47 [(0, .ref 0)] [.int et, .int (eo + (1 : Int32)), .ref 2] (wReader cy 0 (eo + (1 : Int32)) et ed em ef ez ek es en) (by decide +kernel) rfl rfl ?_
      obtain ⟨cg, h⟩ := oob h
      refine G_iast C (a := 2) (w' := (wReader cy 0 (eo + (1 : Int32)) et ed em ef ez ek (upd es (eo + (1 : Int32)).toNatClampNeg et) en)) rfl cg (by decide +kernel) rfl ?_
      refine G_r C [(.aload_n 0, 1, 0, 0, .null), (.iconst 0, 1, 0, 0, .int (0 : Int32)), (.putfield 28, 3, 2, 5, .null), (.iconst 1, 1, 0, 0, .int (1 : Int32))] 54 [(0, .ref 0)] [.int (1 : Int32)] (wReader cy 0 (eo + (1 : Int32)) et (0 : Int32) em ef ez ek (upd es (eo + (1 : Int32)).toNatClampNeg et) en) (by decide +kernel) rfl rfl ?_
      have h := Option.some.inj h
      subst h
      exact G_zret C (v := true) hR (by decide +kernel)
    · rw [if_neg c] at h
      refine G_r C [(.iconst 0, 1, 0, 0, .int (0 : Int32))] 24 [(0, .ref 0)] [.int (0 : Int32)] (wReader cy 0 eo et ed em ef ez ek es en) (by decide +kernel) rfl rfl ?_
      have h := Option.some.inj h
      subst h
      exact G_zret C (v := false) hR (by decide +kernel)
def f_X2_openOrder (x1 : Int32) (eo : Int32) (et : Int32) (ed : Int32) (ek : Nat → Int32) (es : Nat → Int32) : Option (Bool × Int32 × (Nat → Int32) × (Nat → Int32)) := (f_X2_mostNumbers x1).bind fun q1 => if q1 < 0 then (some (false, ed, ek, es)) else (if eo < (50 : Int32) then (if eo < 0 ∨ 50 ≤ eo.toNatClampNeg then none else if eo < 0 ∨ 51 ≤ eo.toNatClampNeg then none else some (true, x1, (upd ek eo.toNatClampNeg x1), (upd es eo.toNatClampNeg et))) else (some (false, ed, ek, es)))
set_option maxHeartbeats 4000000 in
set_option maxRecDepth 100000 in
theorem c_X2_openOrder (cy : Nat → ClassId) (eo : Int32) (et : Int32) (ed : Int32) (em : Bool) (ef : Int32) (ez : Int32) (ek : Nat → Int32) (es : Nat → Int32) (en : Nat → Int32) (x1 : Int32) (res : (Bool × Int32 × (Nat → Int32) × (Nat → Int32))) (h : f_X2_openOrder x1 eo et ed ek es = some res) : MG cy yX2_openOrder cX2_openOrder 2 (some .boolean) 1 20 [.ref 0, .int x1] (wReader cy 0 eo et ed em ef ez ek es en) (some (.int (bI res.1))) (wReader cy 0 eo et res.2.1 em ef ez res.2.2.1 res.2.2.2 en) := by
  refine MG_of (o := 2) (lv := [(0, .ref 0), (1, .int x1)]) ⟨by decide +kernel, rfl⟩ (Nat.le_of_ble_eq_true rfl) rfl (fun k C hR => ?_)
  rw [f_X2_openOrder] at h
  refine G_r C [(.iload_n 1, 1, 0, 0, .null)] 1 [(0, .ref 0), (1, .int x1)] [.int x1] (wReader cy 0 eo et ed em ef ez ek es en) (by decide +kernel) rfl rfl ?_
  obtain ⟨q1, hq1, h⟩ := obd h
  refine G_cS C lk_2_71 ⟨Nat.le_of_ble_eq_true rfl, Nat.le_of_ble_eq_true rfl⟩ (by decide +kernel) [.int q1] (c_X2_mostNumbers cy x1 q1 hq1) rfl rfl (Nat.le_of_ble_eq_true rfl) rfl ?_
  refine G_if_lt C (off := 12) (tgt := 16) (by decide +kernel) rfl (fun c => ?_) (fun c => ?_)
  · rw [if_pos c] at h
    refine G_r C [(.iconst 0, 1, 0, 0, .int (0 : Int32))] 17 [(0, .ref 0), (1, .int x1)] [.int (0 : Int32)] (wReader cy 0 eo et ed em ef ez ek es en) (by decide +kernel) rfl rfl ?_
    have h := Option.some.inj h
    subst h
    exact G_zret C (v := false) hR (by decide +kernel)
  · rw [if_neg c] at h
    refine G_r C [(.aload_n 0, 1, 0, 0, .null), (.getfield 21, 3, 2, 3, .null), (.bipush 50, 2, 0, 0, .int (50 : Int32))] 13 [(0, .ref 0), (1, .int x1)] [.int (50 : Int32), .int eo] (wReader cy 0 eo et ed em ef ez ek es en) (by decide +kernel) rfl rfl ?_
    refine G_icmp_lt C (off := 5) (tgt := 18) (by decide +kernel) rfl (fun c => ?_) (fun c => ?_)
    · rw [if_pos c] at h
      refine G_r C [(.aload_n 0, 1, 0, 0, .null), (.iload_n 1, 1, 0, 0, .null), (.putfield 28, 3, 2, 5, .null), (.aload_n 0, 1, 0, 0, .null), (.getfield 9, 3, 2, 0, .null), (.aload_n 0, 1, 0, 0, .null), (.getfield 21, 3, 2, 3, .null), (.iload_n 1, 1, 0, 0, .null)] 32 [(0, .ref 0), (1, .int x1)] [.int x1, .int eo, .ref 1] (wReader cy 0 eo et x1 em ef ez ek es en) (by decide +kernel) rfl rfl ?_
      obtain ⟨cg, h⟩ := oob h
      refine G_iast C (a := 1) (w' := (wReader cy 0 eo et x1 em ef ez (upd ek eo.toNatClampNeg x1) es en)) rfl cg (by decide +kernel) rfl ?_
      refine G_r C [(.aload_n 0, 1, 0, 0, .null), (.getfield 15, 3, 2, 1, .null), (.aload_n 0, 1, 0, 0, .null), (.getfield 21, 3, 2, 3, .null), (.aload_n 0, 1, 0, 0, .null), (.getfield 25, 3, 2, 4, .null)] 45 [(0, .ref 0), (1, .int x1)] [.int et, .int eo, .ref 2] (wReader cy 0 eo et x1 em ef ez (upd ek eo.toNatClampNeg x1) es en) (by decide +kernel) rfl rfl ?_
      obtain ⟨cg, h⟩ := oob h
      refine G_iast C (a := 2) (w' := (wReader cy 0 eo et x1 em ef ez (upd ek eo.toNatClampNeg x1) (upd es eo.toNatClampNeg et) en)) rfl cg (by decide +kernel) rfl ?_
      refine G_r C [(.iconst 1, 1, 0, 0, .int (1 : Int32))] 47 [(0, .ref 0), (1, .int x1)] [.int (1 : Int32)] (wReader cy 0 eo et x1 em ef ez (upd ek eo.toNatClampNeg x1) (upd es eo.toNatClampNeg et) en) (by decide +kernel) rfl rfl ?_
      have h := Option.some.inj h
      subst h
      exact G_zret C (v := true) hR (by decide +kernel)
    · rw [if_neg c] at h
      refine G_r C [(.iconst 0, 1, 0, 0, .int (0 : Int32))] 17 [(0, .ref 0), (1, .int x1)] [.int (0 : Int32)] (wReader cy 0 eo et ed em ef ez ek es en) (by decide +kernel) rfl rfl ?_
      have h := Option.some.inj h
      subst h
      exact G_zret C (v := false) hR (by decide +kernel)
def f_X2_acceptFigure (x1 : Int32) (eo : Int32) (et : Int32) (ed : Int32) (ef : Int32) (ez : Int32) (es : Nat → Int32) : Option (Bool × Int32 × Int32) := if (3 : Int32) ≤ ef then (some (false, ef, ez)) else ((f_X2_given eo et es).bind fun q1 => (f_X2_mostNumbers ed).bind fun q2 => if q1 < q2 then (some (true, (ef + (1 : Int32)), ((ez * (10 : Int32)) + x1))) else (some (false, ef, ez)))
set_option maxHeartbeats 4000000 in
set_option maxRecDepth 100000 in
theorem c_X2_acceptFigure (cy : Nat → ClassId) (eo : Int32) (et : Int32) (ed : Int32) (em : Bool) (ef : Int32) (ez : Int32) (ek : Nat → Int32) (es : Nat → Int32) (en : Nat → Int32) (x1 : Int32) (res : (Bool × Int32 × Int32)) (h : f_X2_acceptFigure x1 eo et ed ef ez es = some res) : MG cy yX2_acceptFigure cX2_acceptFigure 2 (some .boolean) 1 20 [.ref 0, .int x1] (wReader cy 0 eo et ed em ef ez ek es en) (some (.int (bI res.1))) (wReader cy 0 eo et ed em res.2.1 res.2.2 ek es en) := by
  refine MG_of (o := 2) (lv := [(0, .ref 0), (1, .int x1)]) ⟨by decide +kernel, rfl⟩ (Nat.le_of_ble_eq_true rfl) rfl (fun k C hR => ?_)
  rw [f_X2_acceptFigure] at h
  refine G_r C [(.aload_n 0, 1, 0, 0, .null), (.getfield 55, 3, 2, 7, .null), (.iconst 3, 1, 0, 0, .int (3 : Int32))] 5 [(0, .ref 0), (1, .int x1)] [.int (3 : Int32), .int ef] (wReader cy 0 eo et ed em ef ez ek es en) (by decide +kernel) rfl rfl ?_
  refine G_icmp_ge C (off := 17) (tgt := 22) (by decide +kernel) rfl (fun c => ?_) (fun c => ?_)
  · rw [if_pos c] at h
    refine G_r C [(.iconst 0, 1, 0, 0, .int (0 : Int32))] 23 [(0, .ref 0), (1, .int x1)] [.int (0 : Int32)] (wReader cy 0 eo et ed em ef ez ek es en) (by decide +kernel) rfl rfl ?_
    have h := Option.some.inj h
    subst h
    exact G_zret C (v := false) hR (by decide +kernel)
  · rw [if_neg c] at h
    refine G_r C [(.aload_n 0, 1, 0, 0, .null)] 9 [(0, .ref 0), (1, .int x1)] [.ref 0] (wReader cy 0 eo et ed em ef ez ek es en) (by decide +kernel) rfl rfl ?_
    obtain ⟨q1, hq1, h⟩ := obd h
    refine G_c0 C lk_2_68 ⟨Nat.le_of_ble_eq_true rfl, Nat.le_of_ble_eq_true rfl⟩ (by decide +kernel) [.int q1] (c_X2_given cy eo et ed em ef ez ek es en q1 hq1) rfl rfl (Nat.le_of_ble_eq_true rfl) ⟨rfl, rfl⟩ rfl ?_
    refine G_r C [(.aload_n 0, 1, 0, 0, .null), (.getfield 28, 3, 2, 5, .null)] 16 [(0, .ref 0), (1, .int x1)] [.int ed, .int q1] (wReader cy 0 eo et ed em ef ez ek es en) (by decide +kernel) rfl rfl ?_
    obtain ⟨q2, hq2, h⟩ := obd h
    refine G_cS C lk_2_71 ⟨Nat.le_of_ble_eq_true rfl, Nat.le_of_ble_eq_true rfl⟩ (by decide +kernel) [.int q2, .int q1] (c_X2_mostNumbers cy ed q2 hq2) rfl rfl (Nat.le_of_ble_eq_true rfl) rfl ?_
    refine G_icmp_lt C (off := 5) (tgt := 24) (by decide +kernel) rfl (fun c => ?_) (fun c => ?_)
    · rw [if_pos c] at h
      refine G_r C [(.aload_n 0, 1, 0, 0, .null), (.aload_n 0, 1, 0, 0, .null), (.getfield 74, 3, 2, 8, .null), (.bipush 10, 2, 0, 0, .int (10 : Int32)), (.imul, 1, 0, 0, .null), (.iload_n 1, 1, 0, 0, .null), (.iadd, 1, 0, 0, .null), (.putfield 74, 3, 2, 8, .null), (.aload_n 0, 1, 0, 0, .null), (.dup, 1, 0, 0, .null), (.getfield 55, 3, 2, 7, .null), (.iconst 1, 1, 0, 0, .int (1 : Int32)), (.iadd, 1, 0, 0, .null), (.putfield 55, 3, 2, 7, .null), (.iconst 1, 1, 0, 0, .int (1 : Int32))] 48 [(0, .ref 0), (1, .int x1)] [.int (1 : Int32)] (wReader cy 0 eo et ed em (ef + (1 : Int32)) ((ez * (10 : Int32)) + x1) ek es en) (by decide +kernel) rfl rfl ?_
      have h := Option.some.inj h
      subst h
      exact G_zret C (v := true) hR (by decide +kernel)
    · rw [if_neg c] at h
      refine G_r C [(.iconst 0, 1, 0, 0, .int (0 : Int32))] 23 [(0, .ref 0), (1, .int x1)] [.int (0 : Int32)] (wReader cy 0 eo et ed em ef ez ek es en) (by decide +kernel) rfl rfl ?_
      have h := Option.some.inj h
      subst h
      exact G_zret C (v := false) hR (by decide +kernel)
def f_X2_accept (x1 : Int32) (eo : Int32) (et : Int32) (ed : Int32) (em : Bool) (ef : Int32) (ez : Int32) (ek : Nat → Int32) (es : Nat → Int32) (en : Nat → Int32) : Option (Bool × Int32 × Int32 × Int32 × Bool × Int32 × Int32 × (Nat → Int32) × (Nat → Int32) × (Nat → Int32)) := if x1 < (48 : Int32) then (if (bI em) = 0 then (if x1 = (32 : Int32) then ((f_X2_closeNumber et em ef ez en).bind fun q7 => some (true, eo, q7.1, ed, q7.2.1, q7.2.2.1, q7.2.2.2.1, ek, es, q7.2.2.2.2)) else (if ed = 0 then ((f_X2_openOrder x1 eo et ed ek es).bind fun q6 => some (q6.1, eo, et, q6.2.1, em, ef, ez, q6.2.2.1, q6.2.2.2, en)) else (if x1 = (59 : Int32) then ((f_X2_closeNumber et em ef ez en).bind fun q4 => (f_X2_closeOrder eo q4.1 ed es).bind fun q5 => some (q5.1, q5.2.1, q4.1, q5.2.2.1, q4.2.1, q4.2.2.1, q4.2.2.2.1, ek, q5.2.2.2, q4.2.2.2.2)) else (if x1 = (45 : Int32) then ((f_X2_closeNumber et em ef ez en).bind fun q1 => (f_X2_given eo q1.1 es).bind fun q2 => (f_X2_mostNumbers ed).bind fun q3 => if q3 ≤ q2 then (some (false, eo, q1.1, ed, true, q1.2.2.1, q1.2.2.2.1, ek, es, q1.2.2.2.2)) else (some (true, eo, q1.1, ed, true, q1.2.2.1, q1.2.2.2.1, ek, es, q1.2.2.2.2))) else (some (false, eo, et, ed, em, ef, ez, ek, es, en)))))) else (if ef = 0 then (some (false, eo, et, ed, em, ef, ez, ek, es, en)) else (if x1 = (32 : Int32) then ((f_X2_closeNumber et em ef ez en).bind fun q14 => some (true, eo, q14.1, ed, q14.2.1, q14.2.2.1, q14.2.2.2.1, ek, es, q14.2.2.2.2)) else (if ed = 0 then ((f_X2_openOrder x1 eo et ed ek es).bind fun q13 => some (q13.1, eo, et, q13.2.1, em, ef, ez, q13.2.2.1, q13.2.2.2, en)) else (if x1 = (59 : Int32) then ((f_X2_closeNumber et em ef ez en).bind fun q11 => (f_X2_closeOrder eo q11.1 ed es).bind fun q12 => some (q12.1, q12.2.1, q11.1, q12.2.2.1, q11.2.1, q11.2.2.1, q11.2.2.2.1, ek, q12.2.2.2, q11.2.2.2.2)) else (if x1 = (45 : Int32) then ((f_X2_closeNumber et em ef ez en).bind fun q8 => (f_X2_given eo q8.1 es).bind fun q9 => (f_X2_mostNumbers ed).bind fun q10 => if q10 ≤ q9 then (some (false, eo, q8.1, ed, true, q8.2.2.1, q8.2.2.2.1, ek, es, q8.2.2.2.2)) else (some (true, eo, q8.1, ed, true, q8.2.2.1, q8.2.2.2.1, ek, es, q8.2.2.2.2))) else (some (false, eo, et, ed, em, ef, ez, ek, es, en)))))))) else (if (57 : Int32) < x1 then (if (bI em) = 0 then (if x1 = (32 : Int32) then ((f_X2_closeNumber et em ef ez en).bind fun q21 => some (true, eo, q21.1, ed, q21.2.1, q21.2.2.1, q21.2.2.2.1, ek, es, q21.2.2.2.2)) else (if ed = 0 then ((f_X2_openOrder x1 eo et ed ek es).bind fun q20 => some (q20.1, eo, et, q20.2.1, em, ef, ez, q20.2.2.1, q20.2.2.2, en)) else (if x1 = (59 : Int32) then ((f_X2_closeNumber et em ef ez en).bind fun q18 => (f_X2_closeOrder eo q18.1 ed es).bind fun q19 => some (q19.1, q19.2.1, q18.1, q19.2.2.1, q18.2.1, q18.2.2.1, q18.2.2.2.1, ek, q19.2.2.2, q18.2.2.2.2)) else (if x1 = (45 : Int32) then ((f_X2_closeNumber et em ef ez en).bind fun q15 => (f_X2_given eo q15.1 es).bind fun q16 => (f_X2_mostNumbers ed).bind fun q17 => if q17 ≤ q16 then (some (false, eo, q15.1, ed, true, q15.2.2.1, q15.2.2.2.1, ek, es, q15.2.2.2.2)) else (some (true, eo, q15.1, ed, true, q15.2.2.1, q15.2.2.2.1, ek, es, q15.2.2.2.2))) else (some (false, eo, et, ed, em, ef, ez, ek, es, en)))))) else (if ef = 0 then (some (false, eo, et, ed, em, ef, ez, ek, es, en)) else (if x1 = (32 : Int32) then ((f_X2_closeNumber et em ef ez en).bind fun q28 => some (true, eo, q28.1, ed, q28.2.1, q28.2.2.1, q28.2.2.2.1, ek, es, q28.2.2.2.2)) else (if ed = 0 then ((f_X2_openOrder x1 eo et ed ek es).bind fun q27 => some (q27.1, eo, et, q27.2.1, em, ef, ez, q27.2.2.1, q27.2.2.2, en)) else (if x1 = (59 : Int32) then ((f_X2_closeNumber et em ef ez en).bind fun q25 => (f_X2_closeOrder eo q25.1 ed es).bind fun q26 => some (q26.1, q26.2.1, q25.1, q26.2.2.1, q25.2.1, q25.2.2.1, q25.2.2.2.1, ek, q26.2.2.2, q25.2.2.2.2)) else (if x1 = (45 : Int32) then ((f_X2_closeNumber et em ef ez en).bind fun q22 => (f_X2_given eo q22.1 es).bind fun q23 => (f_X2_mostNumbers ed).bind fun q24 => if q24 ≤ q23 then (some (false, eo, q22.1, ed, true, q22.2.2.1, q22.2.2.2.1, ek, es, q22.2.2.2.2)) else (some (true, eo, q22.1, ed, true, q22.2.2.1, q22.2.2.2.1, ek, es, q22.2.2.2.2))) else (some (false, eo, et, ed, em, ef, ez, ek, es, en)))))))) else ((f_X2_acceptFigure (x1 - (48 : Int32)) eo et ed ef ez es).bind fun q29 => some (q29.1, eo, et, ed, em, q29.2.1, q29.2.2, ek, es, en)))
set_option maxHeartbeats 4000000 in
set_option maxRecDepth 100000 in
theorem c_X2_accept (cy : Nat → ClassId) (eo : Int32) (et : Int32) (ed : Int32) (em : Bool) (ef : Int32) (ez : Int32) (ek : Nat → Int32) (es : Nat → Int32) (en : Nat → Int32) (x1 : Int32) (res : (Bool × Int32 × Int32 × Int32 × Bool × Int32 × Int32 × (Nat → Int32) × (Nat → Int32) × (Nat → Int32))) (h : f_X2_accept x1 eo et ed em ef ez ek es en = some res) : MG cy yX2_accept cX2_accept 2 (some .boolean) 3 60 [.ref 0, .int x1] (wReader cy 0 eo et ed em ef ez ek es en) (some (.int (bI res.1))) (wReader cy 0 res.2.1 res.2.2.1 res.2.2.2.1 res.2.2.2.2.1 res.2.2.2.2.2.1 res.2.2.2.2.2.2.1 res.2.2.2.2.2.2.2.1 res.2.2.2.2.2.2.2.2.1 res.2.2.2.2.2.2.2.2.2) := by
  refine MG_of (o := 2) (lv := [(0, .ref 0), (1, .int x1)]) ⟨by decide +kernel, rfl⟩ (Nat.le_of_ble_eq_true rfl) rfl (fun k C hR => ?_)
  rw [f_X2_accept] at h
  refine G_r C [(.iload_n 1, 1, 0, 0, .null), (.bipush 48, 2, 0, 0, .int (48 : Int32))] 3 [(0, .ref 0), (1, .int x1)] [.int (48 : Int32), .int x1] (wReader cy 0 eo et ed em ef ez ek es en) (by decide +kernel) rfl rfl ?_
  refine G_icmp_lt C (off := 18) (tgt := 21) (by decide +kernel) rfl (fun c => ?_) (fun c => ?_)
  · rw [if_pos c] at h
    refine G_r C [(.aload_n 0, 1, 0, 0, .null), (.getfield 51, 3, 2, 6, .null)] 25 [(0, .ref 0), (1, .int x1)] [.int (bI em)] (wReader cy 0 eo et ed em ef ez ek es en) (by decide +kernel) rfl rfl ?_
    refine G_if_eq C (off := 12) (tgt := 37) (by decide +kernel) rfl (fun c => ?_) (fun c => ?_)
    · rw [if_pos c] at h
      refine G_r C [(.iload_n 1, 1, 0, 0, .null), (.bipush 32, 2, 0, 0, .int (32 : Int32))] 40 [(0, .ref 0), (1, .int x1)] [.int (32 : Int32), .int x1] (wReader cy 0 eo et ed em ef ez ek es en) (by decide +kernel) rfl rfl ?_
      refine G_icmp_ne C (off := 9) (tgt := 49) (by decide +kernel) rfl (fun c => ?_) (fun c => ?_)
      · rw [if_neg c] at h
        refine G_r C [(.aload_n 0, 1, 0, 0, .null), (.getfield 28, 3, 2, 5, .null)] 53 [(0, .ref 0), (1, .int x1)] [.int ed] (wReader cy 0 eo et ed em ef ez ek es en) (by decide +kernel) rfl rfl ?_
        refine G_if_ne C (off := 9) (tgt := 62) (by decide +kernel) rfl (fun c => ?_) (fun c => ?_)
        · rw [if_neg c] at h
          refine G_r C [(.iload_n 1, 1, 0, 0, .null), (.bipush 59, 2, 0, 0, .int (59 : Int32))] 65 [(0, .ref 0), (1, .int x1)] [.int (59 : Int32), .int x1] (wReader cy 0 eo et ed em ef ez ek es en) (by decide +kernel) rfl rfl ?_
          refine G_icmp_ne C (off := 12) (tgt := 77) (by decide +kernel) rfl (fun c => ?_) (fun c => ?_)
          · rw [if_neg c] at h
            refine G_r C [(.iload_n 1, 1, 0, 0, .null), (.bipush 45, 2, 0, 0, .int (45 : Int32))] 80 [(0, .ref 0), (1, .int x1)] [.int (45 : Int32), .int x1] (wReader cy 0 eo et ed em ef ez ek es en) (by decide +kernel) rfl rfl ?_
            refine G_icmp_ne C (off := 32) (tgt := 112) (by decide +kernel) rfl (fun c => ?_) (fun c => ?_)
            · rw [if_neg c] at h
              refine G_r C [(.iconst 0, 1, 0, 0, .int (0 : Int32))] 113 [(0, .ref 0), (1, .int x1)] [.int (0 : Int32)] (wReader cy 0 eo et ed em ef ez ek es en) (by decide +kernel) rfl rfl ?_
              have h := Option.some.inj h
              subst h
              exact G_zret C (v := false) hR (by decide +kernel)
            · rw [if_pos c] at h
              refine G_r C [(.aload_n 0, 1, 0, 0, .null)] 84 [(0, .ref 0), (1, .int x1)] [.ref 0] (wReader cy 0 eo et ed em ef ez ek es en) (by decide +kernel) rfl rfl ?_
              obtain ⟨q1, hq1, h⟩ := obd h
              refine G_c0 C lk_2_58 ⟨Nat.le_of_ble_eq_true rfl, Nat.le_of_ble_eq_true rfl⟩ (by decide +kernel) [] (c_X2_closeNumber cy eo et ed em ef ez ek es en q1 hq1) rfl rfl (Nat.le_of_ble_eq_true rfl) ⟨rfl, rfl⟩ rfl ?_
              refine G_r C [(.aload_n 0, 1, 0, 0, .null), (.iconst 1, 1, 0, 0, .int (1 : Int32))] 89 [(0, .ref 0), (1, .int x1)] [.int (1 : Int32), .ref 0] (wReader cy 0 eo q1.1 ed q1.2.1 q1.2.2.1 q1.2.2.2.1 ek es q1.2.2.2.2) (by decide +kernel) rfl rfl ?_
              refine G_putZ C (idx := 51) (ci := 2) (kf := 6) (b := true) (w' := (wReader cy 0 eo q1.1 ed true q1.2.2.1 q1.2.2.2.1 ek es q1.2.2.2.2)) (by decide +kernel) rfl (Nat.le_of_ble_eq_true rfl) rfl rfl (by decide +kernel) rfl ?_
              refine G_r C [(.aload_n 0, 1, 0, 0, .null)] 93 [(0, .ref 0), (1, .int x1)] [.ref 0] (wReader cy 0 eo q1.1 ed true q1.2.2.1 q1.2.2.2.1 ek es q1.2.2.2.2) (by decide +kernel) rfl rfl ?_
              obtain ⟨q2, hq2, h⟩ := obd h
              refine G_c0 C lk_2_68 ⟨Nat.le_of_ble_eq_true rfl, Nat.le_of_ble_eq_true rfl⟩ (by decide +kernel) [.int q2] (c_X2_given cy eo q1.1 ed true q1.2.2.1 q1.2.2.2.1 ek es q1.2.2.2.2 q2 hq2) rfl rfl (Nat.le_of_ble_eq_true rfl) ⟨rfl, rfl⟩ rfl ?_
              refine G_r C [(.aload_n 0, 1, 0, 0, .null), (.getfield 28, 3, 2, 5, .null)] 100 [(0, .ref 0), (1, .int x1)] [.int ed, .int q2] (wReader cy 0 eo q1.1 ed true q1.2.2.1 q1.2.2.2.1 ek es q1.2.2.2.2) (by decide +kernel) rfl rfl ?_
              obtain ⟨q3, hq3, h⟩ := obd h
              refine G_cS C lk_2_71 ⟨Nat.le_of_ble_eq_true rfl, Nat.le_of_ble_eq_true rfl⟩ (by decide +kernel) [.int q3, .int q2] (c_X2_mostNumbers cy ed q3 hq3) rfl rfl (Nat.le_of_ble_eq_true rfl) rfl ?_
              refine G_icmp_ge C (off := 7) (tgt := 110) (by decide +kernel) rfl (fun c => ?_) (fun c => ?_)
              · rw [if_pos c] at h
                refine G_r C [(.iconst 0, 1, 0, 0, .int (0 : Int32))] 111 [(0, .ref 0), (1, .int x1)] [.int (0 : Int32)] (wReader cy 0 eo q1.1 ed true q1.2.2.1 q1.2.2.2.1 ek es q1.2.2.2.2) (by decide +kernel) rfl rfl ?_
                have h := Option.some.inj h
                subst h
                exact G_zret C (v := false) hR (by decide +kernel)
              · rw [if_neg c] at h
                refine G_r C [(.iconst 1, 1, 0, 0, .int (1 : Int32))] 107 [(0, .ref 0), (1, .int x1)] [.int (1 : Int32)] (wReader cy 0 eo q1.1 ed true q1.2.2.1 q1.2.2.2.1 ek es q1.2.2.2.2) (by decide +kernel) rfl rfl ?_
                refine G_goto C (off := 4) (tgt := 111) (by decide +kernel) rfl ?_
                have h := Option.some.inj h
                subst h
                exact G_zret C (v := true) hR (by decide +kernel)
          · rw [if_pos c] at h
            refine G_r C [(.aload_n 0, 1, 0, 0, .null)] 69 [(0, .ref 0), (1, .int x1)] [.ref 0] (wReader cy 0 eo et ed em ef ez ek es en) (by decide +kernel) rfl rfl ?_
            obtain ⟨q4, hq4, h⟩ := obd h
            refine G_c0 C lk_2_58 ⟨Nat.le_of_ble_eq_true rfl, Nat.le_of_ble_eq_true rfl⟩ (by decide +kernel) [] (c_X2_closeNumber cy eo et ed em ef ez ek es en q4 hq4) rfl rfl (Nat.le_of_ble_eq_true rfl) ⟨rfl, rfl⟩ rfl ?_
            refine G_r C [(.aload_n 0, 1, 0, 0, .null)] 73 [(0, .ref 0), (1, .int x1)] [.ref 0] (wReader cy 0 eo q4.1 ed q4.2.1 q4.2.2.1 q4.2.2.2.1 ek es q4.2.2.2.2) (by decide +kernel) rfl rfl ?_
            obtain ⟨q5, hq5, h⟩ := obd h
            refine G_c0 C lk_2_64 ⟨Nat.le_of_ble_eq_true rfl, Nat.le_of_ble_eq_true rfl⟩ (by decide +kernel) [.int (bI q5.1)] (c_X2_closeOrder cy eo q4.1 ed q4.2.1 q4.2.2.1 q4.2.2.2.1 ek es q4.2.2.2.2 q5 hq5) rfl rfl (Nat.le_of_ble_eq_true rfl) ⟨rfl, rfl⟩ rfl ?_
            have h := Option.some.inj h
            subst h
            exact G_zret C (v := q5.1) hR (by decide +kernel)
        · rw [if_pos c] at h
          refine G_r C [(.aload_n 0, 1, 0, 0, .null), (.iload_n 1, 1, 0, 0, .null)] 58 [(0, .ref 0), (1, .int x1)] [.int x1, .ref 0] (wReader cy 0 eo et ed em ef ez ek es en) (by decide +kernel) rfl rfl ?_
          obtain ⟨q6, hq6, h⟩ := obd h
          refine G_c0 C lk_2_61 ⟨Nat.le_of_ble_eq_true rfl, Nat.le_of_ble_eq_true rfl⟩ (by decide +kernel) [.int (bI q6.1)] (c_X2_openOrder cy eo et ed em ef ez ek es en x1 q6 hq6) rfl rfl (Nat.le_of_ble_eq_true rfl) ⟨rfl, rfl⟩ rfl ?_
          have h := Option.some.inj h
          subst h
          exact G_zret C (v := q6.1) hR (by decide +kernel)
      · rw [if_pos c] at h
        refine G_r C [(.aload_n 0, 1, 0, 0, .null)] 44 [(0, .ref 0), (1, .int x1)] [.ref 0] (wReader cy 0 eo et ed em ef ez ek es en) (by decide +kernel) rfl rfl ?_
        obtain ⟨q7, hq7, h⟩ := obd h
        refine G_c0 C lk_2_58 ⟨Nat.le_of_ble_eq_true rfl, Nat.le_of_ble_eq_true rfl⟩ (by decide +kernel) [] (c_X2_closeNumber cy eo et ed em ef ez ek es en q7 hq7) rfl rfl (Nat.le_of_ble_eq_true rfl) ⟨rfl, rfl⟩ rfl ?_
        refine G_r C [(.iconst 1, 1, 0, 0, .int (1 : Int32))] 48 [(0, .ref 0), (1, .int x1)] [.int (1 : Int32)] (wReader cy 0 eo q7.1 ed q7.2.1 q7.2.2.1 q7.2.2.2.1 ek es q7.2.2.2.2) (by decide +kernel) rfl rfl ?_
        have h := Option.some.inj h
        subst h
        exact G_zret C (v := true) hR (by decide +kernel)
    · rw [if_neg c] at h
      refine G_r C [(.aload_n 0, 1, 0, 0, .null), (.getfield 55, 3, 2, 7, .null)] 32 [(0, .ref 0), (1, .int x1)] [.int ef] (wReader cy 0 eo et ed em ef ez ek es en) (by decide +kernel) rfl rfl ?_
      refine G_if_ne C (off := 5) (tgt := 37) (by decide +kernel) rfl (fun c => ?_) (fun c => ?_)
      · rw [if_neg c] at h
        refine G_r C [(.iload_n 1, 1, 0, 0, .null), (.bipush 32, 2, 0, 0, .int (32 : Int32))] 40 [(0, .ref 0), (1, .int x1)] [.int (32 : Int32), .int x1] (wReader cy 0 eo et ed em ef ez ek es en) (by decide +kernel) rfl rfl ?_
        refine G_icmp_ne C (off := 9) (tgt := 49) (by decide +kernel) rfl (fun c => ?_) (fun c => ?_)
        · rw [if_neg c] at h
          refine G_r C [(.aload_n 0, 1, 0, 0, .null), (.getfield 28, 3, 2, 5, .null)] 53 [(0, .ref 0), (1, .int x1)] [.int ed] (wReader cy 0 eo et ed em ef ez ek es en) (by decide +kernel) rfl rfl ?_
          refine G_if_ne C (off := 9) (tgt := 62) (by decide +kernel) rfl (fun c => ?_) (fun c => ?_)
          · rw [if_neg c] at h
            refine G_r C [(.iload_n 1, 1, 0, 0, .null), (.bipush 59, 2, 0, 0, .int (59 : Int32))] 65 [(0, .ref 0), (1, .int x1)] [.int (59 : Int32), .int x1] (wReader cy 0 eo et ed em ef ez ek es en) (by decide +kernel) rfl rfl ?_
            refine G_icmp_ne C (off := 12) (tgt := 77) (by decide +kernel) rfl (fun c => ?_) (fun c => ?_)
            · rw [if_neg c] at h
              refine G_r C [(.iload_n 1, 1, 0, 0, .null), (.bipush 45, 2, 0, 0, .int (45 : Int32))] 80 [(0, .ref 0), (1, .int x1)] [.int (45 : Int32), .int x1] (wReader cy 0 eo et ed em ef ez ek es en) (by decide +kernel) rfl rfl ?_
              refine G_icmp_ne C (off := 32) (tgt := 112) (by decide +kernel) rfl (fun c => ?_) (fun c => ?_)
              · rw [if_neg c] at h
                refine G_r C [(.iconst 0, 1, 0, 0, .int (0 : Int32))] 113 [(0, .ref 0), (1, .int x1)] [.int (0 : Int32)] (wReader cy 0 eo et ed em ef ez ek es en) (by decide +kernel) rfl rfl ?_
                have h := Option.some.inj h
                subst h
                exact G_zret C (v := false) hR (by decide +kernel)
              · rw [if_pos c] at h
                refine G_r C [(.aload_n 0, 1, 0, 0, .null)] 84 [(0, .ref 0), (1, .int x1)] [.ref 0] (wReader cy 0 eo et ed em ef ez ek es en) (by decide +kernel) rfl rfl ?_
                obtain ⟨q8, hq8, h⟩ := obd h
                refine G_c0 C lk_2_58 ⟨Nat.le_of_ble_eq_true rfl, Nat.le_of_ble_eq_true rfl⟩ (by decide +kernel) [] (c_X2_closeNumber cy eo et ed em ef ez ek es en q8 hq8) rfl rfl (Nat.le_of_ble_eq_true rfl) ⟨rfl, rfl⟩ rfl ?_
                refine G_r C [(.aload_n 0, 1, 0, 0, .null), (.iconst 1, 1, 0, 0, .int (1 : Int32))] 89 [(0, .ref 0), (1, .int x1)] [.int (1 : Int32), .ref 0] (wReader cy 0 eo q8.1 ed q8.2.1 q8.2.2.1 q8.2.2.2.1 ek es q8.2.2.2.2) (by decide +kernel) rfl rfl ?_
                refine G_putZ C (idx := 51) (ci := 2) (kf := 6) (b := true) (w' := (wReader cy 0 eo q8.1 ed true q8.2.2.1 q8.2.2.2.1 ek es q8.2.2.2.2)) (by decide +kernel) rfl (Nat.le_of_ble_eq_true rfl) rfl rfl (by decide +kernel) rfl ?_
                refine G_r C [(.aload_n 0, 1, 0, 0, .null)] 93 [(0, .ref 0), (1, .int x1)] [.ref 0] (wReader cy 0 eo q8.1 ed true q8.2.2.1 q8.2.2.2.1 ek es q8.2.2.2.2) (by decide +kernel) rfl rfl ?_
                obtain ⟨q9, hq9, h⟩ := obd h
                refine G_c0 C lk_2_68 ⟨Nat.le_of_ble_eq_true rfl, Nat.le_of_ble_eq_true rfl⟩ (by decide +kernel) [.int q9] (c_X2_given cy eo q8.1 ed true q8.2.2.1 q8.2.2.2.1 ek es q8.2.2.2.2 q9 hq9) rfl rfl (Nat.le_of_ble_eq_true rfl) ⟨rfl, rfl⟩ rfl ?_
                refine G_r C [(.aload_n 0, 1, 0, 0, .null), (.getfield 28, 3, 2, 5, .null)] 100 [(0, .ref 0), (1, .int x1)] [.int ed, .int q9] (wReader cy 0 eo q8.1 ed true q8.2.2.1 q8.2.2.2.1 ek es q8.2.2.2.2) (by decide +kernel) rfl rfl ?_
                obtain ⟨q10, hq10, h⟩ := obd h
                refine G_cS C lk_2_71 ⟨Nat.le_of_ble_eq_true rfl, Nat.le_of_ble_eq_true rfl⟩ (by decide +kernel) [.int q10, .int q9] (c_X2_mostNumbers cy ed q10 hq10) rfl rfl (Nat.le_of_ble_eq_true rfl) rfl ?_
                refine G_icmp_ge C (off := 7) (tgt := 110) (by decide +kernel) rfl (fun c => ?_) (fun c => ?_)
                · rw [if_pos c] at h
                  refine G_r C [(.iconst 0, 1, 0, 0, .int (0 : Int32))] 111 [(0, .ref 0), (1, .int x1)] [.int (0 : Int32)] (wReader cy 0 eo q8.1 ed true q8.2.2.1 q8.2.2.2.1 ek es q8.2.2.2.2) (by decide +kernel) rfl rfl ?_
                  have h := Option.some.inj h
                  subst h
                  exact G_zret C (v := false) hR (by decide +kernel)
                · rw [if_neg c] at h
                  refine G_r C [(.iconst 1, 1, 0, 0, .int (1 : Int32))] 107 [(0, .ref 0), (1, .int x1)] [.int (1 : Int32)] (wReader cy 0 eo q8.1 ed true q8.2.2.1 q8.2.2.2.1 ek es q8.2.2.2.2) (by decide +kernel) rfl rfl ?_
                  refine G_goto C (off := 4) (tgt := 111) (by decide +kernel) rfl ?_
                  have h := Option.some.inj h
                  subst h
                  exact G_zret C (v := true) hR (by decide +kernel)
            · rw [if_pos c] at h
              refine G_r C [(.aload_n 0, 1, 0, 0, .null)] 69 [(0, .ref 0), (1, .int x1)] [.ref 0] (wReader cy 0 eo et ed em ef ez ek es en) (by decide +kernel) rfl rfl ?_
              obtain ⟨q11, hq11, h⟩ := obd h
              refine G_c0 C lk_2_58 ⟨Nat.le_of_ble_eq_true rfl, Nat.le_of_ble_eq_true rfl⟩ (by decide +kernel) [] (c_X2_closeNumber cy eo et ed em ef ez ek es en q11 hq11) rfl rfl (Nat.le_of_ble_eq_true rfl) ⟨rfl, rfl⟩ rfl ?_
              refine G_r C [(.aload_n 0, 1, 0, 0, .null)] 73 [(0, .ref 0), (1, .int x1)] [.ref 0] (wReader cy 0 eo q11.1 ed q11.2.1 q11.2.2.1 q11.2.2.2.1 ek es q11.2.2.2.2) (by decide +kernel) rfl rfl ?_
              obtain ⟨q12, hq12, h⟩ := obd h
              refine G_c0 C lk_2_64 ⟨Nat.le_of_ble_eq_true rfl, Nat.le_of_ble_eq_true rfl⟩ (by decide +kernel) [.int (bI q12.1)] (c_X2_closeOrder cy eo q11.1 ed q11.2.1 q11.2.2.1 q11.2.2.2.1 ek es q11.2.2.2.2 q12 hq12) rfl rfl (Nat.le_of_ble_eq_true rfl) ⟨rfl, rfl⟩ rfl ?_
              have h := Option.some.inj h
              subst h
              exact G_zret C (v := q12.1) hR (by decide +kernel)
          · rw [if_pos c] at h
            refine G_r C [(.aload_n 0, 1, 0, 0, .null), (.iload_n 1, 1, 0, 0, .null)] 58 [(0, .ref 0), (1, .int x1)] [.int x1, .ref 0] (wReader cy 0 eo et ed em ef ez ek es en) (by decide +kernel) rfl rfl ?_
            obtain ⟨q13, hq13, h⟩ := obd h
            refine G_c0 C lk_2_61 ⟨Nat.le_of_ble_eq_true rfl, Nat.le_of_ble_eq_true rfl⟩ (by decide +kernel) [.int (bI q13.1)] (c_X2_openOrder cy eo et ed em ef ez ek es en x1 q13 hq13) rfl rfl (Nat.le_of_ble_eq_true rfl) ⟨rfl, rfl⟩ rfl ?_
            have h := Option.some.inj h
            subst h
            exact G_zret C (v := q13.1) hR (by decide +kernel)
        · rw [if_pos c] at h
          refine G_r C [(.aload_n 0, 1, 0, 0, .null)] 44 [(0, .ref 0), (1, .int x1)] [.ref 0] (wReader cy 0 eo et ed em ef ez ek es en) (by decide +kernel) rfl rfl ?_
          obtain ⟨q14, hq14, h⟩ := obd h
          refine G_c0 C lk_2_58 ⟨Nat.le_of_ble_eq_true rfl, Nat.le_of_ble_eq_true rfl⟩ (by decide +kernel) [] (c_X2_closeNumber cy eo et ed em ef ez ek es en q14 hq14) rfl rfl (Nat.le_of_ble_eq_true rfl) ⟨rfl, rfl⟩ rfl ?_
          refine G_r C [(.iconst 1, 1, 0, 0, .int (1 : Int32))] 48 [(0, .ref 0), (1, .int x1)] [.int (1 : Int32)] (wReader cy 0 eo q14.1 ed q14.2.1 q14.2.2.1 q14.2.2.2.1 ek es q14.2.2.2.2) (by decide +kernel) rfl rfl ?_
          have h := Option.some.inj h
          subst h
          exact G_zret C (v := true) hR (by decide +kernel)
      · rw [if_pos c] at h
        refine G_r C [(.iconst 0, 1, 0, 0, .int (0 : Int32))] 36 [(0, .ref 0), (1, .int x1)] [.int (0 : Int32)] (wReader cy 0 eo et ed em ef ez ek es en) (by decide +kernel) rfl rfl ?_
        have h := Option.some.inj h
        subst h
        exact G_zret C (v := false) hR (by decide +kernel)
  · rw [if_neg c] at h
    refine G_r C [(.iload_n 1, 1, 0, 0, .null), (.bipush 57, 2, 0, 0, .int (57 : Int32))] 9 [(0, .ref 0), (1, .int x1)] [.int (57 : Int32), .int x1] (wReader cy 0 eo et ed em ef ez ek es en) (by decide +kernel) rfl rfl ?_
    refine G_icmp_gt C (off := 12) (tgt := 21) (by decide +kernel) rfl (fun c => ?_) (fun c => ?_)
    · rw [if_pos c] at h
      refine G_r C [(.aload_n 0, 1, 0, 0, .null), (.getfield 51, 3, 2, 6, .null)] 25 [(0, .ref 0), (1, .int x1)] [.int (bI em)] (wReader cy 0 eo et ed em ef ez ek es en) (by decide +kernel) rfl rfl ?_
      refine G_if_eq C (off := 12) (tgt := 37) (by decide +kernel) rfl (fun c => ?_) (fun c => ?_)
      · rw [if_pos c] at h
        refine G_r C [(.iload_n 1, 1, 0, 0, .null), (.bipush 32, 2, 0, 0, .int (32 : Int32))] 40 [(0, .ref 0), (1, .int x1)] [.int (32 : Int32), .int x1] (wReader cy 0 eo et ed em ef ez ek es en) (by decide +kernel) rfl rfl ?_
        refine G_icmp_ne C (off := 9) (tgt := 49) (by decide +kernel) rfl (fun c => ?_) (fun c => ?_)
        · rw [if_neg c] at h
          refine G_r C [(.aload_n 0, 1, 0, 0, .null), (.getfield 28, 3, 2, 5, .null)] 53 [(0, .ref 0), (1, .int x1)] [.int ed] (wReader cy 0 eo et ed em ef ez ek es en) (by decide +kernel) rfl rfl ?_
          refine G_if_ne C (off := 9) (tgt := 62) (by decide +kernel) rfl (fun c => ?_) (fun c => ?_)
          · rw [if_neg c] at h
            refine G_r C [(.iload_n 1, 1, 0, 0, .null), (.bipush 59, 2, 0, 0, .int (59 : Int32))] 65 [(0, .ref 0), (1, .int x1)] [.int (59 : Int32), .int x1] (wReader cy 0 eo et ed em ef ez ek es en) (by decide +kernel) rfl rfl ?_
            refine G_icmp_ne C (off := 12) (tgt := 77) (by decide +kernel) rfl (fun c => ?_) (fun c => ?_)
            · rw [if_neg c] at h
              refine G_r C [(.iload_n 1, 1, 0, 0, .null), (.bipush 45, 2, 0, 0, .int (45 : Int32))] 80 [(0, .ref 0), (1, .int x1)] [.int (45 : Int32), .int x1] (wReader cy 0 eo et ed em ef ez ek es en) (by decide +kernel) rfl rfl ?_
              refine G_icmp_ne C (off := 32) (tgt := 112) (by decide +kernel) rfl (fun c => ?_) (fun c => ?_)
              · rw [if_neg c] at h
                refine G_r C [(.iconst 0, 1, 0, 0, .int (0 : Int32))] 113 [(0, .ref 0), (1, .int x1)] [.int (0 : Int32)] (wReader cy 0 eo et ed em ef ez ek es en) (by decide +kernel) rfl rfl ?_
                have h := Option.some.inj h
                subst h
                exact G_zret C (v := false) hR (by decide +kernel)
              · rw [if_pos c] at h
                refine G_r C [(.aload_n 0, 1, 0, 0, .null)] 84 [(0, .ref 0), (1, .int x1)] [.ref 0] (wReader cy 0 eo et ed em ef ez ek es en) (by decide +kernel) rfl rfl ?_
                obtain ⟨q15, hq15, h⟩ := obd h
                refine G_c0 C lk_2_58 ⟨Nat.le_of_ble_eq_true rfl, Nat.le_of_ble_eq_true rfl⟩ (by decide +kernel) [] (c_X2_closeNumber cy eo et ed em ef ez ek es en q15 hq15) rfl rfl (Nat.le_of_ble_eq_true rfl) ⟨rfl, rfl⟩ rfl ?_
                refine G_r C [(.aload_n 0, 1, 0, 0, .null), (.iconst 1, 1, 0, 0, .int (1 : Int32))] 89 [(0, .ref 0), (1, .int x1)] [.int (1 : Int32), .ref 0] (wReader cy 0 eo q15.1 ed q15.2.1 q15.2.2.1 q15.2.2.2.1 ek es q15.2.2.2.2) (by decide +kernel) rfl rfl ?_
                refine G_putZ C (idx := 51) (ci := 2) (kf := 6) (b := true) (w' := (wReader cy 0 eo q15.1 ed true q15.2.2.1 q15.2.2.2.1 ek es q15.2.2.2.2)) (by decide +kernel) rfl (Nat.le_of_ble_eq_true rfl) rfl rfl (by decide +kernel) rfl ?_
                refine G_r C [(.aload_n 0, 1, 0, 0, .null)] 93 [(0, .ref 0), (1, .int x1)] [.ref 0] (wReader cy 0 eo q15.1 ed true q15.2.2.1 q15.2.2.2.1 ek es q15.2.2.2.2) (by decide +kernel) rfl rfl ?_
                obtain ⟨q16, hq16, h⟩ := obd h
                refine G_c0 C lk_2_68 ⟨Nat.le_of_ble_eq_true rfl, Nat.le_of_ble_eq_true rfl⟩ (by decide +kernel) [.int q16] (c_X2_given cy eo q15.1 ed true q15.2.2.1 q15.2.2.2.1 ek es q15.2.2.2.2 q16 hq16) rfl rfl (Nat.le_of_ble_eq_true rfl) ⟨rfl, rfl⟩ rfl ?_
                refine G_r C [(.aload_n 0, 1, 0, 0, .null), (.getfield 28, 3, 2, 5, .null)] 100 [(0, .ref 0), (1, .int x1)] [.int ed, .int q16] (wReader cy 0 eo q15.1 ed true q15.2.2.1 q15.2.2.2.1 ek es q15.2.2.2.2) (by decide +kernel) rfl rfl ?_
                obtain ⟨q17, hq17, h⟩ := obd h
                refine G_cS C lk_2_71 ⟨Nat.le_of_ble_eq_true rfl, Nat.le_of_ble_eq_true rfl⟩ (by decide +kernel) [.int q17, .int q16] (c_X2_mostNumbers cy ed q17 hq17) rfl rfl (Nat.le_of_ble_eq_true rfl) rfl ?_
                refine G_icmp_ge C (off := 7) (tgt := 110) (by decide +kernel) rfl (fun c => ?_) (fun c => ?_)
                · rw [if_pos c] at h
                  refine G_r C [(.iconst 0, 1, 0, 0, .int (0 : Int32))] 111 [(0, .ref 0), (1, .int x1)] [.int (0 : Int32)] (wReader cy 0 eo q15.1 ed true q15.2.2.1 q15.2.2.2.1 ek es q15.2.2.2.2) (by decide +kernel) rfl rfl ?_
                  have h := Option.some.inj h
                  subst h
                  exact G_zret C (v := false) hR (by decide +kernel)
                · rw [if_neg c] at h
                  refine G_r C [(.iconst 1, 1, 0, 0, .int (1 : Int32))] 107 [(0, .ref 0), (1, .int x1)] [.int (1 : Int32)] (wReader cy 0 eo q15.1 ed true q15.2.2.1 q15.2.2.2.1 ek es q15.2.2.2.2) (by decide +kernel) rfl rfl ?_
                  refine G_goto C (off := 4) (tgt := 111) (by decide +kernel) rfl ?_
                  have h := Option.some.inj h
                  subst h
                  exact G_zret C (v := true) hR (by decide +kernel)
            · rw [if_pos c] at h
              refine G_r C [(.aload_n 0, 1, 0, 0, .null)] 69 [(0, .ref 0), (1, .int x1)] [.ref 0] (wReader cy 0 eo et ed em ef ez ek es en) (by decide +kernel) rfl rfl ?_
              obtain ⟨q18, hq18, h⟩ := obd h
              refine G_c0 C lk_2_58 ⟨Nat.le_of_ble_eq_true rfl, Nat.le_of_ble_eq_true rfl⟩ (by decide +kernel) [] (c_X2_closeNumber cy eo et ed em ef ez ek es en q18 hq18) rfl rfl (Nat.le_of_ble_eq_true rfl) ⟨rfl, rfl⟩ rfl ?_
              refine G_r C [(.aload_n 0, 1, 0, 0, .null)] 73 [(0, .ref 0), (1, .int x1)] [.ref 0] (wReader cy 0 eo q18.1 ed q18.2.1 q18.2.2.1 q18.2.2.2.1 ek es q18.2.2.2.2) (by decide +kernel) rfl rfl ?_
              obtain ⟨q19, hq19, h⟩ := obd h
              refine G_c0 C lk_2_64 ⟨Nat.le_of_ble_eq_true rfl, Nat.le_of_ble_eq_true rfl⟩ (by decide +kernel) [.int (bI q19.1)] (c_X2_closeOrder cy eo q18.1 ed q18.2.1 q18.2.2.1 q18.2.2.2.1 ek es q18.2.2.2.2 q19 hq19) rfl rfl (Nat.le_of_ble_eq_true rfl) ⟨rfl, rfl⟩ rfl ?_
              have h := Option.some.inj h
              subst h
              exact G_zret C (v := q19.1) hR (by decide +kernel)
          · rw [if_pos c] at h
            refine G_r C [(.aload_n 0, 1, 0, 0, .null), (.iload_n 1, 1, 0, 0, .null)] 58 [(0, .ref 0), (1, .int x1)] [.int x1, .ref 0] (wReader cy 0 eo et ed em ef ez ek es en) (by decide +kernel) rfl rfl ?_
            obtain ⟨q20, hq20, h⟩ := obd h
            refine G_c0 C lk_2_61 ⟨Nat.le_of_ble_eq_true rfl, Nat.le_of_ble_eq_true rfl⟩ (by decide +kernel) [.int (bI q20.1)] (c_X2_openOrder cy eo et ed em ef ez ek es en x1 q20 hq20) rfl rfl (Nat.le_of_ble_eq_true rfl) ⟨rfl, rfl⟩ rfl ?_
            have h := Option.some.inj h
            subst h
            exact G_zret C (v := q20.1) hR (by decide +kernel)
        · rw [if_pos c] at h
          refine G_r C [(.aload_n 0, 1, 0, 0, .null)] 44 [(0, .ref 0), (1, .int x1)] [.ref 0] (wReader cy 0 eo et ed em ef ez ek es en) (by decide +kernel) rfl rfl ?_
          obtain ⟨q21, hq21, h⟩ := obd h
          refine G_c0 C lk_2_58 ⟨Nat.le_of_ble_eq_true rfl, Nat.le_of_ble_eq_true rfl⟩ (by decide +kernel) [] (c_X2_closeNumber cy eo et ed em ef ez ek es en q21 hq21) rfl rfl (Nat.le_of_ble_eq_true rfl) ⟨rfl, rfl⟩ rfl ?_
          refine G_r C [(.iconst 1, 1, 0, 0, .int (1 : Int32))] 48 [(0, .ref 0), (1, .int x1)] [.int (1 : Int32)] (wReader cy 0 eo q21.1 ed q21.2.1 q21.2.2.1 q21.2.2.2.1 ek es q21.2.2.2.2) (by decide +kernel) rfl rfl ?_
          have h := Option.some.inj h
          subst h
          exact G_zret C (v := true) hR (by decide +kernel)
      · rw [if_neg c] at h
        refine G_r C [(.aload_n 0, 1, 0, 0, .null), (.getfield 55, 3, 2, 7, .null)] 32 [(0, .ref 0), (1, .int x1)] [.int ef] (wReader cy 0 eo et ed em ef ez ek es en) (by decide +kernel) rfl rfl ?_
        refine G_if_ne C (off := 5) (tgt := 37) (by decide +kernel) rfl (fun c => ?_) (fun c => ?_)
        · rw [if_neg c] at h
          refine G_r C [(.iload_n 1, 1, 0, 0, .null), (.bipush 32, 2, 0, 0, .int (32 : Int32))] 40 [(0, .ref 0), (1, .int x1)] [.int (32 : Int32), .int x1] (wReader cy 0 eo et ed em ef ez ek es en) (by decide +kernel) rfl rfl ?_
          refine G_icmp_ne C (off := 9) (tgt := 49) (by decide +kernel) rfl (fun c => ?_) (fun c => ?_)
          · rw [if_neg c] at h
            refine G_r C [(.aload_n 0, 1, 0, 0, .null), (.getfield 28, 3, 2, 5, .null)] 53 [(0, .ref 0), (1, .int x1)] [.int ed] (wReader cy 0 eo et ed em ef ez ek es en) (by decide +kernel) rfl rfl ?_
            refine G_if_ne C (off := 9) (tgt := 62) (by decide +kernel) rfl (fun c => ?_) (fun c => ?_)
            · rw [if_neg c] at h
              refine G_r C [(.iload_n 1, 1, 0, 0, .null), (.bipush 59, 2, 0, 0, .int (59 : Int32))] 65 [(0, .ref 0), (1, .int x1)] [.int (59 : Int32), .int x1] (wReader cy 0 eo et ed em ef ez ek es en) (by decide +kernel) rfl rfl ?_
              refine G_icmp_ne C (off := 12) (tgt := 77) (by decide +kernel) rfl (fun c => ?_) (fun c => ?_)
              · rw [if_neg c] at h
                refine G_r C [(.iload_n 1, 1, 0, 0, .null), (.bipush 45, 2, 0, 0, .int (45 : Int32))] 80 [(0, .ref 0), (1, .int x1)] [.int (45 : Int32), .int x1] (wReader cy 0 eo et ed em ef ez ek es en) (by decide +kernel) rfl rfl ?_
                refine G_icmp_ne C (off := 32) (tgt := 112) (by decide +kernel) rfl (fun c => ?_) (fun c => ?_)
                · rw [if_neg c] at h
                  refine G_r C [(.iconst 0, 1, 0, 0, .int (0 : Int32))] 113 [(0, .ref 0), (1, .int x1)] [.int (0 : Int32)] (wReader cy 0 eo et ed em ef ez ek es en) (by decide +kernel) rfl rfl ?_
                  have h := Option.some.inj h
                  subst h
                  exact G_zret C (v := false) hR (by decide +kernel)
                · rw [if_pos c] at h
                  refine G_r C [(.aload_n 0, 1, 0, 0, .null)] 84 [(0, .ref 0), (1, .int x1)] [.ref 0] (wReader cy 0 eo et ed em ef ez ek es en) (by decide +kernel) rfl rfl ?_
                  obtain ⟨q22, hq22, h⟩ := obd h
                  refine G_c0 C lk_2_58 ⟨Nat.le_of_ble_eq_true rfl, Nat.le_of_ble_eq_true rfl⟩ (by decide +kernel) [] (c_X2_closeNumber cy eo et ed em ef ez ek es en q22 hq22) rfl rfl (Nat.le_of_ble_eq_true rfl) ⟨rfl, rfl⟩ rfl ?_
                  refine G_r C [(.aload_n 0, 1, 0, 0, .null), (.iconst 1, 1, 0, 0, .int (1 : Int32))] 89 [(0, .ref 0), (1, .int x1)] [.int (1 : Int32), .ref 0] (wReader cy 0 eo q22.1 ed q22.2.1 q22.2.2.1 q22.2.2.2.1 ek es q22.2.2.2.2) (by decide +kernel) rfl rfl ?_
                  refine G_putZ C (idx := 51) (ci := 2) (kf := 6) (b := true) (w' := (wReader cy 0 eo q22.1 ed true q22.2.2.1 q22.2.2.2.1 ek es q22.2.2.2.2)) (by decide +kernel) rfl (Nat.le_of_ble_eq_true rfl) rfl rfl (by decide +kernel) rfl ?_
                  refine G_r C [(.aload_n 0, 1, 0, 0, .null)] 93 [(0, .ref 0), (1, .int x1)] [.ref 0] (wReader cy 0 eo q22.1 ed true q22.2.2.1 q22.2.2.2.1 ek es q22.2.2.2.2) (by decide +kernel) rfl rfl ?_
                  obtain ⟨q23, hq23, h⟩ := obd h
                  refine G_c0 C lk_2_68 ⟨Nat.le_of_ble_eq_true rfl, Nat.le_of_ble_eq_true rfl⟩ (by decide +kernel) [.int q23] (c_X2_given cy eo q22.1 ed true q22.2.2.1 q22.2.2.2.1 ek es q22.2.2.2.2 q23 hq23) rfl rfl (Nat.le_of_ble_eq_true rfl) ⟨rfl, rfl⟩ rfl ?_
                  refine G_r C [(.aload_n 0, 1, 0, 0, .null), (.getfield 28, 3, 2, 5, .null)] 100 [(0, .ref 0), (1, .int x1)] [.int ed, .int q23] (wReader cy 0 eo q22.1 ed true q22.2.2.1 q22.2.2.2.1 ek es q22.2.2.2.2) (by decide +kernel) rfl rfl ?_
                  obtain ⟨q24, hq24, h⟩ := obd h
                  refine G_cS C lk_2_71 ⟨Nat.le_of_ble_eq_true rfl, Nat.le_of_ble_eq_true rfl⟩ (by decide +kernel) [.int q24, .int q23] (c_X2_mostNumbers cy ed q24 hq24) rfl rfl (Nat.le_of_ble_eq_true rfl) rfl ?_
                  refine G_icmp_ge C (off := 7) (tgt := 110) (by decide +kernel) rfl (fun c => ?_) (fun c => ?_)
                  · rw [if_pos c] at h
                    refine G_r C [(.iconst 0, 1, 0, 0, .int (0 : Int32))] 111 [(0, .ref 0), (1, .int x1)] [.int (0 : Int32)] (wReader cy 0 eo q22.1 ed true q22.2.2.1 q22.2.2.2.1 ek es q22.2.2.2.2) (by decide +kernel) rfl rfl ?_
                    have h := Option.some.inj h
                    subst h
                    exact G_zret C (v := false) hR (by decide +kernel)
                  · rw [if_neg c] at h
                    refine G_r C [(.iconst 1, 1, 0, 0, .int (1 : Int32))] 107 [(0, .ref 0), (1, .int x1)] [.int (1 : Int32)] (wReader cy 0 eo q22.1 ed true q22.2.2.1 q22.2.2.2.1 ek es q22.2.2.2.2) (by decide +kernel) rfl rfl ?_
                    refine G_goto C (off := 4) (tgt := 111) (by decide +kernel) rfl ?_
                    have h := Option.some.inj h
                    subst h
                    exact G_zret C (v := true) hR (by decide +kernel)
              · rw [if_pos c] at h
                refine G_r C [(.aload_n 0, 1, 0, 0, .null)] 69 [(0, .ref 0), (1, .int x1)] [.ref 0] (wReader cy 0 eo et ed em ef ez ek es en) (by decide +kernel) rfl rfl ?_
                obtain ⟨q25, hq25, h⟩ := obd h
                refine G_c0 C lk_2_58 ⟨Nat.le_of_ble_eq_true rfl, Nat.le_of_ble_eq_true rfl⟩ (by decide +kernel) [] (c_X2_closeNumber cy eo et ed em ef ez ek es en q25 hq25) rfl rfl (Nat.le_of_ble_eq_true rfl) ⟨rfl, rfl⟩ rfl ?_
                refine G_r C [(.aload_n 0, 1, 0, 0, .null)] 73 [(0, .ref 0), (1, .int x1)] [.ref 0] (wReader cy 0 eo q25.1 ed q25.2.1 q25.2.2.1 q25.2.2.2.1 ek es q25.2.2.2.2) (by decide +kernel) rfl rfl ?_
                obtain ⟨q26, hq26, h⟩ := obd h
                refine G_c0 C lk_2_64 ⟨Nat.le_of_ble_eq_true rfl, Nat.le_of_ble_eq_true rfl⟩ (by decide +kernel) [.int (bI q26.1)] (c_X2_closeOrder cy eo q25.1 ed q25.2.1 q25.2.2.1 q25.2.2.2.1 ek es q25.2.2.2.2 q26 hq26) rfl rfl (Nat.le_of_ble_eq_true rfl) ⟨rfl, rfl⟩ rfl ?_
                have h := Option.some.inj h
                subst h
                exact G_zret C (v := q26.1) hR (by decide +kernel)
            · rw [if_pos c] at h
              refine G_r C [(.aload_n 0, 1, 0, 0, .null), (.iload_n 1, 1, 0, 0, .null)] 58 [(0, .ref 0), (1, .int x1)] [.int x1, .ref 0] (wReader cy 0 eo et ed em ef ez ek es en) (by decide +kernel) rfl rfl ?_
              obtain ⟨q27, hq27, h⟩ := obd h
              refine G_c0 C lk_2_61 ⟨Nat.le_of_ble_eq_true rfl, Nat.le_of_ble_eq_true rfl⟩ (by decide +kernel) [.int (bI q27.1)] (c_X2_openOrder cy eo et ed em ef ez ek es en x1 q27 hq27) rfl rfl (Nat.le_of_ble_eq_true rfl) ⟨rfl, rfl⟩ rfl ?_
              have h := Option.some.inj h
              subst h
              exact G_zret C (v := q27.1) hR (by decide +kernel)
          · rw [if_pos c] at h
            refine G_r C [(.aload_n 0, 1, 0, 0, .null)] 44 [(0, .ref 0), (1, .int x1)] [.ref 0] (wReader cy 0 eo et ed em ef ez ek es en) (by decide +kernel) rfl rfl ?_
            obtain ⟨q28, hq28, h⟩ := obd h
            refine G_c0 C lk_2_58 ⟨Nat.le_of_ble_eq_true rfl, Nat.le_of_ble_eq_true rfl⟩ (by decide +kernel) [] (c_X2_closeNumber cy eo et ed em ef ez ek es en q28 hq28) rfl rfl (Nat.le_of_ble_eq_true rfl) ⟨rfl, rfl⟩ rfl ?_
            refine G_r C [(.iconst 1, 1, 0, 0, .int (1 : Int32))] 48 [(0, .ref 0), (1, .int x1)] [.int (1 : Int32)] (wReader cy 0 eo q28.1 ed q28.2.1 q28.2.2.1 q28.2.2.2.1 ek es q28.2.2.2.2) (by decide +kernel) rfl rfl ?_
            have h := Option.some.inj h
            subst h
            exact G_zret C (v := true) hR (by decide +kernel)
        · rw [if_pos c] at h
          refine G_r C [(.iconst 0, 1, 0, 0, .int (0 : Int32))] 36 [(0, .ref 0), (1, .int x1)] [.int (0 : Int32)] (wReader cy 0 eo et ed em ef ez ek es en) (by decide +kernel) rfl rfl ?_
          have h := Option.some.inj h
          subst h
          exact G_zret C (v := false) hR (by decide +kernel)
    · rw [if_neg c] at h
      refine G_r C [(.aload_n 0, 1, 0, 0, .null), (.iload_n 1, 1, 0, 0, .null), (.bipush 48, 2, 0, 0, .int (48 : Int32)), (.isub, 1, 0, 0, .null)] 17 [(0, .ref 0), (1, .int x1)] [.int (x1 - (48 : Int32)), .ref 0] (wReader cy 0 eo et ed em ef ez ek es en) (by decide +kernel) rfl rfl ?_
      obtain ⟨q29, hq29, h⟩ := obd h
      refine G_c0 C lk_2_48 ⟨Nat.le_of_ble_eq_true rfl, Nat.le_of_ble_eq_true rfl⟩ (by decide +kernel) [.int (bI q29.1)] (c_X2_acceptFigure cy eo et ed em ef ez ek es en (x1 - (48 : Int32)) q29 hq29) rfl rfl (Nat.le_of_ble_eq_true rfl) ⟨rfl, rfl⟩ rfl ?_
      have h := Option.some.inj h
      subst h
      exact G_zret C (v := q29.1) hR (by decide +kernel)
def f_X2_scan_L21 : Nat → Int32 → Int32 → Int32 → Int32 → Bool → Int32 → Int32 → (Nat → Int32) → (Nat → Int32) → (Nat → Int32) → Int32 → (Nat → Int32) → Option (Int32 × Int32 × Int32 × Int32 × Bool × Int32 × Int32 × (Nat → Int32) × (Nat → Int32) × (Nat → Int32))
  | 0, _, _, _, _, _, _, _, _, _, _, _, _ => none
  | fu + 1, x2, eo, et, ed, em, ef, ez, ek, es, en, tl, tb => (f_X5_length tl).bind fun q2 => if q2 ≤ x2 then (if ed = 0 then (if eo = 0 then ((f_X5_length tl).bind fun q4 => some (q4, eo, et, ed, em, ef, ez, ek, es, en)) else (some ((-1 : Int32), eo, et, ed, em, ef, ez, ek, es, en))) else ((f_X5_length tl).bind fun q3 => some (q3, eo, et, ed, em, ef, ez, ek, es, en))) else ((f_X5_at x2 tl tb).bind fun q5 => (f_X2_accept q5 eo et ed em ef ez ek es en).bind fun q6 => if (bI q6.1) = 0 then (some (x2, q6.2.1, q6.2.2.1, q6.2.2.2.1, q6.2.2.2.2.1, q6.2.2.2.2.2.1, q6.2.2.2.2.2.2.1, q6.2.2.2.2.2.2.2.1, q6.2.2.2.2.2.2.2.2.1, q6.2.2.2.2.2.2.2.2.2)) else (f_X2_scan_L21 fu (x2 + (1 : Int32)) q6.2.1 q6.2.2.1 q6.2.2.2.1 q6.2.2.2.2.1 q6.2.2.2.2.2.1 q6.2.2.2.2.2.2.1 q6.2.2.2.2.2.2.2.1 q6.2.2.2.2.2.2.2.2.1 q6.2.2.2.2.2.2.2.2.2 tl tb))
def f_X2_scan (ek : Nat → Int32) (es : Nat → Int32) (en : Nat → Int32) (tl : Int32) (tb : Nat → Int32) : Option (Int32 × Int32 × Int32 × Int32 × Bool × Int32 × Int32 × (Nat → Int32) × (Nat → Int32) × (Nat → Int32)) := (f_X2_forgetNumber).bind fun q1 => f_X2_scan_L21 200 (0 : Int32) (0 : Int32) (0 : Int32) (0 : Int32) q1.1 q1.2.1 q1.2.2 ek es en tl tb
set_option maxHeartbeats 4000000 in
set_option maxRecDepth 100000 in
theorem g_X2_scan_L21 {k : KX} {cy : Nat → ClassId} (C : OK k cX2_scan 2 3 cy 4 81) : ∀ (fu : Nat) (x2 : Int32) (eo : Int32) (et : Int32) (ed : Int32) (em : Bool) (ef : Int32) (ez : Int32) (ek : Nat → Int32) (es : Nat → Int32) (en : Nat → Int32) (tl : Int32) (tb : Nat → Int32) (res : (Int32 × Int32 × Int32 × Int32 × Bool × Int32 × Int32 × (Nat → Int32) × (Nat → Int32) × (Nat → Int32))), RT k cy (some .int) (some (.int res.1)) ((wReader cy 0 res.2.1 res.2.2.1 res.2.2.2.1 res.2.2.2.2.1 res.2.2.2.2.2.1 res.2.2.2.2.2.2.1 res.2.2.2.2.2.2.2.1 res.2.2.2.2.2.2.2.2.1 res.2.2.2.2.2.2.2.2.2) ++ (wText cy 4 tl tb)) → (f_X2_scan_L21 fu x2 eo et ed em ef ez ek es en tl tb = some res) → G k 3 21 [(0, .ref 0), (1, .ref 4), (2, .int x2)] [] ((wReader cy 0 eo et ed em ef ez ek es en) ++ (wText cy 4 tl tb)) := by
  intro fu
  induction fu with
  | zero =>
    intro x2 eo et ed em ef ez ek es en tl tb res hR h
    rw [f_X2_scan_L21] at h
    cases h
  | succ fu ih =>
    intro x2 eo et ed em ef ez ek es en tl tb res hR h
    rw [f_X2_scan_L21] at h
    refine G_r C [(.iload_n 2, 1, 0, 0, .null), (.aload_n 1, 1, 0, 0, .null)] 23 [(0, .ref 0), (1, .ref 4), (2, .int x2)] [.ref 4, .int x2] ((wReader cy 0 eo et ed em ef ez ek es en) ++ (wText cy 4 tl tb)) (by decide +kernel) rfl rfl ?_
    obtain ⟨q2, hq2, h⟩ := obd h
    refine G_cV C lk_2_34 ⟨Nat.le_of_ble_eq_true rfl, Nat.le_of_ble_eq_true rfl⟩ (by decide +kernel) [4, 5] [.int q2, .int x2] ((wReader cy 0 eo et ed em ef ez ek es en) ++ (wText cy 4 tl tb)) (c_X5_length cy tl tb q2 hq2) rfl rfl (Nat.le_of_ble_eq_true rfl) rfl rfl ⟨rfl, rfl⟩ rfl rfl rfl ?_
    refine G_icmp_ge C (off := 23) (tgt := 49) (by decide +kernel) rfl (fun c => ?_) (fun c => ?_)
    · rw [if_pos c] at h
      refine G_r C [(.aload_n 0, 1, 0, 0, .null), (.getfield 28, 3, 2, 5, .null)] 53 [(0, .ref 0), (1, .ref 4), (2, .int x2)] [.int ed] ((wReader cy 0 eo et ed em ef ez ek es en) ++ (wText cy 4 tl tb)) (by decide +kernel) rfl rfl ?_
      refine G_if_ne C (off := 10) (tgt := 63) (by decide +kernel) rfl (fun c => ?_) (fun c => ?_)
      · rw [if_neg c] at h
        refine G_r C [(.aload_n 1, 1, 0, 0, .null)] 64 [(0, .ref 0), (1, .ref 4), (2, .int x2)] [.ref 4] ((wReader cy 0 eo et ed em ef ez ek es en) ++ (wText cy 4 tl tb)) (by decide +kernel) rfl rfl ?_
        obtain ⟨q3, hq3, h⟩ := obd h
        refine G_cV C lk_2_34 ⟨Nat.le_of_ble_eq_true rfl, Nat.le_of_ble_eq_true rfl⟩ (by decide +kernel) [4, 5] [.int q3] ((wReader cy 0 eo et ed em ef ez ek es en) ++ (wText cy 4 tl tb)) (c_X5_length cy tl tb q3 hq3) rfl rfl (Nat.le_of_ble_eq_true rfl) rfl rfl ⟨rfl, rfl⟩ rfl rfl rfl ?_
        refine G_goto C (off := 4) (tgt := 71) (by decide +kernel) rfl ?_
        have h := Option.some.inj h
        subst h
        exact G_iret C hR (by decide +kernel)
      · rw [if_pos c] at h
        refine G_r C [(.aload_n 0, 1, 0, 0, .null), (.getfield 21, 3, 2, 3, .null)] 60 [(0, .ref 0), (1, .ref 4), (2, .int x2)] [.int eo] ((wReader cy 0 eo et ed em ef ez ek es en) ++ (wText cy 4 tl tb)) (by decide +kernel) rfl rfl ?_
        refine G_if_ne C (off := 10) (tgt := 70) (by decide +kernel) rfl (fun c => ?_) (fun c => ?_)
        · rw [if_neg c] at h
          refine G_r C [(.iconst (-1), 1, 0, 0, .int (-1 : Int32))] 71 [(0, .ref 0), (1, .ref 4), (2, .int x2)] [.int (-1 : Int32)] ((wReader cy 0 eo et ed em ef ez ek es en) ++ (wText cy 4 tl tb)) (by decide +kernel) rfl rfl ?_
          have h := Option.some.inj h
          subst h
          exact G_iret C hR (by decide +kernel)
        · rw [if_pos c] at h
          refine G_r C [(.aload_n 1, 1, 0, 0, .null)] 64 [(0, .ref 0), (1, .ref 4), (2, .int x2)] [.ref 4] ((wReader cy 0 eo et ed em ef ez ek es en) ++ (wText cy 4 tl tb)) (by decide +kernel) rfl rfl ?_
          obtain ⟨q4, hq4, h⟩ := obd h
          refine G_cV C lk_2_34 ⟨Nat.le_of_ble_eq_true rfl, Nat.le_of_ble_eq_true rfl⟩ (by decide +kernel) [4, 5] [.int q4] ((wReader cy 0 eo et ed em ef ez ek es en) ++ (wText cy 4 tl tb)) (c_X5_length cy tl tb q4 hq4) rfl rfl (Nat.le_of_ble_eq_true rfl) rfl rfl ⟨rfl, rfl⟩ rfl rfl rfl ?_
          refine G_goto C (off := 4) (tgt := 71) (by decide +kernel) rfl ?_
          have h := Option.some.inj h
          subst h
          exact G_iret C hR (by decide +kernel)
    · rw [if_neg c] at h
      refine G_r C [(.aload_n 0, 1, 0, 0, .null), (.aload_n 1, 1, 0, 0, .null), (.iload_n 2, 1, 0, 0, .null)] 32 [(0, .ref 0), (1, .ref 4), (2, .int x2)] [.int x2, .ref 4, .ref 0] ((wReader cy 0 eo et ed em ef ez ek es en) ++ (wText cy 4 tl tb)) (by decide +kernel) rfl rfl ?_
      obtain ⟨q5, hq5, h⟩ := obd h
      refine G_cV C lk_2_40 ⟨Nat.le_of_ble_eq_true rfl, Nat.le_of_ble_eq_true rfl⟩ (by decide +kernel) [4, 5] [.int q5, .ref 0] ((wReader cy 0 eo et ed em ef ez ek es en) ++ (wText cy 4 tl tb)) (c_X5_at cy tl tb x2 q5 hq5) rfl rfl (Nat.le_of_ble_eq_true rfl) rfl rfl ⟨rfl, rfl⟩ rfl rfl rfl ?_
      obtain ⟨q6, hq6, h⟩ := obd h
      refine G_cV C lk_2_44 ⟨Nat.le_of_ble_eq_true rfl, Nat.le_of_ble_eq_true rfl⟩ (by decide +kernel) [0, 1, 2, 3] [.int (bI q6.1)] ((wReader cy 0 q6.2.1 q6.2.2.1 q6.2.2.2.1 q6.2.2.2.2.1 q6.2.2.2.2.2.1 q6.2.2.2.2.2.2.1 q6.2.2.2.2.2.2.2.1 q6.2.2.2.2.2.2.2.2.1 q6.2.2.2.2.2.2.2.2.2) ++ (wText cy 4 tl tb)) (c_X2_accept cy eo et ed em ef ez ek es en q5 q6 hq6) rfl rfl (Nat.le_of_ble_eq_true rfl) rfl rfl ⟨rfl, rfl⟩ rfl rfl rfl ?_
      refine G_if_ne C (off := 5) (tgt := 43) (by decide +kernel) rfl (fun c => ?_) (fun c => ?_)
      · rw [if_neg c] at h
        refine G_r C [(.iinc 2 1, 3, 0, 0, .int (1 : Int32))] 46 [(2, .int (x2 + (1 : Int32))), (0, .ref 0), (1, .ref 4)] [] ((wReader cy 0 q6.2.1 q6.2.2.1 q6.2.2.2.1 q6.2.2.2.2.1 q6.2.2.2.2.2.1 q6.2.2.2.2.2.2.1 q6.2.2.2.2.2.2.2.1 q6.2.2.2.2.2.2.2.2.1 q6.2.2.2.2.2.2.2.2.2) ++ (wText cy 4 tl tb)) (by decide +kernel) rfl rfl ?_
        refine G_goto C (off := -25) (tgt := 21) (by decide +kernel) rfl ?_
        refine G_lv [1, 2, 0] (lv' := [(0, .ref 0), (1, .ref 4), (2, .int (x2 + (1 : Int32)))]) rfl ?_
        exact ih (x2 + (1 : Int32)) q6.2.1 q6.2.2.1 q6.2.2.2.1 q6.2.2.2.2.1 q6.2.2.2.2.2.1 q6.2.2.2.2.2.2.1 q6.2.2.2.2.2.2.2.1 q6.2.2.2.2.2.2.2.2.1 q6.2.2.2.2.2.2.2.2.2 tl tb res hR h
      · rw [if_pos c] at h
        refine G_r C [(.iload_n 2, 1, 0, 0, .null)] 42 [(0, .ref 0), (1, .ref 4), (2, .int x2)] [.int x2] ((wReader cy 0 q6.2.1 q6.2.2.1 q6.2.2.2.1 q6.2.2.2.2.1 q6.2.2.2.2.2.1 q6.2.2.2.2.2.2.1 q6.2.2.2.2.2.2.2.1 q6.2.2.2.2.2.2.2.2.1 q6.2.2.2.2.2.2.2.2.2) ++ (wText cy 4 tl tb)) (by decide +kernel) rfl rfl ?_
        have h := Option.some.inj h
        subst h
        exact G_iret C hR (by decide +kernel)
set_option maxHeartbeats 4000000 in
set_option maxRecDepth 100000 in
theorem c_X2_scan (cy : Nat → ClassId) (eo : Int32) (et : Int32) (ed : Int32) (em : Bool) (ef : Int32) (ez : Int32) (ek : Nat → Int32) (es : Nat → Int32) (en : Nat → Int32) (tl : Int32) (tb : Nat → Int32)  (res : (Int32 × Int32 × Int32 × Int32 × Bool × Int32 × Int32 × (Nat → Int32) × (Nat → Int32) × (Nat → Int32))) (h : f_X2_scan ek es en tl tb = some res) : MG cy yX2_scan cX2_scan 3 (some .int) 4 81 [.ref 0, .ref 4] ((wReader cy 0 eo et ed em ef ez ek es en) ++ (wText cy 4 tl tb)) (some (.int res.1)) ((wReader cy 0 res.2.1 res.2.2.1 res.2.2.2.1 res.2.2.2.2.1 res.2.2.2.2.2.1 res.2.2.2.2.2.2.1 res.2.2.2.2.2.2.2.1 res.2.2.2.2.2.2.2.2.1 res.2.2.2.2.2.2.2.2.2) ++ (wText cy 4 tl tb)) := by
  refine MG_of (o := 2) (lv := [(0, .ref 0), (1, .ref 4)]) ⟨by decide +kernel, rfl⟩ (Nat.le_of_ble_eq_true rfl) rfl (fun k C hR => ?_)
  rw [f_X2_scan] at h
  refine G_r C [(.aload_n 0, 1, 0, 0, .null), (.iconst 0, 1, 0, 0, .int (0 : Int32)), (.putfield 21, 3, 2, 3, .null), (.aload_n 0, 1, 0, 0, .null), (.iconst 0, 1, 0, 0, .int (0 : Int32)), (.putfield 25, 3, 2, 4, .null), (.aload_n 0, 1, 0, 0, .null), (.iconst 0, 1, 0, 0, .int (0 : Int32)), (.putfield 28, 3, 2, 5, .null), (.aload_n 0, 1, 0, 0, .null)] 16 [(0, .ref 0), (1, .ref 4)] [.ref 0] ((wReader cy 0 (0 : Int32) (0 : Int32) (0 : Int32) em ef ez ek es en) ++ (wText cy 4 tl tb)) (by decide +kernel) rfl rfl ?_
  obtain ⟨q1, hq1, h⟩ := obd h
  refine G_cV C lk_2_31 ⟨Nat.le_of_ble_eq_true rfl, Nat.le_of_ble_eq_true rfl⟩ (by decide +kernel) [0, 1, 2, 3] [] ((wReader cy 0 (0 : Int32) (0 : Int32) (0 : Int32) q1.1 q1.2.1 q1.2.2 ek es en) ++ (wText cy 4 tl tb)) (c_X2_forgetNumber cy (0 : Int32) (0 : Int32) (0 : Int32) em ef ez ek es en q1 hq1) rfl rfl (Nat.le_of_ble_eq_true rfl) rfl rfl ⟨rfl, rfl⟩ rfl rfl rfl ?_
  refine G_r C [(.iconst 0, 1, 0, 0, .int (0 : Int32)), (.istore_n 2, 1, 0, 0, .null)] 21 [(2, .int (0 : Int32)), (0, .ref 0), (1, .ref 4)] [] ((wReader cy 0 (0 : Int32) (0 : Int32) (0 : Int32) q1.1 q1.2.1 q1.2.2 ek es en) ++ (wText cy 4 tl tb)) (by decide +kernel) rfl rfl ?_
  refine G_lv [1, 2, 0] (lv' := [(0, .ref 0), (1, .ref 4), (2, .int (0 : Int32))]) rfl ?_
  exact g_X2_scan_L21 C 200 (0 : Int32) (0 : Int32) (0 : Int32) (0 : Int32) q1.1 q1.2.1 q1.2.2 ek es en tl tb res hR h
def f_X2_number (x1 : Int32) (et : Int32) (en : Nat → Int32) : Option Int32 := if x1 < 0 then (some (0 : Int32)) else (if et ≤ x1 then (some (0 : Int32)) else (if x1 < (100 : Int32) then (if x1 < 0 ∨ 100 ≤ x1.toNatClampNeg then none else some (en x1.toNatClampNeg)) else (some (0 : Int32))))
set_option maxHeartbeats 4000000 in
set_option maxRecDepth 100000 in
theorem c_X2_number (cy : Nat → ClassId) (eo : Int32) (et : Int32) (ed : Int32) (em : Bool) (ef : Int32) (ez : Int32) (ek : Nat → Int32) (es : Nat → Int32) (en : Nat → Int32) (x1 : Int32) (res : Int32) (h : f_X2_number x1 et en = some res) : MG cy yX2_number cX2_number 2 (some .int) 0 0 [.ref 0, .int x1] (wReader cy 0 eo et ed em ef ez ek es en) (some (.int res)) (wReader cy 0 eo et ed em ef ez ek es en) := by
  refine MG_of (o := 2) (lv := [(0, .ref 0), (1, .int x1)]) ⟨by decide +kernel, rfl⟩ (Nat.le_of_ble_eq_true rfl) rfl (fun k C hR => ?_)
  rw [f_X2_number] at h
  refine G_r C [(.iload_n 1, 1, 0, 0, .null)] 1 [(0, .ref 0), (1, .int x1)] [.int x1] (wReader cy 0 eo et ed em ef ez ek es en) (by decide +kernel) rfl rfl ?_
  refine G_if_lt C (off := 17) (tgt := 18) (by decide +kernel) rfl (fun c => ?_) (fun c => ?_)
  · rw [if_pos c] at h
    refine G_r C [(.iconst 0, 1, 0, 0, .int (0 : Int32))] 19 [(0, .ref 0), (1, .int x1)] [.int (0 : Int32)] (wReader cy 0 eo et ed em ef ez ek es en) (by decide +kernel) rfl rfl ?_
    refine G_goto C (off := 9) (tgt := 28) (by decide +kernel) rfl ?_
    have h := Option.some.inj h
    subst h
    exact G_iret C hR (by decide +kernel)
  · rw [if_neg c] at h
    refine G_r C [(.iload_n 1, 1, 0, 0, .null), (.aload_n 0, 1, 0, 0, .null), (.getfield 25, 3, 2, 4, .null)] 9 [(0, .ref 0), (1, .int x1)] [.int et, .int x1] (wReader cy 0 eo et ed em ef ez ek es en) (by decide +kernel) rfl rfl ?_
    refine G_icmp_ge C (off := 9) (tgt := 18) (by decide +kernel) rfl (fun c => ?_) (fun c => ?_)
    · rw [if_pos c] at h
      refine G_r C [(.iconst 0, 1, 0, 0, .int (0 : Int32))] 19 [(0, .ref 0), (1, .int x1)] [.int (0 : Int32)] (wReader cy 0 eo et ed em ef ez ek es en) (by decide +kernel) rfl rfl ?_
      refine G_goto C (off := 9) (tgt := 28) (by decide +kernel) rfl ?_
      have h := Option.some.inj h
      subst h
      exact G_iret C hR (by decide +kernel)
    · rw [if_neg c] at h
      refine G_r C [(.iload_n 1, 1, 0, 0, .null), (.bipush 100, 2, 0, 0, .int (100 : Int32))] 15 [(0, .ref 0), (1, .int x1)] [.int (100 : Int32), .int x1] (wReader cy 0 eo et ed em ef ez ek es en) (by decide +kernel) rfl rfl ?_
      refine G_icmp_lt C (off := 7) (tgt := 22) (by decide +kernel) rfl (fun c => ?_) (fun c => ?_)
      · rw [if_pos c] at h
        refine G_r C [(.aload_n 0, 1, 0, 0, .null), (.getfield 18, 3, 2, 2, .null), (.iload_n 1, 1, 0, 0, .null)] 27 [(0, .ref 0), (1, .int x1)] [.int x1, .ref 3] (wReader cy 0 eo et ed em ef ez ek es en) (by decide +kernel) rfl rfl ?_
        obtain ⟨cg, h⟩ := oob h
        refine G_iald C (a := 3) rfl cg (by decide +kernel) ?_
        have h := Option.some.inj h
        subst h
        exact G_iret C hR (by decide +kernel)
      · rw [if_neg c] at h
        refine G_r C [(.iconst 0, 1, 0, 0, .int (0 : Int32))] 19 [(0, .ref 0), (1, .int x1)] [.int (0 : Int32)] (wReader cy 0 eo et ed em ef ez ek es en) (by decide +kernel) rfl rfl ?_
        refine G_goto C (off := 9) (tgt := 28) (by decide +kernel) rfl ?_
        have h := Option.some.inj h
        subst h
        exact G_iret C hR (by decide +kernel)
