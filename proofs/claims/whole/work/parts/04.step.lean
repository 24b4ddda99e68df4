def clN (ci : Nat) : vw_C := classes.getD ci (RX0, TX0, 2)
def flC (q : Nat × Nat × Nat × Nat) : Cond := .fieldLink (ownN q.1) q.2.1 ((clN q.2.2.1).2.1 q.2.2.2).1 ((clN q.2.2.1).2.1 q.2.2.2).2.1 ((clN q.2.2.1).2.1 q.2.2.2).2.2.1
def flL : List (Nat × Nat × Nat × Nat) := [(1, 9, 1, 0), (1, 15, 1, 1), (3, 9, 3, 0), (3, 15, 3, 1), (3, 22, 3, 2), (3, 26, 3, 3), (0, 11, 0, 0), (0, 21, 0, 1), (4, 11, 4, 0), (4, 19, 4, 1), (4, 15, 4, 2), (5, 9, 5, 0), (5, 15, 5, 1), (2, 9, 2, 0), (2, 15, 2, 1), (2, 18, 2, 2), (2, 21, 2, 3), (2, 25, 2, 4), (2, 28, 2, 5), (2, 51, 2, 6), (2, 55, 2, 7), (2, 74, 2, 8), (6, 12, 6, 0), (6, 16, 6, 1), (6, 22, 6, 2), (6, 26, 6, 3), (6, 32, 6, 4), (6, 39, 6, 5), (6, 46, 6, 6), (6, 53, 6, 7), (6, 57, 6, 8), (6, 222, 6, 9), (6, 226, 6, 10), (6, 229, 6, 11), (7, 7, 7, 0), (7, 13, 7, 1), (7, 16, 7, 2), (7, 56, 7, 3), (7, 19, 7, 4), (7, 22, 7, 5), (7, 220, 7, 6), (7, 25, 7, 7), (7, 28, 7, 8), (7, 31, 7, 9), (7, 242, 7, 10), (7, 34, 7, 11), (7, 38, 7, 12), (7, 41, 7, 13), (7, 153, 7, 14), (7, 44, 7, 15), (7, 47, 7, 16), (7, 204, 7, 17), (7, 50, 7, 18), (7, 229, 7, 19), (7, 226, 7, 20), (7, 232, 7, 21), (7, 252, 7, 22), (7, 235, 7, 23), (7, 239, 7, 24)]
def flP : List Nat := [85, 86, 94, 95, 96, 97, 113, 114, 128, 129, 130, 144, 145, 158, 159, 160, 161, 162, 163, 164, 165, 166, 186, 187, 188, 189, 190, 191, 192, 193, 194, 195, 196, 197, 668, 669, 670, 671, 672, 673, 674, 675, 676, 677, 678, 679, 680, 681, 682, 683, 684, 685, 686, 687, 688, 689, 690, 691, 692]
theorem fl_dec : (flL.zip flP).all (fun q => decide (lw_tbl[q.2]? = some (flC q.1)) && (goodWord (flC q.1) && (decide (q.1.2.2.1 < 8) && decide (q.1.2.2.2 < (clN q.1.2.2.1).2.2)))) = true := by decide +kernel
theorem fl_len : flL.length = flP.length := rfl
theorem fl_ok {q : Nat × Nat × Nat × Nat} (h : q ∈ flL) : flC q ∈ tbl ∧ q.2.2.1 < 8 ∧ q.2.2.2 < (clN q.2.2.1).2.2 := by
  obtain ⟨i, hi⟩ := List.getElem?_of_mem h
  have hl : i < flL.length := (List.getElem?_eq_some_iff.mp hi).1
  have h2 : flP[i]? = some flP[i] := List.getElem?_eq_getElem (by rw [← fl_len]; exact hl)
  have h3 : (q, flP[i]) ∈ flL.zip flP := List.mem_of_getElem? (i := i) (by rw [List.getElem?_zip_eq_some]; exact ⟨hi, h2⟩)
  have h4 := List.all_eq_true.mp fl_dec _ h3
  simp only [Bool.and_eq_true, decide_eq_true_eq] at h4
  exact ⟨tb_in _ h4.1 h4.2.1, h4.2.2.1, h4.2.2.2⟩
theorem cl_at : ∀ ci, ci < 8 → classes[ci]? = some (clN ci) := by
  intro ci h
  match ci, h with
  | 0, _ => rfl
  | 1, _ => rfl
  | 2, _ => rfl
  | 3, _ => rfl
  | 4, _ => rfl
  | 5, _ => rfl
  | 6, _ => rfl
  | 7, _ => rfl
  | n + 8, h => omega
theorem li0 : u_ws RX0 TX0 2 = [115, 117].filterMap (fun i => lw_tbl[i]?) ∧ (u_ws RX0 TX0 2).all goodWord = true := by decide +kernel
theorem in0 : ∀ w ∈ u_ws RX0 TX0 2, w ∈ tbl := fun w hw => by
  have hg := List.all_eq_true.mp li0.2 w hw
  rw [li0.1] at hw
  obtain ⟨i, -, hi⟩ := List.mem_filterMap.mp hw
  exact tb_in i hi hg
theorem li1 : u_ws RX1 TX1 2 = [87, 89].filterMap (fun i => lw_tbl[i]?) ∧ (u_ws RX1 TX1 2).all goodWord = true := by decide +kernel
theorem in1 : ∀ w ∈ u_ws RX1 TX1 2, w ∈ tbl := fun w hw => by
  have hg := List.all_eq_true.mp li1.2 w hw
  rw [li1.1] at hw
  obtain ⟨i, -, hi⟩ := List.mem_filterMap.mp hw
  exact tb_in i hi hg
theorem li2 : u_ws RX2 TX2 9 = [167, 169, 171, 173, 175, 177, 179, 181, 183].filterMap (fun i => lw_tbl[i]?) ∧ (u_ws RX2 TX2 9).all goodWord = true := by decide +kernel
theorem in2 : ∀ w ∈ u_ws RX2 TX2 9, w ∈ tbl := fun w hw => by
  have hg := List.all_eq_true.mp li2.2 w hw
  rw [li2.1] at hw
  obtain ⟨i, -, hi⟩ := List.mem_filterMap.mp hw
  exact tb_in i hi hg
theorem li3 : u_ws RX3 TX3 4 = [98, 100, 102, 104].filterMap (fun i => lw_tbl[i]?) ∧ (u_ws RX3 TX3 4).all goodWord = true := by decide +kernel
theorem in3 : ∀ w ∈ u_ws RX3 TX3 4, w ∈ tbl := fun w hw => by
  have hg := List.all_eq_true.mp li3.2 w hw
  rw [li3.1] at hw
  obtain ⟨i, -, hi⟩ := List.mem_filterMap.mp hw
  exact tb_in i hi hg
theorem li4 : u_ws RX4 TX4 3 = [131, 133, 135].filterMap (fun i => lw_tbl[i]?) ∧ (u_ws RX4 TX4 3).all goodWord = true := by decide +kernel
theorem in4 : ∀ w ∈ u_ws RX4 TX4 3, w ∈ tbl := fun w hw => by
  have hg := List.all_eq_true.mp li4.2 w hw
  rw [li4.1] at hw
  obtain ⟨i, -, hi⟩ := List.mem_filterMap.mp hw
  exact tb_in i hi hg
theorem li5 : u_ws RX5 TX5 2 = [146, 148].filterMap (fun i => lw_tbl[i]?) ∧ (u_ws RX5 TX5 2).all goodWord = true := by decide +kernel
theorem in5 : ∀ w ∈ u_ws RX5 TX5 2, w ∈ tbl := fun w hw => by
  have hg := List.all_eq_true.mp li5.2 w hw
  rw [li5.1] at hw
  obtain ⟨i, -, hi⟩ := List.mem_filterMap.mp hw
  exact tb_in i hi hg
theorem li6 : u_ws RX6 TX6 12 = [198, 200, 202, 204, 206, 208, 210, 212, 214, 216, 218, 220].filterMap (fun i => lw_tbl[i]?) ∧ (u_ws RX6 TX6 12).all goodWord = true := by decide +kernel
theorem in6 : ∀ w ∈ u_ws RX6 TX6 12, w ∈ tbl := fun w hw => by
  have hg := List.all_eq_true.mp li6.2 w hw
  rw [li6.1] at hw
  obtain ⟨i, -, hi⟩ := List.mem_filterMap.mp hw
  exact tb_in i hi hg
theorem li7 : u_ws RX7 TX7 25 = [693, 695, 697, 699, 701, 703, 705, 707, 709, 711, 713, 715, 717, 719, 721, 723, 725, 727, 729, 731, 733, 735, 737, 739, 741].filterMap (fun i => lw_tbl[i]?) ∧ (u_ws RX7 TX7 25).all goodWord = true := by decide +kernel
theorem in7 : ∀ w ∈ u_ws RX7 TX7 25, w ∈ tbl := fun w hw => by
  have hg := List.all_eq_true.mp li7.2 w hw
  rw [li7.1] at hw
  obtain ⟨i, -, hi⟩ := List.mem_filterMap.mp hw
  exact tb_in i hi hg
theorem cl_in : ∀ ci, ci < 8 → ∀ w ∈ u_ws (clN ci).1 (clN ci).2.1 (clN ci).2.2, w ∈ tbl := by
  intro ci h
  match ci, h with
  | 0, _ => exact in0
  | 1, _ => exact in1
  | 2, _ => exact in2
  | 3, _ => exact in3
  | 4, _ => exact in4
  | 5, _ => exact in5
  | 6, _ => exact in6
  | 7, _ => exact in7
  | n + 8, h => omega
def tyN (ci : Nat) : Nat → FieldType := match ci with
  | 0 => tyX0
  | 1 => tyX1
  | 2 => tyX2
  | 3 => tyX3
  | 4 => tyX4
  | 5 => tyX5
  | 6 => tyX6
  | _ => tyX7
theorem cl_ty : ∀ ci, ci < 8 → ∀ k, k < (clN ci).2.2 → parseFieldDescriptor ((clN ci).2.1 k).2.2.1 = some (tyN ci k) := by
  intro ci h
  match ci, h with
  | 0, _ => exact tyX0_ok
  | 1, _ => exact tyX1_ok
  | 2, _ => exact tyX2_ok
  | 3, _ => exact tyX3_ok
  | 4, _ => exact tyX4_ok
  | 5, _ => exact tyX5_ok
  | 6, _ => exact tyX6_ok
  | 7, _ => exact tyX7_ok
  | n + 8, h => omega
theorem cl_nm : ∀ ci, ci < 8 → ∀ a, a < (clN ci).2.2 → ∀ b, b < (clN ci).2.2 → a ≠ b → ((clN ci).2.1 a).2.1 ≠ ((clN ci).2.1 b).2.1 := by
  intro ci h
  match ci, h with
  | 0, _ => exact nmX0
  | 1, _ => exact nmX1
  | 2, _ => exact nmX2
  | 3, _ => exact nmX3
  | 4, _ => exact nmX4
  | 5, _ => exact nmX5
  | 6, _ => exact nmX6
  | 7, _ => exact nmX7
  | n + 8, h => omega
abbrev AI : Type := Instr × Nat × Nat × Nat × Value
abbrev MS : Type := List (Nat × Value) × List Value × List va_E
def ldI (lv : List (Nat × Value)) (n : Nat) (st : List Value) (w : List va_E) : Option MS := match look lv n with
  | some (.int x) => some (lv, .int x :: st, w)
  | _ => none
def ldJ (lv : List (Nat × Value)) (n : Nat) (st : List Value) (w : List va_E) : Option MS := match look lv n with
  | some (.long x) => some (lv, .long x :: st, w)
  | _ => none
def ldA (lv : List (Nat × Value)) (n : Nat) (st : List Value) (w : List va_E) : Option MS := match look lv n with
  | some (.ref x) => some (lv, .ref x :: st, w)
  | _ => none
def stI (nL : Nat) (lv : List (Nat × Value)) (n : Nat) (st : List Value) (w : List va_E) : Option MS := match Nat.blt n nL, st with
  | true, .int x :: r => some (st1 n (.int x) lv, r, w)
  | _, _ => none
def stJ (nL : Nat) (lv : List (Nat × Value)) (n : Nat) (st : List Value) (w : List va_E) : Option MS := match Nat.blt (n + 1) nL, st with
  | true, .long x :: r => some (st2 n (.long x) lv, r, w)
  | _, _ => none
def getF (ci kf : Nat) (lv : List (Nat × Value)) (st : List Value) (w : List va_E) : Option MS := match st with
  | .ref a :: r => match w[a]? with
    | some (.inr (c, fs)) => match Nat.beq c ci, fs[kf]? with
      | true, some v => some (lv, v :: r, w)
      | _, _ => none
    | _ => none
  | _ => none
def putF (ci kf : Nat) (lv : List (Nat × Value)) (st : List Value) (w : List va_E) : Option MS := match st with
  | .int x :: .ref a :: r => match w[a]? with
    | some (.inr (c, fs)) => match Nat.beq c ci, Nat.blt kf fs.length, tyN ci kf, ((clN ci).2.1 kf).2.2.2 with
      | true, true, .int, false => some (lv, r, w.set a (.inr (c, fs.set kf (.int x))))
      | _, _, _, _ => none
    | _ => none
  | .long x :: .ref a :: r => match w[a]? with
    | some (.inr (c, fs)) => match Nat.beq c ci, Nat.blt kf fs.length, tyN ci kf, ((clN ci).2.1 kf).2.2.2 with
      | true, true, .long, false => some (lv, r, w.set a (.inr (c, fs.set kf (.long x))))
      | _, _, _, _ => none
    | _ => none
  | _ => none
def nx (nL : Nat) (i : Instr) (ci kf : Nat) (v : Value) (lv : List (Nat × Value)) (st : List Value) (w : List va_E) : Option MS := match i with
  | .iconst _ => some (lv, v :: st, w)
  | .bipush _ => some (lv, v :: st, w)
  | .sipush _ => some (lv, v :: st, w)
  | .lconst _ => some (lv, v :: st, w)
  | .iload n => ldI lv n st w
  | .iload_n n => ldI lv n.val st w
  | .lload n => ldJ lv n st w
  | .lload_n n => ldJ lv n.val st w
  | .aload n => ldA lv n st w
  | .aload_n n => ldA lv n.val st w
  | .istore n => stI nL lv n st w
  | .istore_n n => stI nL lv n.val st w
  | .lstore n => stJ nL lv n st w
  | .lstore_n n => stJ nL lv n.val st w
  | .iinc n _ => match Nat.blt n nL, look lv n, v with
    | true, some (.int x), .int d => some (st1 n (.int (x + d)) lv, st, w)
    | _, _, _ => none
  | .iadd => match st with
    | .int y :: .int x :: r => some (lv, .int (x + y) :: r, w)
    | _ => none
  | .isub => match st with
    | .int y :: .int x :: r => some (lv, .int (x - y) :: r, w)
    | _ => none
  | .imul => match st with
    | .int y :: .int x :: r => some (lv, .int (x * y) :: r, w)
    | _ => none
  | .iand => match st with
    | .int y :: .int x :: r => some (lv, .int (x &&& y) :: r, w)
    | _ => none
  | .ixor => match st with
    | .int y :: .int x :: r => some (lv, .int (x ^^^ y) :: r, w)
    | _ => none
  | .ineg => match st with
    | .int x :: r => some (lv, .int (-x) :: r, w)
    | _ => none
  | .ishl => match st with
    | .int y :: .int x :: r => some (lv, .int (x <<< (y &&& 31)) :: r, w)
    | _ => none
  | .ishr => match st with
    | .int y :: .int x :: r => some (lv, .int (x >>> (y &&& 31)) :: r, w)
    | _ => none
  | .iushr => match st with
    | .int y :: .int x :: r => some (lv, .int (x.toUInt32 >>> (y.toUInt32 &&& Int32.toUInt32 31)).toInt32 :: r, w)
    | _ => none
  | .ladd => match st with
    | .long y :: .long x :: r => some (lv, .long (x + y) :: r, w)
    | _ => none
  | .lsub => match st with
    | .long y :: .long x :: r => some (lv, .long (x - y) :: r, w)
    | _ => none
  | .lmul => match st with
    | .long y :: .long x :: r => some (lv, .long (x * y) :: r, w)
    | _ => none
  | .lneg => match st with
    | .long x :: r => some (lv, .long (-x) :: r, w)
    | _ => none
  | .i2l => match st with
    | .int x :: r => some (lv, .long x.toInt64 :: r, w)
    | _ => none
  | .l2i => match st with
    | .long x :: r => some (lv, .int x.toInt32 :: r, w)
    | _ => none
  | .i2b => match st with
    | .int x :: r => some (lv, .int x.toInt8.toInt32 :: r, w)
    | _ => none
  | .dup => match st with
    | .int x :: r => some (lv, .int x :: .int x :: r, w)
    | .ref x :: r => some (lv, .ref x :: .ref x :: r, w)
    | _ => none
  | .dup2 => match st with
    | .int x :: .ref y :: r => some (lv, .int x :: .ref y :: .int x :: .ref y :: r, w)
    | .int x :: .int y :: r => some (lv, .int x :: .int y :: .int x :: .int y :: r, w)
    | .long x :: r => some (lv, .long x :: .long x :: r, w)
    | _ => none
  | .getfield _ => getF ci kf lv st w
  | .putfield _ => putF ci kf lv st w
  | _ => none
def lenI (i : Instr) : Nat := match i with
  | .bipush _ => 2
  | .sipush _ => 3
  | .iload _ => 2
  | .lload _ => 2
  | .aload _ => 2
  | .istore _ => 2
  | .lstore _ => 2
  | .iinc _ _ => 3
  | .getfield _ => 3
  | .putfield _ => 3
  | _ => 1
def okI (o : Nat) (i : Instr) (ci kf : Nat) (v : Value) : Bool := match i with
  | .iconst n => decide (v = .int (Int32.ofInt n))
  | .bipush n => decide (v = .int (Int8.ofInt n).toInt32)
  | .sipush n => decide (v = .int (Int16.ofInt n).toInt32)
  | .lconst n => decide (v = .long (Int64.ofNat n.val))
  | .iinc _ n => decide (v = .int (Int32.ofInt n))
  | .getfield idx => decide ((o, idx, ci, kf) ∈ flL)
  | .putfield idx => decide ((o, idx, ci, kf) ∈ flL)
  | _ => true
theorem nx_ok {k : KX} {cc : ByteArray} {o nL fr lo : Nat} {cy : Nat → ClassId} {pc : Nat} {lv lv' : List (Nat × Value)} {st st' : List Value} {w w' : List va_E} (C : OK k cc o nL cy fr lo) {i : Instr} {ci kf : Nat} {v : Value} (hd : decode cc pc = .ok (i, lenI i)) (ho : okI o i ci kf v = true) (hn : nx nL i ci kf v lv st w = some (lv', st', w')) (h : G k nL (pc + lenI i) lv' st' w') : G k nL pc lv st w := by
  obtain ⟨p, l, e, R, s, m, args, below, meth, c, D, ad, A, cells, slots, Q⟩ := k
  obtain ⟨hx, hb, hml, hown, hts, hK, hN, hrm⟩ := C
  intro H locs ls hP hD hS hl
  cases i
  case iconst a =>
    have e := of_decide_eq_true ho
    cases hn
    subst e
    exact lv_iconst hx hb hd rfl (h H locs ls hP hD hS hl)
  case bipush a =>
    have e := of_decide_eq_true ho
    cases hn
    subst e
    exact lv_bipush hx hb hd rfl (h H locs ls hP hD hS hl)
  case sipush a =>
    have e := of_decide_eq_true ho
    cases hn
    subst e
    exact lv_sipush hx hb hd rfl (h H locs ls hP hD hS hl)
  case lconst a =>
    have e := of_decide_eq_true ho
    cases hn
    subst e
    exact lv_lconst hx hb hd rfl (h H locs ls hP hD hS hl)
  case iload a =>
    simp only [nx, ldI] at hn
    split at hn
    · next x hlk => cases hn; exact lv_iload hx hb hd (lv_look hl hlk) (h H locs ls hP hD hS hl)
    · cases hn
  case iload_n a =>
    simp only [nx, ldI] at hn
    split at hn
    · next x hlk => cases hn; exact lv_iload_n hx hb hd rfl (lv_look hl hlk) (h H locs ls hP hD hS hl)
    · cases hn
  case lload a =>
    simp only [nx, ldJ] at hn
    split at hn
    · next x hlk => cases hn; exact lv_lload hx hb hd (lv_look hl hlk) (h H locs ls hP hD hS hl)
    · cases hn
  case lload_n a =>
    simp only [nx, ldJ] at hn
    split at hn
    · next x hlk => cases hn; exact lv_lload_n hx hb hd rfl (lv_look hl hlk) (h H locs ls hP hD hS hl)
    · cases hn
  case aload a =>
    simp only [nx, ldA] at hn
    split at hn
    · next x hlk => cases hn; exact lv_aload hx hb hd (lv_look hl hlk) (h H locs ls hP hD hS hl)
    · cases hn
  case aload_n a =>
    simp only [nx, ldA] at hn
    split at hn
    · next x hlk => cases hn; exact lv_aload_n hx hb hd rfl (lv_look hl hlk) (h H locs ls hP hD hS hl)
    · cases hn
  case istore a =>
    simp only [nx, stI] at hn
    split at hn
    · next x r hlt => cases hn; exact lv_istore hx hb hd hl (Nat.le_of_ble_eq_true hlt) (lvd_st1 ad a (.int x) lv) (fun ls hl => h H locs ls hP hD hS hl)
    · cases hn
  case istore_n a =>
    simp only [nx, stI] at hn
    split at hn
    · next x r hlt => cases hn; exact lv_istore_n hx hb hd rfl hl (Nat.le_of_ble_eq_true hlt) (lvd_st1 ad a.val (.int x) lv) (fun ls hl => h H locs ls hP hD hS hl)
    · cases hn
  case lstore a =>
    simp only [nx, stJ] at hn
    split at hn
    · next x r hlt => cases hn; exact lv_lstore hx hb hd hl (Nat.le_of_ble_eq_true hlt) (lvd_st2 ad a (.long x) lv) (fun ls hl => h H locs ls hP hD hS hl)
    · cases hn
  case lstore_n a =>
    simp only [nx, stJ] at hn
    split at hn
    · next x r hlt => cases hn; exact lv_lstore_n hx hb hd rfl hl (Nat.le_of_ble_eq_true hlt) (lvd_st2 ad a.val (.long x) lv) (fun ls hl => h H locs ls hP hD hS hl)
    · cases hn
  case iinc a n =>
    have e := of_decide_eq_true ho
    simp only [nx] at hn
    split at hn
    · next x d hlt hlk =>
      cases hn
      cases e
      obtain ⟨q, hq⟩ := List.getElem?_of_mem (List.mem_map.mpr ⟨(a, .int x), look_mem hlk, rfl⟩ : (a, Value.int x) ∈ lvd ad lv)
      exact lv_iinc hx hb hd hl hq rfl (Nat.le_of_ble_eq_true hlt) (lvd_st1 ad a (.int (x + Int32.ofInt n)) lv) (fun ls hl => h H locs ls hP hD hS hl)
    · cases hn
  case iadd =>
    simp only [nx] at hn
    split at hn
    · cases hn; exact lv_iadd hx hb hd (h H locs ls hP hD hS hl)
    · cases hn
  case isub =>
    simp only [nx] at hn
    split at hn
    · cases hn; exact lv_isub hx hb hd (h H locs ls hP hD hS hl)
    · cases hn
  case imul =>
    simp only [nx] at hn
    split at hn
    · cases hn; exact lv_imul hx hb hd (h H locs ls hP hD hS hl)
    · cases hn
  case iand =>
    simp only [nx] at hn
    split at hn
    · cases hn; exact lv_iand hx hb hd (h H locs ls hP hD hS hl)
    · cases hn
  case ixor =>
    simp only [nx] at hn
    split at hn
    · cases hn; exact lv_ixor hx hb hd (h H locs ls hP hD hS hl)
    · cases hn
  case ineg =>
    simp only [nx] at hn
    split at hn
    · cases hn; exact lv_ineg hx hb hd (h H locs ls hP hD hS hl)
    · cases hn
  case ishl =>
    simp only [nx] at hn
    split at hn
    · cases hn; exact lv_ishl hx hb hd (h H locs ls hP hD hS hl)
    · cases hn
  case ishr =>
    simp only [nx] at hn
    split at hn
    · cases hn; exact lv_ishr hx hb hd (h H locs ls hP hD hS hl)
    · cases hn
  case iushr =>
    simp only [nx] at hn
    split at hn
    · cases hn; exact lv_iushr hx hb hd rfl (h H locs ls hP hD hS hl)
    · cases hn
  case ladd =>
    simp only [nx] at hn
    split at hn
    · cases hn; exact lv_ladd hx hb hd (h H locs ls hP hD hS hl)
    · cases hn
  case lsub =>
    simp only [nx] at hn
    split at hn
    · cases hn; exact lv_lsub hx hb hd (h H locs ls hP hD hS hl)
    · cases hn
  case lmul =>
    simp only [nx] at hn
    split at hn
    · cases hn; exact lv_lmul hx hb hd (h H locs ls hP hD hS hl)
    · cases hn
  case lneg =>
    simp only [nx] at hn
    split at hn
    · cases hn; exact lv_lneg hx hb hd (h H locs ls hP hD hS hl)
    · cases hn
  case i2l =>
    simp only [nx] at hn
    split at hn
    · cases hn; exact lv_i2l hx hb hd rfl (h H locs ls hP hD hS hl)
    · cases hn
  case l2i =>
    simp only [nx] at hn
    split at hn
    · cases hn; exact lv_l2i hx hb hd rfl (h H locs ls hP hD hS hl)
    · cases hn
  case i2b =>
    simp only [nx] at hn
    split at hn
    · cases hn; exact lv_i2b hx hb hd rfl (h H locs ls hP hD hS hl)
    · cases hn
  case dup =>
    simp only [nx] at hn
    split at hn
    · cases hn; exact lv_dup hx hb hd rfl (h H locs ls hP hD hS hl)
    · cases hn; exact lv_dup hx hb hd rfl (h H locs ls hP hD hS hl)
    · cases hn
  case dup2 =>
    simp only [nx] at hn
    split at hn
    · cases hn; exact lv_dup2_11 hx hb hd rfl rfl (h H locs ls hP hD hS hl)
    · cases hn; exact lv_dup2_11 hx hb hd rfl rfl (h H locs ls hP hD hS hl)
    · cases hn; exact lv_dup2_2 hx hb hd rfl (h H locs ls hP hD hS hl)
    · cases hn
  case getfield idx =>
    have hf := fl_ok (of_decide_eq_true ho)
    simp only [nx, getF] at hn
    split at hn
    · next a r =>
      split at hn
      · next c' fs hw =>
        split at hn
        · next v' hc hv =>
          cases hn
          have e := Nat.eq_of_beq_eq_true hc
          subst e
          exact va_get (C := (clN c').1) (T := (clN c').2.1) (N := (clN c').2.2) hx hb hts (cl_in c' hf.2.1) hown hK hP a (wd_at hw) (cl_at c' hf.2.1) kf hf.2.2 (hts _ hf.1) (fun _ q => q) (v := reV ad v') (by rw [List.getElem?_map, hv]; rfl) hd (h H locs ls hP hD hS hl)
        · cases hn
      · cases hn
    · cases hn
  case putfield idx =>
    have hf := fl_ok (of_decide_eq_true ho)
    simp only [nx, putF] at hn
    split at hn
    · next x a r =>
      split at hn
      · next c' fs hw =>
        split at hn
        · next hc hlt hty hfin =>
          cases hn
          have e := Nat.eq_of_beq_eq_true hc
          subst e
          have hlt' : kf < (fs.map (reV ad)).length := by rw [List.length_map]; exact Nat.le_of_ble_eq_true hlt
          refine va_put (C := (clN c').1) (T := (clN c').2.1) (N := (clN c').2.2) (ty := .int) (v := .int x) hx hb hts (cl_in c' hf.2.1) (tyN c') (cl_ty c' hf.2.1) (cl_nm c' hf.2.1) hown hK hP hD hS a (wd_at hw) (cl_at c' hf.2.1) kf hf.2.2 (hts _ hf.1) (fun _ q => q) hfin (by rw [cl_ty c' hf.2.1 kf hf.2.2, hty]) rfl rfl hlt' hd (fun H1 locs1 hP1 hD1 hS1 => ?_)
          have e2 : wd ad (w.set a (.inr (c', fs.set kf (.int x)))) = (wd ad w).set a (ad a, .inr (c', (fs.map (reV ad)).set kf (.int x))) := by
            rw [wd_set]
            show _ = (wd ad w).set a (ad a, .inr (c', (fs.map (reV ad)).set kf (reV ad (.int x))))
            rw [← List.map_set]
            rfl
          exact h H1 locs1 ls (by rw [e2]; exact hP1) (by rw [e2]; exact hD1) hS1 hl
        · cases hn
      · cases hn
    · next x a r =>
      split at hn
      · next c' fs hw =>
        split at hn
        · next hc hlt hty hfin =>
          cases hn
          have e := Nat.eq_of_beq_eq_true hc
          subst e
          have hlt' : kf < (fs.map (reV ad)).length := by rw [List.length_map]; exact Nat.le_of_ble_eq_true hlt
          refine va_put (C := (clN c').1) (T := (clN c').2.1) (N := (clN c').2.2) (ty := .long) (v := .long x) hx hb hts (cl_in c' hf.2.1) (tyN c') (cl_ty c' hf.2.1) (cl_nm c' hf.2.1) hown hK hP hD hS a (wd_at hw) (cl_at c' hf.2.1) kf hf.2.2 (hts _ hf.1) (fun _ q => q) hfin (by rw [cl_ty c' hf.2.1 kf hf.2.2, hty]) rfl rfl hlt' hd (fun H1 locs1 hP1 hD1 hS1 => ?_)
          have e2 : wd ad (w.set a (.inr (c', fs.set kf (.long x)))) = (wd ad w).set a (ad a, .inr (c', (fs.map (reV ad)).set kf (.long x))) := by
            rw [wd_set]
            show _ = (wd ad w).set a (ad a, .inr (c', (fs.map (reV ad)).set kf (reV ad (.long x))))
            rw [← List.map_set]
            rfl
          exact h H1 locs1 ls (by rw [e2]; exact hP1) (by rw [e2]; exact hD1) hS1 hl
        · cases hn
      · cases hn
    · cases hn
  all_goals cases hn
def runs (nL : Nat) : List AI → MS → Option MS
  | [], s => some s
  | (i, _, ci, kf, v) :: r, (lv, st, w) => match nx nL i ci kf v lv st w with
    | some s => runs nL r s
    | none => none
def chk (o : Nat) (cc : ByteArray) : Nat → List AI → Bool
  | _, [] => true
  | pc, (i, n, ci, kf, v) :: r => decide (decode cc pc = .ok (i, n)) && (decide (n = lenI i) && (okI o i ci kf v && chk o cc (pc + n) r))
def pcs : Nat → List AI → Nat
  | pc, [] => pc
  | pc, (_, n, _, _, _) :: r => pcs (pc + n) r
theorem G_run {k : KX} {cc : ByteArray} {o nL fr lo : Nat} {cy : Nat → ClassId} (C : OK k cc o nL cy fr lo) : ∀ (code : List AI) {pc pc' : Nat} {lv lv' : List (Nat × Value)} {st st' : List Value} {w w' : List va_E}, chk o cc pc code = true → runs nL code (lv, st, w) = some (lv', st', w') → pcs pc code = pc' → G k nL pc' lv' st' w' → G k nL pc lv st w
  | [], pc, pc', lv, lv', st, st', w, w', _, hr, hp, h => by
    cases hr
    cases hp
    exact h
  | (i, n, ci, kf, v) :: r, pc, pc', lv, lv', st, st', w, w', hc, hr, hp, h => by
    simp only [chk, Bool.and_eq_true, decide_eq_true_eq] at hc
    obtain ⟨h1, h2, h3, h4⟩ := hc
    rw [runs] at hr
    split at hr
    · next s hs =>
      obtain ⟨lv1, st1, w1⟩ := s
      subst h2
      exact nx_ok C h1 h3 hs (G_run C r h4 hr hp h)
    · cases hr

