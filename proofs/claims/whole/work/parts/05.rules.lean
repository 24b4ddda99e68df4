theorem G_goto {k : KX} {cc : ByteArray} {o nL fr lo : Nat} {cy : Nat → ClassId} {pc : Nat} {lv : List (Nat × Value)} {st : List Value} {w : List va_E} (C : OK k cc o nL cy fr lo) {off : Int} {tgt : Nat} (hd : decode cc pc = .ok (.goto off, 3)) (ht : (pc : Int) + off = (tgt : Int)) (h : G k nL tgt lv st w) : G k nL pc lv st w := by
  obtain ⟨p, l, e, R, s, m, args, below, meth, c, D, ad, A, cells, slots, Q⟩ := k
  obtain ⟨hx, hb, hml, hown, hts, hK, hN, hrm⟩ := C
  intro H locs ls hP hD hS hl
  exact lv_goto hx hb hd ht (h H locs ls hP hD hS hl)
theorem G_if_eq {k : KX} {cc : ByteArray} {o nL fr lo : Nat} {cy : Nat → ClassId} {pc : Nat} {lv : List (Nat × Value)} {st : List Value} {w : List va_E} (C : OK k cc o nL cy fr lo) {x : Int32} {off : Int} {tgt : Nat} (hd : decode cc pc = .ok (.ifCond .eq off, 3)) (ht : (pc : Int) + off = (tgt : Int)) (kt : x = 0 → G k nL tgt lv st w) (kf : ¬ x = 0 → G k nL (pc + 3) lv st w) : G k nL pc lv (.int x :: st) w := by
  obtain ⟨p, l, e, R, s, m, args, below, meth, c, D, ad, A, cells, slots, Q⟩ := k
  obtain ⟨hx, hb, hml, hown, hts, hK, hN, hrm⟩ := C
  intro H locs ls hP hD hS hl
  exact lv_if_eq hx hb hd ht (fun q => kt q H locs ls hP hD hS hl) (fun q => kf q H locs ls hP hD hS hl)
theorem G_icmp_eq {k : KX} {cc : ByteArray} {o nL fr lo : Nat} {cy : Nat → ClassId} {pc : Nat} {lv : List (Nat × Value)} {st : List Value} {w : List va_E} (C : OK k cc o nL cy fr lo) {x y : Int32} {off : Int} {tgt : Nat} (hd : decode cc pc = .ok (.if_icmp .eq off, 3)) (ht : (pc : Int) + off = (tgt : Int)) (kt : x = y → G k nL tgt lv st w) (kf : ¬ x = y → G k nL (pc + 3) lv st w) : G k nL pc lv (.int y :: .int x :: st) w := by
  obtain ⟨p, l, e, R, s, m, args, below, meth, c, D, ad, A, cells, slots, Q⟩ := k
  obtain ⟨hx, hb, hml, hown, hts, hK, hN, hrm⟩ := C
  intro H locs ls hP hD hS hl
  exact lv_icmp_eq hx hb hd ht (fun q => kt q H locs ls hP hD hS hl) (fun q => kf q H locs ls hP hD hS hl)
theorem G_lcmp_eq {k : KX} {cc : ByteArray} {o nL fr lo : Nat} {cy : Nat → ClassId} {pc : Nat} {lv : List (Nat × Value)} {st : List Value} {w : List va_E} (C : OK k cc o nL cy fr lo) {x y : Int64} {off : Int} {tgt : Nat} (h0 : decode cc pc = .ok (.lcmp, 1)) (hd : decode cc (pc + 1) = .ok (.ifCond .eq off, 3)) (ht : ((pc + 1 : Nat) : Int) + off = (tgt : Int)) (kt : x = y → G k nL tgt lv st w) (kf : ¬ x = y → G k nL (pc + 1 + 3) lv st w) : G k nL pc lv (.long y :: .long x :: st) w := by
  obtain ⟨p, l, e, R, s, m, args, below, meth, c, D, ad, A, cells, slots, Q⟩ := k
  obtain ⟨hx, hb, hml, hown, hts, hK, hN, hrm⟩ := C
  intro H locs ls hP hD hS hl
  exact W.lcmp hx hb h0 (lv_if_eq hx hb hd ht (fun q => kt ((lg_cmp_eq x y).mp q) H locs ls hP hD hS hl) (fun q => kf (fun z => q ((lg_cmp_eq x y).mpr z)) H locs ls hP hD hS hl))
theorem G_if_ne {k : KX} {cc : ByteArray} {o nL fr lo : Nat} {cy : Nat → ClassId} {pc : Nat} {lv : List (Nat × Value)} {st : List Value} {w : List va_E} (C : OK k cc o nL cy fr lo) {x : Int32} {off : Int} {tgt : Nat} (hd : decode cc pc = .ok (.ifCond .ne off, 3)) (ht : (pc : Int) + off = (tgt : Int)) (kt : ¬ x = 0 → G k nL tgt lv st w) (kf : x = 0 → G k nL (pc + 3) lv st w) : G k nL pc lv (.int x :: st) w := by
  obtain ⟨p, l, e, R, s, m, args, below, meth, c, D, ad, A, cells, slots, Q⟩ := k
  obtain ⟨hx, hb, hml, hown, hts, hK, hN, hrm⟩ := C
  intro H locs ls hP hD hS hl
  exact lv_if_ne hx hb hd ht (fun q => kt q H locs ls hP hD hS hl) (fun q => kf q H locs ls hP hD hS hl)
theorem G_icmp_ne {k : KX} {cc : ByteArray} {o nL fr lo : Nat} {cy : Nat → ClassId} {pc : Nat} {lv : List (Nat × Value)} {st : List Value} {w : List va_E} (C : OK k cc o nL cy fr lo) {x y : Int32} {off : Int} {tgt : Nat} (hd : decode cc pc = .ok (.if_icmp .ne off, 3)) (ht : (pc : Int) + off = (tgt : Int)) (kt : ¬ x = y → G k nL tgt lv st w) (kf : x = y → G k nL (pc + 3) lv st w) : G k nL pc lv (.int y :: .int x :: st) w := by
  obtain ⟨p, l, e, R, s, m, args, below, meth, c, D, ad, A, cells, slots, Q⟩ := k
  obtain ⟨hx, hb, hml, hown, hts, hK, hN, hrm⟩ := C
  intro H locs ls hP hD hS hl
  exact lv_icmp_ne hx hb hd ht (fun q => kt q H locs ls hP hD hS hl) (fun q => kf q H locs ls hP hD hS hl)
theorem G_lcmp_ne {k : KX} {cc : ByteArray} {o nL fr lo : Nat} {cy : Nat → ClassId} {pc : Nat} {lv : List (Nat × Value)} {st : List Value} {w : List va_E} (C : OK k cc o nL cy fr lo) {x y : Int64} {off : Int} {tgt : Nat} (h0 : decode cc pc = .ok (.lcmp, 1)) (hd : decode cc (pc + 1) = .ok (.ifCond .ne off, 3)) (ht : ((pc + 1 : Nat) : Int) + off = (tgt : Int)) (kt : ¬ x = y → G k nL tgt lv st w) (kf : x = y → G k nL (pc + 1 + 3) lv st w) : G k nL pc lv (.long y :: .long x :: st) w := by
  obtain ⟨p, l, e, R, s, m, args, below, meth, c, D, ad, A, cells, slots, Q⟩ := k
  obtain ⟨hx, hb, hml, hown, hts, hK, hN, hrm⟩ := C
  intro H locs ls hP hD hS hl
  exact W.lcmp hx hb h0 (lv_if_ne hx hb hd ht (fun q => kt (fun z => q ((lg_cmp_eq x y).mpr z)) H locs ls hP hD hS hl) (fun q => kf ((lg_cmp_eq x y).mp q) H locs ls hP hD hS hl))
theorem G_if_lt {k : KX} {cc : ByteArray} {o nL fr lo : Nat} {cy : Nat → ClassId} {pc : Nat} {lv : List (Nat × Value)} {st : List Value} {w : List va_E} (C : OK k cc o nL cy fr lo) {x : Int32} {off : Int} {tgt : Nat} (hd : decode cc pc = .ok (.ifCond .lt off, 3)) (ht : (pc : Int) + off = (tgt : Int)) (kt : x < 0 → G k nL tgt lv st w) (kf : ¬ x < 0 → G k nL (pc + 3) lv st w) : G k nL pc lv (.int x :: st) w := by
  obtain ⟨p, l, e, R, s, m, args, below, meth, c, D, ad, A, cells, slots, Q⟩ := k
  obtain ⟨hx, hb, hml, hown, hts, hK, hN, hrm⟩ := C
  intro H locs ls hP hD hS hl
  exact lv_if_lt hx hb hd ht (fun q => kt q H locs ls hP hD hS hl) (fun q => kf q H locs ls hP hD hS hl)
theorem G_icmp_lt {k : KX} {cc : ByteArray} {o nL fr lo : Nat} {cy : Nat → ClassId} {pc : Nat} {lv : List (Nat × Value)} {st : List Value} {w : List va_E} (C : OK k cc o nL cy fr lo) {x y : Int32} {off : Int} {tgt : Nat} (hd : decode cc pc = .ok (.if_icmp .lt off, 3)) (ht : (pc : Int) + off = (tgt : Int)) (kt : x < y → G k nL tgt lv st w) (kf : ¬ x < y → G k nL (pc + 3) lv st w) : G k nL pc lv (.int y :: .int x :: st) w := by
  obtain ⟨p, l, e, R, s, m, args, below, meth, c, D, ad, A, cells, slots, Q⟩ := k
  obtain ⟨hx, hb, hml, hown, hts, hK, hN, hrm⟩ := C
  intro H locs ls hP hD hS hl
  exact lv_icmp_lt hx hb hd ht (fun q => kt q H locs ls hP hD hS hl) (fun q => kf q H locs ls hP hD hS hl)
theorem G_lcmp_lt {k : KX} {cc : ByteArray} {o nL fr lo : Nat} {cy : Nat → ClassId} {pc : Nat} {lv : List (Nat × Value)} {st : List Value} {w : List va_E} (C : OK k cc o nL cy fr lo) {x y : Int64} {off : Int} {tgt : Nat} (h0 : decode cc pc = .ok (.lcmp, 1)) (hd : decode cc (pc + 1) = .ok (.ifCond .lt off, 3)) (ht : ((pc + 1 : Nat) : Int) + off = (tgt : Int)) (kt : x < y → G k nL tgt lv st w) (kf : ¬ x < y → G k nL (pc + 1 + 3) lv st w) : G k nL pc lv (.long y :: .long x :: st) w := by
  obtain ⟨p, l, e, R, s, m, args, below, meth, c, D, ad, A, cells, slots, Q⟩ := k
  obtain ⟨hx, hb, hml, hown, hts, hK, hN, hrm⟩ := C
  intro H locs ls hP hD hS hl
  exact W.lcmp hx hb h0 (lv_if_lt hx hb hd ht (fun q => kt ((lg_cmp_lt x y).mp q) H locs ls hP hD hS hl) (fun q => kf (fun z => q ((lg_cmp_lt x y).mpr z)) H locs ls hP hD hS hl))
theorem G_if_ge {k : KX} {cc : ByteArray} {o nL fr lo : Nat} {cy : Nat → ClassId} {pc : Nat} {lv : List (Nat × Value)} {st : List Value} {w : List va_E} (C : OK k cc o nL cy fr lo) {x : Int32} {off : Int} {tgt : Nat} (hd : decode cc pc = .ok (.ifCond .ge off, 3)) (ht : (pc : Int) + off = (tgt : Int)) (kt : 0 ≤ x → G k nL tgt lv st w) (kf : ¬ 0 ≤ x → G k nL (pc + 3) lv st w) : G k nL pc lv (.int x :: st) w := by
  obtain ⟨p, l, e, R, s, m, args, below, meth, c, D, ad, A, cells, slots, Q⟩ := k
  obtain ⟨hx, hb, hml, hown, hts, hK, hN, hrm⟩ := C
  intro H locs ls hP hD hS hl
  exact lv_if_ge hx hb hd ht (fun q => kt q H locs ls hP hD hS hl) (fun q => kf q H locs ls hP hD hS hl)
theorem G_icmp_ge {k : KX} {cc : ByteArray} {o nL fr lo : Nat} {cy : Nat → ClassId} {pc : Nat} {lv : List (Nat × Value)} {st : List Value} {w : List va_E} (C : OK k cc o nL cy fr lo) {x y : Int32} {off : Int} {tgt : Nat} (hd : decode cc pc = .ok (.if_icmp .ge off, 3)) (ht : (pc : Int) + off = (tgt : Int)) (kt : y ≤ x → G k nL tgt lv st w) (kf : ¬ y ≤ x → G k nL (pc + 3) lv st w) : G k nL pc lv (.int y :: .int x :: st) w := by
  obtain ⟨p, l, e, R, s, m, args, below, meth, c, D, ad, A, cells, slots, Q⟩ := k
  obtain ⟨hx, hb, hml, hown, hts, hK, hN, hrm⟩ := C
  intro H locs ls hP hD hS hl
  exact lv_icmp_ge hx hb hd ht (fun q => kt q H locs ls hP hD hS hl) (fun q => kf q H locs ls hP hD hS hl)
theorem G_lcmp_ge {k : KX} {cc : ByteArray} {o nL fr lo : Nat} {cy : Nat → ClassId} {pc : Nat} {lv : List (Nat × Value)} {st : List Value} {w : List va_E} (C : OK k cc o nL cy fr lo) {x y : Int64} {off : Int} {tgt : Nat} (h0 : decode cc pc = .ok (.lcmp, 1)) (hd : decode cc (pc + 1) = .ok (.ifCond .ge off, 3)) (ht : ((pc + 1 : Nat) : Int) + off = (tgt : Int)) (kt : y ≤ x → G k nL tgt lv st w) (kf : ¬ y ≤ x → G k nL (pc + 1 + 3) lv st w) : G k nL pc lv (.long y :: .long x :: st) w := by
  obtain ⟨p, l, e, R, s, m, args, below, meth, c, D, ad, A, cells, slots, Q⟩ := k
  obtain ⟨hx, hb, hml, hown, hts, hK, hN, hrm⟩ := C
  intro H locs ls hP hD hS hl
  exact W.lcmp hx hb h0 (lv_if_ge hx hb hd ht (fun q => kt ((lg_cmp_ge x y).mp q) H locs ls hP hD hS hl) (fun q => kf (fun z => q ((lg_cmp_ge x y).mpr z)) H locs ls hP hD hS hl))
theorem G_if_gt {k : KX} {cc : ByteArray} {o nL fr lo : Nat} {cy : Nat → ClassId} {pc : Nat} {lv : List (Nat × Value)} {st : List Value} {w : List va_E} (C : OK k cc o nL cy fr lo) {x : Int32} {off : Int} {tgt : Nat} (hd : decode cc pc = .ok (.ifCond .gt off, 3)) (ht : (pc : Int) + off = (tgt : Int)) (kt : 0 < x → G k nL tgt lv st w) (kf : ¬ 0 < x → G k nL (pc + 3) lv st w) : G k nL pc lv (.int x :: st) w := by
  obtain ⟨p, l, e, R, s, m, args, below, meth, c, D, ad, A, cells, slots, Q⟩ := k
  obtain ⟨hx, hb, hml, hown, hts, hK, hN, hrm⟩ := C
  intro H locs ls hP hD hS hl
  exact lv_if_gt hx hb hd ht (fun q => kt q H locs ls hP hD hS hl) (fun q => kf q H locs ls hP hD hS hl)
theorem G_icmp_gt {k : KX} {cc : ByteArray} {o nL fr lo : Nat} {cy : Nat → ClassId} {pc : Nat} {lv : List (Nat × Value)} {st : List Value} {w : List va_E} (C : OK k cc o nL cy fr lo) {x y : Int32} {off : Int} {tgt : Nat} (hd : decode cc pc = .ok (.if_icmp .gt off, 3)) (ht : (pc : Int) + off = (tgt : Int)) (kt : y < x → G k nL tgt lv st w) (kf : ¬ y < x → G k nL (pc + 3) lv st w) : G k nL pc lv (.int y :: .int x :: st) w := by
  obtain ⟨p, l, e, R, s, m, args, below, meth, c, D, ad, A, cells, slots, Q⟩ := k
  obtain ⟨hx, hb, hml, hown, hts, hK, hN, hrm⟩ := C
  intro H locs ls hP hD hS hl
  exact lv_icmp_gt hx hb hd ht (fun q => kt q H locs ls hP hD hS hl) (fun q => kf q H locs ls hP hD hS hl)
theorem G_lcmp_gt {k : KX} {cc : ByteArray} {o nL fr lo : Nat} {cy : Nat → ClassId} {pc : Nat} {lv : List (Nat × Value)} {st : List Value} {w : List va_E} (C : OK k cc o nL cy fr lo) {x y : Int64} {off : Int} {tgt : Nat} (h0 : decode cc pc = .ok (.lcmp, 1)) (hd : decode cc (pc + 1) = .ok (.ifCond .gt off, 3)) (ht : ((pc + 1 : Nat) : Int) + off = (tgt : Int)) (kt : y < x → G k nL tgt lv st w) (kf : ¬ y < x → G k nL (pc + 1 + 3) lv st w) : G k nL pc lv (.long y :: .long x :: st) w := by
  obtain ⟨p, l, e, R, s, m, args, below, meth, c, D, ad, A, cells, slots, Q⟩ := k
  obtain ⟨hx, hb, hml, hown, hts, hK, hN, hrm⟩ := C
  intro H locs ls hP hD hS hl
  exact W.lcmp hx hb h0 (lv_if_gt hx hb hd ht (fun q => kt ((lg_cmp_gt x y).mp q) H locs ls hP hD hS hl) (fun q => kf (fun z => q ((lg_cmp_gt x y).mpr z)) H locs ls hP hD hS hl))
theorem G_if_le {k : KX} {cc : ByteArray} {o nL fr lo : Nat} {cy : Nat → ClassId} {pc : Nat} {lv : List (Nat × Value)} {st : List Value} {w : List va_E} (C : OK k cc o nL cy fr lo) {x : Int32} {off : Int} {tgt : Nat} (hd : decode cc pc = .ok (.ifCond .le off, 3)) (ht : (pc : Int) + off = (tgt : Int)) (kt : x ≤ 0 → G k nL tgt lv st w) (kf : ¬ x ≤ 0 → G k nL (pc + 3) lv st w) : G k nL pc lv (.int x :: st) w := by
  obtain ⟨p, l, e, R, s, m, args, below, meth, c, D, ad, A, cells, slots, Q⟩ := k
  obtain ⟨hx, hb, hml, hown, hts, hK, hN, hrm⟩ := C
  intro H locs ls hP hD hS hl
  exact lv_if_le hx hb hd ht (fun q => kt q H locs ls hP hD hS hl) (fun q => kf q H locs ls hP hD hS hl)
theorem G_icmp_le {k : KX} {cc : ByteArray} {o nL fr lo : Nat} {cy : Nat → ClassId} {pc : Nat} {lv : List (Nat × Value)} {st : List Value} {w : List va_E} (C : OK k cc o nL cy fr lo) {x y : Int32} {off : Int} {tgt : Nat} (hd : decode cc pc = .ok (.if_icmp .le off, 3)) (ht : (pc : Int) + off = (tgt : Int)) (kt : x ≤ y → G k nL tgt lv st w) (kf : ¬ x ≤ y → G k nL (pc + 3) lv st w) : G k nL pc lv (.int y :: .int x :: st) w := by
  obtain ⟨p, l, e, R, s, m, args, below, meth, c, D, ad, A, cells, slots, Q⟩ := k
  obtain ⟨hx, hb, hml, hown, hts, hK, hN, hrm⟩ := C
  intro H locs ls hP hD hS hl
  exact lv_icmp_le hx hb hd ht (fun q => kt q H locs ls hP hD hS hl) (fun q => kf q H locs ls hP hD hS hl)
theorem G_lcmp_le {k : KX} {cc : ByteArray} {o nL fr lo : Nat} {cy : Nat → ClassId} {pc : Nat} {lv : List (Nat × Value)} {st : List Value} {w : List va_E} (C : OK k cc o nL cy fr lo) {x y : Int64} {off : Int} {tgt : Nat} (h0 : decode cc pc = .ok (.lcmp, 1)) (hd : decode cc (pc + 1) = .ok (.ifCond .le off, 3)) (ht : ((pc + 1 : Nat) : Int) + off = (tgt : Int)) (kt : x ≤ y → G k nL tgt lv st w) (kf : ¬ x ≤ y → G k nL (pc + 1 + 3) lv st w) : G k nL pc lv (.long y :: .long x :: st) w := by
  obtain ⟨p, l, e, R, s, m, args, below, meth, c, D, ad, A, cells, slots, Q⟩ := k
  obtain ⟨hx, hb, hml, hown, hts, hK, hN, hrm⟩ := C
  intro H locs ls hP hD hS hl
  exact W.lcmp hx hb h0 (lv_if_le hx hb hd ht (fun q => kt ((lg_cmp_le x y).mp q) H locs ls hP hD hS hl) (fun q => kf (fun z => q ((lg_cmp_le x y).mpr z)) H locs ls hP hD hS hl))
theorem G_idiv {k : KX} {cc : ByteArray} {o nL fr lo : Nat} {cy : Nat → ClassId} {pc : Nat} {lv : List (Nat × Value)} {st : List Value} {w : List va_E} (C : OK k cc o nL cy fr lo) {x y : Int32} (hd : decode cc pc = .ok (.idiv, 1)) (hne : ¬ y = 0) (h : G k nL (pc + 1) lv (.int (x / y) :: st) w) : G k nL pc lv (.int y :: .int x :: st) w := by
  obtain ⟨p, l, e, R, s, m, args, below, meth, c, D, ad, A, cells, slots, Q⟩ := k
  obtain ⟨hx, hb, hml, hown, hts, hK, hN, hrm⟩ := C
  intro H locs ls hP hD hS hl
  exact lv_idiv hx hb hd hne (h H locs ls hP hD hS hl)
theorem G_irem {k : KX} {cc : ByteArray} {o nL fr lo : Nat} {cy : Nat → ClassId} {pc : Nat} {lv : List (Nat × Value)} {st : List Value} {w : List va_E} (C : OK k cc o nL cy fr lo) {x y : Int32} (hd : decode cc pc = .ok (.irem, 1)) (hne : ¬ y = 0) (h : G k nL (pc + 1) lv (.int (x - x / y * y) :: st) w) : G k nL pc lv (.int y :: .int x :: st) w := by
  obtain ⟨p, l, e, R, s, m, args, below, meth, c, D, ad, A, cells, slots, Q⟩ := k
  obtain ⟨hx, hb, hml, hown, hts, hK, hN, hrm⟩ := C
  intro H locs ls hP hD hS hl
  exact lv_irem hx hb hd hne (h H locs ls hP hD hS hl)
theorem G_ldiv {k : KX} {cc : ByteArray} {o nL fr lo : Nat} {cy : Nat → ClassId} {pc : Nat} {lv : List (Nat × Value)} {st : List Value} {w : List va_E} (C : OK k cc o nL cy fr lo) {x y : Int64} (hd : decode cc pc = .ok (.ldiv, 1)) (hne : ¬ y = 0) (h : G k nL (pc + 1) lv (.long (x / y) :: st) w) : G k nL pc lv (.long y :: .long x :: st) w := by
  obtain ⟨p, l, e, R, s, m, args, below, meth, c, D, ad, A, cells, slots, Q⟩ := k
  obtain ⟨hx, hb, hml, hown, hts, hK, hN, hrm⟩ := C
  intro H locs ls hP hD hS hl
  exact lv_ldiv hx hb hd hne (h H locs ls hP hD hS hl)
theorem G_lrem {k : KX} {cc : ByteArray} {o nL fr lo : Nat} {cy : Nat → ClassId} {pc : Nat} {lv : List (Nat × Value)} {st : List Value} {w : List va_E} (C : OK k cc o nL cy fr lo) {x y : Int64} (hd : decode cc pc = .ok (.lrem, 1)) (hne : ¬ y = 0) (h : G k nL (pc + 1) lv (.long (x - x / y * y) :: st) w) : G k nL pc lv (.long y :: .long x :: st) w := by
  obtain ⟨p, l, e, R, s, m, args, below, meth, c, D, ad, A, cells, slots, Q⟩ := k
  obtain ⟨hx, hb, hml, hown, hts, hK, hN, hrm⟩ := C
  intro H locs ls hP hD hS hl
  exact lv_lrem hx hb hd hne (h H locs ls hP hD hS hl)
theorem G_iald {k : KX} {cc : ByteArray} {o nL fr lo : Nat} {cy : Nat → ClassId} {pc : Nat} {lv : List (Nat × Value)} {st : List Value} {w : List va_E} (C : OK k cc o nL cy fr lo) {a n : Nat} {f : Nat → Int32} {i : Int32} (hw : w[a]? = some (.inl (cy 0, n, .inl f))) (hin : ¬ (i < 0 ∨ n ≤ i.toNatClampNeg)) (hd : decode cc pc = .ok (.iaload, 1)) (h : G k nL (pc + 1) lv (.int (f i.toNatClampNeg) :: st) w) : G k nL pc lv (.int i :: .ref a :: st) w := by
  obtain ⟨p, l, e, R, s, m, args, below, meth, c, D, ad, A, cells, slots, Q⟩ := k
  obtain ⟨hx, hb, hml, hown, hts, hK, hN, hrm⟩ := C
  intro H locs ls hP hD hS hl
  exact va_iald hx hb hK hP a 0 (wd_at hw) rfl hin hd (h H locs ls hP hD hS hl)
theorem G_bald {k : KX} {cc : ByteArray} {o nL fr lo : Nat} {cy : Nat → ClassId} {pc : Nat} {lv : List (Nat × Value)} {st : List Value} {w : List va_E} (C : OK k cc o nL cy fr lo) {a n : Nat} {f : Nat → Int32} {i : Int32} (hw : w[a]? = some (.inl (cy 2, n, .inl f))) (hin : ¬ (i < 0 ∨ n ≤ i.toNatClampNeg)) (hd : decode cc pc = .ok (.baload, 1)) (h : G k nL (pc + 1) lv (.int (f i.toNatClampNeg) :: st) w) : G k nL pc lv (.int i :: .ref a :: st) w := by
  obtain ⟨p, l, e, R, s, m, args, below, meth, c, D, ad, A, cells, slots, Q⟩ := k
  obtain ⟨hx, hb, hml, hown, hts, hK, hN, hrm⟩ := C
  intro H locs ls hP hD hS hl
  exact va_bald hx hb hK hP a 2 (wd_at hw) rfl hin hd (h H locs ls hP hD hS hl)
theorem G_lald {k : KX} {cc : ByteArray} {o nL fr lo : Nat} {cy : Nat → ClassId} {pc : Nat} {lv : List (Nat × Value)} {st : List Value} {w : List va_E} (C : OK k cc o nL cy fr lo) {a n : Nat} {f : Nat → Int64} {i : Int32} (hw : w[a]? = some (.inl (cy 1, n, .inr (.inl f)))) (hin : ¬ (i < 0 ∨ n ≤ i.toNatClampNeg)) (hd : decode cc pc = .ok (.laload, 1)) (h : G k nL (pc + 1) lv (.long (f i.toNatClampNeg) :: st) w) : G k nL pc lv (.int i :: .ref a :: st) w := by
  obtain ⟨p, l, e, R, s, m, args, below, meth, c, D, ad, A, cells, slots, Q⟩ := k
  obtain ⟨hx, hb, hml, hown, hts, hK, hN, hrm⟩ := C
  intro H locs ls hP hD hS hl
  exact va_lald hx hb hK hP a 1 (wd_at hw) rfl hin hd (h H locs ls hP hD hS hl)
theorem G_iast {k : KX} {cc : ByteArray} {o nL fr lo : Nat} {cy : Nat → ClassId} {pc : Nat} {lv : List (Nat × Value)} {st : List Value} {w : List va_E} (C : OK k cc o nL cy fr lo) {a n : Nat} {f : Nat → Int32} {i : Int32} {x : Int32} {w' : List va_E} (hw : w[a]? = some (.inl (cy 0, n, .inl f))) (hin : ¬ (i < 0 ∨ n ≤ i.toNatClampNeg)) (hd : decode cc pc = .ok (.iastore, 1)) (hw2 : w.set a (.inl (cy 0, n, .inl (upd f i.toNatClampNeg x))) = w') (h : G k nL (pc + 1) lv st w') : G k nL pc lv (.int x :: .int i :: .ref a :: st) w := by
  obtain ⟨p, l, e, R, s, m, args, below, meth, c, D, ad, A, cells, slots, Q⟩ := k
  obtain ⟨hx, hb, hml, hown, hts, hK, hN, hrm⟩ := C
  intro H locs ls hP hD hS hl
  subst hw2
  refine va_iast hx hb hK hP hD hS a 0 (wd_at hw) rfl hin hd (fun H1 locs1 hP1 hD1 hS1 => ?_)
  exact h H1 locs1 ls (by rw [wd_set]; exact hP1) (by rw [wd_set]; exact hD1) hS1 hl
theorem G_bast {k : KX} {cc : ByteArray} {o nL fr lo : Nat} {cy : Nat → ClassId} {pc : Nat} {lv : List (Nat × Value)} {st : List Value} {w : List va_E} (C : OK k cc o nL cy fr lo) {a n : Nat} {f : Nat → Int32} {i : Int32} {x : Int32} {w' : List va_E} (hw : w[a]? = some (.inl (cy 2, n, .inl f))) (hin : ¬ (i < 0 ∨ n ≤ i.toNatClampNeg)) (hd : decode cc pc = .ok (.bastore, 1)) (hw2 : w.set a (.inl (cy 2, n, .inl (upd f i.toNatClampNeg (vp_nar .byte x)))) = w') (h : G k nL (pc + 1) lv st w') : G k nL pc lv (.int x :: .int i :: .ref a :: st) w := by
  obtain ⟨p, l, e, R, s, m, args, below, meth, c, D, ad, A, cells, slots, Q⟩ := k
  obtain ⟨hx, hb, hml, hown, hts, hK, hN, hrm⟩ := C
  intro H locs ls hP hD hS hl
  subst hw2
  refine va_bast hx hb hK hP hD hS a 2 (wd_at hw) rfl hin hd (fun H1 locs1 hP1 hD1 hS1 => ?_)
  exact h H1 locs1 ls (by rw [wd_set]; exact hP1) (by rw [wd_set]; exact hD1) hS1 hl
theorem G_last {k : KX} {cc : ByteArray} {o nL fr lo : Nat} {cy : Nat → ClassId} {pc : Nat} {lv : List (Nat × Value)} {st : List Value} {w : List va_E} (C : OK k cc o nL cy fr lo) {a n : Nat} {f : Nat → Int64} {i : Int32} {x : Int64} {w' : List va_E} (hw : w[a]? = some (.inl (cy 1, n, .inr (.inl f)))) (hin : ¬ (i < 0 ∨ n ≤ i.toNatClampNeg)) (hd : decode cc pc = .ok (.lastore, 1)) (hw2 : w.set a (.inl (cy 1, n, .inr (.inl (vp_updL f i.toNatClampNeg x)))) = w') (h : G k nL (pc + 1) lv st w') : G k nL pc lv (.long x :: .int i :: .ref a :: st) w := by
  obtain ⟨p, l, e, R, s, m, args, below, meth, c, D, ad, A, cells, slots, Q⟩ := k
  obtain ⟨hx, hb, hml, hown, hts, hK, hN, hrm⟩ := C
  intro H locs ls hP hD hS hl
  subst hw2
  refine va_last hx hb hK hP hD hS a 1 (wd_at hw) rfl hin hd (fun H1 locs1 hP1 hD1 hS1 => ?_)
  exact h H1 locs1 ls (by rw [wd_set]; exact hP1) (by rw [wd_set]; exact hD1) hS1 hl
theorem G_alen {k : KX} {cc : ByteArray} {o nL fr lo : Nat} {cy : Nat → ClassId} {pc : Nat} {lv : List (Nat × Value)} {st : List Value} {w : List va_E} (C : OK k cc o nL cy fr lo) {a : Nat} {x : vp_A} {t0 : Nat} {ty : FieldType} {cA : ClassId} (hw : w[a]? = some (.inl (cA, x))) (ht : (tysOf cy)[t0]? = some (cA, ty)) {v : Int32} (hv : Int32.ofNat x.1 = v) (hd : decode cc pc = .ok (.arraylength, 1)) (h : G k nL (pc + 1) lv (.int v :: st) w) : G k nL pc lv (.ref a :: st) w := by
  obtain ⟨p, l, e, R, s, m, args, below, meth, c, D, ad, A, cells, slots, Q⟩ := k
  obtain ⟨hx, hb, hml, hown, hts, hK, hN, hrm⟩ := C
  intro H locs ls hP hD hS hl
  exact va_alen hx hb hK hP a t0 (wd_at hw) ht hv hd (h H locs ls hP hD hS hl)
theorem G_putZ {k : KX} {cc : ByteArray} {o nL fr lo : Nat} {cy : Nat → ClassId} {pc : Nat} {lv : List (Nat × Value)} {st : List Value} {w : List va_E} (C : OK k cc o nL cy fr lo) {idx ci kf a : Nat} {fs : List Value} {b : Bool} {w' : List va_E} (hf : (o, idx, ci, kf) ∈ flL) (hw : w[a]? = some (.inr (ci, fs))) (hlt : kf < fs.length) (hty : tyN ci kf = .boolean) (hfin : ((clN ci).2.1 kf).2.2.2 = false) (hd : decode cc pc = .ok (.putfield idx, 3)) (hw2 : w.set a (.inr (ci, fs.set kf (.int (bI b)))) = w') (h : G k nL (pc + 3) lv st w') : G k nL pc lv (.int (bI b) :: .ref a :: st) w := by
  obtain ⟨p, l, e, R, s, m, args, below, meth, c, D, ad, A, cells, slots, Q⟩ := k
  obtain ⟨hx, hb, hml, hown, hts, hK, hN, hrm⟩ := C
  intro H locs ls hP hD hS hl
  have hf := fl_ok hf
  subst hw2
  have hlt' : kf < (fs.map (reV ad)).length := by rw [List.length_map]; exact hlt
  refine va_put (C := (clN ci).1) (T := (clN ci).2.1) (N := (clN ci).2.2) (ty := .boolean) (v := .int (bI b)) hx hb hts (cl_in ci hf.2.1) (tyN ci) (cl_ty ci hf.2.1) (cl_nm ci hf.2.1) hown hK hP hD hS a (wd_at hw) (cl_at ci hf.2.1) kf hf.2.2 (hts _ hf.1) (fun _ q => q) hfin (by rw [cl_ty ci hf.2.1 kf hf.2.2, hty]) (bI_nar b) (bI_fit b) hlt' hd (fun H1 locs1 hP1 hD1 hS1 => ?_)
  have e2 : wd ad (w.set a (.inr (ci, fs.set kf (.int (bI b))))) = (wd ad w).set a (ad a, .inr (ci, (fs.map (reV ad)).set kf (.int (bI b)))) := by
    rw [wd_set]
    show _ = (wd ad w).set a (ad a, .inr (ci, (fs.map (reV ad)).set kf (reV ad (.int (bI b)))))
    rw [← List.map_set]
    rfl
  exact h H1 locs1 ls (by rw [e2]; exact hP1) (by rw [e2]; exact hD1) hS1 hl
theorem G_ldc {k : KX} {cc : ByteArray} {o nL fr lo : Nat} {cy : Nat → ClassId} {pc : Nat} {lv : List (Nat × Value)} {st : List Value} {w : List va_E} (C : OK k cc o nL cy fr lo) {idx : Nat} {v : Int32} (hc : Cond.constant (ownN o) idx v ∈ tbl) (hd : decode cc pc = .ok (.ldc idx, 2)) (h : G k nL (pc + 2) lv (.int v :: st) w) : G k nL pc lv st w := by
  obtain ⟨p, l, e, R, s, m, args, below, meth, c, D, ad, A, cells, slots, Q⟩ := k
  obtain ⟨hx, hb, hml, hown, hts, hK, hN, hrm⟩ := C
  intro H locs ls hP hD hS hl
  exact lv_ldc hx hb hown (hts _ hc) hd (h H locs ls hP hD hS hl)
theorem G_ldcw {k : KX} {cc : ByteArray} {o nL fr lo : Nat} {cy : Nat → ClassId} {pc : Nat} {lv : List (Nat × Value)} {st : List Value} {w : List va_E} (C : OK k cc o nL cy fr lo) {idx : Nat} {v : Int32} (hc : Cond.constant (ownN o) idx v ∈ tbl) (hd : decode cc pc = .ok (.ldc_w idx, 3)) (h : G k nL (pc + 3) lv (.int v :: st) w) : G k nL pc lv st w := by
  obtain ⟨p, l, e, R, s, m, args, below, meth, c, D, ad, A, cells, slots, Q⟩ := k
  obtain ⟨hx, hb, hml, hown, hts, hK, hN, hrm⟩ := C
  intro H locs ls hP hD hS hl
  exact lv_ldcw hx hb hown (hts _ hc) hd (h H locs ls hP hD hS hl)
theorem G_ldc2 {k : KX} {cc : ByteArray} {o nL fr lo : Nat} {cy : Nat → ClassId} {pc : Nat} {lv : List (Nat × Value)} {st : List Value} {w : List va_E} (C : OK k cc o nL cy fr lo) {idx : Nat} {v : Int64} (hc : Cond.constantLong (ownN o) idx v ∈ tbl) (hd : decode cc pc = .ok (.ldc2_w idx, 3)) (h : G k nL (pc + 3) lv (.long v :: st) w) : G k nL pc lv st w := by
  obtain ⟨p, l, e, R, s, m, args, below, meth, c, D, ad, A, cells, slots, Q⟩ := k
  obtain ⟨hx, hb, hml, hown, hts, hK, hN, hrm⟩ := C
  intro H locs ls hP hD hS hl
  exact lv_ldc2 hx hb hown (hts _ hc) hd (h H locs ls hP hD hS hl)
theorem G_tabIn {k : KX} {cc : ByteArray} {o nL fr lo : Nat} {cy : Nat → ClassId} {pc : Nat} {lv : List (Nat × Value)} {st : List Value} {w : List va_E} (C : OK k cc o nL cy fr lo) {dflt lo1 hi : Int} {offs : Array Int} {len : Nat} {x v : Int32} {off : Int} {tgt : Nat} (hd : decode cc pc = .ok (.tableswitch dflt lo1 hi offs, len)) (hv : x = v) (h1 : ¬ v.toInt < lo1) (h2 : ¬ hi < v.toInt) (ho : offs[(v.toInt - lo1).toNat]? = some off) (ht : (pc : Int) + off = (tgt : Int)) (h : G k nL tgt lv st w) : G k nL pc lv (.int x :: st) w := by
  obtain ⟨p, l, e, R, s, m, args, below, meth, c, D, ad, A, cells, slots, Q⟩ := k
  obtain ⟨hx, hb, hml, hown, hts, hK, hN, hrm⟩ := C
  intro H locs ls hP hD hS hl
  subst hv
  exact lv_tableIn hx hb hd h1 h2 ho ht (h H locs ls hP hD hS hl)
theorem G_tabOut {k : KX} {cc : ByteArray} {o nL fr lo : Nat} {cy : Nat → ClassId} {pc : Nat} {lv : List (Nat × Value)} {st : List Value} {w : List va_E} (C : OK k cc o nL cy fr lo) {dflt lo1 hi : Int} {offs : Array Int} {len : Nat} {x : Int32} {tgt : Nat} (hd : decode cc pc = .ok (.tableswitch dflt lo1 hi offs, len)) (h1 : x.toInt < lo1 ∨ hi < x.toInt) (ht : (pc : Int) + dflt = (tgt : Int)) (h : G k nL tgt lv st w) : G k nL pc lv (.int x :: st) w := by
  obtain ⟨p, l, e, R, s, m, args, below, meth, c, D, ad, A, cells, slots, Q⟩ := k
  obtain ⟨hx, hb, hml, hown, hts, hK, hN, hrm⟩ := C
  intro H locs ls hP hD hS hl
  exact lv_tableOut hx hb hd h1 ht (h H locs ls hP hD hS hl)
theorem G_lkIn {k : KX} {cc : ByteArray} {o nL fr lo : Nat} {cy : Nat → ClassId} {pc : Nat} {lv : List (Nat × Value)} {st : List Value} {w : List va_E} (C : OK k cc o nL cy fr lo) {dflt : Int} {ps : Array (Int × Int)} {len : Nat} {x v : Int32} {off : Int} {tgt : Nat} (hd : decode cc pc = .ok (.lookupswitch dflt ps, len)) (hp : (ps.toList.zip (ps.toList.drop 1)).all (fun (a, next) => a.1 < next.1) = true) (hv : x = v) (ho : Op.lookupswitch.offset ps.toList dflt v.toInt = off) (ht : (pc : Int) + off = (tgt : Int)) (h : G k nL tgt lv st w) : G k nL pc lv (.int x :: st) w := by
  obtain ⟨p, l, e, R, s, m, args, below, meth, c, D, ad, A, cells, slots, Q⟩ := k
  obtain ⟨hx, hb, hml, hown, hts, hK, hN, hrm⟩ := C
  intro H locs ls hP hD hS hl
  subst hv
  exact lv_lookup hx hb hd hp ho ht (h H locs ls hP hD hS hl)
theorem G_lkOut {k : KX} {cc : ByteArray} {o nL fr lo : Nat} {cy : Nat → ClassId} {pc : Nat} {lv : List (Nat × Value)} {st : List Value} {w : List va_E} (C : OK k cc o nL cy fr lo) {dflt : Int} {ps : Array (Int × Int)} {len : Nat} {x : Int32} {tgt : Nat} (hd : decode cc pc = .ok (.lookupswitch dflt ps, len)) (hp : (ps.toList.zip (ps.toList.drop 1)).all (fun (a, next) => a.1 < next.1) = true) (ho : Op.lookupswitch.offset ps.toList dflt x.toInt = dflt) (ht : (pc : Int) + dflt = (tgt : Int)) (h : G k nL tgt lv st w) : G k nL pc lv (.int x :: st) w := by
  obtain ⟨p, l, e, R, s, m, args, below, meth, c, D, ad, A, cells, slots, Q⟩ := k
  obtain ⟨hx, hb, hml, hown, hts, hK, hN, hrm⟩ := C
  intro H locs ls hP hD hS hl
  exact lv_lookup hx hb hd hp ho ht (h H locs ls hP hD hS hl)
theorem neT {x v : Int32} (h : ¬ x = v) : ¬ x.toInt = v.toInt := fun q => h (Int32.toInt_inj.mp q)
theorem oob {α : Type} {P : Prop} [Decidable P] {a : Option α} {r : α} (h : (if P then none else a) = some r) : ¬ P ∧ a = some r := by
  by_cases c : P
  · rw [if_pos c] at h; cases h
  · rw [if_neg c] at h; exact ⟨c, h⟩
theorem obd {α β : Type} {x : Option α} {f : α → Option β} {b : β} (h : x.bind f = some b) : ∃ a, x = some a ∧ f a = some b := by
  cases x with
  | none => cases h
  | some a => exact ⟨a, rfl, h⟩
def rl (ρ : List Nat) (i : Nat) : Nat := ρ.getD i 0
def putW : List va_E → List Nat → List va_E → List va_E
  | w, i :: ρ, c :: cs => putW (w.set i c) ρ cs
  | w, _, _ => w
theorem putW_len : ∀ (ρ : List Nat) (cs w : List va_E), (putW w ρ cs).length = w.length
  | [], cs, w => by cases cs <;> rfl
  | i :: ρ, [], w => rfl
  | i :: ρ, c :: cs, w => by rw [putW, putW_len ρ cs, List.length_set]
theorem putW_out : ∀ (ρ : List Nat) (cs w : List va_E) (i : Nat), (∀ j, j < cs.length → ρ[j]? ≠ some i) → (putW w ρ cs)[i]? = w[i]?
  | [], cs, w, i, _ => by cases cs <;> rfl
  | a :: ρ, [], w, i, _ => rfl
  | a :: ρ, c :: cs, w, i, h => by
    rw [putW, putW_out ρ cs (w.set a c) i (fun j hj => by have := h (j + 1) (by rw [List.length_cons]; omega); rwa [List.getElem?_cons_succ] at this)]
    have h0 : a ≠ i := fun q => h 0 (by rw [List.length_cons]; omega) (by rw [List.getElem?_cons_zero, q])
    exact List.getElem?_set_ne h0
theorem putW_in : ∀ (ρ : List Nat) (cs w : List va_E) (j i : Nat) (c : va_E), va_nd (ρ.take cs.length) = true → ρ[j]? = some i → cs[j]? = some c → i < w.length → (putW w ρ cs)[i]? = some c
  | [], cs, w, j, i, c, _, h, _, _ => by simp at h
  | a :: ρ, [], w, j, i, c, _, _, h, _ => by simp at h
  | a :: ρ, d :: cs, w, 0, i, c, hn, h1, h2, hl => by
    rw [List.getElem?_cons_zero] at h1 h2
    cases h1
    cases h2
    rw [putW]
    have hn2 : (decide (a ∉ ρ.take cs.length) && va_nd (ρ.take cs.length)) = true := hn
    rw [Bool.and_eq_true] at hn2
    have hni := of_decide_eq_true hn2.1
    rw [putW_out ρ cs (w.set a d) a (fun j hj q => hni (List.mem_of_getElem? (i := j) (by rw [List.getElem?_take, if_pos hj]; exact q)))]
    rw [List.getElem?_set_self hl]
  | a :: ρ, d :: cs, w, j + 1, i, c, hn, h1, h2, hl => by
    rw [List.getElem?_cons_succ] at h1 h2
    have hn2 : (decide (a ∉ ρ.take cs.length) && va_nd (ρ.take cs.length)) = true := hn
    rw [Bool.and_eq_true] at hn2
    rw [putW]
    exact putW_in ρ cs (w.set a d) j i c hn2.2 h1 h2 (by rw [List.length_set]; exact hl)
/-- the words of a call -/
def LkV (o idx : Nat) (y : MethodName) (bytes : ByteArray) (maxL n : Nat) (ret : Option FieldType) : Prop := Cond.methodLink (ownN o) idx y ∈ tbl ∧ Cond.instanceMethod y ∈ tbl ∧ Cond.selects y.cls y y ∈ tbl ∧ Cond.initialized y.cls ∈ tbl ∧ Cond.code y bytes maxL ret ∈ tbl ∧ y.cls ≠ "java/lang/invoke/MethodHandle" ∧ y.cls ≠ "java/lang/invoke/VarHandle" ∧ (parseMethodDescriptor y.desc).map (fun d => d.parameters.length) = some n
def LkS (o idx : Nat) (y : MethodName) (bytes : ByteArray) (maxL n : Nat) (ret : Option FieldType) : Prop := Cond.methodLink (ownN o) idx y ∈ tbl ∧ Cond.static y ∈ tbl ∧ Cond.initialized y.cls ∈ tbl ∧ Cond.code y bytes maxL ret ∈ tbl ∧ y.cls ≠ "java/lang/invoke/MethodHandle" ∧ y.cls ≠ "java/lang/invoke/VarHandle" ∧ (parseMethodDescriptor y.desc).map (fun d => d.parameters.length) = some n
def LkN (o idx : Nat) (y : MethodName) (bytes : ByteArray) (maxL n : Nat) (ret : Option FieldType) : Prop := (ownN o, idx, y, RX6) ∈ nestL ∧ Cond.static y ∈ tbl ∧ Cond.initialized y.cls ∈ tbl ∧ Cond.code y bytes maxL ret ∈ tbl ∧ y.cls ≠ "java/lang/invoke/MethodHandle" ∧ y.cls ≠ "java/lang/invoke/VarHandle" ∧ (parseMethodDescriptor y.desc).map (fun d => d.parameters.length) = some n
section QC
variable {p : Program} {l : Launch} {e : Env} {R : Room} {s : State} {m : MethodId} {args : Array Value} {below : List Frame} {meth : Method} {c : Code} {H : Heap} {locs : List Loc} {cells slots : Nat} {Q : State → Prop} {D : va_G} {cy : Nat → ClassId} {A A1 : Nat → Prop} {ad : Nat → Nat}
theorem q_call {pc : Nat} {ls : Array Slot} {rest st0 : List Value} {a : Array Value} {H0 : Heap} {V : Option Value} {wc' : List va_E} {ad1 : Nat → Nat} (hr : va_Run p l e R s m args below meth c H locs cells slots 0 0 (F0 m pc ls st0) rest (QG D cy ad1 A1 V wc' a) A1) (hS : va_S A H0 H locs) (hA : ∀ q, A1 q → A q)
    (kk : ∀ (H1 : Heap) (locs1 : List Loc), va_P D classes (wd ad1 wc') H1 → va_D A1 (wd ad1 wc') → H.size ≤ H1.size → (∀ q : Nat, q < H.size → ¬ A1 q → H1[q]? = H[q]?) → va_S A H0 H1 locs1 → W p l e R s m args below meth c H1 locs1 cells slots Q (F0 m (pc + 3) ls ((V.map (reV ad1)).toList ++ rest))) : W p l e R s m args below meth c H locs cells slots Q (F0 m pc ls st0) := by
  intro T hT X
  obtain ⟨v, st₀, t, T', L, h0, X', hL, e1, e2, ⟨⟨hv, hP1, hK1, hD1⟩, hz, hk⟩, st⟩ := hr T hT X
  cases hv
  rw [h0] at hz hk
  obtain ⟨t2, a1, b1⟩ := kk T'.heap (locs ++ L) (by rw [e1]; exact hP1) hD1 (by rw [e1]; exact hz) (fun q h1 h2 => by rw [e1]; exact hk q h1 h2)
    ⟨Nat.le_trans hS.1 (by rw [e1]; exact hz), fun q h1 h2 => by rw [e1, hk q (Nat.lt_of_lt_of_le h1 hS.1) (fun z => h2 (hA q z))]; exact hS.2.1 q h1 h2, fun q hq => by
      rcases List.mem_append.mp hq with h | h
      · exact hS.2.2 q h
      · exact hA _ (hL q h)⟩ T' rfl X'
  exact ⟨t2, st t2 a1, b1⟩
/-- the callee's cells of the caller's world -/
theorem q_at {ρ : List Nat} {w wc : List va_E} (hw : (ρ.take wc.length).map (fun i => w[i]?) = wc.map (fun c => some (reE (rl ρ) c))) {j : Nat} {cj : va_E} (h : wc[j]? = some cj) : ρ[j]? = some (rl ρ j) ∧ w[rl ρ j]? = some (reE (rl ρ) cj) := by
  have hj : j < wc.length := (List.getElem?_eq_some_iff.mp h).1
  have h1 : ((ρ.take wc.length).map (fun i => w[i]?))[j]? = some (some (reE (rl ρ) cj)) := by rw [hw, List.getElem?_map, h]; rfl
  rw [List.getElem?_map, List.getElem?_take, if_pos hj] at h1
  cases hr : ρ[j]? with
  | none => rw [hr] at h1; cases h1
  | some i =>
    have e : rl ρ j = i := by unfold rl; rw [List.getD_eq_getElem?_getD, hr]; rfl
    rw [hr] at h1
    rw [e]
    exact ⟨rfl, Option.some.inj h1⟩
theorem q_pre {ρ : List Nat} {w wc : List va_E} (hw : (ρ.take wc.length).map (fun i => w[i]?) = wc.map (fun c => some (reE (rl ρ) c))) (hnd : va_nd (ρ.take wc.length) = true) (hP : va_P D classes (wd ad w) H) (hD : va_D A (wd ad w)) :
    va_P D classes (wd (fun j => ad (rl ρ j)) wc) H ∧ va_D (fun q => ∃ j, j < wc.length ∧ q = ad (rl ρ j)) (wd (fun j => ad (rl ρ j)) wc) := by
  have key : ∀ (j : Nat) (q : Nat × va_E), (wd (fun j => ad (rl ρ j)) wc)[j]? = some q → j < wc.length ∧ ρ[j]? = some (rl ρ j) ∧ q.1 = ad (rl ρ j) ∧ (wd ad w)[rl ρ j]? = some q := by
    intro j q hq
    obtain ⟨cj, h1, rfl⟩ := wd_of hq
    obtain ⟨h2, h3⟩ := q_at hw h1
    refine ⟨(List.getElem?_eq_some_iff.mp h1).1, h2, rfl, ?_⟩
    rw [wd_at h3, reE_comp]
  refine ⟨fun j q hq => hP _ q (key j q hq).2.2.2, ⟨fun i j x y hi hj hxy => ?_, fun j q hq => ⟨j, (key j q hq).1, (key j q hq).2.2.1⟩⟩⟩
  obtain ⟨a1, a2, -, a4⟩ := key i x hi
  obtain ⟨b1, b2, -, b4⟩ := key j y hj
  have e := hD.1 _ _ x y a4 b4 hxy
  rw [e] at a2
  exact va_nd_inj _ hnd i j (rl ρ j) (by rw [List.getElem?_take, if_pos a1]; exact a2) (by rw [List.getElem?_take, if_pos b1]; exact b2)
theorem q_post {ρ : List Nat} {w wc wc' w' : List va_E} {H1 : Heap} (hw : (ρ.take wc.length).map (fun i => w[i]?) = wc.map (fun c => some (reE (rl ρ) c))) (hnd : va_nd (ρ.take wc.length) = true) (hlen : wc'.length = wc.length) (hw' : putW w ρ (wc'.map (reE (rl ρ))) = w') (hP : va_P D classes (wd ad w) H) (hD : va_D A (wd ad w))
    (hP1 : va_P D classes (wd (fun j => ad (rl ρ j)) wc') H1) (hk : ∀ q : Nat, q < H.size → ¬ (∃ j, j < wc.length ∧ q = ad (rl ρ j)) → H1[q]? = H[q]?) : va_P D classes (wd ad w') H1 ∧ va_D A (wd ad w') := by
  subst hw'
  have hl2 : (wc'.map (reE (rl ρ))).length = wc.length := by rw [List.length_map, hlen]
  refine ⟨fun i q hq => ?_, ⟨fun i j x y hi hj hxy => ?_, fun i q hq => ?_⟩⟩
  · by_cases hx : ∃ j, j < wc.length ∧ ρ[j]? = some i
    · obtain ⟨j, hj, hr⟩ := hx
      have hj' : j < wc'.length := by rw [hlen]; exact hj
      have e : rl ρ j = i := by unfold rl; rw [List.getD_eq_getElem?_getD, hr]; rfl
      obtain ⟨-, hwi⟩ := q_at hw (List.getElem?_eq_getElem hj)
      have hil : i < w.length := by rw [← e]; exact (List.getElem?_eq_some_iff.mp hwi).1
      have h1 := putW_in ρ (wc'.map (reE (rl ρ))) w j i (reE (rl ρ) wc'[j]) (by rw [hl2]; exact hnd) hr (by rw [List.getElem?_map, List.getElem?_eq_getElem hj']; rfl) hil
      rw [wd_at h1] at hq
      have e2 : q = (ad (rl ρ j), reE (fun j => ad (rl ρ j)) wc'[j]) := by rw [← Option.some.inj hq, reE_comp, e]
      exact hP1 j q (by rw [wd_at (List.getElem?_eq_getElem hj'), e2])
    · obtain ⟨ci, h1, rfl⟩ := wd_of hq
      rw [putW_out ρ (wc'.map (reE (rl ρ))) w i (fun j hj q => hx ⟨j, by rw [← hl2]; exact hj, q⟩)] at h1
      have h2 := hP i _ (wd_at h1)
      refine h2.kept (hk _ h2.lt (fun ⟨j, hj, q⟩ => hx ⟨j, hj, ?_⟩))
      obtain ⟨h3, h4⟩ := q_at hw (List.getElem?_eq_getElem hj)
      rw [h3, hD.1 _ _ _ _ (wd_at h1) (wd_at h4) q]
  · obtain ⟨c1, h1, rfl⟩ := wd_of hi
    obtain ⟨c2, h2, rfl⟩ := wd_of hj
    have l1 := (List.getElem?_eq_some_iff.mp h1).1
    have l2 := (List.getElem?_eq_some_iff.mp h2).1
    rw [putW_len] at l1 l2
    exact hD.1 i j _ _ (wd_at (List.getElem?_eq_getElem l1)) (wd_at (List.getElem?_eq_getElem l2)) hxy
  · obtain ⟨c1, h1, rfl⟩ := wd_of hq
    have l1 := (List.getElem?_eq_some_iff.mp h1).1
    rw [putW_len] at l1
    exact (hD.2 i (ad i, reE ad w[i]) (wd_at (List.getElem?_eq_getElem l1)) : A (ad i))
theorem q_blind {As : List Value} {wc : List va_E} {ad1 : Nat → Nat} : FrameBlind (va_Pc (As.map (reV ad1)) (fun U => va_P D classes (wd ad1 wc) U.heap ∧ va_K D classes (tysOf cy) U ∧ va_D A (wd ad1 wc) ∧ NW U)) := fun a U g mk q => by
  obtain ⟨q0, qP, qK, qD, qN⟩ := q
  exact ⟨q0, qP, va_K.moved (u := U) (U := U.calling g mk a) (Vm.Alike.refl U.vm) qK, qD, NW.same (U := U.calling g mk a) rfl qN⟩
end QC
theorem st_cat (ad : Nat → Nat) (rest : List Value) : ((rest.map (reV ad)).map fun v => v.category) = rest.map fun v => v.category := by
  rw [List.map_map]
  congr 1
  funext v
  exact reV_cat ad v
theorem V_comp (ad : Nat → Nat) (ρ : List Nat) (V : Option Value) (rest : List Value) : (V.map (reV fun j => ad (rl ρ j))).toList ++ rest.map (reV ad) = ((V.map (reV (rl ρ))).toList ++ rest).map (reV ad) := by
  cases V with
  | none => rfl
  | some v => show reV _ v :: _ = reV ad (reV (rl ρ) v) :: _; rw [reV_comp]; rfl
theorem As_comp (ad : Nat → Nat) (ρ : List Nat) (As : List Value) (r : List Value) : ((As.map (reV (rl ρ))).reverse ++ r).map (reV ad) = (As.map (reV fun j => ad (rl ρ j))).reverse ++ r.map (reV ad) := by
  rw [List.map_append, List.map_reverse, List.map_map]
  congr 3
  funext v
  exact reV_comp ad (rl ρ) v
theorem G_callV {k : KX} {cc : ByteArray} {o nL fr lo : Nat} {cy : Nat → ClassId} {pc : Nat} {lv : List (Nat × Value)} {w : List va_E} (C : OK k cc o nL cy fr lo) {idx : Nat} {y : MethodName} {bytes : ByteArray} {maxL n : Nat} {ret : Option FieldType} {fr' lo' : Nat} (L : LkV o idx y bytes maxL n ret) (hroom : fr' + 1 ≤ fr ∧ 8 + (maxL + 11) + lo' ≤ lo) (hd : decode cc pc = .ok (.invokevirtual idx, 3))
    (ρ : List Nat) {As : List Value} {wc wc' : List va_E} {V : Option Value} {ci : Nat} {fs : List Value} {rest st : List Value} {w' : List va_E} (hM : MG cy y bytes maxL ret fr' lo' (.ref 0 :: As) wc V wc') (hst : st = (As.map (reV (rl ρ))).reverse ++ .ref (rl ρ 0) :: rest) (hn : As.length = n) (hcat : (rest.map fun v => v.category).sum ≤ 8)
    (hw : (ρ.take wc.length).map (fun i => w[i]?) = wc.map (fun c => some (reE (rl ρ) c))) (hnd : va_nd (ρ.take wc.length) = true) (hr : wc[0]? = some (.inr (ci, fs)) ∧ (classes[ci]?).map (fun q => q.1) = some y.cls) (hlen : wc'.length = wc.length) (hw' : putW w ρ (wc'.map (reE (rl ρ))) = w')
    (h : G k nL (pc + 3) lv ((V.map (reV (rl ρ))).toList ++ rest) w') : G k nL pc lv st w := by
  obtain ⟨p, l, e, R, s, m, args, below, meth, c, D, ad, A, cells, slots, Q⟩ := k
  obtain ⟨hx, hb, hml, hown, hts, hK, hN, hrm, hce, hsl⟩ := C
  obtain ⟨l1, l2, l3, l4, l5, l6, l7, l8⟩ := L
  intro H locs ls hP hD hS hl
  obtain ⟨hPc, hDc⟩ := q_pre hw hnd hP hD
  subst hst
  have hA : ∀ q, (∃ j, j < wc.length ∧ q = ad (rl ρ j)) → A q := by
    rintro q ⟨j, hj, rfl⟩
    exact hD.2 _ _ (wd_at (q_at hw (List.getElem?_eq_getElem hj)).2)
  have hcw : CallW R s args (ownN o) y.cls idx y bytes maxL ret (Cond.code y bytes maxL ret :: tbl) { frames := fr', cells := 0, slots := 0, locals := lo' } 0 0 n :=
    ⟨callB_of n hts (tb_goodc l5) rfl rfl rfl (hts _ l4) (hts _ l1) ⟨l6, l7, l8⟩ ⟨Nat.le_trans hroom.1 hrm.1, Nat.le_trans hroom.2 hrm.2⟩, hts _ l2, hts _ l3⟩
  obtain ⟨qc, hqc, hqn⟩ : ∃ qc, classes[ci]? = some qc ∧ qc.1 = y.cls := by
    have h2 := hr.2
    cases hq : classes[ci]? with
    | none => rw [hq] at h2; cases h2
    | some qc => rw [hq] at h2; exact ⟨qc, rfl, Option.some.inj h2⟩
  refine q_call (va_runV (As := As.map (reV fun j => ad (rl ρ j))) (b := ad (rl ρ 0)) (rest := rest.map (reV ad)) ⟨hx, hb, hml, hown, hts⟩ (hM l D (fun j => ad (rl ρ j)) (fun q => ∃ j, j < wc.length ∧ q = ad (rl ρ j))) hcw ⟨q_blind, ?_, fun U hU hW => ⟨rfl, by rw [hU]; exact hPc, va_K.moved hW.alike hK, hDc, hN.warm hW⟩⟩ rfl (by rw [List.length_map]; exact hn) hl.1 ?_ (lv_room (by rw [st_cat]; exact hcat)) hd ⟨hce, hsl⟩) hS hA (fun H1 locs1 hP1 hDx hz hk hS1 => ?_)
  · rw [← hqn]
    exact va_recv hK hPc hqc (wd_at hr.1)
  · show List.map (reV ad) _ = _
    rw [As_comp]
    rfl
  · obtain ⟨hP2, hD2⟩ := q_post hw hnd hlen hw' hP hD hP1 hk
    rw [V_comp]
    exact h H1 locs1 ls hP2 hD2 hS1 hl
theorem G_callS {k : KX} {cc : ByteArray} {o nL fr lo : Nat} {cy : Nat → ClassId} {pc : Nat} {lv : List (Nat × Value)} {w : List va_E} (C : OK k cc o nL cy fr lo) {idx : Nat} {y : MethodName} {bytes : ByteArray} {maxL n : Nat} {ret : Option FieldType} {fr' lo' : Nat} (L : LkS o idx y bytes maxL n ret) (hroom : fr' + 1 ≤ fr ∧ 8 + (maxL + 11) + lo' ≤ lo) (hd : decode cc pc = .ok (.invokestatic idx, 3))
    {As : List Value} {V : Option Value} {rest st : List Value} (hM : MG cy y bytes maxL ret fr' lo' As [] V []) (hst : st = (As.map (reV (rl []))).reverse ++ rest) (hn : As.length = n) (hcat : (rest.map fun v => v.category).sum ≤ 8)
    (h : G k nL (pc + 3) lv ((V.map (reV (rl []))).toList ++ rest) w) : G k nL pc lv st w := by
  obtain ⟨p, l, e, R, s, m, args, below, meth, c, D, ad, A, cells, slots, Q⟩ := k
  obtain ⟨hx, hb, hml, hown, hts, hK, hN, hrm, hce, hsl⟩ := C
  obtain ⟨l1, l2, l4, l5, l6, l7, l8⟩ := L
  intro H locs ls hP hD hS hl
  have hw : (([] : List Nat).take ([] : List va_E).length).map (fun i => w[i]?) = ([] : List va_E).map (fun c => some (reE (rl []) c)) := rfl
  obtain ⟨hPc, hDc⟩ := q_pre (ad := ad) hw rfl hP hD
  subst hst
  have hA : ∀ q, (∃ j, j < ([] : List va_E).length ∧ q = ad (rl [] j)) → A q := by
    rintro q ⟨j, hj, rfl⟩
    exact absurd hj (Nat.not_lt_zero j)
  refine q_call (va_runS (As := As.map (reV fun j => ad (rl [] j))) (rest := rest.map (reV ad)) ⟨hx, hb, hml, hown, hts⟩ (hM l D (fun j => ad (rl [] j)) (fun q => ∃ j, j < ([] : List va_E).length ∧ q = ad (rl [] j))) ⟨callB_of n hts (tb_goodc l5) rfl rfl rfl (hts _ l4) (hts _ l1) ⟨l6, l7, l8⟩ ⟨Nat.le_trans hroom.1 hrm.1, Nat.le_trans hroom.2 hrm.2⟩, hts _ l2⟩ ⟨q_blind, fun U hU hW => ⟨rfl, by rw [hU]; exact hPc, va_K.moved hW.alike hK, hDc, hN.warm hW⟩⟩ rfl (by rw [List.length_map]; exact hn) hl.1 ?_ (lv_room (by rw [st_cat]; exact hcat)) hd ⟨hce, hsl⟩) hS hA (fun H1 locs1 hP1 hDx hz hk hS1 => ?_)
  · show List.map (reV ad) _ = _
    rw [As_comp]
  · obtain ⟨hP2, hD2⟩ := q_post (w' := w) hw rfl rfl rfl hP hD hP1 hk
    rw [V_comp]
    exact h H1 locs1 ls hP2 hD2 hS1 hl
theorem G_callN {k : KX} {cc : ByteArray} {o nL fr lo : Nat} {cy : Nat → ClassId} {pc : Nat} {lv : List (Nat × Value)} {w : List va_E} (C : OK k cc o nL cy fr lo) {idx : Nat} {y : MethodName} {bytes : ByteArray} {maxL n : Nat} {ret : Option FieldType} {fr' lo' : Nat} (L : LkN o idx y bytes maxL n ret) (hroom : fr' + 1 ≤ fr ∧ 8 + (maxL + 11) + lo' ≤ lo) (hd : decode cc pc = .ok (.invokestatic idx, 3))
    {As : List Value} {V : Option Value} {rest st : List Value} (hM : MG cy y bytes maxL ret fr' lo' As [] V []) (hst : st = (As.map (reV (rl []))).reverse ++ rest) (hn : As.length = n) (hcat : (rest.map fun v => v.category).sum ≤ 8)
    (h : G k nL (pc + 3) lv ((V.map (reV (rl []))).toList ++ rest) w) : G k nL pc lv st w := by
  obtain ⟨p, l, e, R, s, m, args, below, meth, c, D, ad, A, cells, slots, Q⟩ := k
  obtain ⟨hx, hb, hml, hown, hts, hK, hN, hrm, hce, hsl⟩ := C
  obtain ⟨l1, l2, l4, l5, l6, l7, l8⟩ := L
  intro H locs ls hP hD hS hl
  have hw : (([] : List Nat).take ([] : List va_E).length).map (fun i => w[i]?) = ([] : List va_E).map (fun c => some (reE (rl []) c)) := rfl
  obtain ⟨hPc, hDc⟩ := q_pre (ad := ad) hw rfl hP hD
  subst hst
  have hA : ∀ q, (∃ j, j < ([] : List va_E).length ∧ q = ad (rl [] j)) → A q := by
    rintro q ⟨j, hj, rfl⟩
    exact absurd hj (Nat.not_lt_zero j)
  refine q_call (va_runSN (As := As.map (reV fun j => ad (rl [] j))) (rest := rest.map (reV ad)) ⟨hx, hb, hml, hown, hts⟩ (hM l D (fun j => ad (rl [] j)) (fun q => ∃ j, j < ([] : List va_E).length ∧ q = ad (rl [] j))) ⟨va_cnB n hts (tb_goodc l5) rfl rfl rfl (hN _ l1) (hts _ l4) ⟨l6, l7, l8⟩ ⟨Nat.le_trans hroom.1 hrm.1, Nat.le_trans hroom.2 hrm.2⟩, hts _ l2, trivial⟩ ⟨q_blind, fun U hU hW => ⟨rfl, by rw [hU]; exact hPc, va_K.moved hW.alike hK, hDc, hN.warm hW⟩⟩ rfl (by rw [List.length_map]; exact hn) hl.1 ?_ (lv_room (by rw [st_cat]; exact hcat)) hd ⟨hce, hsl⟩) hS hA (fun H1 locs1 hP1 hDx hz hk hS1 => ?_)
  · show List.map (reV ad) _ = _
    rw [As_comp]
  · obtain ⟨hP2, hD2⟩ := q_post (w' := w) hw rfl rfl rfl hP hD hP1 hk
    rw [V_comp]
    exact h H1 locs1 ls hP2 hD2 hS1 hl
theorem G_callV0 {k : KX} {cc : ByteArray} {o nL fr lo : Nat} {cy : Nat → ClassId} {pc : Nat} {lv : List (Nat × Value)} {w : List va_E} (C : OK k cc o nL cy fr lo) {idx : Nat} {y : MethodName} {bytes : ByteArray} {maxL n : Nat} {ret : Option FieldType} {fr' lo' : Nat} (L : LkV o idx y bytes maxL n ret) (hroom : fr' + 1 ≤ fr ∧ 8 + (maxL + 11) + lo' ≤ lo) (hd : decode cc pc = .ok (.invokevirtual idx, 3))
    {As : List Value} {V : Option Value} {ci : Nat} {fs : List Value} {rest st : List Value} {w' : List va_E} (hM : MG cy y bytes maxL ret fr' lo' (.ref 0 :: As) w V w') (hst : st = As.reverse ++ .ref 0 :: rest) (hn : As.length = n) (hcat : (rest.map fun v => v.category).sum ≤ 8)
    (hr : w[0]? = some (.inr (ci, fs)) ∧ (classes[ci]?).map (fun q => q.1) = some y.cls) (h : G k nL (pc + 3) lv (V.toList ++ rest) w') : G k nL pc lv st w := by
  obtain ⟨p, l, e, R, s, m, args, below, meth, c, D, ad, A, cells, slots, Q⟩ := k
  obtain ⟨hx, hb, hml, hown, hts, hK, hN, hrm, hce, hsl⟩ := C
  obtain ⟨l1, l2, l3, l4, l5, l6, l7, l8⟩ := L
  intro H locs ls hP hD hS hl
  subst hst
  have hcw : CallW R s args (ownN o) y.cls idx y bytes maxL ret (Cond.code y bytes maxL ret :: tbl) { frames := fr', cells := 0, slots := 0, locals := lo' } 0 0 n :=
    ⟨callB_of n hts (tb_goodc l5) rfl rfl rfl (hts _ l4) (hts _ l1) ⟨l6, l7, l8⟩ ⟨Nat.le_trans hroom.1 hrm.1, Nat.le_trans hroom.2 hrm.2⟩, hts _ l2, hts _ l3⟩
  obtain ⟨qc, hqc, hqn⟩ : ∃ qc, classes[ci]? = some qc ∧ qc.1 = y.cls := by
    have h2 := hr.2
    cases hq : classes[ci]? with
    | none => rw [hq] at h2; cases h2
    | some qc => rw [hq] at h2; exact ⟨qc, rfl, Option.some.inj h2⟩
  refine q_call (va_runV (As := As.map (reV ad)) (b := ad 0) (rest := rest.map (reV ad)) ⟨hx, hb, hml, hown, hts⟩ (hM l D ad A) hcw ⟨q_blind, ?_, fun U hU hW => ⟨rfl, by rw [hU]; exact hP, va_K.moved hW.alike hK, hD, hN.warm hW⟩⟩ rfl (by rw [List.length_map]; exact hn) hl.1 ?_ (lv_room (by rw [st_cat]; exact hcat)) hd ⟨hce, hsl⟩) hS (fun _ q => q) (fun H1 locs1 hP1 hDx hz hk hS1 => ?_)
  · rw [← hqn]
    exact va_recv hK hP hqc (wd_at hr.1)
  · show List.map (reV ad) _ = _
    rw [List.map_append, List.map_reverse]
    rfl
  · have e : (V.map (reV ad)).toList ++ rest.map (reV ad) = (V.toList ++ rest).map (reV ad) := by cases V <;> rfl
    rw [e]
    exact h H1 locs1 ls hP1 hDx hS1 hl

