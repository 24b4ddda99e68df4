/-! the road of the proof: states with labels for addresses, a function that runs simple instructions, contracts over whole small worlds -/
def tbl : List Cond := lw_tbl.filter goodWord
theorem tb_good {w : Cond} (hw : w ∈ tbl) : w ∈ tbl ∧ ((w.onTables && w.keeps) = true ∨ ∃ ty, w = .arrayClass ty) := ⟨hw, good_of_word (List.mem_filter.mp hw).2⟩
theorem tb_in {w : Cond} (i : Nat) (h : lw_tbl[i]? = some w) (hg : goodWord w = true) : w ∈ tbl := List.mem_filter.mpr ⟨List.mem_of_getElem? h, hg⟩
theorem tb_goodc {y : MethodName} {b : ByteArray} {n : Nat} {r : Option FieldType} (h : Cond.code y b n r ∈ tbl) : GoodIn tbl (Cond.code y b n r :: tbl) := fun w hw => by
  rcases List.mem_cons.mp hw with h1 | h1
  · rw [h1]; exact tb_good h
  · exact tb_good h1
abbrev classes : List vw_C := [(RX0, TX0, 2), (RX1, TX1, 2), (RX2, TX2, 9), (RX3, TX3, 4), (RX4, TX4, 3), (RX5, TX5, 2), (RX6, TX6, 12), (RX7, TX7, 25)]
def tysOf (cy : Nat → ClassId) : List (ClassId × FieldType) := [(cy 0, .int), (cy 1, .long), (cy 2, .byte)]
def ownN : Nat → String
  | 0 => RX0
  | 1 => RX1
  | 2 => RX2
  | 3 => RX3
  | 4 => RX4
  | 5 => RX5
  | 6 => RX6
  | 7 => RX7
  | 8 => RJ6
  | 9 => RJ9
  | _ => RL
def nestL : List (String × Nat × MethodName × String) := [(RX3, 45, yX6_isOutside, RX6), (RX0, 42, yX6_isOutside, RX6), (RX0, 61, yX6_signOf, RX6), (RX1, 26, yX6_bitOf, RX6), (RX0, 53, yX6_power, RX6), (RX2, 84, yX6_isOutside, RX6)]
def NW (U : State) : Prop := ∀ q ∈ nestL, va_Nw (.methodLinkNest q.1 q.2.1 q.2.2.1 q.2.2.2) U
theorem NW.warm {s U : State} (hW : s.WarmedH U.vm) (h : NW s) : NW U := fun q hq => va_Nw.warmM hW (h q hq)
theorem NW.same {s U : State} (e : s.vm = U.vm) (h : NW s) : NW U := fun q hq => va_Nw.same rfl e (h q hq)
def bI (b : Bool) : Int32 := match b with
  | true => 1
  | false => 0
theorem bI_nar (b : Bool) : narrow .boolean (.int (bI b)) = .int (bI b) := by cases b <;> decide
theorem bI_fit (b : Bool) : fits .boolean (.int (bI b)) = true := by cases b <;> decide
def reV (ad : Nat → Nat) : Value → Value
  | .ref a => .ref (ad a)
  | v => v
def reE (ad : Nat → Nat) : va_E → va_E
  | .inl a => .inl a
  | .inr o => .inr (o.1, o.2.map (reV ad))
theorem reV_cat (ad : Nat → Nat) (v : Value) : (reV ad v).category = v.category := by cases v <;> rfl
theorem reV_comp (f g : Nat → Nat) (v : Value) : reV f (reV g v) = reV (fun j => f (g j)) v := by cases v <;> rfl
theorem reE_comp (f g : Nat → Nat) (c : va_E) : reE f (reE g c) = reE (fun j => f (g j)) c := by
  cases c with
  | inl a => rfl
  | inr o =>
    obtain ⟨ci, fs⟩ := o
    show Sum.inr (ci, (fs.map (reV g)).map (reV f)) = Sum.inr (ci, fs.map (reV fun j => f (g j)))
    rw [List.map_map]
    congr 3
    funext v
    exact reV_comp f g v
def wdA (ad : Nat → Nat) : Nat → List va_E → va_W
  | _, [] => []
  | n, c :: r => (ad n, reE ad c) :: wdA ad (n + 1) r
def wd (ad : Nat → Nat) (w : List va_E) : va_W := wdA ad 0 w
theorem wdA_get (ad : Nat → Nat) : ∀ (w : List va_E) (n i : Nat), (wdA ad n w)[i]? = (w[i]?).map (fun c => (ad (n + i), reE ad c))
  | [], n, i => by simp [wdA]
  | c :: r, n, 0 => by simp [wdA]
  | c :: r, n, i + 1 => by
    rw [wdA, List.getElem?_cons_succ, List.getElem?_cons_succ, wdA_get ad r (n + 1) i]
    congr 1
    funext c
    rw [show n + 1 + i = n + (i + 1) by omega]
theorem wd_get (ad : Nat → Nat) (w : List va_E) (i : Nat) : (wd ad w)[i]? = (w[i]?).map (fun c => (ad i, reE ad c)) := by
  rw [wd, wdA_get, Nat.zero_add]
theorem wd_at {ad : Nat → Nat} {w : List va_E} {i : Nat} {c : va_E} (h : w[i]? = some c) : (wd ad w)[i]? = some (ad i, reE ad c) := by rw [wd_get, h]; rfl
theorem wd_of {ad : Nat → Nat} {w : List va_E} {i : Nat} {q : Nat × va_E} (h : (wd ad w)[i]? = some q) : ∃ c, w[i]? = some c ∧ q = (ad i, reE ad c) := by
  rw [wd_get] at h
  cases hw : w[i]? with
  | none => rw [hw] at h; cases h
  | some c => rw [hw] at h; exact ⟨c, rfl, (Option.some.inj h).symm⟩
theorem wd_set (ad : Nat → Nat) (w : List va_E) (i : Nat) (c : va_E) : wd ad (w.set i c) = (wd ad w).set i (ad i, reE ad c) := by
  apply List.ext_getElem?
  intro j
  rw [wd_get]
  by_cases h : i = j
  · subst h
    rw [List.getElem?_set, List.getElem?_set]
    have hl : (wd ad w).length = w.length := by
      have : ∀ (w : List va_E) (n : Nat), (wdA ad n w).length = w.length := by
        intro w
        induction w with
        | nil => intro n; rfl
        | cons a r ih => intro n; rw [wdA, List.length_cons, List.length_cons, ih]
      exact this w 0
    rw [hl]
    by_cases hi : i < w.length <;> simp [hi]
  · rw [List.getElem?_set_ne h, List.getElem?_set_ne h, wd_get]
def lvd (ad : Nat → Nat) (lv : List (Nat × Value)) : List (Nat × Value) := lv.map (fun q => (q.1, reV ad q.2))
def look (lv : List (Nat × Value)) (i : Nat) : Option Value := match lv with
  | [] => none
  | q :: r => match Nat.beq q.1 i with
    | true => some q.2
    | false => look r i
theorem look_mem {i : Nat} {v : Value} : ∀ {lv : List (Nat × Value)}, look lv i = some v → (i, v) ∈ lv
  | [], h => by cases h
  | q :: r, h => by
    unfold look at h
    split at h
    next he =>
      have e := Nat.eq_of_beq_eq_true he
      cases h
      subst e
      exact List.mem_cons_self
    next => exact List.mem_cons_of_mem _ (look_mem h)
theorem lv_look {ad : Nat → Nat} {ls : Array Slot} {nL i : Nat} {lv : List (Nat × Value)} {v : Value} (hl : lv_has ls nL (lvd ad lv)) (h : look lv i = some v) : ls[i]? = some (.val (reV ad v)) :=
  hl.2.2 (i, reV ad v) (List.mem_map.mpr ⟨(i, v), look_mem h, rfl⟩)
def st1 (i : Nat) (v : Value) (lv : List (Nat × Value)) : List (Nat × Value) := (i, v) :: lv.filter (fun q => !(q.1 == i) && !(q.1 + 1 == i && q.2.category == 2))
def st2 (i : Nat) (v : Value) (lv : List (Nat × Value)) : List (Nat × Value) := (i, v) :: lv.filter (fun q => !(q.1 == i) && (!(q.1 == i + 1) && !(q.1 + 1 == i && q.2.category == 2)))
theorem lvd_st1 (ad : Nat → Nat) (i : Nat) (v : Value) (lv : List (Nat × Value)) : (i, reV ad v) :: (lvd ad lv).filter (fun q => !(q.1 == i) && !(q.1 + 1 == i && q.2.category == 2)) = lvd ad (st1 i v lv) := by
  unfold lvd st1
  rw [List.map_cons, List.filter_map]
  congr 2
  apply List.filter_congr
  intro q _
  simp only [Function.comp, reV_cat]
theorem lvd_st2 (ad : Nat → Nat) (i : Nat) (v : Value) (lv : List (Nat × Value)) : (i, reV ad v) :: (lvd ad lv).filter (fun q => !(q.1 == i) && (!(q.1 == i + 1) && !(q.1 + 1 == i && q.2.category == 2))) = lvd ad (st2 i v lv) := by
  unfold lvd st2
  rw [List.map_cons, List.filter_map]
  congr 2
  apply List.filter_congr
  intro q _
  simp only [Function.comp, reV_cat]
theorem lvd_pick (ad : Nat → Nat) (lv : List (Nat × Value)) (ks : List Nat) : lv_pick (lvd ad lv) ks = lvd ad (lv_pick lv ks) := by
  unfold lv_pick lvd
  induction ks with
  | nil => rfl
  | cons a r ih =>
    rw [List.filterMap_cons, List.filterMap_cons, List.getElem?_map, ih]
    cases lv[a]? with
    | none => rfl
    | some q => rfl
theorem lvd_args (ad : Nat → Nat) : ∀ (vs : List Value) (i : Nat), lv_args i (vs.map (reV ad)) = lvd ad (lv_args i vs)
  | [], _ => rfl
  | v :: vs, i => by
    rw [List.map_cons, lv_args, lv_args, lvd_args ad vs, reV_cat]
    rfl
abbrev KX : Type := Program × Launch × Env × Room × State × MethodId × Array Value × List Frame × Method × Code × va_G × (Nat → Nat) × (Nat → Prop) × Nat × Nat × (State → Prop)
/-- from this pc, these numbers, this stack and this world the machine comes to its end -/
def G (k : KX) (nL pc : Nat) (lv : List (Nat × Value)) (st : List Value) (w : List va_E) : Prop := match k with
  | (p, l, e, R, s, m, args, below, meth, c, D, ad, A, cells, slots, Q) => ∀ (H : Heap) (locs : List Loc) (ls : Array Slot), va_P D classes (wd ad w) H → va_D A (wd ad w) → va_S A s.heap H locs → lv_has ls nL (lvd ad lv) → W p l e R s m args below meth c H locs cells slots Q (F0 m pc ls (st.map (reV ad)))
def OK (k : KX) (cc : ByteArray) (o nL : Nat) (cy : Nat → ClassId) (fr lo : Nat) : Prop := match k with
  | (p, l, e, R, s, m, args, below, meth, c, D, ad, A, cells, slots, Q) => p.tables.exec = Jvm.exec ∧ c.code = cc ∧ c.maxLocals = nL ∧ s.vm.findClass (ownN o) = some m.cls ∧ (∀ w ∈ tbl, w.before args s = true) ∧ va_K D classes (tysOf cy) s ∧ NW s ∧ (fr ≤ R.frames ∧ lo ≤ R.locals) ∧ cells ≤ R.cells ∧ slots ≤ R.slots
def QG (D : va_G) (cy : Nat → ClassId) (ad : Nat → Nat) (A : Nat → Prop) (R : Option Value) (w' : List va_E) : Array Value → State → Outcome → State → Prop := fun _ st oc t => (oc = .returned (R.map (reV ad)) ∧ va_P D classes (wd ad w') t.heap ∧ va_K D classes (tysOf cy) t ∧ va_D A (wd ad w')) ∧ va_F A st t
def RT (k : KX) (cy : Nat → ClassId) (ret : Option FieldType) (V : Option Value) (w' : List va_E) : Prop := match k with
  | (p, l, e, R, s, m, args, below, meth, c, D, ad, A, cells, slots, Q) => meth.sig.returnType = ret ∧ meth.locks = false ∧ Q = MQ below (QG D cy ad A V w') args s cells slots A
/-- a method's contract over a world with labels: for these arguments and this world it answers V and leaves w' -/
def MG (cy : Nat → ClassId) (y : MethodName) (bytes : ByteArray) (maxL : Nat) (ret : Option FieldType) (fr lo : Nat) (As : List Value) (w : List va_E) (V : Option Value) (w' : List va_E) : Prop :=
  ∀ (l : Launch) (D : va_G) (ad : Nat → Nat) (A : Nat → Prop), Met l y (Cond.code y bytes maxL ret :: tbl) { frames := fr, cells := 0, slots := 0, locals := lo } (va_Pc (As.map (reV ad)) (fun U => va_P D classes (wd ad w) U.heap ∧ va_K D classes (tysOf cy) U ∧ va_D A (wd ad w) ∧ NW U)) (QG D cy ad A V w') 0 0 A
theorem lg_sl_len (ad : Nat → Nat) (As : List Value) : (lg_sl (As.map (reV ad))).length = (lg_sl As).length := by
  induction As with
  | nil => rfl
  | cons a r ih =>
    simp only [lg_sl, List.map_cons, List.flatMap_cons, List.length_append, reV_cat] at ih ⊢
    rw [ih]
    split <;> rfl
theorem MG_of {cy : Nat → ClassId} {y : MethodName} {bytes : ByteArray} {maxL : Nat} {ret : Option FieldType} {fr lo o : Nat} {As : List Value} {w : List va_E} {V : Option Value} {w' : List va_E} (hy : plainName y.cls = true ∧ y.cls = ownN o) (hn : (lg_sl As).length ≤ maxL) {lv : List (Nat × Value)} (hlv : lv_args 0 As = lv)
    (body : ∀ k : KX, OK k bytes o maxL cy fr lo → RT k cy ret V w' → G k maxL 0 lv [] w) : MG cy y bytes maxL ret fr lo As w V w' := by
  intro l D ad A
  refine Met.ofW (cc := bytes) (maxL := maxL) (ret := ret) hy.1 rfl ?_
  intro p e s m args below meth c s₁ B hml hv
  obtain ⟨rfl, hP, hK, hD, hN⟩ := hv
  have hts := atoms_spec (ws := Cond.code y bytes maxL ret :: tbl) B.pre
  have hown : s.vm.findClass y.cls = some m.cls := findClass_of_methodNamed B.named
  rw [hy.2] at hown
  have hl := lv_entry (As.map (reV ad)) (n := maxL) (by rw [lg_sl_len]; exact hn)
  rw [lvd_args, hlv] at hl
  rw [lg_entry_eq]
  exact body (p, l, e, _, s, m, _, below, meth, c, D, ad, A, 0, 0, _) ⟨B.exec, B.bytes, hml, hown, fun w hw => hts w (List.mem_cons_of_mem _ hw), hK, hN, ⟨Nat.le_refl _, Nat.le_refl _⟩, Nat.le_refl _, Nat.le_refl _⟩ ⟨B.returns, B.notSynchronized, rfl⟩ s.heap [] _ hP hD va_S.rf hl
theorem G_iret {k : KX} {cc : ByteArray} {o nL fr lo : Nat} {cy : Nat → ClassId} {pc : Nat} {lv : List (Nat × Value)} {w : List va_E} {v : Int32} (C : OK k cc o nL cy fr lo) (hR : RT k cy (some .int) (some (.int v)) w) (hd : decode cc pc = .ok (.ireturn, 1)) : G k nL pc lv [.int v] w := by
  obtain ⟨p, l, e, R, s, m, args, below, meth, c, D, ad, A, cells, slots, Q⟩ := k
  obtain ⟨hx, hb, hml, hown, hts, hK, hN, hrm⟩ := C
  obtain ⟨hr, hlocks, hQ⟩ := hR
  intro H locs ls hP hD hS hl
  rw [hQ]
  exact W.iret hx hb hr (fun t ht hW => ⟨⟨rfl, by rw [ht]; exact hP, va_K.moved hW.alike hK, hD⟩, hS.F ht⟩) hS.2.2 hd hlocks
theorem G_zret {k : KX} {cc : ByteArray} {o nL fr lo : Nat} {cy : Nat → ClassId} {pc : Nat} {lv : List (Nat × Value)} {w : List va_E} {v : Bool} (C : OK k cc o nL cy fr lo) (hR : RT k cy (some .boolean) (some (.int (bI v))) w) (hd : decode cc pc = .ok (.ireturn, 1)) : G k nL pc lv [.int (bI v)] w := by
  obtain ⟨p, l, e, R, s, m, args, below, meth, c, D, ad, A, cells, slots, Q⟩ := k
  obtain ⟨hx, hb, hml, hown, hts, hK, hN, hrm⟩ := C
  obtain ⟨hr, hlocks, hQ⟩ := hR
  intro H locs ls hP hD hS hl
  rw [hQ]
  exact W.zret hx hb hr (bI_nar v) (fun t ht hW => ⟨⟨rfl, by rw [ht]; exact hP, va_K.moved hW.alike hK, hD⟩, hS.F ht⟩) hS.2.2 hd hlocks
theorem G_lret {k : KX} {cc : ByteArray} {o nL fr lo : Nat} {cy : Nat → ClassId} {pc : Nat} {lv : List (Nat × Value)} {w : List va_E} {v : Int64} (C : OK k cc o nL cy fr lo) (hR : RT k cy (some .long) (some (.long v)) w) (hd : decode cc pc = .ok (.lreturn, 1)) : G k nL pc lv [.long v] w := by
  obtain ⟨p, l, e, R, s, m, args, below, meth, c, D, ad, A, cells, slots, Q⟩ := k
  obtain ⟨hx, hb, hml, hown, hts, hK, hN, hrm⟩ := C
  obtain ⟨hr, hlocks, hQ⟩ := hR
  intro H locs ls hP hD hS hl
  rw [hQ]
  exact W.lret hx hb hr (fun t ht hW => ⟨⟨rfl, by rw [ht]; exact hP, va_K.moved hW.alike hK, hD⟩, hS.F ht⟩) hS.2.2 hd hlocks
theorem G_vret {k : KX} {cc : ByteArray} {o nL fr lo : Nat} {cy : Nat → ClassId} {pc : Nat} {lv : List (Nat × Value)} {w : List va_E} (C : OK k cc o nL cy fr lo) (hR : RT k cy none none w) (hd : decode cc pc = .ok (.return_, 1)) : G k nL pc lv [] w := by
  obtain ⟨p, l, e, R, s, m, args, below, meth, c, D, ad, A, cells, slots, Q⟩ := k
  obtain ⟨hx, hb, hml, hown, hts, hK, hN, hrm⟩ := C
  obtain ⟨hr, hlocks, hQ⟩ := hR
  intro H locs ls hP hD hS hl
  rw [hQ]
  exact W.vret hx hb hr (fun t ht hW => ⟨⟨rfl, by rw [ht]; exact hP, va_K.moved hW.alike hK, hD⟩, hS.F ht⟩) hS.2.2 hd hlocks
theorem G_lv {k : KX} {nL pc : Nat} {lv lv' : List (Nat × Value)} {st : List Value} {w : List va_E} (ks : List Nat) (hl : lv_pick lv ks = lv') (h : G k nL pc lv' st w) : G k nL pc lv st w := by
  obtain ⟨p, l, e, R, s, m, args, below, meth, c, D, ad, A, cells, slots, Q⟩ := k
  intro H locs ls hP hD hS hl2
  exact h H locs ls hP hD hS (lv_sub hl2 ks (by rw [lvd_pick, hl]))
