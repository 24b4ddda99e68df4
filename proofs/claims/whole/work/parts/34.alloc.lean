/-! what makes cells: new objects, new arrays, constructors; labels stand for the cells in the order of their making -/
def scV (n : Nat) : Value → Bool
  | .ref a => Nat.blt a n || Nat.beq a 1000
  | _ => true
def scE (n : Nat) : va_E → Bool
  | .inl _ => true
  | .inr o => o.2.all (scV n)
def scW (n : Nat) (w : List va_E) : Bool := w.all (scE n)
theorem scV_eq {n : Nat} {f g : Nat → Nat} (hfg : ∀ j, (j < n ∨ j = 1000) → f j = g j) {v : Value} (h : scV n v = true) : reV f v = reV g v := by
  cases v with
  | ref a => show Value.ref (f a) = Value.ref (g a); rw [hfg a (by rcases (Bool.or_eq_true _ _ ▸ h : Nat.blt a n = true ∨ Nat.beq a 1000 = true) with h | h; exact Or.inl (Nat.le_of_ble_eq_true h); exact Or.inr (Nat.eq_of_beq_eq_true h))]
  | _ => rfl
theorem scE_eq {n : Nat} {f g : Nat → Nat} (hfg : ∀ j, (j < n ∨ j = 1000) → f j = g j) {c : va_E} (h : scE n c = true) : reE f c = reE g c := by
  cases c with
  | inl a => rfl
  | inr o =>
    show Sum.inr (o.1, o.2.map (reV f)) = Sum.inr (o.1, o.2.map (reV g))
    rw [List.map_congr_left (fun v hv => scV_eq hfg (List.all_eq_true.mp h v hv))]
def scV0 (n : Nat) : Value → Bool
  | .ref a => Nat.blt a n
  | _ => true
def scE0 (n : Nat) : va_E → Bool
  | .inl _ => true
  | .inr o => o.2.all (scV0 n)
def scW0 (n : Nat) (w : List va_E) : Bool := w.all (scE0 n)
theorem scV0_eq {n : Nat} {f g : Nat → Nat} (hfg : ∀ j, j < n → f j = g j) {v : Value} (h : scV0 n v = true) : reV f v = reV g v := by
  cases v with
  | ref a => show Value.ref (f a) = Value.ref (g a); rw [hfg a (Nat.le_of_ble_eq_true h)]
  | _ => rfl
theorem scE0_eq {n : Nat} {f g : Nat → Nat} (hfg : ∀ j, j < n → f j = g j) {c : va_E} (h : scE0 n c = true) : reE f c = reE g c := by
  cases c with
  | inl a => rfl
  | inr o =>
    show Sum.inr (o.1, o.2.map (reV f)) = Sum.inr (o.1, o.2.map (reV g))
    rw [List.map_congr_left (fun v hv => scV0_eq hfg (List.all_eq_true.mp h v hv))]
theorem wd_eq {f g : Nat → Nat} {w : List va_E} (hfg : ∀ j, (j < w.length ∨ j = 1000) → f j = g j) (h : scW w.length w = true) : wd f w = wd g w := by
  apply List.ext_getElem?
  intro i
  rw [wd_get, wd_get]
  cases hi : w[i]? with
  | none => rfl
  | some c =>
    show some (f i, reE f c) = some (g i, reE g c)
    rw [hfg i (Or.inl (List.getElem?_eq_some_iff.mp hi).1), scE_eq hfg (List.all_eq_true.mp h c (List.mem_of_getElem? hi))]
theorem lvd_eq {n : Nat} {f g : Nat → Nat} (hfg : ∀ j, (j < n ∨ j = 1000) → f j = g j) {lv : List (Nat × Value)} (h : lv.all (fun q => scV n q.2) = true) : lvd f lv = lvd g lv := by
  unfold lvd
  exact List.map_congr_left (fun q hq => by rw [scV_eq hfg (List.all_eq_true.mp h q hq)])
theorem st_eq {n : Nat} {f g : Nat → Nat} (hfg : ∀ j, (j < n ∨ j = 1000) → f j = g j) {st : List Value} (h : st.all (scV n) = true) : st.map (reV f) = st.map (reV g) :=
  List.map_congr_left (fun v hv => scV_eq hfg (List.all_eq_true.mp h v hv))
theorem wdA_len (ad : Nat → Nat) : ∀ (w : List va_E) (n : Nat), (wdA ad n w).length = w.length
  | [], _ => rfl
  | c :: r, n => by rw [wdA, List.length_cons, List.length_cons, wdA_len ad r]
theorem wd_app (ad : Nat → Nat) (w : List va_E) (c : va_E) : wd ad (w ++ [c]) = wd ad w ++ [(ad w.length, reE ad c)] := by
  apply List.ext_getElem?
  intro i
  have hl : (wd ad w).length = w.length := wdA_len ad w 0
  rw [wd_get]
  by_cases h : i < w.length
  · rw [List.getElem?_append_left h, List.getElem?_append_left (by rw [hl]; exact h), wd_get]
  · rw [List.getElem?_append_right (by omega), List.getElem?_append_right (by rw [hl]; omega), hl]
    by_cases h2 : i = w.length
    · subst h2
      rw [Nat.sub_self]
      rfl
    · rw [List.getElem?_eq_none (by simp; omega), List.getElem?_eq_none (by simp; omega)]
      rfl
section ALC
variable {p : Program} {l : Launch} {e : Env} {R : Room} {s : State} {m : MethodId} {args : Array Value} {below : List Frame} {meth : Method} {c : Code} {D : va_G} {A : Nat → Prop} {Q : State → Prop} {cc : ByteArray} {o nL fr lo : Nat} {cy : Nat → ClassId} {pc ce sl : Nat} {ad : Nat → Nat} {lv : List (Nat × Value)} {st : List Value} {w : List va_E}
theorem OK_ad {ad' : Nat → Nat} {ce' sl' : Nat} (C : OK (p, l, e, R, s, m, args, below, meth, c, D, ad, A, ce, sl, Q) cc o nL cy fr lo) (h1 : ce' ≤ R.cells) (h2 : sl' ≤ R.slots) : OK (p, l, e, R, s, m, args, below, meth, c, D, ad', A, ce', sl', Q) cc o nL cy fr lo := by
  obtain ⟨hx, hb, hml, hown, hts, hK, hN, hrm, -, -⟩ := C
  exact ⟨hx, hb, hml, hown, hts, hK, hN, hrm, h1, h2⟩
theorem H_grow {ad' : Nat → Nat} {ce' sl' pc' q : Nat} {x : va_E} (hsc : scW w.length w = true ∧ lv.all (fun q => scV w.length q.2) = true ∧ st.all (scV w.length) = true) (hlt : w.length < 1000) (hxs : ∀ f, reE f x = x) {H1 : Heap} {locs : List Loc} {ls : Array Slot} (hl : lv_has ls nL (lvd ad lv))
    (hP1 : va_P D classes (wd ad w ++ [(q, x)]) H1) (hD1 : va_D A (wd ad w ++ [(q, x)])) (hS1 : va_S A s.heap H1 locs) (hq : ad' = fun j => if j = w.length then q else ad j)
    (h : (∀ j, (j < w.length ∨ j = 1000) → ad' j = ad j) → G (p, l, e, R, s, m, args, below, meth, c, D, ad', A, ce', sl', Q) nL pc' lv (.ref w.length :: st) (w ++ [x])) : W p l e R s m args below meth c H1 locs ce' sl' Q (F0 m pc' ls (.ref q :: st.map (reV ad))) := by
  have hag : ∀ j, (j < w.length ∨ j = 1000) → ad' j = ad j := fun j hj => by rw [hq]; exact if_neg (by omega)
  have hqq : ad' w.length = q := by rw [hq]; exact if_pos rfl
  have e1 : wd ad' (w ++ [x]) = wd ad w ++ [(q, x)] := by rw [wd_app, hqq, hxs, wd_eq hag hsc.1]
  have e2 : lvd ad' lv = lvd ad lv := lvd_eq hag hsc.2.1
  have e3 : st.map (reV ad') = st.map (reV ad) := st_eq hag hsc.2.2
  have h4 := h hag H1 locs ls (by rw [e1]; exact hP1) (by rw [e1]; exact hD1) hS1 (by rw [e2]; exact hl)
  rw [← e3, ← hqq]
  exact h4
theorem H_newa (C : OK (p, l, e, R, s, m, args, below, meth, c, D, ad, A, ce, sl, Q) cc o nL cy fr lo) (hA : ∀ q : Nat, s.heap.size ≤ q → A q) (hsc : scW w.length w = true ∧ lv.all (fun q => scV w.length q.2) = true ∧ st.all (scV w.length) = true) (hlt : w.length < 1000) {atype : ArrayType} {t0 : Nat} {ty : FieldType} {cA : ClassId} {N : Nat} {a0 : vp_A} {n : Int32} (hty : newarray.typeOf atype = ty) (hin : Cond.arrayClass ty ∈ tbl) (ht0 : (tysOf cy)[t0]? = some (cA, ty)) (hra : ∀ x, va_RA s x ty → s.vm.findClass ("[" ++ ty.toString) = some x) (ha : ∀ cA : ClassId, vp_cell cA a0 = arrV cA N (fun _ => defaultValue ty)) (hn : ¬ n < 0) (hN : n.toNatClampNeg = N) (hby : N * componentBytes ty ≤ 536870912) (hce : ce + 1 ≤ R.cells) (hsl : sl + N ≤ R.slots) (hd : decode cc pc = .ok (.newarray atype, 2))
    (h : ∀ ad' : Nat → Nat, (∀ j, (j < w.length ∨ j = 1000) → ad' j = ad j) → G (p, l, e, R, s, m, args, below, meth, c, D, ad', A, ce + 1, sl + N, Q) nL (pc + 2) lv (.ref w.length :: st) (w ++ [.inl (cA, a0)])) : G (p, l, e, R, s, m, args, below, meth, c, D, ad, A, ce, sl, Q) nL pc lv (.int n :: st) w := by
  obtain ⟨hx, hb, hml, hown, hts, hK, hN2, hrm, -, -⟩ := C
  intro H locs ls hP hD hS hl
  refine va_newa hx hb (by rw [hty]; exact hts _ hin) hty hK hP hD hS hA ha hn hN hby hce hsl hd (fun q cA' H1 hK1 hP1 hD1 hS1 => ?_)
  have e : cA' = cA := by
    have h1 := hra _ (hK1.2 (tysOf cy).length (cA', ty) (by rw [List.getElem?_append_right (Nat.le_refl _), Nat.sub_self]; rfl)).2
    have h2 := hra _ (hK.2 t0 (cA, ty) ht0).2
    exact Option.some.inj (h1.symm.trans h2)
  subst e
  exact H_grow hsc hlt (fun _ => rfl) hl hP1 hD1 hS1 rfl (h _)
theorem H_new (C : OK (p, l, e, R, s, m, args, below, meth, c, D, ad, A, ce, sl, Q) cc o nL cy fr lo) (hA : ∀ q : Nat, s.heap.size ≤ q → A q) (hsc : scW w.length w = true ∧ lv.all (fun q => scV w.length q.2) = true ∧ st.all (scV w.length) = true) (hlt : w.length < 1000) {ci idx : Nat} {fs : List Value} (hci : ci < 8) (hcl : Cond.classLink (ownN o) idx (clN ci).1 ∈ tbl) (hins : Cond.instantiable (clN ci).1 (clN ci).2.2 ∈ tbl) (hini : Cond.initialized (clN ci).1 ∈ tbl) (hfs : ∀ j, j < (clN ci).2.2 → defaultValue (tyN ci j) = vp_V fs j) (hfs0 : ∀ f, fs.map (reV f) = fs) (hce : ce + 1 ≤ R.cells) (hsl : sl + (clN ci).2.2 ≤ R.slots) (hd : decode cc pc = .ok (.new idx, 3))
    (h : ∀ ad' : Nat → Nat, (∀ j, (j < w.length ∨ j = 1000) → ad' j = ad j) → G (p, l, e, R, s, m, args, below, meth, c, D, ad', A, ce + 1, sl + (clN ci).2.2, Q) nL (pc + 3) lv (.ref w.length :: st) (w ++ [.inr (ci, fs)])) : G (p, l, e, R, s, m, args, below, meth, c, D, ad, A, ce, sl, Q) nL pc lv st w := by
  obtain ⟨hx, hb, hml, hown, hts, hK, hN2, hrm, -, -⟩ := C
  intro H locs ls hP hD hS hl
  refine va_new (ci := ci) (C := (clN ci).1) (T := (clN ci).2.1) (N := (clN ci).2.2) hx hb hts (cl_in ci hci) (tyN ci) (cl_ty ci hci) hown (hts _ hcl) (hts _ hins) (hts _ hini) hK hP hD hS hA (cl_at ci hci) hfs hce hsl hd (fun q H1 hP1 hD1 hS1 => ?_)
  exact H_grow hsc hlt (fun f => by show Sum.inr (ci, fs.map (reV f)) = Sum.inr (ci, fs); rw [hfs0]) hl hP1 hD1 hS1 rfl (h _)
theorem H_obj {k : KX} (C : OK k cc o nL cy fr lo) {a idx : Nat} (hl : Cond.methodLink (ownN o) idx Lib.objectInit ∈ tbl) (hi : Cond.instanceMethod Lib.objectInit ∈ tbl) (hc : Cond.code Lib.objectInit ⟨#[0xb1]⟩ 1 none ∈ tbl) (hd : decode cc pc = .ok (.invokespecial idx, 3)) (hr : 1 ≤ fr ∧ (st.map fun v => v.category).sum + 12 ≤ lo) (h : G k nL (pc + 3) lv st w) : G k nL pc lv (.ref a :: st) w := by
  obtain ⟨p, l, e, R, s, m, args, below, meth, c, D, ad, A, cells, slots, Q⟩ := k
  obtain ⟨hx, hb, hml, hown, hts, hK, hN, hrm⟩ := C
  intro H locs ls hP hD hS hl2
  exact W.objInit hx hb hown (hts _ hl) (hts _ hi) (hts _ hc) rfl (by rw [hml]; exact hl2.1) rfl hd (Nat.le_trans hr.1 hrm.1.1) (Nat.le_trans (by show 2 * 0 + _ + 12 ≤ lo; rw [st_cat, Nat.mul_zero, Nat.zero_add]; exact hr.2) hrm.1.2) (h H locs ls hP hD hS hl2)
theorem H_putF {k : KX} (C : OK k cc o nL cy fr lo) (hin2 : match k with | (_, _, _, _, _, _, _, _, meth, _, _, _, _, _, _, _) => meth.name = "<init>") {idx ci kf a x : Nat} {fs : List Value} {w' : List va_E} (hf : (o, idx, ci, kf) ∈ flL) (hw : w[a]? = some (.inr (ci, fs))) (hlt : kf < fs.length) (hfin : ((clN ci).2.1 kf).2.2.2 = true) (hdc : ((clN ci).2.1 kf).1 = ownN o) (hty : ∀ q, narrow (tyN ci kf) (.ref q) = .ref q ∧ fits (tyN ci kf) (.ref q) = true) (hd : decode cc pc = .ok (.putfield idx, 3)) (hw2 : w.set a (.inr (ci, fs.set kf (.ref x))) = w') (h : G k nL (pc + 3) lv st w') : G k nL pc lv (.ref x :: .ref a :: st) w := by
  obtain ⟨p, l, e, R, s, m, args, below, meth, c, D, ad, A, cells, slots, Q⟩ := k
  obtain ⟨hx, hb, hml, hown, hts, hK, hN, hrm⟩ := C
  intro H locs ls hP hD hS hl
  have hf := fl_ok hf
  subst hw2
  have hlt' : kf < (fs.map (reV ad)).length := by rw [List.length_map]; exact hlt
  refine va_putF (C := (clN ci).1) (T := (clN ci).2.1) (N := (clN ci).2.2) (ty := tyN ci kf) (v := .ref (ad x)) hx hb hts (cl_in ci hf.2.1) (tyN ci) (cl_ty ci hf.2.1) (cl_nm ci hf.2.1) hown hK hP hD hS a (wd_at hw) (cl_at ci hf.2.1) kf hf.2.2 (hts _ hf.1) (fun _ q => q) hfin hin2 hdc (cl_ty ci hf.2.1 kf hf.2.2) (hty _).1 (hty _).2 hlt' hd (fun H1 locs1 hP1 hD1 hS1 => ?_)
  have e2 : wd ad (w.set a (.inr (ci, fs.set kf (.ref x)))) = (wd ad w).set a (ad a, .inr (ci, (fs.map (reV ad)).set kf (.ref (ad x)))) := by
    rw [wd_set]
    show _ = (wd ad w).set a (ad a, .inr (ci, (fs.map (reV ad)).set kf (reV ad (.ref x))))
    rw [← List.map_set]
    rfl
  exact h H1 locs1 ls (by rw [e2]; exact hP1) (by rw [e2]; exact hD1) hS1 hl
end ALC
/-- a constructor's contract: over its own cell c0 (label 0) it makes the world w' -/
def QC (D : va_G) (cy : Nat → ClassId) (ad : Nat → Nat) (A : Nat → Prop) (w' : List va_E) : Array Value → State → Outcome → State → Prop := fun _ st oc t => (oc = .returned none ∧ ∃ ad' : Nat → Nat, ad' 0 = ad 0 ∧ va_P D classes (wd ad' w') t.heap ∧ va_D A (wd ad' w')) ∧ va_F A st t
def MC (cy : Nat → ClassId) (y : MethodName) (bytes : ByteArray) (maxL fr lo mc ms : Nat) (c0 : va_E) (w' : List va_E) : Prop :=
  ∀ (l : Launch) (D : va_G) (ad : Nat → Nat) (A : Nat → Prop), Met l y (Cond.code y bytes maxL none :: tbl) { frames := fr, cells := mc, slots := ms, locals := lo } (va_Pc [.ref (ad 0)] (fun U => va_P D classes (wd ad [c0]) U.heap ∧ va_K D classes (tysOf cy) U ∧ va_D A (wd ad [c0]) ∧ NW U ∧ ∀ q : Nat, U.heap.size ≤ q → A q)) (QC D cy ad A w') mc ms A
theorem MC_of {cy : Nat → ClassId} {y : MethodName} {bytes : ByteArray} {maxL fr lo mc ms o : Nat} {c0 : va_E} {w' : List va_E} (hy : plainName y.cls = true ∧ y.cls = ownN o ∧ y.name = "<init>") (hn : 1 ≤ maxL)
    (body : ∀ (p : Program) (l : Launch) (e : Env) (R : Room) (s : State) (m : MethodId) (args : Array Value) (below : List Frame) (meth : Method) (c : Code) (D : va_G) (ad : Nat → Nat) (A : Nat → Prop) (Q : State → Prop), OK (p, l, e, R, s, m, args, below, meth, c, D, ad, A, 0, 0, Q) bytes o maxL cy fr lo → (∀ q : Nat, s.heap.size ≤ q → A q) → meth.name = "<init>" → (mc ≤ R.cells ∧ ms ≤ R.slots) → (∀ (pc : Nat) (ad' : Nat → Nat) (lv : List (Nat × Value)), ad' 0 = ad 0 → decode bytes pc = .ok (.return_, 1) → G (p, l, e, R, s, m, args, below, meth, c, D, ad', A, mc, ms, Q) maxL pc lv [] w') → G (p, l, e, R, s, m, args, below, meth, c, D, ad, A, 0, 0, Q) maxL 0 [(0, .ref 0)] [] [c0]) : MC cy y bytes maxL fr lo mc ms c0 w' := by
  intro l D ad A
  refine Met.ofW (cc := bytes) (maxL := maxL) (ret := none) hy.1 rfl ?_
  intro p e s m args below meth c s₁ B hml hv
  obtain ⟨rfl, hP, hK, hD, hN, hA⟩ := hv
  have hts := atoms_spec (ws := Cond.code y bytes maxL none :: tbl) B.pre
  have hown : s.vm.findClass y.cls = some m.cls := findClass_of_methodNamed B.named
  rw [hy.2.1] at hown
  have hnm : meth.name = "<init>" := (name_of_methodNamed B.named B.method).1.trans hy.2.2
  have hl := lv_entry [Value.ref (ad 0)] (n := maxL) hn
  rw [lg_entry_eq]
  refine body p l e _ s m _ below meth c D ad A _ ⟨B.exec, B.bytes, hml, hown, fun w hw => hts w (List.mem_cons_of_mem _ hw), hK, hN, ⟨Nat.le_refl _, Nat.le_refl _⟩, Nat.zero_le _, Nat.zero_le _⟩ hA hnm ⟨Nat.le_refl _, Nat.le_refl _⟩ ?_ s.heap [] _ hP hD va_S.rf hl
  intro pc ad' lv h0 hd H locs ls hP2 hD2 hS2 hl2
  exact W.vret B.exec B.bytes B.returns (fun t ht hW => ⟨⟨rfl, ad', h0, by rw [ht]; exact hP2, hD2⟩, hS2.F ht⟩) hS2.2.2 hd B.notSynchronized
def ri (a n : Nat) (j : Nat) : Nat := if j = 0 then a else n + (j - 1)
def LkI (o idx : Nat) (y : MethodName) (bytes : ByteArray) (maxL : Nat) : Prop := Cond.methodLink (ownN o) idx y ∈ tbl ∧ Cond.instanceMethod y ∈ tbl ∧ Cond.initialized y.cls ∈ tbl ∧ Cond.code y bytes maxL none ∈ tbl ∧ y.name = "<init>" ∧ y.cls ≠ "java/lang/invoke/MethodHandle" ∧ y.cls ≠ "java/lang/invoke/VarHandle" ∧ (parseMethodDescriptor y.desc).map (fun d => d.parameters.length) = some 0
theorem H_init {p : Program} {l : Launch} {e : Env} {R : Room} {s : State} {m : MethodId} {args : Array Value} {below : List Frame} {meth : Method} {c : Code} {D : va_G} {A : Nat → Prop} {Q : State → Prop} {cc : ByteArray} {o nL fr lo : Nat} {cy : Nat → ClassId} {pc ce sl : Nat} {ad : Nat → Nat} {lv : List (Nat × Value)} {st : List Value} {w : List va_E}
    (C : OK (p, l, e, R, s, m, args, below, meth, c, D, ad, A, ce, sl, Q) cc o nL cy fr lo) (hA : ∀ q : Nat, s.heap.size ≤ q → A q) (hsc : scW w.length w = true ∧ lv.all (fun q => scV w.length q.2) = true ∧ st.all (scV w.length) = true) (hlt : w.length < 1000) {idx : Nat} {y : MethodName} {bytes : ByteArray} {maxL fr' lo' mc ms : Nat} {c0 c1 : va_E} {rest : List va_E} {a : Nat} (L : LkI o idx y bytes maxL) (hroom : fr' + 1 ≤ fr ∧ 8 + (maxL + 11) + lo' ≤ lo) (hd : decode cc pc = .ok (.invokespecial idx, 3)) (hM : MC cy y bytes maxL fr' lo' mc ms c0 (c1 :: rest)) (hs1 : scW0 (c1 :: rest).length (c1 :: rest) = true ∧ w.length + rest.length < 1000) (hw : w[a]? = some c0) (hc0 : ∀ f, reE f c0 = c0) (hcat : (st.map fun v => v.category).sum ≤ 8) (hce : ce + mc ≤ R.cells) (hsl : sl + ms ≤ R.slots)
    (h : ∀ ad' : Nat → Nat, (∀ j, (j < w.length ∨ j = 1000) → ad' j = ad j) → G (p, l, e, R, s, m, args, below, meth, c, D, ad', A, ce + mc, sl + ms, Q) nL (pc + 3) lv st (w.set a (reE (ri a w.length) c1) ++ rest.map (reE (ri a w.length)))) : G (p, l, e, R, s, m, args, below, meth, c, D, ad, A, ce, sl, Q) nL pc lv (.ref a :: st) w := by
  obtain ⟨hx, hb, hml, hown, hts, hK, hN, hrm, -, -⟩ := C
  obtain ⟨l1, l2, l4, l5, l9, l6, l7, l8⟩ := L
  intro H locs ls hP hD hS hl T hT X
  have hal : a < w.length := (List.getElem?_eq_some_iff.mp hw).1
  have hwa : (wd ad w)[a]? = some (ad a, c0) := by rw [wd_at hw, hc0]
  have hPc : va_P D classes (wd (fun _ => ad a) [c0]) H := fun k q hq => by
    obtain ⟨x, h1, rfl⟩ := wd_of hq
    have hk : k < 1 := (List.getElem?_eq_some_iff.mp h1).1
    have hk0 : k = 0 := by omega
    subst hk0
    cases h1
    rw [hc0]
    exact hP a _ hwa
  have hDc : va_D (fun q => q = ad a ∨ H.size ≤ q) (wd (fun _ => ad a) [c0]) := ⟨fun i j x y hi hj _ => by
    obtain ⟨_, h1, _⟩ := wd_of hi
    obtain ⟨_, h2, _⟩ := wd_of hj
    have e1 : i < 1 := (List.getElem?_eq_some_iff.mp h1).1
    have e2 : j < 1 := (List.getElem?_eq_some_iff.mp h2).1
    omega, fun k q hq => by obtain ⟨_, _, rfl⟩ := wd_of hq; exact Or.inl rfl⟩
  have hbl : FrameBlind (va_Pc [.ref (ad a)] (fun U => va_P D classes (wd (fun _ => ad a) [c0]) U.heap ∧ va_K D classes (tysOf cy) U ∧ va_D (fun q => q = ad a ∨ H.size ≤ q) (wd (fun _ => ad a) [c0]) ∧ NW U ∧ ∀ q : Nat, U.heap.size ≤ q → (q = ad a ∨ H.size ≤ q))) := fun av U g mk q => by
    obtain ⟨q0, qP, qK, qD, qN, qA⟩ := q
    exact ⟨q0, qP, va_K.moved (u := U) (U := U.calling g mk av) (Vm.Alike.refl U.vm) qK, qD, NW.same (U := U.calling g mk av) rfl qN, qA⟩
  obtain ⟨v, st₀, t, T', LL, h0, X', hL, e1, e2, ⟨⟨hv, ad1, ha0, hP1, hD1⟩, hz, hk⟩, stp⟩ := va_runI (As := []) (b := ad a) (rest := st.map (reV ad)) (g := F0 m pc ls (.ref (ad a) :: st.map (reV ad))) (n := 0) ⟨hx, hb, hml, hown, hts⟩ (hM l D (fun _ => ad a) (fun q => q = ad a ∨ H.size ≤ q)) ⟨callB_of 0 hts (tb_goodc l5) rfl rfl rfl (hts _ l4) (hts _ l1) ⟨l6, l7, l8⟩ ⟨Nat.le_trans hroom.1 hrm.1, Nat.le_trans hroom.2 hrm.2⟩, l9, hts _ l2⟩ ⟨hbl, fun U hU hW => ⟨rfl, by rw [hU]; exact hPc, va_K.moved hW.alike hK, hDc, hN.warm hW, fun q hq => Or.inr (by rw [hU] at hq; exact hq)⟩⟩ rfl rfl hl.1 rfl (lv_room (by rw [st_cat]; exact hcat)) hd ⟨hce, hsl⟩ T hT X
  cases hv
  rw [h0] at hz hk
  obtain ⟨ad', had⟩ : ∃ f : Nat → Nat, f = fun i => if i < w.length ∨ i = 1000 then ad i else ad1 (i - w.length + 1) := ⟨_, rfl⟩
  have hag : ∀ j, (j < w.length ∨ j = 1000) → ad' j = ad j := fun j hj => by rw [had]; exact if_pos hj
  have hl1 : (c1 :: rest).length = rest.length + 1 := rfl
  have hcomp : ∀ j, j < (c1 :: rest).length → ad' (ri a w.length j) = ad1 j := by
    intro j hj
    unfold ri
    by_cases hj0 : j = 0
    · rw [if_pos hj0, hag a (Or.inl hal), hj0, ha0]
    · rw [if_neg hj0, had]
      show (if w.length + (j - 1) < w.length ∨ w.length + (j - 1) = 1000 then _ else _) = _
      rw [if_neg (by omega), show w.length + (j - 1) - w.length + 1 = j by omega]
  have hre : ∀ x ∈ c1 :: rest, reE ad' (reE (ri a w.length) x) = reE ad1 x := by
    intro x hx2
    have hs2 := List.all_eq_true.mp hs1.1 x hx2
    rw [reE_comp]
    exact scE0_eq hcomp hs2
  have key : ∀ (i : Nat) (q : Nat × va_E), (wd ad' (w.set a (reE (ri a w.length) c1) ++ rest.map (reE (ri a w.length))))[i]? = some q → (i < w.length ∧ i ≠ a ∧ (wd ad w)[i]? = some q) ∨ (∃ j, i = ri a w.length j ∧ (wd ad1 (c1 :: rest))[j]? = some q) := by
    intro i q hq
    obtain ⟨x, h1, rfl⟩ := wd_of hq
    by_cases hi : i < w.length
    · rw [List.getElem?_append_left (by rw [List.length_set]; exact hi)] at h1
      by_cases hia : i = a
      · subst hia
        rw [List.getElem?_set_self hi] at h1
        cases h1
        refine Or.inr ⟨0, rfl, ?_⟩
        rw [wd_at (c := c1) rfl, hag i (Or.inl hi), hre c1 List.mem_cons_self, ha0]
      · rw [List.getElem?_set_ne (Ne.symm hia)] at h1
        refine Or.inl ⟨hi, hia, ?_⟩
        rw [wd_at h1, hag i (Or.inl hi), scE_eq hag (List.all_eq_true.mp hsc.1 x (List.mem_of_getElem? h1))]
    · rw [List.getElem?_append_right (by rw [List.length_set]; omega), List.length_set, List.getElem?_map] at h1
      cases hr : rest[i - w.length]? with
      | none => rw [hr] at h1; cases h1
      | some y =>
        rw [hr] at h1
        cases h1
        refine Or.inr ⟨i - w.length + 1, by unfold ri; rw [if_neg (by omega)]; omega, ?_⟩
        have hil : i - w.length < rest.length := (List.getElem?_eq_some_iff.mp hr).1
        rw [wd_at (c := y) (by rw [List.getElem?_cons_succ]; exact hr), hre y (List.mem_cons_of_mem _ (List.mem_of_getElem? hr)), ← hcomp (i - w.length + 1) (by omega)]
        rw [show ri a w.length (i - w.length + 1) = i by unfold ri; rw [if_neg (by omega)]; omega]
  have hnew : ∀ (j : Nat) (q : Nat × va_E), (wd ad1 (c1 :: rest))[j]? = some q → q.1 = ad1 j := fun j q hq => by
    obtain ⟨_, _, rfl⟩ := wd_of hq
    rfl
  have hold : ∀ (i : Nat) (q : Nat × va_E), (wd ad w)[i]? = some q → i ≠ a → q.1 ≠ ad a ∧ q.1 < H.size := fun i q hq hi => ⟨fun z => hi (hD.1 i a q _ hq hwa z), (hP i q hq).lt⟩
  have hsep : ∀ (i j : Nat) (x y : Nat × va_E), (wd ad w)[i]? = some x → i ≠ a → (wd ad1 (c1 :: rest))[j]? = some y → x.1 ≠ y.1 := by
    intro i j x y hx2 hi hy2 hxy
    obtain ⟨h1, h2⟩ := hold i x hx2 hi
    rcases hD1.2 j y hy2 with h3 | h3
    · exact h1 (hxy.trans h3)
    · omega
  have hAA : ∀ q, (q = ad a ∨ H.size ≤ q) → A q := fun q hq => by
    rcases hq with rfl | hq
    · exact hD.2 a _ hwa
    · exact hA q (Nat.le_trans hS.1 hq)
  have hPn : va_P D classes (wd ad' (w.set a (reE (ri a w.length) c1) ++ rest.map (reE (ri a w.length)))) T'.heap := by
    intro i q hq
    rw [e1]
    rcases key i q hq with ⟨h1, h2, h3⟩ | ⟨j, -, h3⟩
    · obtain ⟨g1, g2⟩ := hold i q h3 h2
      exact (hP i q h3).kept (hk q.1 g2 (fun z => by rcases z with z | z; exact g1 z; omega))
    · exact hP1 j q h3
  have hDn : va_D A (wd ad' (w.set a (reE (ri a w.length) c1) ++ rest.map (reE (ri a w.length)))) := by
    refine ⟨fun i j x y hi hj hxy => ?_, fun i q hq => ?_⟩
    · rcases key i x hi with ⟨h1, h2, h3⟩ | ⟨j1, h2, h3⟩ <;> rcases key j y hj with ⟨g1, g2, g3⟩ | ⟨j2, g2, g3⟩
      · exact hD.1 i j x y h3 g3 hxy
      · exact absurd hxy (hsep i j2 x y h3 h2 g3)
      · exact absurd hxy.symm (hsep j j1 y x g3 g2 h3)
      · rw [h2, g2, hD1.1 j1 j2 x y h3 g3 hxy]
    · rcases key i q hq with ⟨h1, h2, h3⟩ | ⟨j, -, h3⟩
      · exact hD.2 i q h3
      · exact hAA _ (hD1.2 j q h3)
  have e4 : lvd ad' lv = lvd ad lv := lvd_eq hag hsc.2.1
  have e3 : st.map (reV ad') = st.map (reV ad) := st_eq hag hsc.2.2
  have hg := h ad' hag T'.heap (locs ++ LL) ls hPn hDn ⟨Nat.le_trans hS.1 (by rw [e1]; exact hz), fun q h1 h2 => by rw [e1, hk q (Nat.lt_of_lt_of_le h1 hS.1) (fun z => h2 (hAA q z))]; exact hS.2.1 q h1 h2, fun q hq => by
      rcases List.mem_append.mp hq with h | h
      · exact hS.2.2 q h
      · exact hAA _ (hL q h)⟩ (by rw [e4]; exact hl)
  rw [e3] at hg
  obtain ⟨t2, a1, b1⟩ := hg T' rfl X'
  exact ⟨t2, stp t2 a1, b1⟩
