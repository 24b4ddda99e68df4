/-! the law's own rules: calls on one half of the world, the script, its end -/
theorem reV_id (v : Value) : reV (fun j => j) v = v := by cases v <;> rfl
theorem reE_id (c : va_E) : reE (fun j => j) c = c := by
  cases c with
  | inl a => rfl
  | inr o =>
    show Sum.inr (o.1, o.2.map (reV fun j => j)) = Sum.inr o
    rw [show (reV fun j => j) = id from funext reV_id, List.map_id]
def shN (n : Nat) (w : List va_E) : List va_E := w.map (reE (fun j => j + n))
theorem G_callVF {k : KX} {cc : ByteArray} {o nL fr lo : Nat} {cy : Nat → ClassId} {pc : Nat} {lv : List (Nat × Value)} {w : List va_E} (C : OK k cc o nL cy fr lo) {idx : Nat} {y : MethodName} {bytes : ByteArray} {maxL n : Nat} {ret : Option FieldType} {fr' lo' : Nat} (L : LkV o idx y bytes maxL n ret) (hroom : fr' + 1 ≤ fr ∧ 8 + (maxL + 11) + lo' ≤ lo) (hd : decode cc pc = .ok (.invokevirtual idx, 3))
    (f : Nat → Nat) (hf : ∀ i j, f i = f j → i = j) {As : List Value} {wc wc' : List va_E} {V : Option Value} {ci : Nat} {fs : List Value} {rest st : List Value} {w' : List va_E} (hM : MG cy y bytes maxL ret fr' lo' (.ref 0 :: As) wc V wc') (hst : st = As.reverse ++ .ref (f 0) :: rest) (hAs : As.map (reV f) = As) (hV : V.map (reV f) = V) (hn : As.length = n) (hcat : (rest.map fun v => v.category).sum ≤ 8)
    (hw : ∀ (j : Nat) (c : va_E), wc[j]? = some c → w[f j]? = some (reE f c)) (hr : wc[0]? = some (.inr (ci, fs)) ∧ (classes[ci]?).map (fun q => q.1) = some y.cls) (hlen : wc'.length = wc.length) (hlen2 : w'.length = w.length) (hw' : ∀ (j : Nat) (c : va_E), wc'[j]? = some c → w'[f j]? = some (reE f c)) (hout : ∀ i, (∀ j, j < wc.length → f j ≠ i) → w'[i]? = w[i]?)
    (h : G k nL (pc + 3) lv (V.toList ++ rest) w') : G k nL pc lv st w := by
  obtain ⟨p, l, e, R, s, m, args, below, meth, c, D, ad, A, cells, slots, Q⟩ := k
  obtain ⟨hx, hb, hml, hown, hts, hK, hN, hrm, hce, hsl⟩ := C
  obtain ⟨l1, l2, l3, l4, l5, l6, l7, l8⟩ := L
  intro H locs ls hP hD hS hl
  subst hst
  have key : ∀ (j : Nat) (q : Nat × va_E), (wd (fun j => ad (f j)) wc)[j]? = some q → j < wc.length ∧ q.1 = ad (f j) ∧ (wd ad w)[f j]? = some q := by
    intro j q hq
    obtain ⟨cj, h1, rfl⟩ := wd_of hq
    refine ⟨(List.getElem?_eq_some_iff.mp h1).1, rfl, ?_⟩
    rw [wd_at (hw j cj h1), reE_comp]
  have hPc : va_P D classes (wd (fun j => ad (f j)) wc) H := fun j q hq => hP _ q (key j q hq).2.2
  have hDc : va_D (fun q => ∃ j, j < wc.length ∧ q = ad (f j)) (wd (fun j => ad (f j)) wc) := ⟨fun i j x y hi hj hxy => hf i j (hD.1 _ _ x y (key i x hi).2.2 (key j y hj).2.2 hxy), fun j q hq => ⟨j, (key j q hq).1, (key j q hq).2.1⟩⟩
  have hA : ∀ q, (∃ j, j < wc.length ∧ q = ad (f j)) → A q := by
    rintro q ⟨j, hj, rfl⟩
    exact hD.2 _ _ (wd_at (hw j _ (List.getElem?_eq_getElem hj)))
  have hcw : CallW R s args (ownN o) y.cls idx y bytes maxL ret (Cond.code y bytes maxL ret :: tbl) { frames := fr', cells := 0, slots := 0, locals := lo' } 0 0 n :=
    ⟨callB_of n hts (tb_goodc l5) rfl rfl rfl (hts _ l4) (hts _ l1) ⟨l6, l7, l8⟩ ⟨Nat.le_trans hroom.1 hrm.1, Nat.le_trans hroom.2 hrm.2⟩, hts _ l2, hts _ l3⟩
  obtain ⟨qc, hqc, hqn⟩ : ∃ qc, classes[ci]? = some qc ∧ qc.1 = y.cls := by
    have h2 := hr.2
    cases hq : classes[ci]? with
    | none => rw [hq] at h2; cases h2
    | some qc => rw [hq] at h2; exact ⟨qc, rfl, Option.some.inj h2⟩
  have eA : As.map (reV fun j => ad (f j)) = As.map (reV ad) := by
    have : As.map (reV fun j => ad (f j)) = (As.map (reV f)).map (reV ad) := by
      rw [List.map_map]; congr 1; funext v; exact (reV_comp ad f v).symm
    rw [this, hAs]
  have eV : (V.map (reV fun j => ad (f j))).toList ++ rest.map (reV ad) = (V.toList ++ rest).map (reV ad) := by
    cases V with
    | none => rfl
    | some v =>
      have h3 : reV f v = v := Option.some.inj hV
      show reV _ v :: _ = reV ad v :: _
      rw [← reV_comp, h3]
      rfl
  refine q_call (va_runV (As := As.map (reV ad)) (b := ad (f 0)) (rest := rest.map (reV ad)) ⟨hx, hb, hml, hown, hts⟩ (hM l D (fun j => ad (f j)) (fun q => ∃ j, j < wc.length ∧ q = ad (f j))) hcw ⟨q_blind, ?_, fun U hU hW => ⟨by show _ = (reV _ (.ref 0) :: As.map (reV fun j => ad (f j))).toArray; rw [eA]; rfl, by rw [hU]; exact hPc, va_K.moved hW.alike hK, hDc, hN.warm hW⟩⟩ rfl (by rw [List.length_map]; exact hn) hl.1 ?_ (lv_room (by rw [st_cat]; exact hcat)) hd ⟨hce, hsl⟩) hS hA (fun H1 locs1 hP1 hDx hz hk hS1 => ?_)
  · rw [← hqn]
    exact va_recv hK hPc hqc (wd_at hr.1)
  · show List.map (reV ad) _ = _
    rw [List.map_append, List.map_reverse]
    rfl
  · rw [eV]
    refine h H1 locs1 ls ?_ ?_ hS1 hl
    · intro i q hq
      by_cases hx2 : ∃ j, j < wc.length ∧ f j = i
      · obtain ⟨j, hj, rfl⟩ := hx2
        have hj' : j < wc'.length := by rw [hlen]; exact hj
        rw [wd_at (hw' j _ (List.getElem?_eq_getElem hj')), reE_comp] at hq
        exact hP1 j q (by rw [wd_at (List.getElem?_eq_getElem hj'), ← hq])
      · obtain ⟨ci2, h1, rfl⟩ := wd_of hq
        rw [hout i (fun j hj q => hx2 ⟨j, hj, q⟩)] at h1
        have h2 := hP i _ (wd_at h1)
        refine h2.kept (hk _ h2.lt (fun ⟨j, hj, q⟩ => hx2 ⟨j, hj, ?_⟩))
        exact (hD.1 _ _ _ _ (wd_at h1) (wd_at (hw j _ (List.getElem?_eq_getElem hj))) q).symm
    · refine ⟨fun i j x y hi hj hxy => ?_, fun i q hq => ?_⟩
      · obtain ⟨c1, h1, rfl⟩ := wd_of hi
        obtain ⟨c2, h2, rfl⟩ := wd_of hj
        have g1 := (List.getElem?_eq_some_iff.mp h1).1
        have g2 := (List.getElem?_eq_some_iff.mp h2).1
        rw [hlen2] at g1 g2
        exact hD.1 i j _ _ (wd_at (List.getElem?_eq_getElem g1)) (wd_at (List.getElem?_eq_getElem g2)) hxy
      · obtain ⟨c1, h1, rfl⟩ := wd_of hq
        have g1 := (List.getElem?_eq_some_iff.mp h1).1
        rw [hlen2] at g1
        exact (hD.2 i (ad i, reE ad w[i]) (wd_at (List.getElem?_eq_getElem g1)) : A (ad i))
theorem G_lawL {k : KX} {cc : ByteArray} {o nL fr lo : Nat} {cy : Nat → ClassId} {pc : Nat} {lv : List (Nat × Value)} {w1 w2 : List va_E} (C : OK k cc o nL cy fr lo) {idx : Nat} {y : MethodName} {bytes : ByteArray} {maxL n : Nat} {ret : Option FieldType} {fr' lo' : Nat} (L : LkV o idx y bytes maxL n ret) (hroom : fr' + 1 ≤ fr ∧ 8 + (maxL + 11) + lo' ≤ lo) (hd : decode cc pc = .ok (.invokevirtual idx, 3))
    (st' : List Value) {As : List Value} {w1' : List va_E} {V : Option Value} {ci : Nat} {fs : List Value} {rest st : List Value} (hM : MG cy y bytes maxL ret fr' lo' (.ref 0 :: As) w1 V w1') (hst : st = As.reverse ++ .ref 0 :: rest) (hn : As.length = n) (hcat : (rest.map fun v => v.category).sum ≤ 8)
    (hr : w1[0]? = some (.inr (ci, fs)) ∧ (classes[ci]?).map (fun q => q.1) = some y.cls) (hlen : w1'.length = w1.length) (hst' : V.toList ++ rest = st') (h : G k nL (pc + 3) lv st' (w1' ++ w2)) : G k nL pc lv st (w1 ++ w2) := by
  subst hst'
  refine G_callVF C L hroom hd (fun j => j) (fun _ _ h => h) hM hst (by rw [show (reV fun j => j) = id from funext reV_id, List.map_id]) (by rw [show (reV fun j => j) = id from funext reV_id, Option.map_id]; rfl) hn hcat (fun j c hc => ?_) hr hlen (by rw [List.length_append, List.length_append, hlen]) (fun j c hc => ?_) (fun i hi => ?_) h
  · rw [reE_id, List.getElem?_append_left (List.getElem?_eq_some_iff.mp hc).1]; exact hc
  · rw [reE_id, List.getElem?_append_left (List.getElem?_eq_some_iff.mp hc).1]; exact hc
  · have h1 : ¬ i < w1.length := fun q => hi i q rfl
    rw [List.getElem?_append_right (by omega), List.getElem?_append_right (by omega), hlen]
theorem G_lawR {k : KX} {cc : ByteArray} {o nL fr lo : Nat} {cy : Nat → ClassId} {pc : Nat} {lv : List (Nat × Value)} {w1 w2 : List va_E} (C : OK k cc o nL cy fr lo) {idx : Nat} {y : MethodName} {bytes : ByteArray} {maxL n n1 : Nat} {ret : Option FieldType} {fr' lo' : Nat} (L : LkV o idx y bytes maxL n ret) (hroom : fr' + 1 ≤ fr ∧ 8 + (maxL + 11) + lo' ≤ lo) (hd : decode cc pc = .ok (.invokevirtual idx, 3)) (hn1 : w1.length = n1)
    (st' : List Value) {As : List Value} {w2' : List va_E} {V : Option Value} {ci : Nat} {fs : List Value} {rest st : List Value} (hM : MG cy y bytes maxL ret fr' lo' (.ref 0 :: As) w2 V w2') (hst : st = As.reverse ++ .ref n1 :: rest) (hAs : As.map (reV fun j => j + n1) = As) (hV : V.map (reV fun j => j + n1) = V) (hn : As.length = n) (hcat : (rest.map fun v => v.category).sum ≤ 8)
    (hr : w2[0]? = some (.inr (ci, fs)) ∧ (classes[ci]?).map (fun q => q.1) = some y.cls) (hlen : w2'.length = w2.length) (hst' : V.toList ++ rest = st') (h : G k nL (pc + 3) lv st' (w1 ++ shN n1 w2')) : G k nL pc lv st (w1 ++ shN n1 w2) := by
  subst hst'
  subst hn1
  refine G_callVF C L hroom hd (fun j => j + w1.length) (fun _ _ h => by omega) hM (by rw [hst]; show _ = As.reverse ++ .ref (0 + w1.length) :: rest; rw [Nat.zero_add]) hAs hV hn hcat (fun j c hc => ?_) hr hlen (by unfold shN; rw [List.length_append, List.length_append, List.length_map, List.length_map, hlen]) (fun j c hc => ?_) (fun i hi => ?_) h
  · unfold shN; rw [List.getElem?_append_right (by omega), List.getElem?_map, show j + w1.length - w1.length = j by omega, hc]; rfl
  · unfold shN; rw [List.getElem?_append_right (by omega), List.getElem?_map, show j + w1.length - w1.length = j by omega, hc]; rfl
  · by_cases h1 : i < w1.length
    · rw [List.getElem?_append_left h1, List.getElem?_append_left h1]
    · have h2 : ¬ (i - w1.length < w2.length) := fun q => hi (i - w1.length) q (by omega)
      unfold shN
      rw [List.getElem?_append_right (by omega), List.getElem?_append_right (by omega), List.getElem?_eq_none (by rw [List.length_map, hlen]; omega), List.getElem?_eq_none (by rw [List.length_map]; omega)]
section LWS
variable {p : Program} {l : Launch} {e : Env} {R : Room} {s : State} {m : MethodId} {args : Array Value} {below : List Frame} {meth : Method} {c : Code} {D : va_G} {A : Nat → Prop} {Q : State → Prop} {cc : ByteArray} {o nL fr lo : Nat} {cy : Nat → ClassId} {pc ce sl : Nat} {ad : Nat → Nat} {lv : List (Nat × Value)} {st : List Value} {w : List va_E} {b L : Nat} {xs : Nat → Int32}
theorem G_sld (C : OK (p, l, e, R, s, m, args, below, meth, c, D, ad, A, ce, sl, Q) cc o nL cy fr lo) (hX : va_X b L xs s s.heap) (hbl : b < s.heap.size) (hbA : ¬ A b) (had : ad 1000 = b) {i : Int32} (hin : vp_in i L) (hd : decode cc pc = .ok (.iaload, 1)) (h : G (p, l, e, R, s, m, args, below, meth, c, D, ad, A, ce, sl, Q) nL (pc + 1) lv (.int (xs i.toNatClampNeg) :: st) w) : G (p, l, e, R, s, m, args, below, meth, c, D, ad, A, ce, sl, Q) nL pc lv (.int i :: .ref 1000 :: st) w := by
  obtain ⟨hx, hb, hml, hown, hts, hK, hN, hrm, -, -⟩ := C
  intro H locs ls hP hD hS hl
  subst had
  exact va_sld hx hb hX hbl hbA hS hin hd (h H locs ls hP hD hS hl)
theorem G_slen (C : OK (p, l, e, R, s, m, args, below, meth, c, D, ad, A, ce, sl, Q) cc o nL cy fr lo) (hX : va_X b L xs s s.heap) (hbl : b < s.heap.size) (hbA : ¬ A b) (had : ad 1000 = b) (hd : decode cc pc = .ok (.arraylength, 1)) (h : G (p, l, e, R, s, m, args, below, meth, c, D, ad, A, ce, sl, Q) nL (pc + 1) lv (.int (nI L) :: st) w) : G (p, l, e, R, s, m, args, below, meth, c, D, ad, A, ce, sl, Q) nL pc lv (.ref 1000 :: st) w := by
  obtain ⟨hx, hb, hml, hown, hts, hK, hN, hrm, -, -⟩ := C
  intro H locs ls hP hD hS hl
  subst had
  exact va_slen hx hb hX hbl hbA hS hd (h H locs ls hP hD hS hl)
theorem G_ast {k : KX} (C : OK k cc o nL cy fr lo) {n : Fin 4} {x : Nat} (hlt : n.val < nL) (hd : decode cc pc = .ok (.astore_n n, 1)) {lv' : List (Nat × Value)} (hlv : st1 n.val (.ref x) lv = lv') (h : G k nL (pc + 1) lv' st w) : G k nL pc lv (.ref x :: st) w := by
  obtain ⟨p, l, e, R, s, m, args, below, meth, c, D, ad, A, cells, slots, Q⟩ := k
  obtain ⟨hx, hb, hml, hown, hts, hK, hN, hrm⟩ := C
  subst hlv
  intro H locs ls hP hD hS hl
  exact lv_astore_n hx hb hd rfl hl hlt (lvd_st1 ad n.val (.ref x) lv) (fun ls hl => h H locs ls hP hD hS hl)
end LWS
