theorem m_bring1L (Mr : Nat → Int32) : ∀ (n j : Nat) (f : Nat → Int32), j ≤ 8 → 8 - j < n → ∃ g, f_X7_bring_v1_L3 n (nI 0) (nI 0) (nI j) Mr f = some g ∧ ∀ i, g i = if j ≤ i ∧ i < 8 then Mr i else f i := by
  intro n
  induction n with
  | zero => intro j f _ hm; omega
  | succ n ih =>
    intro j f hj hm
    rw [f_X7_bring_v1_L3]
    simp only [k0, k1, k8]
    by_cases h8 : j = 8
    · subst h8
      rw [if_pos (nI_le (by omega) (by omega))]
      exact ⟨f, rfl, fun i => by rw [if_neg (by omega)]⟩
    · rw [if_neg (nI_ge (by omega : j < 8) (by omega)), nI_add, nI_add, Nat.zero_add, gif0 (by omega) (by omega), gif0 (by omega) (by omega), nI_cl (by omega)]
      obtain ⟨g, h1, h2⟩ := ih (j + 1) (upd f j (Mr j)) (by omega) (by omega)
      refine ⟨g, h1, fun i => ?_⟩
      rw [h2 i]
      by_cases hi : i = j
      · subst hi; rw [if_neg (by omega), upd_s, if_pos (by omega)]
      · by_cases hi2 : j ≤ i ∧ i < 8
        · rw [if_pos (by omega), if_pos hi2]
        · rw [if_neg (by omega), if_neg hi2, upd_n hi]
theorem m_bring1 (Mr Ma : Nat → Int32) : ∃ g, f_X7_bring_v1 0 0 Mr Ma = some g ∧ ∀ i, i < 8 → g i = Mr i := by
  obtain ⟨g, h1, h2⟩ := m_bring1L Mr 200 0 Ma (by omega) (by omega)
  exact ⟨g, by unfold f_X7_bring_v1; rw [k0, h1]; rfl, fun i hi => by rw [h2 i, if_pos (by omega)]⟩
def badS (c : Int32) : Prop := c < -9 ∨ 9 < c
def badW (c : Int32) : Prop := c < -99 ∨ 99 < c
theorem x_shf (c : Int32) : f_X3_isNoShift c = some (decide (c < -9 ∨ 9 < c)) := by
  unfold f_X3_isNoShift; rw [x_out]; rfl
theorem m_plc (c : Int32) : f_X7_isPlace c = some (decide (¬ (c < -9 ∨ 9 < c))) := by
  unfold f_X7_isPlace; rw [m_inb (a := -9) (b := 9) (by decide) (by decide)]; rfl
theorem m_wgt (c : Int32) : f_X7_isWeight c = some (decide (¬ (c < -99 ∨ 99 < c))) := by
  unfold f_X7_isWeight; rw [m_inb (a := -99) (b := 99) (by decide) (by decide)]; rfl
section CHG
variable {K : Nat} {a g Mr : Nat → Int32} {sg Mm : Nat → Int64}
theorem x_add_bad {x w : Int32} (P : (x < -9 ∨ 9 < x) ∨ (w < -99 ∨ 99 < w)) (rK : Int32) : f_X3_addPlace x w rK g sg = some (-1000001, rK, g, sg) := by
  unfold f_X3_addPlace
  simp only [x_shf, x_out, Option.bind_some, bI_dec]
  by_cases P1 : x < -9 ∨ 9 < x
  · rw [if_neg (fun h => h P1)]
  · rw [if_pos P1, if_neg (fun h => h (P.resolve_left P1))]
theorem x_add (hk : okRow K a) (hg : ∀ i, i < K → g i = a i) {x w : Int32} (P1 : ¬ (x < -9 ∨ 9 < x)) (P2 : ¬ (w < -99 ∨ 99 < w)) : (okV K (vAdd a x w) → ∃ g' sg', f_X3_addPlace x w (nI K) g sg = some (0, nI K, g', sg') ∧ ∀ i, i < K → g' i = rowV K (vAdd a x w) i) ∧ (¬ okV K (vAdd a x w) → ∃ sg', f_X3_addPlace x w (nI K) g sg = some (-1000002, nI K, g, sg')) := by
  have hK7 := hk.2.1
  obtain ⟨f', h1, h2⟩ := x_addL hk.2.1 a g hg x w 200 0 sg (by omega) (by omega)
  obtain ⟨t1, t2⟩ := x_take hk.1 hk.2.1 (vAdd a x w) (rg := f') (fun j hj => by rw [h2 j, if_pos (by omega)]) (nI K) g
  have e : f_X3_addPlace x w (nI K) g sg = (f_X3_takeNext (nI K) (nI K) g f').bind fun q4 => some (q4.1, q4.2.1, q4.2.2, f') := by
    unfold f_X3_addPlace
    simp only [x_shf, x_out, Option.bind_some, bI_dec]
    rw [if_pos P1, if_pos P2, k0, show f_X3_addPlace_L27 200 x w.toInt64 (nI 0) (nI K) g sg = some f' by rw [← h1]; congr 1; exact (Int64.mul_one _).symm]
    rfl
  refine ⟨fun h => ?_, fun h => ?_⟩
  · obtain ⟨g', q1, q2⟩ := t1 h
    exact ⟨g', f', by rw [e, q1]; rfl, fun i hi => by rw [q2 i hi]; unfold rowV; rw [if_pos hi]⟩
  · exact ⟨f', by rw [e, t2 h]; rfl⟩
theorem m_add (hk : okRow K a) (hm : ∀ i, i < 7 → Mr i = a i) (hm7 : Mr 7 = nI K) (x w : Int32) : (okV K (vAdd a x w) → ∃ Mr' Mm', f_X7_addPlace x w Mr Mm = some (true, Mr', Mm') ∧ (∀ i, i < 7 → Mr' i = rowV K (vAdd a x w) i) ∧ Mr' 7 = nI K) ∧ (¬ okV K (vAdd a x w) → ∃ Mm', f_X7_addPlace x w Mr Mm = some (false, Mr, Mm')) := by
  have hK7 := hk.2.1
  obtain ⟨f', h1, h2⟩ := m_addL hk.2.1 a Mr hm hm7 x w 200 0 Mm (by omega) (by omega)
  obtain ⟨t1, t2⟩ := m_take hk.2.1 (vAdd a x w) (Mm := f') (fun j hj => by rw [h2 j, if_pos (by omega)]) Mr
  have e : f_X7_addPlace x w Mr Mm = (f_X7_takeMade (nI K) Mr f').bind fun q3 => some (q3.1, q3.2, f') := by
    unfold f_X7_addPlace
    rw [k0, h1, Option.bind_some, if_neg (by decide), show (7 : Int32).toNatClampNeg = 7 from rfl, hm7]
  refine ⟨fun h => ?_, fun h => ?_⟩
  · obtain ⟨g', q1, q2, q3⟩ := t1 h
    exact ⟨g', f', by rw [e, q1]; rfl, q2, q3⟩
  · obtain ⟨g', q1, q2⟩ := t2 h
    obtain rfl : g' = Mr := funext q2
    exact ⟨f', by rw [e, q1]; rfl⟩
theorem x_str_bad {c : Int32} (P : c < -9 ∨ 9 < c) (rK : Int32) : f_X3_scale c rK g sg = some (-1000001, rK, g, sg) := by
  unfold f_X3_scale
  simp only [x_shf, Option.bind_some, bI_dec]
  rw [if_neg (fun h => h P)]
theorem x_str (hk : okRow K a) (hg : ∀ i, i < K → g i = a i) {c : Int32} (P1 : ¬ (c < -9 ∨ 9 < c)) : (okV K (vStr a c) → ∃ g' sg', f_X3_scale c (nI K) g sg = some (0, nI K, g', sg') ∧ ∀ i, i < K → g' i = rowV K (vStr a c) i) ∧ (¬ okV K (vStr a c) → ∃ sg', f_X3_scale c (nI K) g sg = some (-1000002, nI K, g, sg')) := by
  have hK7 := hk.2.1
  obtain ⟨f', h1, h2⟩ := x_strL hk.2.1 a g hg c 200 0 sg (by omega) (by omega)
  obtain ⟨t1, t2⟩ := x_take hk.1 hk.2.1 (vStr a c) (rg := f') (fun j hj => by rw [h2 j, if_pos (by omega)]) (nI K) g
  have e : f_X3_scale c (nI K) g sg = (f_X3_takeNext (nI K) (nI K) g f').bind fun q4 => some (q4.1, q4.2.1, q4.2.2, f') := by
    unfold f_X3_scale
    simp only [x_shf, Option.bind_some, bI_dec]
    rw [if_pos P1, k0, show (1 : Int64) = pw c.toInt64 0 from rfl, h1]
    rfl
  refine ⟨fun h => ?_, fun h => ?_⟩
  · obtain ⟨g', q1, q2⟩ := t1 h
    exact ⟨g', f', by rw [e, q1]; rfl, fun i hi => by rw [q2 i hi]; unfold rowV; rw [if_pos hi]⟩
  · exact ⟨f', by rw [e, t2 h]; rfl⟩
theorem m_str (hk : okRow K a) (hm : ∀ i, i < 7 → Mr i = a i) (hm7 : Mr 7 = nI K) (c : Int32) : (okV K (vStr a c) → ∃ Mr' Mm', f_X7_stretch c Mr Mm = some (true, Mr', Mm') ∧ (∀ i, i < 7 → Mr' i = rowV K (vStr a c) i) ∧ Mr' 7 = nI K) ∧ (¬ okV K (vStr a c) → ∃ Mm', f_X7_stretch c Mr Mm = some (false, Mr, Mm')) := by
  have hK7 := hk.2.1
  obtain ⟨f', h1, h2⟩ := m_strL hk.2.1 a Mr hm hm7 c 200 0 Mm (by omega) (by omega)
  obtain ⟨t1, t2⟩ := m_take hk.2.1 (vStr a c) (Mm := f') (fun j hj => by rw [h2 j, if_pos (by omega)]) Mr
  have e : f_X7_stretch c Mr Mm = (f_X7_takeMade (nI K) Mr f').bind fun q3 => some (q3.1, q3.2, f') := by
    unfold f_X7_stretch
    rw [k0, h1, Option.bind_some, if_neg (by decide), show (7 : Int32).toNatClampNeg = 7 from rfl, hm7]
  refine ⟨fun h => ?_, fun h => ?_⟩
  · obtain ⟨g', q1, q2, q3⟩ := t1 h
    exact ⟨g', f', by rw [e, q1]; rfl, q2, q3⟩
  · obtain ⟨g', q1, q2⟩ := t2 h
    obtain rfl : g' = Mr := funext q2
    exact ⟨f', by rw [e, q1]; rfl⟩
theorem x_mov_bad {c : Int32} (P : c < -9 ∨ 9 < c) (rK pd : Int32) (pn : Nat → Int64) : f_X3_shift c rK g sg pd pn = some (-1000001, rK, g, sg, pd, pn) := by
  unfold f_X3_shift
  simp only [x_shf, Option.bind_some, bI_dec]
  rw [if_neg (fun h => h P)]
theorem x_mov (hk : okRow K a) (hg : ∀ i, i < K → g i = a i) {c : Int32} (P1 : ¬ (c < -9 ∨ 9 < c)) (pd : Int32) (pn : Nat → Int64) : (okV K (vMov a c) → ∃ g' sg' pd' pn', f_X3_shift c (nI K) g sg pd pn = some (0, nI K, g', sg', pd', pn') ∧ ∀ i, i < K → g' i = rowV K (vMov a c) i) ∧ (¬ okV K (vMov a c) → ∃ sg' pd' pn', f_X3_shift c (nI K) g sg pd pn = some (-1000002, nI K, g, sg', pd', pn')) := by
  have hK7 := hk.2.1
  obtain ⟨f', pd', pn', h1, h2⟩ := x_movL hk hg c 200 0 sg (vp_updL pn 0 1) (by omega) (by omega) (fun i hi => by rw [show i = 0 by omega, updL_s]; rfl)
  obtain ⟨t1, t2⟩ := x_take hk.1 hk.2.1 (vMov a c) (rg := f') (fun j hj => by rw [h2 j, if_pos (by omega)]) (nI K) g
  have e : f_X3_shift c (nI K) g sg pd pn = (f_X3_takeNext (nI K) (nI K) g f').bind fun q4 => some (q4.1, q4.2.1, q4.2.2, f', pd', pn') := by
    unfold f_X3_shift
    simp only [x_shf, Option.bind_some, bI_dec]
    rw [if_pos P1, show f_X1_begin pn = some (nI 0, vp_updL pn 0 1) from rfl, Option.bind_some, k0, h1]
    rfl
  refine ⟨fun h => ?_, fun h => ?_⟩
  · obtain ⟨g', q1, q2⟩ := t1 h
    exact ⟨g', f', pd', pn', by rw [e, q1]; rfl, fun i hi => by rw [q2 i hi]; unfold rowV; rw [if_pos hi]⟩
  · exact ⟨f', pd', pn', by rw [e, t2 h]; rfl⟩
theorem m_mov (hk : okRow K a) (hm : ∀ i, i < 7 → Mr i = a i) (hm7 : Mr 7 = nI K) (c : Int32) : (okV K (vMov a c) → ∃ Mr' Mm', f_X7_move c Mr Mm = some (true, Mr', Mm') ∧ (∀ i, i < 7 → Mr' i = rowV K (vMov a c) i) ∧ Mr' 7 = nI K) ∧ (¬ okV K (vMov a c) → ∃ Mm', f_X7_move c Mr Mm = some (false, Mr, Mm')) := by
  have hK7 := hk.2.1
  obtain ⟨f', h1, h2⟩ := m_movL hk.2.1 a Mr hm hm7 c 200 0 Mm (by omega) (by omega)
  obtain ⟨t1, t2⟩ := m_take hk.2.1 (vMov a c) (Mm := f') (fun j hj => by rw [h2 j, if_pos (by omega)]) Mr
  have e : f_X7_move c Mr Mm = (f_X7_takeMade (nI K) Mr f').bind fun q3 => some (q3.1, q3.2, f') := by
    unfold f_X7_move
    rw [k0, h1, Option.bind_some, if_neg (by decide), show (7 : Int32).toNatClampNeg = 7 from rfl, hm7]
  refine ⟨fun h => ?_, fun h => ?_⟩
  · obtain ⟨g', q1, q2, q3⟩ := t1 h
    exact ⟨g', f', by rw [e, q1]; rfl, q2, q3⟩
  · obtain ⟨g', q1, q2⟩ := t2 h
    obtain rfl : g' = Mr := funext q2
    exact ⟨f', by rw [e, q1]; rfl⟩
theorem bI_tne : ¬ bI true = 0 := by decide
theorem x_wei_bad {c : Int32} (P : c < -9 ∨ 9 < c) (rK : Int32) : f_X3_reweigh c rK g sg = some (-1000001, rK, g, sg) := by
  unfold f_X3_reweigh
  simp only [x_shf, Option.bind_some, bI_dec]
  rw [if_neg (fun h => h P)]
theorem x_wei1 {c : Int32} (P : ¬ (c < -9 ∨ 9 < c)) : f_X3_reweigh c (nI 1) g sg = some (-1000002, nI 1, g, sg) := by
  unfold f_X3_reweigh
  simp only [x_shf, Option.bind_some, bI_dec]
  rw [if_pos P]
  rfl
theorem x_wei (hk : okRow K a) (hK : 1 < K) (hg : ∀ i, i < K → g i = a i) {c : Int32} (P1 : ¬ (c < -9 ∨ 9 < c)) : (okV (K - 1) (vWei a c) → ∃ g' sg', f_X3_reweigh c (nI K) g sg = some (0, nI (K - 1), g', sg') ∧ ∀ i, i < K - 1 → g' i = rowV (K - 1) (vWei a c) i) ∧ (¬ okV (K - 1) (vWei a c) → ∃ sg', f_X3_reweigh c (nI K) g sg = some (-1000002, nI K, g, sg')) := by
  have h7 := hk.2.1
  obtain ⟨f', h1, h2⟩ := x_weiL hk hg c 200 0 sg (by omega) (by omega)
  obtain ⟨t1, t2⟩ := x_take (k := K - 1) (by omega) (by omega) (vWei a c) (rg := f') (fun j hj => by rw [h2 j, if_pos (by omega)]) (nI K) g
  have e : f_X3_reweigh c (nI K) g sg = (f_X3_takeNext (nI (K - 1)) (nI K) g f').bind fun q4 => some (q4.1, q4.2.1, q4.2.2, f') := by
    unfold f_X3_reweigh
    simp only [x_shf, Option.bind_some, bI_dec]
    rw [if_pos P1, k1, if_pos (nI_lt hK (by omega)), k0, h1, Option.bind_some, pk_sub (by omega)]
  refine ⟨fun h => ?_, fun h => ?_⟩
  · obtain ⟨g', q1, q2⟩ := t1 h
    exact ⟨g', f', by rw [e, q1]; rfl, fun i hi => by rw [q2 i hi]; unfold rowV; rw [if_pos hi]⟩
  · exact ⟨f', by rw [e, t2 h]; rfl⟩
theorem m_wei1 (hm7 : Mr 7 = nI 1) (c : Int32) : f_X7_weigh c Mr Mm = some (false, Mr, Mm) := by
  unfold f_X7_weigh
  rw [if_neg (by decide), show (7 : Int32).toNatClampNeg = 7 from rfl, hm7, if_pos (by decide)]
theorem m_wei (hk : okRow K a) (hK : 1 < K) (hm : ∀ i, i < 7 → Mr i = a i) (hm7 : Mr 7 = nI K) (c : Int32) : (okV (K - 1) (vWei a c) → ∃ Mr' Mm', f_X7_weigh c Mr Mm = some (true, Mr', Mm') ∧ (∀ i, i < 7 → Mr' i = rowV (K - 1) (vWei a c) i) ∧ Mr' 7 = nI (K - 1)) ∧ (¬ okV (K - 1) (vWei a c) → ∃ Mm', f_X7_weigh c Mr Mm = some (false, Mr, Mm')) := by
  have h7 := hk.2.1
  obtain ⟨f', h1, h2⟩ := m_weiL hk.2.1 hk.1 a Mr hm hm7 c 200 0 Mm (by omega) (by omega)
  obtain ⟨t1, t2⟩ := m_take (k := K - 1) (by omega) (vWei a c) (Mm := f') (fun j hj => by rw [h2 j, if_pos (by omega)]) Mr
  have e : f_X7_weigh c Mr Mm = (f_X7_takeMade (nI (K - 1)) Mr f').bind fun q3 => some (q3.1, q3.2, f') := by
    unfold f_X7_weigh
    rw [if_neg (by decide), show (7 : Int32).toNatClampNeg = 7 from rfl, hm7, if_neg (by rw [k1, nI_eq (by omega) (by omega)]; omega), k0, h1, Option.bind_some, if_neg (by decide), k1, pk_sub (by omega)]
  refine ⟨fun h => ?_, fun h => ?_⟩
  · obtain ⟨g', q1, q2, q3⟩ := t1 h
    exact ⟨g', f', by rw [e, q1]; rfl, q2, q3⟩
  · obtain ⟨g', q1, q2⟩ := t2 h
    obtain rfl : g' = Mr := funext q2
    exact ⟨f', by rw [e, q1]; rfl⟩
end CHG
theorem m_last {k : Nat} (h1 : 1 ≤ k) (h7 : k ≤ 7) {Mr : Nat → Int32} (hm7 : Mr 7 = nI k) : f_X7_last Mr = some (Mr (k - 1)) := by
  unfold f_X7_last
  rw [if_neg (by decide), show (7 : Int32).toNatClampNeg = 7 from rfl, hm7, k1, pk_sub h1, gif (by omega) (by omega), nI_cl (by omega)]
set_option maxHeartbeats 4000000 in
set_option maxRecDepth 100000 in
theorem op_adds (x1 : Int32) (x2 : Int32) (kb : Int32) (kn : Int32) (kf : Int32) (rK : Int32) (rf : Nat → Int32) (vo : Int32) (vd : Int32) (vs : Nat → Int32) (tl : Int32) (tb : Nat → Int32) (Ms : Int32) (Mb : Int32) (Mr : Nat → Int32) (Mp : Nat → Int32) (Mf : Nat → Int32) (Mt : Nat → Int32) (sf : Nat → Int32) (sg : Nat → Int64) (Ma : Nat → Int32) (Mm : Nat → Int64) (hrel : Rel kb kn kf rK rf vo vd vs tl tb Ms Mb Mr Mp Mf Mt) : ∃ rx rm, f_X6_adds x1 x2 kb kn kf rK rf sf sg vo vd vs = some rx ∧ f_X7_adds x1 x2 Ms Mr Ma Mp Mf Mm = some rm ∧ rx.1 = rm.1 ∧ Rel rx.2.1 rx.2.2.1 rx.2.2.2.1 rx.2.2.2.2.1 rx.2.2.2.2.2.1 rx.2.2.2.2.2.2.2.2.2.1 rx.2.2.2.2.2.2.2.2.2.2.1 rx.2.2.2.2.2.2.2.2.2.2.2 tl tb rm.2.1 Mb rm.2.2.1 rm.2.2.2.2.1 rm.2.2.2.2.2.1 Mt := by
  have hrel0 := hrel
  obtain ⟨⟨K, a, hk, rfl, hf, hm, hm7⟩, hc, hs, ht⟩ := hrel
  have hK1 := hk.1
  have hK7 := hk.2.1
  obtain ⟨g, hg1, hg2⟩ := x_copy hk hf sf
  have hgK : ∀ i, i < K → g i = a i := fun i hi => hg2 i (by omega)
  by_cases P1 : x1 < -9 ∨ 9 < x1
  · refine ⟨(-1000001, kb + 1, kn, kf, nI K, rf, nI K, g, sg, vo, vd, vs), (-1000001, Ms, Mr, Ma, Mp, upd Mf 0 (Mf 0 + 1), Mm), ?_, ?_, rfl, rel_bad hrel0⟩
    · unfold f_X6_adds
      rw [hg1, Option.bind_some, x_add_bad (Or.inl P1)]
      rfl
    · unfold f_X7_adds
      rw [m_plc]
      simp only [Option.bind_some, bI_decn]
      rw [if_pos P1]
      rfl
  · by_cases P2 : x2 < -99 ∨ 99 < x2
    · refine ⟨(-1000001, kb + 1, kn, kf, nI K, rf, nI K, g, sg, vo, vd, vs), (-1000001, Ms, Mr, Ma, Mp, upd Mf 0 (Mf 0 + 1), Mm), ?_, ?_, rfl, rel_bad hrel0⟩
      · unfold f_X6_adds
        rw [hg1, Option.bind_some, x_add_bad (Or.inr P2)]
        rfl
      · unfold f_X7_adds
        rw [m_plc, m_wgt]
        simp only [Option.bind_some, bI_decn]
        rw [if_neg P1, if_pos P2]
        rfl
    · obtain ⟨b, hb1, hb2⟩ := m_bring1 Mr Ma
      obtain ⟨t1, t2⟩ := x_add (sg := sg) hk hgK P1 P2
      obtain ⟨u1, u2⟩ := m_add (Mm := Mm) hk hm hm7 x1 x2
      by_cases hv : okV K (vAdd a x1 x2)
      · obtain ⟨g', sg', q1, q2⟩ := t1 hv
        obtain ⟨Mr', Mm', w1, w2, w3⟩ := u1 hv
        have hk2 := okRow_V hK1 hK7 hv
        obtain ⟨rf', vo', vd', vs', Ms', Mp', e1, e2, e3, e4⟩ := keep_rel (Mr := Mr) (Mx := b) (sf' := g') hk hf (fun j hj => by rw [hb2 j (by omega), hm j hj]) (by rw [hb2 7 (by omega), hm7]) hs hk2 q2
        refine ⟨(rowV K (vAdd a x1 x2) 0, kb, kn, kf, nI K, rf', nI K, g', sg', vo', vd', vs'), (Mr' 0, Ms', Mr', b, Mp', Mf, Mm'), ?_, ?_, (w2 0 (by omega)).symm, ⟨K, _, hk2, rfl, fun i hi => e3 i (by omega), w2, w3⟩, hc, e4, ht⟩
        · unfold f_X6_adds
          rw [hg1, Option.bind_some, q1, Option.bind_some, if_pos rfl, e1, Option.bind_some, k0, x_at hk2 (fun i hi => e3 i (by omega)) (by omega)]
          rfl
        · unfold f_X7_adds
          rw [m_plc, m_wgt]
          simp only [Option.bind_some, bI_decn]
          rw [if_neg P1, if_neg P2, hb1, Option.bind_some, w1, Option.bind_some, if_neg bI_tne, m_note_v1, e2]
          rfl
      · obtain ⟨sg', q1⟩ := t2 hv
        obtain ⟨Mm', w1⟩ := u2 hv
        refine ⟨(-1000002, kb, kn + 1, kf, nI K, rf, nI K, g, sg', vo, vd, vs), (-1000002, Ms, Mr, b, Mp, upd Mf 1 (Mf 1 + 1), Mm'), ?_, ?_, rfl, rel_no hrel0⟩
        · unfold f_X6_adds
          rw [hg1, Option.bind_some, q1]
          rfl
        · unfold f_X7_adds
          rw [m_plc, m_wgt]
          simp only [Option.bind_some, bI_decn]
          rw [if_neg P1, if_neg P2, hb1, Option.bind_some, w1]
          rfl
set_option maxHeartbeats 4000000 in
set_option maxRecDepth 100000 in
theorem op_moves (x1 : Int32) (kb : Int32) (kn : Int32) (kf : Int32) (rK : Int32) (rf : Nat → Int32) (vo : Int32) (vd : Int32) (vs : Nat → Int32) (tl : Int32) (tb : Nat → Int32) (Ms : Int32) (Mb : Int32) (Mr : Nat → Int32) (Mp : Nat → Int32) (Mf : Nat → Int32) (Mt : Nat → Int32) (sf : Nat → Int32) (sg : Nat → Int64) (spd : Int32) (spn : Nat → Int64) (Ma : Nat → Int32) (Mm : Nat → Int64) (hrel : Rel kb kn kf rK rf vo vd vs tl tb Ms Mb Mr Mp Mf Mt) : ∃ rx rm, f_X6_moves x1 kb kn kf rK rf sf sg spd spn vo vd vs = some rx ∧ f_X7_moves x1 Ms Mr Ma Mp Mf Mm = some rm ∧ rx.1 = rm.1 ∧ Rel rx.2.1 rx.2.2.1 rx.2.2.2.1 rx.2.2.2.2.1 rx.2.2.2.2.2.1 rx.2.2.2.2.2.2.2.2.2.2.2.1 rx.2.2.2.2.2.2.2.2.2.2.2.2.1 rx.2.2.2.2.2.2.2.2.2.2.2.2.2 tl tb rm.2.1 Mb rm.2.2.1 rm.2.2.2.2.1 rm.2.2.2.2.2.1 Mt := by
  have hrel0 := hrel
  obtain ⟨⟨K, a, hk, rfl, hf, hm, hm7⟩, hc, hs, ht⟩ := hrel
  have hK1 := hk.1
  have hK7 := hk.2.1
  obtain ⟨g, hg1, hg2⟩ := x_copy hk hf sf
  have hgK : ∀ i, i < K → g i = a i := fun i hi => hg2 i (by omega)
  by_cases P1 : x1 < -9 ∨ 9 < x1
  · refine ⟨(-1000001, kb + 1, kn, kf, nI K, rf, nI K, g, sg, spd, spn, vo, vd, vs), (-1000001, Ms, Mr, Ma, Mp, upd Mf 0 (Mf 0 + 1), Mm), ?_, ?_, rfl, rel_bad hrel0⟩
    · unfold f_X6_moves
      rw [hg1, Option.bind_some, x_mov_bad P1]
      rfl
    · unfold f_X7_moves
      rw [m_plc]
      simp only [Option.bind_some, bI_decn]
      rw [if_pos P1]
      rfl
  · obtain ⟨b, hb1, hb2⟩ := m_bring1 Mr Ma
    obtain ⟨t1, t2⟩ := x_mov (sg := sg) hk hgK P1 spd spn
    obtain ⟨u1, u2⟩ := m_mov (Mm := Mm) hk hm hm7 x1
    by_cases hv : okV K (vMov a x1)
    · obtain ⟨g', sg', pd2, pn2, q1, q2⟩ := t1 hv
      obtain ⟨Mr', Mm', w1, w2, w3⟩ := u1 hv
      have hk2 := okRow_V hK1 hK7 hv
      obtain ⟨rf', vo', vd', vs', Ms', Mp', e1, e2, e3, e4⟩ := keep_rel (Mr := Mr) (Mx := b) (sf' := g') hk hf (fun j hj => by rw [hb2 j (by omega), hm j hj]) (by rw [hb2 7 (by omega), hm7]) hs hk2 q2
      refine ⟨(rowV K (vMov a x1) (K - 1), kb, kn, kf, nI K, rf', nI K, g', sg', pd2, pn2, vo', vd', vs'), (Mr' (K - 1), Ms', Mr', b, Mp', Mf, Mm'), ?_, ?_, (w2 (K - 1) (by omega)).symm, ⟨K, _, hk2, rfl, fun i hi => e3 i (by omega), w2, w3⟩, hc, e4, ht⟩
      · unfold f_X6_moves f_X3_size
        rw [hg1, Option.bind_some, q1, Option.bind_some, if_pos rfl, e1, Option.bind_some, Option.bind_some, k1, pk_sub hK1, x_at hk2 (fun i hi => e3 i (by omega)) (by omega)]
        rfl
      · unfold f_X7_moves
        rw [m_plc]
        simp only [Option.bind_some, bI_decn]
        rw [if_neg P1, hb1, Option.bind_some, w1, Option.bind_some, if_neg bI_tne, m_note_v1, e2, Option.bind_some, m_last hK1 hK7 w3]
        rfl
    · obtain ⟨sg', pd2, pn2, q1⟩ := t2 hv
      obtain ⟨Mm', w1⟩ := u2 hv
      refine ⟨(-1000002, kb, kn + 1, kf, nI K, rf, nI K, g, sg', pd2, pn2, vo, vd, vs), (-1000002, Ms, Mr, b, Mp, upd Mf 1 (Mf 1 + 1), Mm'), ?_, ?_, rfl, rel_no hrel0⟩
      · unfold f_X6_moves
        rw [hg1, Option.bind_some, q1]
        rfl
      · unfold f_X7_moves
        rw [m_plc]
        simp only [Option.bind_some, bI_decn]
        rw [if_neg P1, hb1, Option.bind_some, w1]
        rfl
set_option maxHeartbeats 4000000 in
set_option maxRecDepth 100000 in
theorem op_stretches (x1 : Int32) (kb : Int32) (kn : Int32) (kf : Int32) (rK : Int32) (rf : Nat → Int32) (vo : Int32) (vd : Int32) (vs : Nat → Int32) (tl : Int32) (tb : Nat → Int32) (Ms : Int32) (Mb : Int32) (Mr : Nat → Int32) (Mp : Nat → Int32) (Mf : Nat → Int32) (Mt : Nat → Int32) (sf : Nat → Int32) (sg : Nat → Int64) (Ma : Nat → Int32) (Mm : Nat → Int64) (hrel : Rel kb kn kf rK rf vo vd vs tl tb Ms Mb Mr Mp Mf Mt) : ∃ rx rm, f_X6_stretches x1 kb kn kf rK rf sf sg vo vd vs = some rx ∧ f_X7_stretches x1 Ms Mr Ma Mp Mf Mm = some rm ∧ rx.1 = rm.1 ∧ Rel rx.2.1 rx.2.2.1 rx.2.2.2.1 rx.2.2.2.2.1 rx.2.2.2.2.2.1 rx.2.2.2.2.2.2.2.2.2.1 rx.2.2.2.2.2.2.2.2.2.2.1 rx.2.2.2.2.2.2.2.2.2.2.2 tl tb rm.2.1 Mb rm.2.2.1 rm.2.2.2.2.1 rm.2.2.2.2.2.1 Mt := by
  have hrel0 := hrel
  obtain ⟨⟨K, a, hk, rfl, hf, hm, hm7⟩, hc, hs, ht⟩ := hrel
  have hK1 := hk.1
  have hK7 := hk.2.1
  obtain ⟨g, hg1, hg2⟩ := x_copy hk hf sf
  have hgK : ∀ i, i < K → g i = a i := fun i hi => hg2 i (by omega)
  by_cases P1 : x1 < -9 ∨ 9 < x1
  · refine ⟨(-1000001, kb + 1, kn, kf, nI K, rf, nI K, g, sg, vo, vd, vs), (-1000001, Ms, Mr, Ma, Mp, upd Mf 0 (Mf 0 + 1), Mm), ?_, ?_, rfl, rel_bad hrel0⟩
    · unfold f_X6_stretches
      rw [hg1, Option.bind_some, x_str_bad P1]
      rfl
    · unfold f_X7_stretches
      rw [m_plc]
      simp only [Option.bind_some, bI_decn]
      rw [if_pos P1]
      rfl
  · obtain ⟨b, hb1, hb2⟩ := m_bring1 Mr Ma
    obtain ⟨t1, t2⟩ := x_str (sg := sg) hk hgK P1
    obtain ⟨u1, u2⟩ := m_str (Mm := Mm) hk hm hm7 x1
    by_cases hv : okV K (vStr a x1)
    · obtain ⟨g', sg', q1, q2⟩ := t1 hv
      obtain ⟨Mr', Mm', w1, w2, w3⟩ := u1 hv
      have hk2 := okRow_V hK1 hK7 hv
      obtain ⟨rf', vo', vd', vs', Ms', Mp', e1, e2, e3, e4⟩ := keep_rel (Mr := Mr) (Mx := b) (sf' := g') hk hf (fun j hj => by rw [hb2 j (by omega), hm j hj]) (by rw [hb2 7 (by omega), hm7]) hs hk2 q2
      refine ⟨(rowV K (vStr a x1) (K - 1), kb, kn, kf, nI K, rf', nI K, g', sg', vo', vd', vs'), (Mr' (K - 1), Ms', Mr', b, Mp', Mf, Mm'), ?_, ?_, (w2 (K - 1) (by omega)).symm, ⟨K, _, hk2, rfl, fun i hi => e3 i (by omega), w2, w3⟩, hc, e4, ht⟩
      · unfold f_X6_stretches f_X3_size
        rw [hg1, Option.bind_some, q1, Option.bind_some, if_pos rfl, e1, Option.bind_some, Option.bind_some, k1, pk_sub hK1, x_at hk2 (fun i hi => e3 i (by omega)) (by omega)]
        rfl
      · unfold f_X7_stretches
        rw [m_plc]
        simp only [Option.bind_some, bI_decn]
        rw [if_neg P1, hb1, Option.bind_some, w1, Option.bind_some, if_neg bI_tne, m_note_v1, e2, Option.bind_some, m_last hK1 hK7 w3]
        rfl
    · obtain ⟨sg', q1⟩ := t2 hv
      obtain ⟨Mm', w1⟩ := u2 hv
      refine ⟨(-1000002, kb, kn + 1, kf, nI K, rf, nI K, g, sg', vo, vd, vs), (-1000002, Ms, Mr, b, Mp, upd Mf 1 (Mf 1 + 1), Mm'), ?_, ?_, rfl, rel_no hrel0⟩
      · unfold f_X6_stretches
        rw [hg1, Option.bind_some, q1]
        rfl
      · unfold f_X7_stretches
        rw [m_plc]
        simp only [Option.bind_some, bI_decn]
        rw [if_neg P1, hb1, Option.bind_some, w1]
        rfl
set_option maxHeartbeats 4000000 in
set_option maxRecDepth 100000 in
theorem op_weighs (x1 : Int32) (kb : Int32) (kn : Int32) (kf : Int32) (rK : Int32) (rf : Nat → Int32) (vo : Int32) (vd : Int32) (vs : Nat → Int32) (tl : Int32) (tb : Nat → Int32) (Ms : Int32) (Mb : Int32) (Mr : Nat → Int32) (Mp : Nat → Int32) (Mf : Nat → Int32) (Mt : Nat → Int32) (sf : Nat → Int32) (sg : Nat → Int64) (Ma : Nat → Int32) (Mm : Nat → Int64) (hrel : Rel kb kn kf rK rf vo vd vs tl tb Ms Mb Mr Mp Mf Mt) : ∃ rx rm, f_X6_weighs x1 kb kn kf rK rf sf sg vo vd vs = some rx ∧ f_X7_weighs x1 Ms Mr Ma Mp Mf Mm = some rm ∧ rx.1 = rm.1 ∧ Rel rx.2.1 rx.2.2.1 rx.2.2.2.1 rx.2.2.2.2.1 rx.2.2.2.2.2.1 rx.2.2.2.2.2.2.2.2.2.1 rx.2.2.2.2.2.2.2.2.2.2.1 rx.2.2.2.2.2.2.2.2.2.2.2 tl tb rm.2.1 Mb rm.2.2.1 rm.2.2.2.2.1 rm.2.2.2.2.2.1 Mt := by
  have hrel0 := hrel
  obtain ⟨⟨K, a, hk, rfl, hf, hm, hm7⟩, hc, hs, ht⟩ := hrel
  have hK1 := hk.1
  have hK7 := hk.2.1
  obtain ⟨g, hg1, hg2⟩ := x_copy hk hf sf
  have hgK : ∀ i, i < K → g i = a i := fun i hi => hg2 i (by omega)
  by_cases P1 : x1 < -9 ∨ 9 < x1
  · refine ⟨(-1000001, kb + 1, kn, kf, nI K, rf, nI K, g, sg, vo, vd, vs), (-1000001, Ms, Mr, Ma, Mp, upd Mf 0 (Mf 0 + 1), Mm), ?_, ?_, rfl, rel_bad hrel0⟩
    · unfold f_X6_weighs
      rw [hg1, Option.bind_some, x_wei_bad P1]
      rfl
    · unfold f_X7_weighs
      rw [m_plc]
      simp only [Option.bind_some, bI_decn]
      rw [if_pos P1]
      rfl
  · obtain ⟨b, hb1, hb2⟩ := m_bring1 Mr Ma
    by_cases hK : K = 1
    · subst hK
      refine ⟨(-1000002, kb, kn + 1, kf, nI 1, rf, nI 1, g, sg, vo, vd, vs), (-1000002, Ms, Mr, b, Mp, upd Mf 1 (Mf 1 + 1), Mm), ?_, ?_, rfl, rel_no hrel0⟩
      · unfold f_X6_weighs
        rw [hg1, Option.bind_some, x_wei1 P1]
        rfl
      · unfold f_X7_weighs
        rw [m_plc]
        simp only [Option.bind_some, bI_decn]
        rw [if_neg P1, hb1, Option.bind_some, m_wei1 hm7]
        rfl
    obtain ⟨t1, t2⟩ := x_wei (sg := sg) hk (by omega) hgK P1
    obtain ⟨u1, u2⟩ := m_wei (Mm := Mm) hk (by omega) hm hm7 x1
    by_cases hv : okV (K - 1) (vWei a x1)
    · obtain ⟨g', sg', q1, q2⟩ := t1 hv
      obtain ⟨Mr', Mm', w1, w2, w3⟩ := u1 hv
      have hk2 := okRow_V (by omega : 1 ≤ K - 1) (by omega) hv
      obtain ⟨rf', vo', vd', vs', Ms', Mp', e1, e2, e3, e4⟩ := keep_rel (Mr := Mr) (Mx := b) (sf' := g') hk hf (fun j hj => by rw [hb2 j (by omega), hm j hj]) (by rw [hb2 7 (by omega), hm7]) hs hk2 q2
      refine ⟨(rowV (K - 1) (vWei a x1) 0, kb, kn, kf, nI (K - 1), rf', nI (K - 1), g', sg', vo', vd', vs'), (Mr' 0, Ms', Mr', b, Mp', Mf, Mm'), ?_, ?_, (w2 0 (by omega)).symm, ⟨K - 1, _, hk2, rfl, fun i hi => e3 i (by omega), w2, w3⟩, hc, e4, ht⟩
      · unfold f_X6_weighs
        rw [hg1, Option.bind_some, q1, Option.bind_some, if_pos rfl, e1, Option.bind_some, k0, x_at hk2 (fun i hi => e3 i (by omega)) (by omega)]
        rfl
      · unfold f_X7_weighs
        rw [m_plc]
        simp only [Option.bind_some, bI_decn]
        rw [if_neg P1, hb1, Option.bind_some, w1, Option.bind_some, if_neg bI_tne, m_note_v1, e2]
        rfl
    · obtain ⟨sg', q1⟩ := t2 hv
      obtain ⟨Mm', w1⟩ := u2 hv
      refine ⟨(-1000002, kb, kn + 1, kf, nI K, rf, nI K, g, sg', vo, vd, vs), (-1000002, Ms, Mr, b, Mp, upd Mf 1 (Mf 1 + 1), Mm'), ?_, ?_, rfl, rel_no hrel0⟩
      · unfold f_X6_weighs
        rw [hg1, Option.bind_some, q1]
        rfl
      · unfold f_X7_weighs
        rw [m_plc]
        simp only [Option.bind_some, bI_decn]
        rw [if_neg P1, hb1, Option.bind_some, w1]
        rfl
