theorem x_txt {L : Nat} {tb : Nat → Int32} (hL : L ≤ 100) {k : Nat} (hk : k < L) : f_X5_at (nI k) (nI L) tb = some (tb k) := by
  unfold f_X5_at
  rw [if_neg (nI_pos (by omega)), if_neg (nI_ge hk (by omega)), k100, if_pos (nI_lt (by omega) (by omega)), gif (by omega) (by omega), nI_cl (by omega)]
/-- the text is read to its end: the same fault, or the same orders -/
theorem scan_read {L : Nat} (hL : L ≤ 100) {tb Mt : Nat → Int32} (htb : ∀ j, j < L → tb j = Mt j) : ∀ (n k : Nat) (eo et ed : Int32) (em : Bool) (ef ez : Int32) (ek es en : Nat → Int32) (Mq ML Mg MF : Int32) (MW MI : Bool) (MA : Int32) (Ml Mo Mn : Nat → Int32), k ≤ L → L - k < n → Sim k eo et ed em ef ez ek es en Mq ML Mg MF MW MI MA Ml Mo Mn →
    ∃ rx rm, f_X2_scan_L21 n (nI k) eo et ed em ef ez ek es en (nI L) tb = some rx ∧ f_X7_readText_L22 n (nI k) (nI L) Mq ML Mg MF MW MI MA Mt Ml Mo Mn = some rm ∧ rx.2.2.2.2.2.2.2.2.1 0 = 0 ∧ ((∃ j, j ≤ 100 ∧ rx.1 = nI j ∧ rm.1 = nI j) ∨ (rx.1 = -1 ∧ rm.1 = -1000000 ∧ ∃ q t S, q ≤ 50 ∧ t ≤ 100 ∧ rx.2.1 = nI q ∧ rx.2.2.1 = nI t ∧ rm.2.1 = nI q ∧ SimC q t S rx.2.2.2.2.2.2.2.1 rx.2.2.2.2.2.2.2.2.1 rx.2.2.2.2.2.2.2.2.2 rm.2.2.2.2.2.2.2.2.1 rm.2.2.2.2.2.2.2.2.2.1 rm.2.2.2.2.2.2.2.2.2.2)) := by
  intro n
  induction n with
  | zero => intro k eo et ed em ef ez ek es en Mq ML Mg MF MW MI MA Ml Mo Mn _ hm; omega
  | succ n ih =>
    intro k eo et ed em ef ez ek es en Mq ML Mg MF MW MI MA Ml Mo Mn hk hm hS
    rw [f_X2_scan_L21, f_X7_readText_L22]
    unfold f_X5_length
    simp only [Option.bind_some]
    by_cases hkL : k = L
    · subst hkL
      have hS0 := hS
      obtain ⟨q, t, S, rfl, rfl, rfl, htk, rfl, hC, hS0, hd⟩ := hS
      have hes := simc_es0 hC hS0
      rw [if_pos (nI_le (by omega) (by omega)), if_pos (nI_le (by omega) (by omega))]
      rcases hd with ⟨rfl, h2q, -⟩ | ⟨hl, -⟩
      · rw [if_pos rfl, if_pos rfl]
        by_cases hq : q = 0
        · subst hq
          rw [if_pos (show nI 0 = 0 from rfl), if_pos (show nI 0 = 0 from rfl)]
          exact ⟨_, _, rfl, rfl, hes, Or.inl ⟨k, by omega, rfl, rfl⟩⟩
        · rw [if_neg (nI_ne0 (by omega) (by omega)), if_neg (nI_ne0 (by omega) (by omega))]
          exact ⟨_, _, rfl, rfl, hes, Or.inr ⟨rfl, rfl, q, t, S, by omega, by omega, rfl, rfl, rfl, hC⟩⟩
      · rw [if_neg (okL_ne hl).1, if_neg (okL_ne hl).1]
        exact ⟨_, _, rfl, rfl, hes, Or.inl ⟨k, by omega, rfl, rfl⟩⟩
    · rw [if_neg (nI_ge (by omega) (by omega)), if_neg (nI_ge (by omega) (by omega)), x_txt hL (by omega), Option.bind_some, gif (by omega) (by omega), nI_cl (by omega), htb k (by omega)]
      obtain ⟨rx, rm, h1, h2, h3, h4⟩ := sim_step (k := k) (by omega) (Mt k) hS
      rw [h1, h2, Option.bind_some, Option.bind_some]
      rcases h4 with ⟨a1, a2⟩ | ⟨a1, a2, a3⟩
      · rw [a1, a2, if_pos bI_f, if_pos bI_f]
        exact ⟨_, _, rfl, rfl, h3, Or.inl ⟨k, by omega, rfl, rfl⟩⟩
      · rw [a1, a2, if_neg bI_tne, if_neg bI_tne, k1, nI_add]
        exact ih (k + 1) _ _ _ _ _ _ _ _ _ _ _ _ _ _ _ _ _ _ _ (by omega) (by omega) a3
theorem sim_start {ek es en Ml Mo Mn : Nat → Int32} {Mg MF : Int32} {MI : Bool} (h : es 0 = 0) : Sim 0 0 0 0 false 0 0 ek es en 0 0 Mg MF false MI 0 Ml Mo Mn :=
  ⟨0, 0, fun _ => 0, rfl, rfl, rfl, by omega, rfl, ⟨Nat.le_refl 0, h, fun j hj => absurd hj (Nat.not_lt_zero j), fun i hi => absurd hi (Nat.not_lt_zero i)⟩, rfl, Or.inl ⟨rfl, by omega, rfl, rfl, rfl, rfl, rfl, rfl⟩⟩
/-! the orders are done -/
theorem x_num {t i : Nat} {en : Nat → Int32} (ht : t ≤ 100) (hi : i < t) : f_X2_number (nI i) (nI t) en = some (en i) := by
  unfold f_X2_number
  rw [if_neg (nI_pos (by omega)), if_neg (nI_ge hi (by omega)), k100, if_pos (nI_lt (by omega) (by omega)), gif (by omega) (by omega), nI_cl (by omega)]
theorem x_repL {t s k : Nat} {en : Nat → Int32} (ht : t ≤ 100) (hk : k ≤ 7) (hs : s + k ≤ t) : ∀ (n j : Nat) (f : Nat → Int64), j ≤ k → k - j < n → ∃ g, f_X3_replace_L16 n (nI s) (nI k) (nI j) f (nI t) en = some g ∧ ∀ i, g i = if j ≤ i ∧ i < k then (en (s + i)).toInt64 else f i := by
  intro n
  induction n with
  | zero => intro j f _ hm; omega
  | succ n ih =>
    intro j f hj hm
    rw [f_X3_replace_L16]
    by_cases h8 : j = k
    · subst h8
      rw [if_pos (nI_le (by omega) (by omega))]
      exact ⟨f, rfl, fun i => by rw [if_neg (by omega)]⟩
    · rw [if_neg (nI_ge (by omega : j < k) (by omega)), nI_add, x_num ht (by omega), Option.bind_some, gif (by omega) (by omega), nI_cl (by omega), k1, nI_add]
      obtain ⟨g, h1, h2⟩ := ih (j + 1) (vp_updL f j (en (s + j)).toInt64) (by omega) (by omega)
      refine ⟨g, h1, fun i => ?_⟩
      rw [h2 i]
      by_cases hi : i = j
      · subst hi; rw [if_neg (by omega), updL_s, if_pos (by omega)]
      · by_cases hi2 : j ≤ i ∧ i < k
        · rw [if_pos (by omega), if_pos hi2]
        · rw [if_neg (by omega), if_neg hi2, updL_n hi]
theorem m_repL {s k : Nat} {Mn : Nat → Int32} (hk : k ≤ 7) (hs : s + k ≤ 100) : ∀ (n j : Nat) (f : Nat → Int64), j ≤ k → k - j < n → ∃ g, f_X7_becomeRow_L2 n (nI s) (nI k) (nI j) Mn f = some g ∧ ∀ i, g i = if j ≤ i ∧ i < k then (Mn (s + i)).toInt64 else f i := by
  intro n
  induction n with
  | zero => intro j f _ hm; omega
  | succ n ih =>
    intro j f hj hm
    rw [f_X7_becomeRow_L2]
    by_cases h8 : j = k
    · subst h8
      rw [if_pos (nI_le (by omega) (by omega))]
      exact ⟨f, rfl, fun i => by rw [if_neg (by omega)]⟩
    · rw [if_neg (nI_ge (by omega : j < k) (by omega)), nI_add, gif (by omega) (by omega), gif (by omega) (by omega), nI_cl (by omega), nI_cl (by omega), k1, nI_add]
      obtain ⟨g, h1, h2⟩ := ih (j + 1) (vp_updL f j (Mn (s + j)).toInt64) (by omega) (by omega)
      refine ⟨g, h1, fun i => ?_⟩
      rw [h2 i]
      by_cases hi : i = j
      · subst hi; rw [if_neg (by omega), updL_s, if_pos (by omega)]
      · by_cases hi2 : j ≤ i ∧ i < k
        · rw [if_pos (by omega), if_pos hi2]
        · rw [if_neg (by omega), if_neg hi2, updL_n hi]
theorem ne_bad : ¬ (-1000001 : Int32) = 0 := by decide
theorem ne_no : ¬ (-1000002 : Int32) = 0 := by decide
theorem ne_full : ¬ (-1000003 : Int32) = 0 := by decide
theorem x_app_bad {v : Int32} {g : Nat → Int32} (P : v < -500 ∨ 500 < v) (rK : Int32) : f_X3_append v rK g = some (-1000001, rK, g) := by
  unfold f_X3_append f_X3_isNoMoment
  simp only [x_out, Option.bind_some, bI_dec]
  rw [if_neg (fun h => h P)]
theorem x_app_full {v : Int32} {g : Nat → Int32} (P : ¬ (v < -500 ∨ 500 < v)) : f_X3_append v (nI 7) g = some (-1000003, nI 7, g) := by
  unfold f_X3_append f_X3_isNoMoment
  simp only [x_out, Option.bind_some, bI_dec]
  rw [if_pos P, k7, if_neg (nI_nlt (by omega) (by omega))]
theorem x_app {v : Int32} {g : Nat → Int32} {K : Nat} (P : ¬ (v < -500 ∨ 500 < v)) (hK : K < 7) : f_X3_append v (nI K) g = some (0, nI (K + 1), upd g K v) := by
  unfold f_X3_append f_X3_isNoMoment
  simp only [x_out, Option.bind_some, bI_dec]
  rw [if_pos P, k7, if_pos (nI_lt (by omega) (by omega)), gif (by omega) (by omega), nI_cl (by omega), k1, nI_add]
theorem m_put {v : Int32} {Mr : Nat → Int32} {K : Nat} (hm7 : Mr 7 = nI K) (hK : K < 7) : f_X7_put v Mr = some (upd (upd Mr K v) 7 (nI (K + 1))) := by
  unfold f_X7_put
  rw [if_neg (by decide), show (7 : Int32).toNatClampNeg = 7 from rfl, hm7, gif (by omega) (by omega), if_neg (by decide), if_neg (by decide), nI_cl (by omega), upd_n (by omega), hm7, k1, nI_add]
theorem x_drop1 : f_X3_drop (nI 1) = some (-1000002, nI 1) := by
  unfold f_X3_drop
  rw [k1, if_neg (nI_nlt (by omega) (by omega))]
theorem x_drop {K : Nat} (h : 1 < K) (h7 : K ≤ 7) : f_X3_drop (nI K) = some (0, nI (K - 1)) := by
  unfold f_X3_drop
  rw [k1, if_pos (nI_lt (by omega) (by omega)), pk_sub (by omega)]
theorem m_cut {Mr : Nat → Int32} {K : Nat} (hm7 : Mr 7 = nI K) (h : 1 < K) (h7 : K ≤ 7) : f_X7_cut Mr = some (upd (upd Mr 7 (nI (K - 1))) (K - 1) 0) := by
  unfold f_X7_cut
  rw [if_neg (by decide), show (7 : Int32).toNatClampNeg = 7 from rfl, hm7, k1, pk_sub (by omega), upd_s, if_neg (by decide), if_neg (by decide), gif (by omega) (by omega), nI_cl (by omega)]
theorem okRow_app {K : Nat} {a : Nat → Int32} {v : Int32} (hk : okRow K a) (hK : K < 7) (P : ¬ (v < -500 ∨ 500 < v)) : okRow (K + 1) (fun i => if i = K then v else a i) := by
  obtain ⟨h1, h2, h3, h4⟩ := hk
  refine ⟨by omega, by omega, fun i hi => ?_, fun i hi => ?_⟩
  · by_cases e : i = K
    · simp only [e, if_true]
      rw [Int32.lt_iff_toInt_lt, Int32.lt_iff_toInt_lt, show (-500 : Int32).toInt = -500 by decide, show (500 : Int32).toInt = 500 by decide] at P
      omega
    · simp only [e, if_false]; exact h3 i (by omega)
  · simp only [show ¬ i = K by omega, if_false]; exact h4 i (by omega)
theorem okRow_drop {K : Nat} {a : Nat → Int32} (hk : okRow K a) (hK : 1 < K) : okRow (K - 1) (fun i => if i = K - 1 then 0 else a i) := by
  obtain ⟨h1, h2, h3, h4⟩ := hk
  refine ⟨by omega, by omega, fun i hi => ?_, fun i hi => ?_⟩
  · simp only [show ¬ i = K - 1 by omega, if_false]; exact h3 i (by omega)
  · by_cases e : i = K - 1
    · simp only [e, if_true]
    · simp only [e, if_false]; exact h4 i (by omega)
def RowOK (x : Int32) (b : Bool) (rK : Int32) (rf Mr : Nat → Int32) : Prop := (¬ x = 0 ∧ b = false) ∨ (x = 0 ∧ b = true ∧ ∃ K a, RelRow K a rK rf Mr)
section ORD
variable {K : Nat} {a rf Mr : Nat → Int32} {rg Mm : Nat → Int64}
theorem o_app (hk : okRow K a) (hf : ∀ j, j < K → rf j = a j) (hm : ∀ j, j < 7 → Mr j = a j) (hm7 : Mr 7 = nI K) (v : Int32) : ∃ rx rm, f_X3_append v (nI K) rf = some rx ∧ ((f_X7_in v.toInt64 (-500 : Int64) (500 : Int64)).bind fun q14 => if (bI q14) = 0 then (some (false, Mr, Mm)) else (if (7 : Int32) < 0 ∨ 8 ≤ (7 : Int32).toNatClampNeg then none else if (7 : Int32) ≤ (Mr (7 : Int32).toNatClampNeg) then (some (false, Mr, Mm)) else ((f_X7_put v Mr).bind fun q15 => some (true, q15, Mm)))) = some rm ∧ RowOK rx.1 rm.1 rx.2.1 rx.2.2 rm.2.1 := by
  have hK7 := hk.2.1
  rw [m_inb (a := -500) (b := 500) (by decide) (by decide)]
  simp only [Option.bind_some, bI_decn]
  by_cases P : v < -500 ∨ 500 < v
  · rw [if_pos P, x_app_bad P]
    exact ⟨_, _, rfl, rfl, Or.inl ⟨by first | exact ne_bad | exact ne_no | exact ne_full, rfl⟩⟩
  · rw [if_neg P, if_neg (by decide), show (7 : Int32).toNatClampNeg = 7 from rfl, hm7]
    by_cases h7 : K = 7
    · subst h7
      rw [if_pos (by decide), x_app_full P]
      exact ⟨_, _, rfl, rfl, Or.inl ⟨by first | exact ne_bad | exact ne_no | exact ne_full, rfl⟩⟩
    · rw [k7, if_neg (nI_ge (by omega) (by omega)), x_app P (by omega), m_put hm7 (by omega), Option.bind_some]
      refine ⟨_, _, rfl, rfl, Or.inr ⟨rfl, rfl, K + 1, _, okRow_app hk (by omega) P, rfl, fun i hi => ?_, fun i hi => ?_, upd_s (upd Mr K v) 7 (nI (K + 1))⟩⟩
      · show upd rf K v i = _
        by_cases e : i = K
        · subst e; rw [upd_s, if_pos rfl]
        · rw [upd_n e, if_neg e, hf i (by omega)]
      · show upd (upd Mr K v) 7 (nI (K + 1)) i = _
        rw [upd_n (by omega)]
        by_cases e : i = K
        · subst e; rw [upd_s, if_pos rfl]
        · rw [upd_n e, if_neg e, hm i hi]
theorem o_drop (hk : okRow K a) (hf : ∀ j, j < K → rf j = a j) (hm : ∀ j, j < 7 → Mr j = a j) (hm7 : Mr 7 = nI K) : ∃ rx rm, f_X3_drop (nI K) = some rx ∧ (if (7 : Int32) < 0 ∨ 8 ≤ (7 : Int32).toNatClampNeg then none else if (Mr (7 : Int32).toNatClampNeg) ≤ nI 1 then (some (false, Mr, Mm)) else ((f_X7_cut Mr).bind fun q13 => some (true, q13, Mm))) = some rm ∧ RowOK rx.1 rm.1 rx.2 rf rm.2.1 := by
  have hK1 := hk.1
  have hK7 := hk.2.1
  rw [if_neg (by decide), show (7 : Int32).toNatClampNeg = 7 from rfl, hm7]
  by_cases h1 : K = 1
  · subst h1
    rw [if_pos (by decide), x_drop1]
    exact ⟨_, _, rfl, rfl, Or.inl ⟨by first | exact ne_bad | exact ne_no | exact ne_full, rfl⟩⟩
  · rw [if_neg (nI_ge (by omega) (by omega)), x_drop (by omega) hK7, m_cut hm7 (by omega) hK7, Option.bind_some]
    refine ⟨_, _, rfl, rfl, Or.inr ⟨rfl, rfl, K - 1, _, okRow_drop hk (by omega), rfl, fun i hi => ?_, fun i hi => ?_, ?_⟩⟩
    · rw [if_neg (by omega), hf i (by omega)]
    · show upd (upd Mr 7 (nI (K - 1))) (K - 1) 0 i = _
      by_cases e : i = K - 1
      · subst e; rw [upd_s, if_pos rfl]
      · rw [upd_n e, upd_n (by omega), if_neg e, hm i hi]
    · show upd (upd Mr 7 (nI (K - 1))) (K - 1) 0 7 = _
      rw [upd_n (by omega), upd_s]
theorem o_rep (rK : Int32) (Mr : Nat → Int32) {s k t : Nat} {en Mn : Nat → Int32} (ht : t ≤ 100) (h1 : 1 ≤ k) (hk : k ≤ 7) (hs : s + k ≤ t) (he : ∀ j, j < t → en j = Mn j) : ∃ rx rm, f_X3_replace (nI s) (nI k) rK rf rg (nI t) en = some rx ∧ f_X7_becomeRow (nI s) (nI k) Mr Mn Mm = some rm ∧ RowOK rx.1 rm.1 rx.2.1 rx.2.2.1 rm.2.1 := by
  obtain ⟨f1, g1, g2⟩ := x_repL ht hk hs (en := en) 200 0 rg (by omega) (by omega)
  obtain ⟨f2, g3, g4⟩ := m_repL (Mn := Mn) hk (show s + k ≤ 100 by omega) 200 0 Mm (by omega) (by omega)
  obtain ⟨t1, t2⟩ := x_take h1 hk (fun j => (Mn (s + j)).toInt64) (rg := f1) (fun j hj => by rw [g2 j, if_pos (by omega), he _ (by omega)]) rK rf
  obtain ⟨u1, u2⟩ := m_take hk (fun j => (Mn (s + j)).toInt64) (Mm := f2) (fun j hj => by rw [g4 j, if_pos (by omega)]) Mr
  unfold f_X3_replace f_X7_becomeRow
  rw [x_out]
  simp only [Option.bind_some, bI_dec]
  rw [k1, k7, if_pos (nI_out (a := 1) (b := 7) (by omega) (by omega) (by omega) (by omega)), k0, g1, g3, Option.bind_some, Option.bind_some]
  by_cases hv : okV k (fun j => (Mn (s + j)).toInt64)
  · obtain ⟨g', q1, q2⟩ := t1 hv
    obtain ⟨g'', w1, w2, w3⟩ := u1 hv
    rw [q1, w1, Option.bind_some, Option.bind_some]
    exact ⟨_, _, rfl, rfl, Or.inr ⟨rfl, rfl, k, _, okRow_V h1 hk hv, rfl, fun i hi => by rw [show rowV k (fun j => (Mn (s + j)).toInt64) i = _ from if_pos hi]; exact q2 i hi, w2, w3⟩⟩
  · obtain ⟨g'', w1, w2⟩ := u2 hv
    rw [t2 hv, w1, Option.bind_some, Option.bind_some]
    exact ⟨_, _, rfl, rfl, Or.inl ⟨by first | exact ne_bad | exact ne_no | exact ne_full, rfl⟩⟩
theorem o_add (hk : okRow K a) (hf : ∀ j, j < K → rf j = a j) (hm : ∀ j, j < 7 → Mr j = a j) (hm7 : Mr 7 = nI K) (v w : Int32) : ∃ rx rm, f_X3_addPlace v w (nI K) rf rg = some rx ∧ ((f_X7_isPlace v).bind fun q17 => if (bI q17) = 0 then (some (false, Mr, Mm)) else ((f_X7_isWeight w).bind fun q18 => if (bI q18) = 0 then (some (false, Mr, Mm)) else ((f_X7_addPlace v w Mr Mm).bind fun q19 => if (bI q19.1) = 0 then (some (false, q19.2.1, q19.2.2)) else (some (true, q19.2.1, q19.2.2))))) = some rm ∧ RowOK rx.1 rm.1 rx.2.1 rx.2.2.1 rm.2.1 := by
  rw [m_plc, m_wgt]
  simp only [Option.bind_some, bI_decn]
  by_cases P1 : v < -9 ∨ 9 < v
  · rw [if_pos P1, x_add_bad (Or.inl P1)]
    exact ⟨_, _, rfl, rfl, Or.inl ⟨by first | exact ne_bad | exact ne_no | exact ne_full, rfl⟩⟩
  · rw [if_neg P1]
    by_cases P2 : w < -99 ∨ 99 < w
    · rw [if_pos P2, x_add_bad (Or.inr P2)]
      exact ⟨_, _, rfl, rfl, Or.inl ⟨by first | exact ne_bad | exact ne_no | exact ne_full, rfl⟩⟩
    · rw [if_neg P2]
      obtain ⟨t1, t2⟩ := x_add (sg := rg) hk hf P1 P2
      obtain ⟨u1, u2⟩ := m_add (Mm := Mm) hk hm hm7 v w
      by_cases hv : okV K (vAdd a v w)
      · obtain ⟨g', sg', q1, q2⟩ := t1 hv
        obtain ⟨Mr', Mm', w1, w2, w3⟩ := u1 hv
        rw [q1, w1, Option.bind_some, if_neg bI_tne]
        exact ⟨_, _, rfl, rfl, Or.inr ⟨rfl, rfl, K, _, okRow_V hk.1 hk.2.1 hv, rfl, q2, w2, w3⟩⟩
      · obtain ⟨sg', q1⟩ := t2 hv
        obtain ⟨Mm', w1⟩ := u2 hv
        rw [q1, w1, Option.bind_some, if_pos bI_f]
        exact ⟨_, _, rfl, rfl, Or.inl ⟨by first | exact ne_bad | exact ne_no | exact ne_full, rfl⟩⟩
theorem o_str (hk : okRow K a) (hf : ∀ j, j < K → rf j = a j) (hm : ∀ j, j < 7 → Mr j = a j) (hm7 : Mr 7 = nI K) (v : Int32) : ∃ rx rm, f_X3_scale v (nI K) rf rg = some rx ∧ ((f_X7_isPlace v).bind fun q20 => if (bI q20) = 0 then (some (false, Mr, Mm)) else ((f_X7_stretch v Mr Mm).bind fun q21 => if (bI q21.1) = 0 then (some (false, q21.2.1, q21.2.2)) else (some (true, q21.2.1, q21.2.2)))) = some rm ∧ RowOK rx.1 rm.1 rx.2.1 rx.2.2.1 rm.2.1 := by
  rw [m_plc]
  simp only [Option.bind_some, bI_decn]
  by_cases P1 : v < -9 ∨ 9 < v
  · rw [if_pos P1, x_str_bad P1]
    exact ⟨_, _, rfl, rfl, Or.inl ⟨by first | exact ne_bad | exact ne_no | exact ne_full, rfl⟩⟩
  · rw [if_neg P1]
    obtain ⟨t1, t2⟩ := x_str (sg := rg) hk hf P1
    obtain ⟨u1, u2⟩ := m_str (Mm := Mm) hk hm hm7 v
    by_cases hv : okV K (vStr a v)
    · obtain ⟨g', sg', q1, q2⟩ := t1 hv
      obtain ⟨Mr', Mm', w1, w2, w3⟩ := u1 hv
      rw [q1, w1, Option.bind_some, if_neg bI_tne]
      exact ⟨_, _, rfl, rfl, Or.inr ⟨rfl, rfl, K, _, okRow_V hk.1 hk.2.1 hv, rfl, q2, w2, w3⟩⟩
    · obtain ⟨sg', q1⟩ := t2 hv
      obtain ⟨Mm', w1⟩ := u2 hv
      rw [q1, w1, Option.bind_some, if_pos bI_f]
      exact ⟨_, _, rfl, rfl, Or.inl ⟨by first | exact ne_bad | exact ne_no | exact ne_full, rfl⟩⟩
theorem o_mov (hk : okRow K a) (hf : ∀ j, j < K → rf j = a j) (hm : ∀ j, j < 7 → Mr j = a j) (hm7 : Mr 7 = nI K) (v pd : Int32) (pn : Nat → Int64) : ∃ rx rm, f_X3_shift v (nI K) rf rg pd pn = some rx ∧ ((f_X7_isPlace v).bind fun q20 => if (bI q20) = 0 then (some (false, Mr, Mm)) else ((f_X7_move v Mr Mm).bind fun q21 => if (bI q21.1) = 0 then (some (false, q21.2.1, q21.2.2)) else (some (true, q21.2.1, q21.2.2)))) = some rm ∧ RowOK rx.1 rm.1 rx.2.1 rx.2.2.1 rm.2.1 := by
  rw [m_plc]
  simp only [Option.bind_some, bI_decn]
  by_cases P1 : v < -9 ∨ 9 < v
  · rw [if_pos P1, x_mov_bad P1]
    exact ⟨_, _, rfl, rfl, Or.inl ⟨by first | exact ne_bad | exact ne_no | exact ne_full, rfl⟩⟩
  · rw [if_neg P1]
    obtain ⟨t1, t2⟩ := x_mov (sg := rg) hk hf P1 pd pn
    obtain ⟨u1, u2⟩ := m_mov (Mm := Mm) hk hm hm7 v
    by_cases hv : okV K (vMov a v)
    · obtain ⟨g', sg', pd', pn', q1, q2⟩ := t1 hv
      obtain ⟨Mr', Mm', w1, w2, w3⟩ := u1 hv
      rw [q1, w1, Option.bind_some, if_neg bI_tne]
      exact ⟨_, _, rfl, rfl, Or.inr ⟨rfl, rfl, K, _, okRow_V hk.1 hk.2.1 hv, rfl, q2, w2, w3⟩⟩
    · obtain ⟨sg', pd', pn', q1⟩ := t2 hv
      obtain ⟨Mm', w1⟩ := u2 hv
      rw [q1, w1, Option.bind_some, if_pos bI_f]
      exact ⟨_, _, rfl, rfl, Or.inl ⟨by first | exact ne_bad | exact ne_no | exact ne_full, rfl⟩⟩
theorem o_wei (hk : okRow K a) (hf : ∀ j, j < K → rf j = a j) (hm : ∀ j, j < 7 → Mr j = a j) (hm7 : Mr 7 = nI K) (v : Int32) : ∃ rx rm, f_X3_reweigh v (nI K) rf rg = some rx ∧ ((f_X7_isPlace v).bind fun q20 => if (bI q20) = 0 then (some (false, Mr, Mm)) else ((f_X7_weigh v Mr Mm).bind fun q21 => if (bI q21.1) = 0 then (some (false, q21.2.1, q21.2.2)) else (some (true, q21.2.1, q21.2.2)))) = some rm ∧ RowOK rx.1 rm.1 rx.2.1 rx.2.2.1 rm.2.1 := by
  have hK1 := hk.1
  have hK7 := hk.2.1
  rw [m_plc]
  simp only [Option.bind_some, bI_decn]
  by_cases P1 : v < -9 ∨ 9 < v
  · rw [if_pos P1, x_wei_bad P1]
    exact ⟨_, _, rfl, rfl, Or.inl ⟨by first | exact ne_bad | exact ne_no | exact ne_full, rfl⟩⟩
  · rw [if_neg P1]
    by_cases hK : K = 1
    · subst hK
      rw [x_wei1 P1, m_wei1 hm7, Option.bind_some, if_pos bI_f]
      exact ⟨_, _, rfl, rfl, Or.inl ⟨by first | exact ne_bad | exact ne_no | exact ne_full, rfl⟩⟩
    obtain ⟨t1, t2⟩ := x_wei (sg := rg) hk (by omega) hf P1
    obtain ⟨u1, u2⟩ := m_wei (Mm := Mm) hk (by omega) hm hm7 v
    by_cases hv : okV (K - 1) (vWei a v)
    · obtain ⟨g', sg', q1, q2⟩ := t1 hv
      obtain ⟨Mr', Mm', w1, w2, w3⟩ := u1 hv
      rw [q1, w1, Option.bind_some, if_neg bI_tne]
      exact ⟨_, _, rfl, rfl, Or.inr ⟨rfl, rfl, K - 1, _, okRow_V (by omega) (by omega) hv, rfl, q2, w2, w3⟩⟩
    · obtain ⟨sg', q1⟩ := t2 hv
      obtain ⟨Mm', w1⟩ := u2 hv
      rw [q1, w1, Option.bind_some, if_pos bI_f]
      exact ⟨_, _, rfl, rfl, Or.inl ⟨by first | exact ne_bad | exact ne_no | exact ne_full, rfl⟩⟩
end ORD
theorem one_order {q t i : Nat} {S : Nat → Nat} {ek es en Ml Mo Mn : Nat → Int32} (hC : SimC q t S ek es en Ml Mo Mn) (hq : q ≤ 50) (ht : t ≤ 100) (hi : i < q) {K : Nat} {a rf Mr : Nat → Int32} (hk : okRow K a) (hf : ∀ j, j < K → rf j = a j) (hm : ∀ j, j < 7 → Mr j = a j) (hm7 : Mr 7 = nI K) (rg : Nat → Int64) (pd : Int32) (pn Mm : Nat → Int64) :
    ∃ rx rm, f_X2_performOne (nI i) (nI t) ek es en (nI K) rf rg pd pn = some rx ∧ f_X7_doOrder (nI i) Mr Ml Mo Mn Mm = some rm ∧ RowOK rx.1 rm.1 rx.2.1 rx.2.2.1 rm.2.1 := by
  obtain ⟨b1, b2, b3, b4, b5, b6, b7, b8, b9⟩ := hC.2.2.2 i hi
  have he := hC.2.2.1
  have hout : ¬ (nI i < 0 ∨ (49 : Int32) < nI i) := nI_out (a := 0) (b := 49) (by omega) (by omega) (by omega) (by omega)
  have hX : ∀ r, (if (ek i) = (107 : Int32) then ((f_X2_number (es i) (nI t) en).bind fun q2 => (f_X3_append q2 (nI K) rf).bind fun q3 => some (q3.1, q3.2.1, q3.2.2, rg, pd, pn)) else if (ek i) = (109 : Int32) then ((f_X3_replace (es i) ((es (i + 1)) - (es i)) (nI K) rf rg (nI t) en).bind fun q4 => some (q4.1, q4.2.1, q4.2.2.1, q4.2.2.2, pd, pn)) else if (ek i) = (112 : Int32) then ((f_X2_number (es i) (nI t) en).bind fun q5 => (f_X2_number ((es i) + nI 1) (nI t) en).bind fun q6 => (f_X3_addPlace q5 q6 (nI K) rf rg).bind fun q7 => some (q7.1, q7.2.1, q7.2.2.1, q7.2.2.2, pd, pn)) else if (ek i) = (115 : Int32) then ((f_X2_number (es i) (nI t) en).bind fun q8 => (f_X3_scale q8 (nI K) rf rg).bind fun q9 => some (q9.1, q9.2.1, q9.2.2.1, q9.2.2.2, pd, pn)) else if (ek i) = (118 : Int32) then ((f_X2_number (es i) (nI t) en).bind fun q10 => (f_X3_shift q10 (nI K) rf rg pd pn).bind fun q11 => some (q11.1, q11.2.1, q11.2.2.1, q11.2.2.2.1, q11.2.2.2.2.1, q11.2.2.2.2.2)) else if (ek i) = (119 : Int32) then ((f_X2_number (es i) (nI t) en).bind fun q12 => (f_X3_reweigh q12 (nI K) rf rg).bind fun q13 => some (q13.1, q13.2.1, q13.2.2.1, q13.2.2.2, pd, pn)) else ((f_X3_drop (nI K)).bind fun q14 => some (q14.1, q14.2, rf, rg, pd, pn))) = r → f_X2_performOne (nI i) (nI t) ek es en (nI K) rf rg pd pn = r := by
    intro r h
    rw [← h]
    unfold f_X2_performOne
    rw [x_out]
    simp only [Option.bind_some, bI_dec]
    rw [if_pos hout, gif (by omega) (by omega), gif (by omega) (by omega), k1, nI_add, gif (n := i + 1) (by omega) (by omega), nI_cl (n := i) (by omega), nI_cl (n := i + 1) (by omega)]
  rcases b2 with hl | hl | hl | hl | hl | hl | hl
  · -- k
    rw [hl, show mnN 107 = 1 from by decide +kernel] at b7
    obtain ⟨rx, rm, r1, r2, r3⟩ := o_app (Mm := Mm) hk hf hm hm7 (Mn (S i))
    refine ⟨(rx.1, rx.2.1, rx.2.2, rg, pd, pn), rm, hX _ ?_, ?_, r3⟩
    · rw [b1, hl, if_pos rfl, b3, x_num ht (by omega), he _ (by omega), Option.bind_some, r1, Option.bind_some]
    · unfold f_X7_doOrder
      rw [gif (n := i) (by omega) (by omega), k1, nI_add i 1, gif (n := i + 1) (by omega) (by omega), nI_cl (n := i + 1) (by omega), nI_cl (n := i) (by omega), b4, b6, pk_sub (a := S (i + 1)) (b := S i) (by omega), if_neg (nI_nle (by omega) (by omega)), gif (n := S i) (by omega) (by omega), gif2 (n := i) (by omega) (by omega), nI_cl (n := S i) (by omega), hl, if_pos rfl]
      exact r2
  · -- l
    rw [hl, show mxN 108 = 0 from by decide +kernel] at b8
    rw [hl, show mnN 108 = 0 from by decide +kernel] at b7
    obtain ⟨rx, rm, r1, r2, r3⟩ := o_drop (Mm := Mm) hk hf hm hm7
    refine ⟨(rx.1, rx.2, rf, rg, pd, pn), rm, hX _ ?_, ?_, r3⟩
    · rw [b1, hl, if_neg (by decide), if_neg (by decide), if_neg (by decide), if_neg (by decide), if_neg (by decide), if_neg (by decide), r1, Option.bind_some]
    · unfold f_X7_doOrder
      rw [gif (n := i) (by omega) (by omega), k1, nI_add i 1, gif (n := i + 1) (by omega) (by omega), nI_cl (n := i + 1) (by omega), nI_cl (n := i) (by omega), b4, b6, pk_sub (a := S (i + 1)) (b := S i) (by omega), show S (i + 1) - S i = 0 by omega, if_pos (by decide), gif2 (n := i) (by omega) (by omega), hl, if_neg (by decide), if_neg (by decide), if_neg (by decide), if_neg (by decide), if_neg (by decide), if_neg (by decide)]
      exact r2
  · -- m
    rw [hl, show mnN 109 = 1 from by decide +kernel] at b7
    rw [hl, show mxN 109 = 7 from by decide +kernel] at b8
    obtain ⟨rx, rm, r1, r2, r3⟩ := o_rep (rf := rf) (rg := rg) (Mm := Mm) (nI K) Mr (s := S i) (k := S (i + 1) - S i) ht (by omega) (by omega) (by omega) he
    refine ⟨(rx.1, rx.2.1, rx.2.2.1, rx.2.2.2, pd, pn), rm, hX _ ?_, ?_, r3⟩
    · rw [b1, hl, if_neg (by decide), if_pos rfl, b3, b5, pk_sub (by omega), r1, Option.bind_some]
    · unfold f_X7_doOrder
      rw [gif (n := i) (by omega) (by omega), k1, nI_add i 1, gif (n := i + 1) (by omega) (by omega), nI_cl (n := i + 1) (by omega), nI_cl (n := i) (by omega), b4, b6, pk_sub (a := S (i + 1)) (b := S i) (by omega), if_neg (nI_nle (by omega) (by omega)), gif (n := S i) (by omega) (by omega), gif2 (n := i) (by omega) (by omega), hl, if_neg (by decide), if_pos rfl, r2, Option.bind_some]
  · -- p
    rw [hl, show mnN 112 = 2 from by decide +kernel] at b7
    obtain ⟨rx, rm, r1, r2, r3⟩ := o_add (rg := rg) (Mm := Mm) hk hf hm hm7 (Mn (S i)) (Mn (S i + 1))
    refine ⟨(rx.1, rx.2.1, rx.2.2.1, rx.2.2.2, pd, pn), rm, hX _ ?_, ?_, r3⟩
    · rw [b1, hl, if_neg (by decide), if_neg (by decide), if_pos rfl, b3, nI_add, x_num ht (by omega), x_num ht (by omega), he _ (by omega), he _ (by omega), Option.bind_some, Option.bind_some, r1, Option.bind_some]
    · unfold f_X7_doOrder
      rw [gif (n := i) (by omega) (by omega), k1, nI_add i 1, gif (n := i + 1) (by omega) (by omega), nI_cl (n := i + 1) (by omega), nI_cl (n := i) (by omega), b4, b6, pk_sub (a := S (i + 1)) (b := S i) (by omega), if_neg (nI_nle (by omega) (by omega)), gif (n := S i) (by omega) (by omega), gif2 (n := i) (by omega) (by omega), nI_cl (n := S i) (by omega), hl, if_neg (by decide), if_neg (by decide), if_pos rfl, nI_add (S i) 1]
      simp only [nI_cl (n := S i + 1) (show S i + 1 < 2 ^ 31 by omega), gif2 (n := S i + 1) (N := 100) (show S i + 1 < 100 by omega) (by omega)]
      exact r2
  · -- s
    rw [hl, show mnN 115 = 1 from by decide +kernel] at b7
    obtain ⟨rx, rm, r1, r2, r3⟩ := o_str (rg := rg) (Mm := Mm) hk hf hm hm7 (Mn (S i))
    refine ⟨(rx.1, rx.2.1, rx.2.2.1, rx.2.2.2, pd, pn), rm, hX _ ?_, ?_, r3⟩
    · rw [b1, hl, if_neg (by decide), if_neg (by decide), if_neg (by decide), if_pos rfl, b3, x_num ht (by omega), he _ (by omega), Option.bind_some, r1, Option.bind_some]
    · unfold f_X7_doOrder
      rw [gif (n := i) (by omega) (by omega), k1, nI_add i 1, gif (n := i + 1) (by omega) (by omega), nI_cl (n := i + 1) (by omega), nI_cl (n := i) (by omega), b4, b6, pk_sub (a := S (i + 1)) (b := S i) (by omega), if_neg (nI_nle (by omega) (by omega)), gif (n := S i) (by omega) (by omega), gif2 (n := i) (by omega) (by omega), nI_cl (n := S i) (by omega), hl, if_neg (by decide), if_neg (by decide), if_neg (by decide), if_pos rfl]
      exact r2
  · -- v
    rw [hl, show mnN 118 = 1 from by decide +kernel] at b7
    obtain ⟨rx, rm, r1, r2, r3⟩ := o_mov (rg := rg) (Mm := Mm) hk hf hm hm7 (Mn (S i)) pd pn
    refine ⟨rx, rm, hX _ ?_, ?_, r3⟩
    · rw [b1, hl, if_neg (by decide), if_neg (by decide), if_neg (by decide), if_neg (by decide), if_pos rfl, b3, x_num ht (by omega), he _ (by omega), Option.bind_some, r1, Option.bind_some]
    · unfold f_X7_doOrder
      rw [gif (n := i) (by omega) (by omega), k1, nI_add i 1, gif (n := i + 1) (by omega) (by omega), nI_cl (n := i + 1) (by omega), nI_cl (n := i) (by omega), b4, b6, pk_sub (a := S (i + 1)) (b := S i) (by omega), if_neg (nI_nle (by omega) (by omega)), gif (n := S i) (by omega) (by omega), gif2 (n := i) (by omega) (by omega), nI_cl (n := S i) (by omega), hl, if_neg (by decide), if_neg (by decide), if_neg (by decide), if_neg (by decide), if_pos rfl]
      exact r2
  · -- w
    rw [hl, show mnN 119 = 1 from by decide +kernel] at b7
    obtain ⟨rx, rm, r1, r2, r3⟩ := o_wei (rg := rg) (Mm := Mm) hk hf hm hm7 (Mn (S i))
    refine ⟨(rx.1, rx.2.1, rx.2.2.1, rx.2.2.2, pd, pn), rm, hX _ ?_, ?_, r3⟩
    · rw [b1, hl, if_neg (by decide), if_neg (by decide), if_neg (by decide), if_neg (by decide), if_neg (by decide), if_pos rfl, b3, x_num ht (by omega), he _ (by omega), Option.bind_some, r1, Option.bind_some]
    · unfold f_X7_doOrder
      rw [gif (n := i) (by omega) (by omega), k1, nI_add i 1, gif (n := i + 1) (by omega) (by omega), nI_cl (n := i + 1) (by omega), nI_cl (n := i) (by omega), b4, b6, pk_sub (a := S (i + 1)) (b := S i) (by omega), if_neg (nI_nle (by omega) (by omega)), gif (n := S i) (by omega) (by omega), gif2 (n := i) (by omega) (by omega), nI_cl (n := S i) (by omega), hl, if_neg (by decide), if_neg (by decide), if_neg (by decide), if_neg (by decide), if_neg (by decide), if_pos rfl]
      exact r2
theorem perf_do {q t : Nat} {S : Nat → Nat} {ek es en Ml Mo Mn : Nat → Int32} (hC : SimC q t S ek es en Ml Mo Mn) (hq : q ≤ 50) (ht : t ≤ 100) (Ms ML Mg MF : Int32) (MW MI : Bool) (MA : Int32) (Ma Mp : Nat → Int32) : ∀ (n i : Nat) (rK : Int32) (rf : Nat → Int32) (rg : Nat → Int64) (pd : Int32) (pn : Nat → Int64) (Mr : Nat → Int32) (Mm : Nat → Int64), i ≤ q → q - i < n → (∃ K a, RelRow K a rK rf Mr) →
    ∃ rx, f_X2_perform_L2 n (nI i) (nI q) (nI t) ek es en rK rf rg pd pn = some rx ∧
      ((rx.1 = -1 ∧ ∃ Mr' Mm', (∃ K a, RelRow K a rx.2.1 rx.2.2.1 Mr') ∧ f_X7_reads_L32 n (nI i) Ms (nI q) ML Mg MF MW MI MA Mr Ma Mp Ml Mo Mn Mm = (f_X7_note_v1 Ms Ma Mp).bind fun q3 => some (nI q, q3.1, nI q, ML, Mg, MF, MW, MI, MA, Mr', Ma, q3.2, Ml, Mo, Mn, Mm'))
        ∨ (∃ j, j < q ∧ rx.1 = nI j ∧ ∃ Mr' Mm', f_X7_reads_L32 n (nI i) Ms (nI q) ML Mg MF MW MI MA Mr Ma Mp Ml Mo Mn Mm = (f_X7_bring_v3 (0 : Int32) (0 : Int32) Mr' Ma).bind fun q5 => some (((-1000 : Int32) - nI j), Ms, nI q, ML, Mg, MF, MW, MI, MA, q5, Ma, Mp, Ml, Mo, Mn, Mm'))) := by
  intro n
  induction n with
  | zero => intro i rK rf rg pd pn Mr Mm _ hm; omega
  | succ n ih =>
    intro i rK rf rg pd pn Mr Mm hi hm hrow
    rw [f_X2_perform_L2, f_X7_reads_L32]
    by_cases hiq : i = q
    · subst hiq
      rw [if_pos (nI_le (by omega) (by omega)), if_pos (nI_le (by omega) (by omega))]
      exact ⟨_, rfl, Or.inl ⟨rfl, Mr, Mm, hrow, rfl⟩⟩
    · rw [if_neg (nI_ge (by omega) (by omega)), if_neg (nI_ge (by omega) (by omega))]
      obtain ⟨K, a, hk, rfl, hf, hm2, hm7⟩ := hrow
      obtain ⟨rx, rm, r1, r2, r3⟩ := one_order hC hq ht (show i < q by omega) hk hf hm2 hm7 rg pd pn Mm
      rw [r1, r2, Option.bind_some, Option.bind_some]
      rcases r3 with ⟨a1, a2⟩ | ⟨a1, a2, a3⟩
      · rw [if_neg a1, a2, if_pos bI_f]
        exact ⟨_, rfl, Or.inr ⟨i, by omega, rfl, rm.2.1, rm.2.2, rfl⟩⟩
      · rw [if_pos a1, a2, if_neg bI_tne, k1, nI_add]
        exact ih (i + 1) _ _ _ _ _ _ _ (by omega) (by omega) a3
theorem m_bring3L (Ma : Nat → Int32) : ∀ (n j : Nat) (f : Nat → Int32), j ≤ 8 → 8 - j < n → ∃ g, f_X7_bring_v3_L3 n (nI 0) (nI 0) (nI j) f Ma = some g ∧ ∀ i, g i = if j ≤ i ∧ i < 8 then Ma i else f i := by
  intro n
  induction n with
  | zero => intro j f _ hm; omega
  | succ n ih =>
    intro j f hj hm
    rw [f_X7_bring_v3_L3]
    simp only [k0, k1, k8]
    by_cases h8 : j = 8
    · subst h8
      rw [if_pos (nI_le (by omega) (by omega))]
      exact ⟨f, rfl, fun i => by rw [if_neg (by omega)]⟩
    · rw [if_neg (nI_ge (by omega : j < 8) (by omega)), nI_add, nI_add, Nat.zero_add, gif0 (by omega) (by omega), gif0 (by omega) (by omega), nI_cl (by omega)]
      obtain ⟨g, h1, h2⟩ := ih (j + 1) (upd f j (Ma j)) (by omega) (by omega)
      refine ⟨g, h1, fun i => ?_⟩
      rw [h2 i]
      by_cases hi : i = j
      · subst hi; rw [if_neg (by omega), upd_s, if_pos (by omega)]
      · by_cases hi2 : j ≤ i ∧ i < 8
        · rw [if_pos (by omega), if_pos hi2]
        · rw [if_neg (by omega), if_neg hi2, upd_n hi]
theorem m_bring3 (Mr Ma : Nat → Int32) : ∃ g, f_X7_bring_v3 0 0 Mr Ma = some g ∧ ∀ i, i < 8 → g i = Ma i := by
  obtain ⟨g, h1, h2⟩ := m_bring3L Ma 200 0 Mr (by omega) (by omega)
  exact ⟨g, by unfold f_X7_bring_v3; rw [k0, h1]; rfl, fun i hi => by rw [h2 i, if_pos (by omega)]⟩
theorem nI_nm1 {j : Nat} (h : j ≤ 100) : ¬ nI j = (-1 : Int32) := by
  intro e
  have e2 := congrArg Int32.toInt e
  rw [nI_toInt (by omega), show (-1 : Int32).toInt = -1 by decide] at e2
  omega
theorem nI_nmM {j : Nat} (h : j ≤ 100) : ¬ nI j = (-1000000 : Int32) := by
  intro e
  have e2 := congrArg Int32.toInt e
  rw [nI_toInt (by omega), show (-1000000 : Int32).toInt = -1000000 by decide] at e2
  omega
set_option maxHeartbeats 4000000 in
set_option maxRecDepth 100000 in
theorem op_reads  (kb : Int32) (kn : Int32) (kf : Int32) (rK : Int32) (rf : Nat → Int32) (vo : Int32) (vd : Int32) (vs : Nat → Int32) (tl : Int32) (tb : Nat → Int32) (Ms : Int32) (Mb : Int32) (Mr : Nat → Int32) (Mp : Nat → Int32) (Mf : Nat → Int32) (Mt : Nat → Int32) (sK : Int32) (sf : Nat → Int32) (sg : Nat → Int64) (spd : Int32) (spn : Nat → Int64) (ek : Nat → Int32) (es : Nat → Int32) (en : Nat → Int32) (Mg : Int32) (MF : Int32) (MI : Bool) (Ma : Nat → Int32) (Ml : Nat → Int32) (Mo : Nat → Int32) (Mn : Nat → Int32) (Mm : Nat → Int64) (hrel : Rel kb kn kf rK rf vo vd vs tl tb Ms Mb Mr Mp Mf Mt) (hes : es 0 = 0) : ∃ rx rm, f_X6_reads rK rf sK sf sg spd spn vo vd vs tl tb ek es en = some rx ∧ f_X7_reads Ms Mb Mg MF MI Mr Ma Mp Mt Ml Mo Mn Mm = some rm ∧ rx.1 = rm.1 ∧ Rel kb kn kf rx.2.1 rx.2.2.1 rx.2.2.2.2.2.2.2.2.1 rx.2.2.2.2.2.2.2.2.2.1 rx.2.2.2.2.2.2.2.2.2.2.1 tl tb rm.2.1 Mb rm.2.2.2.2.2.2.2.2.2.1 rm.2.2.2.2.2.2.2.2.2.2.2.1 Mf Mt ∧ rx.2.2.2.2.2.2.2.2.2.2.2.2.2.2.2.2.2.2.1 0 = 0 := by
  have hrel0 := hrel
  obtain ⟨⟨K, a, hk, rfl, hf, hm, hm7⟩, hc, hs, ht⟩ := hrel
  have ht0 := ht
  obtain ⟨L, hL, rfl, rfl, htx⟩ := ht
  obtain ⟨sx, sm, s1, s2, s3, s4⟩ := scan_read hL (fun j hj => (htx j hj).1) 200 0 0 0 0 false 0 0 ek es en 0 0 Mg MF false MI 0 Ml Mo Mn (by omega) (by omega) (sim_start hes)
  have s1' : f_X2_scan ek es en (nI L) tb = some sx := by
    unfold f_X2_scan f_X2_forgetNumber
    rw [Option.bind_some]
    exact s1
  have s2' : f_X7_readText (nI L) Mg MF MI Mt Ml Mo Mn = some sm := by
    unfold f_X7_readText
    exact s2
  unfold f_X6_reads f_X7_reads
  rw [s1', s2', Option.bind_some, Option.bind_some]
  rcases s4 with ⟨j, hj, a1, a2⟩ | ⟨a1, a2, q, t, S, hq, ht2, b1, b2, b3, hC⟩
  · rw [a1, a2, if_neg (nI_nm1 hj), if_neg (nI_nmM hj)]
    exact ⟨_, _, rfl, rfl, rfl, hrel0, s3⟩
  · obtain ⟨g, hg1, hg2⟩ := x_copy hk hf sf
    obtain ⟨b, hb1, hb2⟩ := m_bring1 Mr Ma
    rw [if_pos a1, if_pos a2, hg1, hb1, Option.bind_some, Option.bind_some, b1, b2, b3]
    obtain ⟨px, p1, p2⟩ := perf_do hC hq ht2 Ms sm.2.2.1 sm.2.2.2.1 sm.2.2.2.2.1 sm.2.2.2.2.2.1 sm.2.2.2.2.2.2.1 sm.2.2.2.2.2.2.2.1 b Mp 200 0 (nI K) g sg spd spn Mr Mm (by omega) (by omega) ⟨K, a, hk, rfl, fun i hi => hg2 i (by have := hk.2.1; omega), hm, hm7⟩
    have p1' : f_X2_perform (nI q) (nI t) sx.2.2.2.2.2.2.2.1 sx.2.2.2.2.2.2.2.2.1 sx.2.2.2.2.2.2.2.2.2 (nI K) g sg spd spn = some px := by
      unfold f_X2_perform
      exact p1
    rw [show (nI K, g).1 = nI K from rfl, show (nI K, g).2 = g from rfl, p1', Option.bind_some]
    rcases p2 with ⟨c1, Mr', Mm', ⟨K', a', hk', e1, hf', hm', hm7'⟩, c2⟩ | ⟨j, hj, c1, Mr', Mm', c2⟩
    · obtain ⟨rf', vo', vd', vs', Ms', Mp', d1, d2, d3, d4⟩ := keep_rel (Mr := Mr) (Mx := b) (sf' := px.2.2.1) hk hf (fun j hj => by rw [hb2 j (by omega), hm j hj]) (by rw [hb2 7 (by omega), hm7]) hs hk' hf'
      have c2' : f_X7_reads_L32 200 0 Ms (nI q) sm.2.2.1 sm.2.2.2.1 sm.2.2.2.2.1 sm.2.2.2.2.2.1 sm.2.2.2.2.2.2.1 sm.2.2.2.2.2.2.2.1 Mr b Mp sm.2.2.2.2.2.2.2.2.1 sm.2.2.2.2.2.2.2.2.2.1 sm.2.2.2.2.2.2.2.2.2.2 Mm = _ := c2
      rw [c2', m_note_v1, d2, Option.bind_some, if_pos c1, e1, d1, Option.bind_some]
      unfold f_X2_orders
      rw [Option.bind_some]
      exact ⟨_, _, rfl, rfl, rfl, ⟨⟨K', a', hk', rfl, fun i hi => d3 i (by have := hk'.2.1; omega), hm', hm7'⟩, hc, d4, ht0⟩, s3⟩
    · obtain ⟨g3, w1, w2⟩ := m_bring3 Mr' b
      have c2' : f_X7_reads_L32 200 0 Ms (nI q) sm.2.2.1 sm.2.2.2.1 sm.2.2.2.2.1 sm.2.2.2.2.2.1 sm.2.2.2.2.2.2.1 sm.2.2.2.2.2.2.2.1 Mr b Mp sm.2.2.2.2.2.2.2.2.1 sm.2.2.2.2.2.2.2.2.2.1 sm.2.2.2.2.2.2.2.2.2.2 Mm = _ := c2
      rw [c2', w1, Option.bind_some, if_neg (by rw [c1]; exact nI_nm1 (by omega)), c1]
      exact ⟨_, _, rfl, rfl, rfl, ⟨⟨K, a, hk, rfl, hf, fun i hi => (w2 i (by omega)).trans ((hb2 i (by omega)).trans (hm i hi)), (w2 7 (by omega)).trans ((hb2 7 (by omega)).trans hm7)⟩, hc, hs, ht0⟩, s3⟩
