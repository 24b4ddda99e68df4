/-! products of places on both sides -/
def plc (c : Nat) : Int32 := nI c + (-9 : Int32)
theorem plc_s (c : Nat) : plc c + (1 : Int32) = plc (c + 1) := by
  unfold plc
  rw [← nI_add, k1]
  grind
theorem plc_9 (c : Nat) : plc c + (9 : Int32) = nI c := by
  unfold plc
  rw [Int32.add_assoc, show (-9 : Int32) + 9 = 0 from by decide, Int32.add_zero]
theorem tb_plc : ∀ c, c < 20 → decide ((9 : Int32) < plc c) = decide (18 < c) := by decide +kernel
theorem tb_neg : ∀ c, c < 20 → (-(plc c)).toInt64 = -((plc c).toInt64) := by decide +kernel
theorem tb_dif : ∀ b, b < 19 → ∀ c, c < 19 → (plc b).toInt64 + (-(plc c)).toInt64 = Int64.ofInt ((b : Int) - (c : Int)) := by decide +kernel
theorem plc_inj {b c : Nat} (hb : b < 19) (hc : c < 19) (h : plc b = plc c) : b = c := by
  have h1 := plc_9 b
  rw [h, plc_9 c, nI_eq (by omega) (by omega)] at h1
  exact h1.symm
theorem plc_of {x : Int32} (h : ¬ (x < (-9 : Int32) ∨ (9 : Int32) < x)) : ∃ b, b < 19 ∧ x = plc b := by
  rw [Int32.lt_iff_toInt_lt, Int32.lt_iff_toInt_lt, show (-9 : Int32).toInt = -9 from rfl, show (9 : Int32).toInt = 9 from rfl] at h
  refine ⟨(x.toInt + 9).toNat, by omega, ?_⟩
  have e : x + 9 = nI (x.toInt + 9).toNat := by
    apply Int32.toInt_inj.mp
    rw [Int32.toInt_add, show (9 : Int32).toInt = 9 from rfl, Int.bmod_eq_of_le (by omega) (by omega), nI, Int32.toInt_ofNat_of_lt (by omega)]
    omega
  unfold plc
  rw [← e, Int32.add_assoc, show (9 : Int32) + -9 = 0 from by decide, Int32.add_zero]
def prD (T : Nat → Bool) : Nat → Nat
  | 0 => 0
  | c + 1 => if T c then prD T c + 1 else prD T c
def prN (T : Nat → Bool) : Nat → Nat → Int64
  | 0 => fun i => if i = 0 then 1 else 0
  | c + 1 => if T c then mulX (prN T c) (-(plc c)).toInt64 else prN T c
theorem prN_0 (T : Nat → Bool) : ∀ c i, prD T c < i → prN T c i = 0 := by
  intro c
  induction c with
  | zero => intro i h; exact if_neg (by rw [prD] at h; omega)
  | succ c ih =>
    intro i h
    rw [prD] at h
    rw [prN]
    by_cases q : T c = true
    · rw [if_pos q] at h ⊢
      exact mulX_0 ih _ i h
    · rw [if_neg q] at h ⊢
      exact ih i h
theorem prD_mono (T : Nat → Bool) (c : Nat) : ∀ m, prD T c ≤ prD T (c + m) := by
  intro m
  induction m with
  | zero => exact Nat.le_refl _
  | succ m ih =>
    rw [← Nat.add_assoc, prD]
    by_cases q : T (c + m) = true
    · rw [if_pos q]; omega
    · rw [if_neg q]; exact ih
theorem x_vanL {T : Nat → Bool} (hT : prD T 19 ≤ 7) {y : Int32} (hy : ∀ c, c < 19 → (y &&& ((1 : Int32) <<< (nI c &&& 31)) = 0 ↔ T c = false)) : ∀ (m fu c : Nat) (pn : Nat → Int64), c + m = 19 → m < fu → (∀ i, i ≤ prD T c → pn i = prN T c i) → ∃ g, f_X1_vanishAt_L7 fu y (plc c) (nI (prD T c)) pn = some (nI (prD T 19), g) ∧ ∀ i, i ≤ prD T 19 → g i = prN T 19 i := by
  intro m
  induction m with
  | zero =>
    intro fu c pn hc hfu hp
    obtain ⟨f, rfl⟩ : ∃ f, fu = f + 1 := ⟨fu - 1, by omega⟩
    have hc19 : c = 19 := by omega
    subst hc19
    rw [f_X1_vanishAt_L7, if_pos (by decide)]
    exact ⟨pn, rfl, hp⟩
  | succ m ih =>
    intro fu c pn hc hfu hp
    obtain ⟨f, rfl⟩ : ∃ f, fu = f + 1 := ⟨fu - 1, by omega⟩
    have t := tb_plc c (by omega)
    rw [decide_eq_false (by omega : ¬ 18 < c)] at t
    have hm1 := prD_mono T (c + 1) (18 - c)
    rw [show c + 1 + (18 - c) = 19 by omega] at hm1
    rw [f_X1_vanishAt_L7, if_neg (of_decide_eq_false t), f_X6_bitOf, Option.bind_some, plc_9, plc_s]
    by_cases q : T c = true
    · have e1 : prD T (c + 1) = prD T c + 1 := by rw [prD, if_pos q]
      have e2 : prN T (c + 1) = mulX (prN T c) (-(plc c)).toInt64 := by rw [prN, if_pos q]
      obtain ⟨g, g1, g2⟩ := x_times (d := prD T c) (by omega) (prN_0 T c) hp (-(plc c))
      rw [if_neg (fun z => by rw [(hy c (by omega)).mp z] at q; exact absurd q (by simp)), g1, Option.bind_some]
      dsimp only
      rw [← e1]
      exact ih f (c + 1) g (by omega) (by omega) (fun i hi => by rw [g2 i (by omega), e2])
    · have q0 : T c = false := by simpa using q
      have e1 : prD T (c + 1) = prD T c := by rw [prD, if_neg q]
      have e2 : prN T (c + 1) = prN T c := by rw [prN, if_neg q]
      rw [if_pos ((hy c (by omega)).mpr q0), ← e1]
      exact ih f (c + 1) pn (by omega) (by omega) (fun i hi => by rw [e2]; exact hp i (by omega))
theorem x_van {T : Nat → Bool} (hT : prD T 19 ≤ 7) {y : Int32} (hy : ∀ c, c < 19 → (y &&& ((1 : Int32) <<< (nI c &&& 31)) = 0 ↔ T c = false)) (pn : Nat → Int64) : ∃ g, f_X1_vanishAt y pn = some (nI (prD T 19), g) ∧ ∀ i, i ≤ prD T 19 → g i = prN T 19 i := by
  obtain ⟨g, h1, h2⟩ := x_vanL hT hy 19 200 0 (vp_updL pn 0 1) (by omega) (by omega) (fun i hi => by
    have hi0 : i = 0 := by rw [prD] at hi; omega
    subst hi0; rw [updL_s]; rfl)
  refine ⟨g, ?_, h2⟩
  unfold f_X1_vanishAt f_X1_begin
  rw [if_neg (by decide), Option.bind_some, cl0]
  dsimp only
  rw [show (-9 : Int32) = plc 0 from by decide, show (0 : Int32) = nI (prD T 0) from rfl]
  rw [h1]
  rfl
theorem m_58 {N : Nat → Int64} (p : Int32) : ∀ (j fu : Nat) (f : Nat → Int64), j ≤ 8 → j < fu → (∀ i, i ≤ j → f i = N i) → ∃ g, f_X7_makeProduct_L58 fu p (nI j) f = some g ∧ ∀ i, g i = if 1 ≤ i ∧ i ≤ j then N (i - 1) - p.toInt64 * N i else f i := by
  intro j
  induction j with
  | zero =>
    intro fu f hj hfu hf
    obtain ⟨q, rfl⟩ : ∃ q, fu = q + 1 := ⟨fu - 1, by omega⟩
    rw [f_X7_makeProduct_L58, if_pos (by decide)]
    exact ⟨f, rfl, fun i => by rw [if_neg (by omega)]⟩
  | succ j ih =>
    intro fu f hj hfu hf
    obtain ⟨q, rfl⟩ : ∃ q, fu = q + 1 := ⟨fu - 1, by omega⟩
    have e0 : nI (j + 1) - (1 : Int32) = nI j := by rw [k1, pk_sub (by omega)]; rfl
    rw [f_X7_makeProduct_L58, if_neg (by rw [k0]; exact nI_ge (by omega) (by omega)), e0, nI_m1, gif (by omega) (by omega), gif (by omega) (by omega), gif (by omega) (by omega), nI_cl (by omega), nI_cl (by omega), hf j (by omega), hf (j + 1) (by omega)]
    obtain ⟨g, h1, h2⟩ := ih q (vp_updL f (j + 1) (N j - p.toInt64 * N (j + 1))) (by omega) (by omega) (fun i hi => by rw [updL_n (by omega)]; exact hf i (by omega))
    refine ⟨g, h1, fun i => ?_⟩
    rw [h2 i]
    by_cases hi : i = j + 1
    · subst hi; rw [if_neg (by omega), updL_s, if_pos (by omega), Nat.add_sub_cancel]
    · by_cases hi2 : 1 ≤ i ∧ i ≤ j
      · rw [if_pos hi2, if_pos (by omega)]
      · rw [if_neg hi2, if_neg (by omega), updL_n hi]
theorem H90 : ((0 : Int32) < 0 ∨ 9 ≤ 0) = False := eq_false (by decide)
theorem m_prL {S : Nat} (hS : S < 2 ^ 19) {x2 : Int32} {T : Nat → Bool} (hT : prD T 19 ≤ 7) (hTc : ∀ c, c < 19 → (T c = true ↔ S / 2 ^ c % 2 = 1 ∧ ¬ plc c = x2)) : ∀ (m fu c : Nat) (Mx : Nat → Int64), c + m = 19 → m < fu → (∀ i, i ≤ prD T c → Mx i = prN T c i) → ∃ g, f_X7_makeProduct_L15 fu (nI S) x2 (plc c) (nI (prD T c)) Mx = some (nI (prD T 19), g) ∧ ∀ i, i ≤ prD T 19 → g i = prN T 19 i := by
  intro m
  induction m with
  | zero =>
    intro fu c pn hc hfu hp
    obtain ⟨f, rfl⟩ : ∃ f, fu = f + 1 := ⟨fu - 1, by omega⟩
    have hc19 : c = 19 := by omega
    subst hc19
    rw [f_X7_makeProduct_L15, if_pos (by decide)]
    exact ⟨pn, rfl, hp⟩
  | succ m ih =>
    intro fu c Mx hc hfu hp
    obtain ⟨f, rfl⟩ : ∃ f, fu = f + 1 := ⟨fu - 1, by omega⟩
    have t := tb_plc c (by omega)
    rw [decide_eq_false (by omega : ¬ 18 < c)] at t
    have hm1 := prD_mono T (c + 1) (18 - c)
    rw [show c + 1 + (18 - c) = 19 by omega] at hm1
    have b1 : (nI (S / 2 ^ c % 2) = (1 : Int32)) = (S / 2 ^ c % 2 = 1) := by
      rw [k1]; exact propext (nI_eq (by omega) (by omega))
    rw [f_X7_makeProduct_L15, if_neg (of_decide_eq_false t), plc_9, m_bit hS (by omega), plc_s]
    by_cases q : T c = true
    · have e1 : prD T (c + 1) = prD T c + 1 := by rw [prD, if_pos q]
      have e2 : prN T (c + 1) = mulX (prN T c) (-(plc c)).toInt64 := by rw [prN, if_pos q]
      obtain ⟨w1, w2⟩ := (hTc c (by omega)).mp q
      rw [if_pos (by rw [b1]; exact w1), if_neg w2, show nI (prD T c) + (1 : Int32) = nI (prD T c + 1) from by rw [k1, nI_add], gif (by omega) (by omega), nI_cl (by omega)]
      obtain ⟨g, g1, g2⟩ := m_58 (N := prN T c) (plc c) (prD T c + 1) 200 (vp_updL Mx (prD T c + 1) 0) (by omega) (by omega) (fun i hi => by
        by_cases z : i = prD T c + 1
        · subst z; rw [updL_s, prN_0 T c _ (by omega)]
        · rw [updL_n z]; exact hp i (by omega))
      rw [g1, Option.bind_some]
      simp only [cl0, H90, if_false]
      rw [← e1]
      refine ih f (c + 1) _ (by omega) (by omega) (fun i hi => ?_)
      rw [e2]
      unfold mulX
      by_cases z : i = 0
      · subst z
        rw [updL_s, if_pos rfl, g2 0, if_neg (by omega), updL_n (by omega), hp 0 (by omega), Int64.zero_add, Int64.mul_comm]
      · rw [updL_n z, g2 i, if_pos (by omega), if_neg z, tb_neg c (by omega)]
        grind
    · have e1 : prD T (c + 1) = prD T c := by rw [prD, if_neg q]
      have e2 : prN T (c + 1) = prN T c := by rw [prN, if_neg q]
      have key := ih f (c + 1) Mx (by omega) (by omega) (fun i hi => by rw [e2]; exact hp i (by omega))
      rw [e1] at key
      by_cases w1 : S / 2 ^ c % 2 = 1
      · by_cases w2 : plc c = x2
        · rw [if_pos (by rw [b1]; exact w1), if_pos w2]; exact key
        · exact absurd ((hTc c (by omega)).mpr ⟨w1, w2⟩) q
      · rw [if_neg (by rw [b1]; exact w1)]; exact key
theorem m_pr {S : Nat} (hS : S < 2 ^ 19) {x2 : Int32} {T : Nat → Bool} (hT : prD T 19 ≤ 7) (hTc : ∀ c, c < 19 → (T c = true ↔ S / 2 ^ c % 2 = 1 ∧ ¬ plc c = x2)) (Mx : Nat → Int64) : ∃ g, f_X7_makeProduct (nI S) x2 Mx = some (nI (prD T 19), g) ∧ ∀ i, i ≤ prD T 19 → g i = prN T 19 i := by
  obtain ⟨g, h1, h2⟩ := m_prL hS hT hTc 19 200 0 (vp_updL Mx 0 1) (by omega) (by omega) (fun i hi => by
    have hi0 : i = 0 := by rw [prD] at hi; omega
    subst hi0; rw [updL_s]; rfl)
  refine ⟨g, ?_, h2⟩
  unfold f_X7_makeProduct
  simp only [cl0, H90, if_false]
  have h1' : f_X7_makeProduct_L15 200 (nI S) x2 (-9 : Int32) (0 : Int32) (vp_updL Mx 0 1) = some (nI (prD T 19), g) := by
    rw [show (-9 : Int32) = plc 0 from by decide, show (0 : Int32) = nI (prD T 0) from rfl, h1]
  rw [h1']
  rfl
/-! values of the product -/
def EV (N : Nat → Int64) (d : Nat) (x : Int64) : Int64 := sm (fun i => N i * pw x i) (d + 1)
theorem EV_mulL (N : Nat → Int64) (c x : Int64) : ∀ n, sm (fun i => mulX N c i * pw x i) (n + 1) = x * sm (fun i => N i * pw x i) n + c * sm (fun i => N i * pw x i) (n + 1) := by
  intro n
  induction n with
  | zero =>
    show 0 + mulX N c 0 * pw x 0 = x * 0 + c * (0 + N 0 * pw x 0)
    unfold mulX
    rw [if_pos rfl, pw0]
    grind
  | succ n ih =>
    rw [sm, ih, show sm (fun i => N i * pw x i) (n + 1 + 1) = sm (fun i => N i * pw x i) (n + 1) + N (n + 1) * pw x (n + 1) from rfl, show sm (fun i => N i * pw x i) (n + 1) = sm (fun i => N i * pw x i) n + N n * pw x n from rfl]
    unfold mulX
    rw [if_neg (by omega), Nat.add_sub_cancel, show pw x (n + 1) = pw x n * x from rfl]
    generalize sm (fun i => N i * pw x i) n = s
    generalize pw x n = p
    generalize N n = u
    generalize N (n + 1) = v
    grind
theorem EV_mul {N : Nat → Int64} {d : Nat} (hN : ∀ i, d < i → N i = 0) (c x : Int64) : EV (mulX N c) (d + 1) x = (x + c) * EV N d x := by
  unfold EV
  rw [EV_mulL, show sm (fun i => N i * pw x i) (d + 1 + 1) = sm (fun i => N i * pw x i) (d + 1) + N (d + 1) * pw x (d + 1) from rfl, hN (d + 1) (by omega)]
  generalize sm (fun i => N i * pw x i) (d + 1) = s
  grind
theorem EV_ne {T : Nat → Bool} {b : Nat} (hb : b < 19) (hTb : T b = false) : ∀ c, c ≤ 19 → ∃ z : Int, EV (prN T c) (prD T c) (plc b).toInt64 = Int64.ofInt z ∧ z ≠ 0 ∧ z.natAbs ≤ 18 ^ (prD T c) := by
  intro c
  induction c with
  | zero => intro _; exact ⟨1, by
      show 0 + (if (0 : Nat) = 0 then (1 : Int64) else 0) * 1 = Int64.ofInt 1
      rw [if_pos rfl]; decide, by decide, by show 1 ≤ 18 ^ 0; omega⟩
  | succ c ih =>
    intro hc
    obtain ⟨z, h1, h2, h3⟩ := ih (by omega)
    rw [prN, prD]
    by_cases q : T c = true
    · rw [if_pos q, if_pos q, EV_mul (prN_0 T c), tb_dif b hb c (by omega), h1, ← Int64.ofInt_mul]
      have hbc : b ≠ c := fun e => by rw [← e, hTb] at q; exact absurd q (by simp)
      refine ⟨((b : Int) - (c : Int)) * z, rfl, Int.mul_ne_zero (by omega) h2, ?_⟩
      rw [Int.natAbs_mul, Nat.pow_succ, Nat.mul_comm]
      exact Nat.mul_le_mul h3 (by omega)
    · rw [if_neg q, if_neg q]
      exact ⟨z, h1, h2, h3⟩
theorem EV_ne0 {T : Nat → Bool} {b : Nat} (hb : b < 19) (hTb : T b = false) (hd : prD T 19 ≤ 7) : EV (prN T 19) (prD T 19) (plc b).toInt64 ≠ 0 := by
  obtain ⟨z, h1, h2, h3⟩ := EV_ne hb hTb 19 (by omega)
  have h4 : 18 ^ (prD T 19) ≤ 18 ^ 7 := Nat.pow_le_pow_right (by omega) hd
  rw [h1]
  intro q
  exact h2 ((oI_eq0 (by omega)).mp q)
def he (N : Nat → Int64) (x : Int64) : Nat → Int64 → Int64
  | 0, s => s * x + N 0
  | j + 1, s => he N x j (s * x + N (j + 1))
theorem he_sm (N : Nat → Int64) (x : Int64) : ∀ j s, he N x j s = s * pw x (j + 1) + sm (fun i => N i * pw x i) (j + 1) := by
  intro j
  induction j with
  | zero =>
    intro s
    show s * x + N 0 = s * (1 * x) + (0 + N 0 * 1)
    grind
  | succ j ih =>
    intro s
    rw [he, ih, show sm (fun i => N i * pw x i) (j + 1 + 1) = sm (fun i => N i * pw x i) (j + 1) + N (j + 1) * pw x (j + 1) from rfl, show pw x (j + 1 + 1) = pw x (j + 1) * x from rfl]
    generalize sm (fun i => N i * pw x i) (j + 1) = u
    generalize pw x (j + 1) = p
    grind
theorem x_peL {d : Nat} (hd : d ≤ 7) {N pn : Nat → Int64} (hp : ∀ i, i ≤ d → pn i = N i) (x1 : Int32) : ∀ (j fu : Nat) (s : Int64), j ≤ d → j + 1 < fu → f_X1_evaluate_L8 fu x1 s (nI j) (nI d) pn = some (he N x1.toInt64 j s) := by
  intro j
  induction j with
  | zero =>
    intro fu s hj hfu
    obtain ⟨f, rfl⟩ : ∃ f, fu = f + 2 := ⟨fu - 2, by omega⟩
    rw [f_X1_evaluate_L8, if_neg (nI_pos (by omega)), x_number (by omega) hd, Option.bind_some, if_pos hj, hp 0 hj, f_X1_evaluate_L8, if_pos (by decide)]
    rfl
  | succ j ih =>
    intro fu s hj hfu
    obtain ⟨f, rfl⟩ : ∃ f, fu = f + 1 := ⟨fu - 1, by omega⟩
    rw [f_X1_evaluate_L8, if_neg (nI_pos (by omega)), x_number (by omega) hd, Option.bind_some, if_pos hj, hp _ hj, nI_m1, ih f _ (by omega) (by omega)]
    rfl
theorem x_pe {d : Nat} (hd : d ≤ 7) {N pn : Nat → Int64} (hp : ∀ i, i ≤ d → pn i = N i) (x1 : Int32) : f_X1_evaluate x1 (nI d) pn = some (EV N d x1.toInt64) := by
  unfold f_X1_evaluate
  rw [x_peL hd hp x1 d 200 0 (by omega) (by omega), Option.bind_some, he_sm, Int64.zero_mul, Int64.zero_add]
  rfl
theorem x_mean1E : ∀ (fu : Nat) (u : Int32) (s : Int64) (i rK : Int32) (rf : Nat → Int32) (pd : Int32) (pn : Nat → Int64), f_X3_mean_v1_L5 fu u s i rK rf pd pn = f_X3_mean_L5 fu u s i rK rf pd pn := by
  intro fu
  induction fu with
  | zero => intros; rfl
  | succ fu ih => intro u s i rK rf pd pn; rw [f_X3_mean_v1_L5, f_X3_mean_L5]; simp only [ih]
theorem x_mean1 {K : Nat} {a rf : Nat → Int32} (hk : okRow K a) (hf : ∀ j, j < K → rf j = a j) {d u : Nat} (hd : d ≤ 7) (hu : u < 100) {N pn : Nat → Int64} (hp : ∀ i, i ≤ d → pn i = N i) : f_X3_mean_v1 (nI u) (nI K) rf (nI d) pn = some (sm (fun i => N i * (a (i + u)).toInt64) (d + 1)) := by
  rw [← x_mean hk hf hd hu hp]
  unfold f_X3_mean_v1 f_X3_mean
  rw [x_mean1E]
theorem m_w73 {a Mr : Nat → Int32} (hm : ∀ j, j < 7 → Mr j = a j) {d : Nat} (hd : d ≤ 6) {N Mx : Nat → Int64} (hp : ∀ i, i ≤ d → Mx i = N i) (x2 : Int32) : ∀ (m fu i : Nat) (s t : Int64), i + m = d + 1 → m < fu → s = sm (fun i => N i * (a (i + 0)).toInt64) i → t = sm (fun i => N i * pw x2.toInt64 i) i → f_X7_weight_L73 fu x2 s t (nI i) (nI d) Mr Mx = some (sm (fun i => N i * (a (i + 0)).toInt64) (d + 1), EV N d x2.toInt64) := by
  intro m
  induction m with
  | zero =>
    intro fu i s t hi hfu hs ht
    obtain ⟨f, rfl⟩ : ∃ f, fu = f + 1 := ⟨fu - 1, by omega⟩
    rw [f_X7_weight_L73, if_pos (nI_lt (by omega) (by omega)), hs, ht, show i = d + 1 by omega]
    rfl
  | succ m ih =>
    intro fu i s t hi hfu hs ht
    obtain ⟨f, rfl⟩ : ∃ f, fu = f + 1 := ⟨fu - 1, by omega⟩
    rw [f_X7_weight_L73, if_neg (nI_nlt (by omega) (by omega)), gif (by omega) (by omega), gif (by omega) (by omega), gif (by omega) (by omega), nI_cl (by omega), m_power _ (by omega), Option.bind_some, hp i (by omega), hm i (by omega), k1, nI_add]
    exact ih f (i + 1) _ _ (by omega) (by omega) (by rw [hs]; rfl) (by rw [ht]; rfl)
theorem sm0 (F : Nat → Int64) : sm F 0 = 0 := rfl
theorem m_w {a Mr : Nat → Int32} (hm : ∀ j, j < 7 → Mr j = a j) {d : Nat} (hd : d ≤ 6) {N Mx : Nat → Int64} (hp : ∀ i, i ≤ d → Mx i = N i) (x2 : Int32) : f_X7_weight_L73 200 x2 (0 : Int64) (0 : Int64) (0 : Int32) (nI d) Mr Mx = some (sm (fun i => N i * (a (i + 0)).toInt64) (d + 1), EV N d x2.toInt64) := by
  rw [k0]
  exact m_w73 hm hd hp x2 (d + 1) 200 0 0 0 (by omega) (by omega) (sm0 _).symm (sm0 _).symm
theorem k52 : (524287 : Int32) = nI 524287 := rfl
theorem inS {x : Int32} (h : ¬ (x < (1 : Int32) ∨ (524287 : Int32) < x)) : ∃ S, 1 ≤ S ∧ S < 2 ^ 19 ∧ x = nI S := by
  rw [k1, k52] at h
  obtain ⟨S, h1, h2, h3⟩ := inn (a := 1) (b := 524287) (by omega) (by omega) h
  exact ⟨S, h1, by omega, h3⟩
/-! the bits of a set -/
def bitT (S : Nat) (c : Nat) : Bool := decide (S / 2 ^ c % 2 = 1)
theorem prD_bit (S : Nat) : ∀ c, prD (bitT S) c = pcU S c := by
  intro c
  induction c with
  | zero => rfl
  | succ c ih =>
    rw [prD, pcU, ih]
    by_cases q : S / 2 ^ c % 2 = 1
    · rw [if_pos (show bitT S c = true from decide_eq_true q), q]
    · rw [if_neg (by unfold bitT; rw [decide_eq_false q]; simp)]; omega
def bitX (S b : Nat) (c : Nat) : Bool := decide (S / 2 ^ c % 2 = 1 ∧ c ≠ b)
theorem prD_bitX {S b : Nat} (hb : S / 2 ^ b % 2 = 1) : ∀ c, prD (bitX S b) c + (if b < c then 1 else 0) = pcU S c := by
  intro c
  induction c with
  | zero => rw [if_neg (by omega)]; rfl
  | succ c ih =>
    rw [prD, pcU, ← ih]
    by_cases e : c = b
    · subst e
      rw [if_neg (by unfold bitX; rw [decide_eq_false (fun z => z.2 rfl)]; simp), if_pos (by omega), if_neg (by omega), hb]
    · by_cases q : S / 2 ^ c % 2 = 1
      · rw [if_pos (show bitX S b c = true from decide_eq_true ⟨q, e⟩), q]
        by_cases w : b < c
        · rw [if_pos w, if_pos (by omega)]
        · rw [if_neg w, if_neg (by omega)]
      · rw [if_neg (by unfold bitX; rw [decide_eq_false (fun z => q z.1)]; simp), show S / 2 ^ c % 2 = 0 by omega]
        by_cases w : b < c
        · rw [if_pos w, if_pos (by omega)]
        · rw [if_neg w, if_neg (by omega)]
theorem xor_lt {S b : Nat} (hS : S < 2 ^ 19) (hb : b < 19) : S ^^^ 2 ^ b < 2 ^ 19 := Nat.xor_lt_two_pow hS (Nat.pow_lt_pow_right (by omega) hb)
theorem xor_bit {S b c : Nat} (hb : S / 2 ^ b % 2 = 1) : (S ^^^ 2 ^ b) / 2 ^ c % 2 = 0 ↔ bitX S b c = false := by
  have t1 := Nat.testBit_eq_decide_div_mod_eq (x := S ^^^ 2 ^ b) (i := c)
  have t2 := Nat.testBit_eq_decide_div_mod_eq (x := S) (i := c)
  rw [Nat.testBit_xor, Nat.testBit_two_pow, t2] at t1
  unfold bitX
  by_cases e : b = c
  · subst e
    rw [decide_eq_true hb, decide_eq_true rfl] at t1
    have t3 : decide ((S ^^^ 2 ^ b) / 2 ^ b % 2 = 1) = false := t1.symm
    have := of_decide_eq_false t3
    rw [decide_eq_false (fun z => z.2 rfl)]
    constructor
    · intro _; rfl
    · intro _; omega
  · rw [decide_eq_false e, Bool.xor_false] at t1
    by_cases q : S / 2 ^ c % 2 = 1
    · rw [decide_eq_true q] at t1
      have := of_decide_eq_true t1.symm
      rw [decide_eq_true ⟨q, fun z => e z.symm⟩]
      constructor
      · intro z; omega
      · intro z; exact absurd z (by simp)
    · rw [decide_eq_false q] at t1
      have := of_decide_eq_false t1.symm
      rw [decide_eq_false (fun z => q z.1)]
      constructor
      · intro _; rfl
      · intro _; omega
theorem x_noSet {S : Nat} (h1 : 1 ≤ S) (hS : S < 2 ^ 19) : f_X6_isNoSet (nI S) = some (decide (7 < pcU S 19)) := by
  unfold f_X6_isNoSet
  have hl := pcU_le S 19
  rw [x_out, Option.bind_some]
  simp only [bI_dec]
  rw [if_pos (by rw [k1, k52]; exact nI_out (by omega) h1 (by omega) (by omega)), x_bits hS, Option.bind_some, k7]
  by_cases q : 7 < pcU S 19
  · rw [if_neg (nI_ge q (by omega)), decide_eq_true q]
  · rw [if_pos (nI_le (by omega) (by omega)), decide_eq_false q]
theorem m_isSet {S : Nat} (h1 : 1 ≤ S) (hS : S < 2 ^ 19) : f_X7_isSet (nI S) = some (decide (¬ 7 < pcU S 19)) := by
  unfold f_X7_isSet
  have hl := pcU_le S 19
  rw [m_inb (a := 1) (b := 524287) (by decide) (by decide), Option.bind_some]
  simp only [bI_decn]
  rw [if_neg (by rw [k1, k52]; exact nI_out (by omega) h1 (by omega) (by omega)), m_size hS, Option.bind_some, k7]
  by_cases q : 7 < pcU S 19
  · rw [if_pos (nI_lt q (by omega)), decide_eq_false (nn q)]
  · rw [if_neg (nI_nlt (by omega) (by omega)), decide_eq_true q]
theorem x_noSetO {x : Int32} (h : x < (1 : Int32) ∨ (524287 : Int32) < x) : f_X6_isNoSet x = some true := by
  unfold f_X6_isNoSet
  rw [x_out, Option.bind_some]
  simp only [bI_dec]
  rw [if_neg (nn h)]
theorem m_isSetO {x : Int32} (h : x < (1 : Int32) ∨ (524287 : Int32) < x) : f_X7_isSet x = some false := by
  unfold f_X7_isSet
  rw [m_inb (a := 1) (b := 524287) (by decide) (by decide), Option.bind_some]
  simp only [bI_decn]
  rw [if_pos h]
/-! how far a set of places is exact -/
theorem prN_1 (T : Nat → Bool) : ∀ c, prN T c (prD T c) = 1 := by
  intro c
  induction c with
  | zero => rfl
  | succ c ih =>
    rw [prN, prD]
    by_cases q : T c = true
    · rw [if_pos q, if_pos q]
      unfold mulX
      rw [if_neg (by omega), Nat.add_sub_cancel, ih, prN_0 T c _ (by omega), Int64.mul_zero, Int64.add_zero]
    · rw [if_neg q, if_neg q]; exact ih
def rs (N : Nat → Int64) (m : Nat) : Nat → Nat → Int64
  | 0 => fun i => if i = m - 1 then 1 else 0
  | k + 1 => fun i => (if i = 0 then 0 else rs N m k (i - 1)) - rs N m k (m - 1) * N i
theorem sm_shift (F : Nat → Int64) : ∀ n, sm F (n + 1) = F 0 + sm (fun i => F (i + 1)) n := by
  intro n
  induction n with
  | zero => show 0 + F 0 = F 0 + 0; grind
  | succ n ih =>
    rw [sm, ih, show sm (fun i => F (i + 1)) (n + 1) = sm (fun i => F (i + 1)) n + F (n + 1) from rfl]
    grind
theorem sm_z {F : Nat → Int64} : ∀ n, (∀ i, i < n → F i = 0) → sm F n = 0 := by
  intro n
  induction n with
  | zero => intro _; rfl
  | succ n ih => intro h; rw [sm, ih (fun i hi => h i (by omega)), h n (by omega)]; rfl
theorem rec_L (r N A : Nat → Int64) (l : Int64) (k : Nat) : ∀ n, sm (fun i => ((if i = 0 then 0 else r (i - 1)) - l * N i) * A (i + k)) (n + 1) = sm (fun i => r i * A (i + (k + 1))) n - l * sm (fun i => N i * A (i + k)) (n + 1) := by
  intro n
  induction n with
  | zero =>
    show 0 + ((if (0 : Nat) = 0 then 0 else r (0 - 1)) - l * N 0) * A (0 + k) = 0 - l * (0 + N 0 * A (0 + k))
    rw [if_pos rfl]
    grind
  | succ n ih =>
    rw [sm, ih, show sm (fun i => r i * A (i + (k + 1))) (n + 1) = sm (fun i => r i * A (i + (k + 1))) n + r n * A (n + (k + 1)) from rfl, show sm (fun i => N i * A (i + k)) (n + 1 + 1) = sm (fun i => N i * A (i + k)) (n + 1) + N (n + 1) * A (n + 1 + k) from rfl, if_neg (by omega), Nat.add_sub_cancel, show n + 1 + k = n + (k + 1) by omega]
    generalize sm (fun i => r i * A (i + (k + 1))) n = u
    generalize sm (fun i => N i * A (i + k)) (n + 1) = v
    grind
def Dk (N A : Nat → Int64) (m k : Nat) : Int64 := sm (fun i => N i * A (i + k)) (m + 1)
def Lk (r A : Nat → Int64) (m k : Nat) : Int64 := sm (fun i => r i * A (i + k)) m
theorem L_rec {N A : Nat → Int64} {m : Nat} (hm : 1 ≤ m) (hN : N m = 1) (k u : Nat) : Lk (rs N m (k + 1)) A m u = Lk (rs N m k) A m (u + 1) - rs N m k (m - 1) * Dk N A m u := by
  obtain ⟨n, rfl⟩ : ∃ n, m = n + 1 := ⟨m - 1, by omega⟩
  unfold Lk Dk
  have h := rec_L (rs N (n + 1) k) N A (rs N (n + 1) k (n + 1 - 1)) u n
  rw [show sm (fun i => rs N (n + 1) (k + 1) i * A (i + u)) (n + 1) = sm (fun i => ((if i = 0 then 0 else rs N (n + 1) k (i - 1)) - rs N (n + 1) k (n + 1 - 1) * N i) * A (i + u)) (n + 1) from rfl, h, show sm (fun i => rs N (n + 1) k i * A (i + (u + 1))) (n + 1) = sm (fun i => rs N (n + 1) k i * A (i + (u + 1))) n + rs N (n + 1) k n * A (n + (u + 1)) from rfl, show sm (fun i => N i * A (i + u)) (n + 1 + 1) = sm (fun i => N i * A (i + u)) (n + 1) + N (n + 1) * A (n + 1 + u) from rfl, hN, Nat.add_sub_cancel, show n + 1 + u = n + (u + 1) by omega]
  generalize sm (fun i => rs N (n + 1) k i * A (i + (u + 1))) n = s
  generalize sm (fun i => N i * A (i + u)) (n + 1) = t
  generalize rs N (n + 1) k n = l
  grind
theorem L_0 {N A : Nat → Int64} {m : Nat} (hm : 1 ≤ m) (u : Nat) : Lk (rs N m 0) A m u = A (m - 1 + u) := by
  obtain ⟨n, rfl⟩ : ∃ n, m = n + 1 := ⟨m - 1, by omega⟩
  unfold Lk
  rw [sm, sm_z n (fun i hi => by
    show (if i = n + 1 - 1 then (1 : Int64) else 0) * A (i + u) = 0
    rw [if_neg (by omega), Int64.zero_mul])]
  show 0 + (if n = n + 1 - 1 then (1 : Int64) else 0) * A (n + u) = A (n + 1 - 1 + u)
  rw [if_pos (by omega), Nat.add_sub_cancel, Int64.one_mul, Int64.zero_add]
theorem L_inv {N A : Nat → Int64} {m : Nat} (hm : 1 ≤ m) (hN : N m = 1) : ∀ k, ∃ c : Nat → Int64, ∀ u, Lk (rs N m (k + 1)) A m u = A (m + k + u) - (Dk N A m (u + k) + sm (fun i => c i * Dk N A m (u + i)) k) := by
  intro k
  induction k with
  | zero =>
    refine ⟨fun _ => 0, fun u => ?_⟩
    rw [L_rec hm hN, L_0 hm]
    have e : rs N m 0 (m - 1) = 1 := by
      show (if m - 1 = m - 1 then (1 : Int64) else 0) = 1
      rw [if_pos rfl]
    rw [e, sm, show m - 1 + (u + 1) = m + 0 + u by omega, Int64.one_mul, Int64.add_zero]
    simp only [Nat.add_zero]
  | succ k ih =>
    obtain ⟨c, hc⟩ := ih
    refine ⟨fun i => if i = 0 then rs N m (k + 1) (m - 1) else c (i - 1), fun u => ?_⟩
    rw [L_rec hm hN, hc (u + 1), sm_shift]
    dsimp only
    have e : sm (fun i => (if i + 1 = 0 then rs N m (k + 1) (m - 1) else c (i + 1 - 1)) * Dk N A m (u + (i + 1))) k = sm (fun i => c i * Dk N A m (u + 1 + i)) k := sm_congr (fun i hi => by
      rw [if_neg (by omega), Nat.add_sub_cancel, show u + (i + 1) = u + 1 + i by omega])
    rw [if_pos rfl, e, show m + k + (u + 1) = m + (k + 1) + u by omega, show u + 1 + k = u + (k + 1) by omega, Nat.add_zero]
    generalize sm (fun i => c i * Dk N A m (u + 1 + i)) k = s
    grind
theorem L_test {N A : Nat → Int64} {m : Nat} (hm : 1 ≤ m) (hN : N m = 1) {k : Nat} (hD : ∀ i, i < k → Dk N A m i = 0) : Lk (rs N m (k + 1)) A m 0 = A (m + k) - Dk N A m k := by
  obtain ⟨c, hc⟩ := L_inv (A := A) hm hN k
  rw [hc 0, sm_z k (fun i hi => by rw [Nat.zero_add, hD i hi, Int64.mul_zero]), Nat.zero_add, Nat.add_zero, Int64.add_zero]
theorem sub_eq_iff (x y : Int64) : x - y = x ↔ y = 0 := by
  constructor
  · intro h
    have : y = x - (x - y) := by grind
    rw [h] at this
    rw [this]; grind
  · rintro rfl; grind
theorem m_e42 {m : Nat} (hm : m ≤ 7) : ∀ (j fu : Nat) (z : Nat → Int64), j ≤ m → m - j < fu → ∃ z', f_X7_exact_L42 fu (nI m) (nI j) z = some z' ∧ ∀ i, z' i = if j ≤ i ∧ i < m then (if i = m - 1 then 1 else 0) else z i := by
  intro j fu
  induction fu generalizing j with
  | zero => intro z _ h; omega
  | succ fu ih =>
    intro z hj hfu
    rw [f_X7_exact_L42]
    by_cases e : j = m
    · subst e
      rw [if_pos (nI_le (by omega) (by omega))]
      exact ⟨z, rfl, fun i => by rw [if_neg (by omega)]⟩
    · have step : ∀ x, x = (if j = m - 1 then (1 : Int64) else 0) → ∃ z', f_X7_exact_L42 fu (nI m) (nI (j + 1)) (vp_updL z j x) = some z' ∧ ∀ i, z' i = if j ≤ i ∧ i < m then (if i = m - 1 then 1 else 0) else z i := by
        intro x hx
        obtain ⟨z', h1, h2⟩ := ih (j + 1) (vp_updL z j x) (by omega) (by omega)
        refine ⟨z', h1, fun i => ?_⟩
        rw [h2 i]
        by_cases hi : i = j
        · subst hi; rw [if_neg (by omega), updL_s, if_pos (by omega), hx]
        · by_cases hi2 : j ≤ i ∧ i < m
          · rw [if_pos (by omega), if_pos hi2]
          · rw [if_neg (by omega), if_neg hi2, updL_n hi]
      rw [if_neg (nI_ge (by omega) (by omega)), k1, pk_sub (by omega), nI_add]
      by_cases q : j = m - 1
      · rw [if_pos (by rw [q]), gif (by omega) (by omega), nI_cl (by omega)]
        exact step 1 (by rw [if_pos q])
      · rw [if_neg (by rw [nI_eq (by omega) (by omega)]; exact q), gif (by omega) (by omega), nI_cl (by omega)]
        exact step 0 (by rw [if_neg q])
theorem m_e102 {a Mr : Nat → Int32} (hmr : ∀ j, j < 7 → Mr j = a j) {N Mx : Nat → Int64} {r : Nat → Int64} {m : Nat} (hm7 : m ≤ 7) (hx : ∀ i, i ≤ m → Mx i = N i) (l : Int64) : ∀ (j fu : Nat) (s : Int64) (z : Nat → Int64), j < m → j + 1 < fu → (∀ i, i < j → z i = r i) → ∃ z', f_X7_exact_L102 fu l s (nI j) Mr Mx z = some (s + sm (fun i => ((if i = 0 then 0 else r (i - 1)) - l * N i) * (a i).toInt64) (j + 1), z') ∧ ∀ i, z' i = if i ≤ j then (if i = 0 then 0 else r (i - 1)) - l * N i else z i := by
  intro j
  induction j with
  | zero =>
    intro fu s z hj hfu hz
    obtain ⟨f, rfl⟩ : ∃ f, fu = f + 2 := ⟨fu - 2, by omega⟩
    rw [f_X7_exact_L102, if_neg (nI_pos (by omega)), if_pos (by decide), gif (by omega) (by omega), gif (by omega) (by omega), gif (by omega) (by omega), gif (by omega) (by omega), nI_cl (by omega), Option.bind_some, updL_s, f_X7_exact_L102, if_pos (by decide), hx 0 (by omega), hmr 0 (by omega)]
    refine ⟨vp_updL z 0 (0 - l * N 0), ?_, fun i => ?_⟩
    · show some (s + (0 - l * N 0) * (a 0).toInt64, vp_updL z 0 (0 - l * N 0)) = some (s + (0 + ((if (0 : Nat) = 0 then 0 else r (0 - 1)) - l * N 0) * (a 0).toInt64), vp_updL z 0 (0 - l * N 0))
      rw [if_pos rfl, Int64.zero_add]
    by_cases hi : i = 0
    · subst hi; rw [updL_s, if_pos (by omega), if_pos rfl]
    · rw [updL_n hi, if_neg (by omega)]
  | succ j ih =>
    intro fu s z hj hfu hz
    obtain ⟨f, rfl⟩ : ∃ f, fu = f + 1 := ⟨fu - 1, by omega⟩
    have e0 : nI (j + 1) - (1 : Int32) = nI j := by rw [k1, pk_sub (by omega)]; rfl
    rw [f_X7_exact_L102, if_neg (nI_pos (by omega)), if_neg (by rw [k0, nI_eq (by omega) (by omega)]; omega), e0, nI_m1, gif (by omega) (by omega), gif (by omega) (by omega), gif (by omega) (by omega), gif (by omega) (by omega), gif (by omega) (by omega), nI_cl (by omega), nI_cl (by omega), Option.bind_some, updL_s, hx (j + 1) (by omega), hmr (j + 1) (by omega), hz j (by omega)]
    obtain ⟨z', h1, h2⟩ := ih f (s + (r j - l * N (j + 1)) * (a (j + 1)).toInt64) (vp_updL z (j + 1) (r j - l * N (j + 1))) (by omega) (by omega) (fun i hi => by rw [updL_n (by omega)]; exact hz i (by omega))
    refine ⟨z', ?_, fun i => ?_⟩
    · rw [h1, show sm (fun i => ((if i = 0 then 0 else r (i - 1)) - l * N i) * (a i).toInt64) (j + 1 + 1) = sm (fun i => ((if i = 0 then 0 else r (i - 1)) - l * N i) * (a i).toInt64) (j + 1) + ((if j + 1 = 0 then 0 else r (j + 1 - 1)) - l * N (j + 1)) * (a (j + 1)).toInt64 from rfl, if_neg (by omega), Nat.add_sub_cancel]
      congr 2
      generalize sm (fun i => ((if i = 0 then 0 else r (i - 1)) - l * N i) * (a i).toInt64) (j + 1) = u
      grind
    · rw [h2 i]
      by_cases hi : i = j + 1
      · subst hi; rw [if_neg (by omega), updL_s, if_pos (by omega), if_neg (by omega), Nat.add_sub_cancel]
      · by_cases hi2 : i ≤ j
        · rw [if_pos hi2, if_pos (show i ≤ j + 1 by omega)]
        · rw [if_neg hi2, if_neg (show ¬ i ≤ j + 1 by omega), updL_n hi]
theorem ex_st {K : Nat} {a rf Mr : Nat → Int32} (hk : okRow K a) (hf : ∀ j, j < K → rf j = a j) (hmr : ∀ j, j < 7 → Mr j = a j) (hm7 : Mr 7 = nI K) {N pn Mx : Nat → Int64} {m : Nat} (hm1 : 1 ≤ m) (hp : ∀ i, i ≤ m → pn i = N i) (hx : ∀ i, i ≤ m → Mx i = N i) (hN : N m = 1) (My : Int32) (Mf : Nat → Int32) : ∀ (j fu e k : Nat) (z : Nat → Int64), m + k + j = K → e + 1 = m + k → j < fu → (∀ i, i < m → z i = rs N m k i) → (∀ i, i < k → Dk N (fun t => (a t).toInt64) m i = 0) → ∃ r z', f_X6_exact_L49 fu (nI m) (nI e) (nI K) rf (nI m) pn = some r ∧ f_X7_exact_L73 fu (nI m) (nI (m + k)) My Mr Mf Mx z = some (r, My, Mf, Mx, z') := by
  have hK7 := hk.2.1
  intro j
  induction j with
  | zero =>
    intro fu e k z hjk he hfu hz hD
    obtain ⟨f, rfl⟩ : ∃ f, fu = f + 1 := ⟨fu - 1, by omega⟩
    refine ⟨nI e, z, ?_, ?_⟩
    · rw [f_X6_exact_L49, f_X3_size, Option.bind_some, k1, nI_add, if_pos (nI_le (by omega) (by omega))]
    · rw [f_X7_exact_L73]
      simp only [cl7, H87, if_false, hm7]
      rw [if_pos (nI_le (by omega) (by omega)), k1, pk_sub (by omega), show K - 1 = e by omega]
  | succ j ih =>
    intro fu e k z hjk he hfu hz hD
    obtain ⟨f, rfl⟩ : ∃ f, fu = f + 1 := ⟨fu - 1, by omega⟩
    have e1 := x_mean1 hk hf (d := m) (u := k) (by omega) (by omega) hp
    obtain ⟨z', g1, g2⟩ := m_e102 hmr (by omega) hx (r := rs N m k) (rs N m k (m - 1)) (m - 1) 200 0 z (by omega) (by omega) (fun i hi => hz i (by omega))
    have g3 : (0 : Int64) + sm (fun i => ((if i = 0 then 0 else rs N m k (i - 1)) - rs N m k (m - 1) * N i) * (a i).toInt64) (m - 1 + 1) = (a (m + k)).toInt64 - Dk N (fun t => (a t).toInt64) m k := by
      rw [Int64.zero_add, show m - 1 + 1 = m by omega]
      exact L_test (A := fun t => (a t).toInt64) hm1 hN hD
    rw [g3] at g1
    have z1 : z (m - 1) = rs N m k (m - 1) := hz (m - 1) (by omega)
    rw [f_X6_exact_L49, f_X7_exact_L73, f_X3_size, Option.bind_some, k1, nI_add, he, pk_sub (by omega), Nat.add_sub_cancel_left, if_neg (nI_ge (by omega) (by omega)), e1, Option.bind_some]
    simp only [cl7, H87, if_false, hm7]
    rw [if_neg (nI_ge (by omega) (by omega)), pk_sub (by omega), gif (by omega) (by omega), nI_cl (by omega), z1, g1, Option.bind_some]
    dsimp only
    rw [gif (by omega) (by omega), nI_cl (by omega), hmr (m + k) (by omega), nI_add]
    by_cases q : Dk N (fun t => (a t).toInt64) m k = 0
    · rw [if_pos (show sm (fun i => N i * (a (i + k)).toInt64) (m + 1) = 0 from q), if_pos ((sub_eq_iff _ _).mpr q)]
      exact ih f (m + k) (k + 1) z' (by omega) (by omega) (by omega) (fun i hi => by rw [g2 i, if_pos (by omega)]; rfl) (fun i hi => by
        by_cases w : i = k
        · subst w; exact q
        · exact hD i (by omega))
    · rw [if_neg (show ¬ sm (fun i => N i * (a (i + k)).toInt64) (m + 1) = 0 from q), if_neg (fun w => q ((sub_eq_iff _ _).mp w)), pk_sub (by omega)]
      exact ⟨nI e, z', rfl, by rw [show m + k - 1 = e by omega]⟩
theorem tb_p99 : ∀ c, c < 19 → ¬ plc c = (99 : Int32) := by decide +kernel
theorem w_set {S b : Nat} (hS : S < 2 ^ 19) (hb : b < 19) : ∃ y : Int32, f_X6_bitOf (plc b) = some y ∧ (nI S &&& y = 0 ↔ S / 2 ^ b % 2 = 0) ∧ ((nI S >>> ((plc b + (9 : Int32)) &&& 31)) &&& (1 : Int32) = 0 ↔ S / 2 ^ b % 2 = 0) ∧ nI S ^^^ y = nI (S ^^^ 2 ^ b) := by
  refine ⟨(1 : Int32) <<< (nI b &&& 31), ?_, ?_, ?_, ?_⟩
  · unfold f_X6_bitOf; rw [plc_9]
  · rw [x_bit hS hb]
  · rw [plc_9, m_bit hS (by omega), k0, nI_eq (by omega) (by omega)]
  · have h2b : 2 ^ b < 2 ^ 31 := Nat.pow_lt_pow_right (by omega) (by omega)
    rw [k1, pk_shlN _ b (bs_sh b (by omega)) (by omega), Nat.one_mul, bs_xor]
theorem w_main {K : Nat} {a rf Mr : Nat → Int32} (hk : okRow K a) (hf : ∀ j, j < K → rf j = a j) (hm : ∀ j, j < 7 → Mr j = a j) {S b : Nat} (hS : S < 2 ^ 19) (hb : b < 19) (hb1 : S / 2 ^ b % 2 = 1) (h7 : pcU S 19 ≤ 7) (pn Mx : Nat → Int64) : ∃ (d : Nat) (g g' : Nat → Int64) (U V : Int64), f_X1_vanishAt (nI (S ^^^ 2 ^ b)) pn = some (nI d, g) ∧ f_X7_makeProduct (nI S) (plc b) Mx = some (nI d, g') ∧ f_X3_mean_v1 (0 : Int32) (nI K) rf (nI d) g = some U ∧ f_X1_evaluate (plc b) (nI d) g = some V ∧ f_X7_weight_L73 200 (plc b) (0 : Int64) (0 : Int64) (0 : Int32) (nI d) Mr g' = some (U, V) ∧ V ≠ 0 := by
  have hd := prD_bitX hb1 19
  rw [if_pos hb] at hd
  obtain ⟨g, g1, g2⟩ := x_van (T := bitX S b) (by omega) (y := nI (S ^^^ 2 ^ b)) (fun c hc => by rw [x_bit (xor_lt hS hb) hc]; exact xor_bit hb1) pn
  obtain ⟨g', g3, g4⟩ := m_pr hS (x2 := plc b) (T := bitX S b) (by omega) (fun c hc => by
    unfold bitX
    rw [decide_eq_true_iff]
    constructor
    · intro z; exact ⟨z.1, fun w => z.2 (plc_inj hc hb w)⟩
    · intro z; exact ⟨z.1, fun w => z.2 (by rw [w])⟩) Mx
  have hTb : bitX S b b = false := decide_eq_false (fun z => z.2 rfl)
  have ne := EV_ne0 hb hTb (by omega)
  generalize prN (bitX S b) 19 = N at *
  have hd6 : prD (bitX S b) 19 ≤ 6 := by omega
  generalize prD (bitX S b) 19 = d at *
  refine ⟨d, g, g', _, _, g1, g3, ?_, x_pe (by omega) g2 (plc b), m_w hm hd6 g4 (plc b), ne⟩
  rw [k0]
  exact x_mean1 hk hf (u := 0) (by omega) (by omega) g2
set_option maxHeartbeats 4000000 in
set_option maxRecDepth 100000 in
theorem op_weight (x1 : Int32) (x2 : Int32) (x3 : Int32) (kb : Int32) (kn : Int32) (kf : Int32) (rK : Int32) (rf : Nat → Int32) (vo : Int32) (vd : Int32) (vs : Nat → Int32) (tl : Int32) (tb : Nat → Int32) (Ms : Int32) (Mb : Int32) (Mr : Nat → Int32) (Mp : Nat → Int32) (Mf : Nat → Int32) (Mt : Nat → Int32) (pd : Int32) (pn : Nat → Int64) (My : Int32) (Mx : Nat → Int64) (hrel : Rel kb kn kf rK rf vo vd vs tl tb Ms Mb Mr Mp Mf Mt) : ∃ rx rm, f_X6_weight x1 x2 x3 kb kn kf rK rf pd pn = some rx ∧ f_X7_weight x1 x2 x3 My Mr Mf Mx = some rm ∧ rx.1 = rm.1 ∧ Rel rx.2.1 rx.2.2.1 rx.2.2.2.1 rK rf vo vd vs tl tb Ms Mb Mr Mp rm.2.2.1 Mt := by
  have hrel0 := hrel
  obtain ⟨⟨K, a, hk, rfl, hf, hm, hm7⟩, hc, hs, ht⟩ := hrel
  have hK7 := hk.2.1
  have hSz : f_X3_size (nI K) = some (nI K) := rfl
  by_cases P0 : x1 < (1 : Int32) ∨ (524287 : Int32) < x1
  · have s1 := x_noSetO P0
    have s2 := m_isSetO P0
    refine ⟨((-1000001 : Int32).toInt64, kb + 1, kn, kf, pd, pn), ((-1000001 : Int32).toInt64, My, upd Mf 0 (Mf 0 + 1), Mx), ?_, ?_, rfl, rel_bad hrel0⟩
    · unfold f_X6_weight
      rw [s1, Option.bind_some, if_neg bI_tne, x_bad, Option.bind_some]
    · unfold f_X7_weight
      rw [s2, Option.bind_some, if_pos bI_fe, m_bad, Option.bind_some]
  obtain ⟨S, hS1, hS, rfl⟩ := inS P0
  clear P0
  have hl := pcU_le S 19
  have s1 := x_noSet hS1 hS
  have s2 := m_isSet hS1 hS
  have z1 := x_bits hS
  have z2 := m_size hS
  by_cases P1 : 7 < pcU S 19
  · rw [decide_eq_true P1] at s1
    rw [decide_eq_false (nn P1)] at s2
    generalize nI S = x at *
    refine ⟨((-1000001 : Int32).toInt64, kb + 1, kn, kf, pd, pn), ((-1000001 : Int32).toInt64, My, upd Mf 0 (Mf 0 + 1), Mx), ?_, ?_, rfl, rel_bad hrel0⟩
    · unfold f_X6_weight
      rw [s1, Option.bind_some, if_neg bI_tne, x_bad, Option.bind_some]
    · unfold f_X7_weight
      rw [s2, Option.bind_some, if_pos bI_fe, m_bad, Option.bind_some]
  rw [decide_eq_false P1] at s1
  rw [decide_eq_true P1] at s2
  have xo := x_out x2 (-9 : Int32) (9 : Int32)
  have mo := m_plc x2
  by_cases P2 : x2 < (-9 : Int32) ∨ (9 : Int32) < x2
  · rw [decide_eq_true P2] at xo
    rw [decide_eq_false (nn P2)] at mo
    generalize nI S = x at *
    refine ⟨((-1000001 : Int32).toInt64, kb + 1, kn, kf, pd, pn), ((-1000001 : Int32).toInt64, My, upd Mf 0 (Mf 0 + 1), Mx), ?_, ?_, rfl, rel_bad hrel0⟩
    · unfold f_X6_weight
      rw [s1, Option.bind_some, if_pos bI_fe, xo, Option.bind_some, if_neg bI_tne, x_bad, Option.bind_some]
    · unfold f_X7_weight
      rw [s2, Option.bind_some, if_neg bI_tne, mo, Option.bind_some, if_pos bI_fe, m_bad, Option.bind_some]
  rw [decide_eq_false P2] at xo
  rw [decide_eq_true P2] at mo
  obtain ⟨b, hb, hx2⟩ := plc_of P2
  obtain ⟨y, y1, y2, y3, y4⟩ := w_set hS hb
  have wm := fun (hb1 : S / 2 ^ b % 2 = 1) (h7 : pcU S 19 ≤ 7) => w_main hk hf hm hS hb hb1 h7 pn Mx
  rw [← hx2] at y1 y3
  simp only [← hx2] at wm
  have hb2 : S / 2 ^ b % 2 = 0 ∨ S / 2 ^ b % 2 = 1 := by omega
  generalize nI (S ^^^ 2 ^ b) = x' at *
  generalize nI S = x at *
  generalize S / 2 ^ b % 2 = t at *
  generalize pcU S 19 = m at *
  have p1 := x_out x3 (0 : Int32) (1 : Int32)
  have p2 := m_isPart x3
  by_cases P3 : t = 0
  · refine ⟨((-1000001 : Int32).toInt64, kb + 1, kn, kf, pd, pn), ((-1000001 : Int32).toInt64, My, upd Mf 0 (Mf 0 + 1), Mx), ?_, ?_, rfl, rel_bad hrel0⟩
    · unfold f_X6_weight
      rw [s1, Option.bind_some, if_pos bI_fe, xo, Option.bind_some, if_pos bI_fe, y1, Option.bind_some, if_pos (y2.mpr P3), x_bad, Option.bind_some]
    · unfold f_X7_weight
      rw [s2, Option.bind_some, if_neg bI_tne, mo, Option.bind_some, if_neg bI_tne, if_pos (y3.mpr P3), m_bad, Option.bind_some]
  have y2' := fun z => P3 (y2.mp z)
  have y3' := fun z => P3 (y3.mp z)
  by_cases P4 : x3 < (0 : Int32) ∨ (1 : Int32) < x3
  · rw [decide_eq_true P4] at p1
    rw [decide_eq_false (nn P4)] at p2
    refine ⟨((-1000001 : Int32).toInt64, kb + 1, kn, kf, pd, pn), ((-1000001 : Int32).toInt64, My, upd Mf 0 (Mf 0 + 1), Mx), ?_, ?_, rfl, rel_bad hrel0⟩
    · unfold f_X6_weight
      rw [s1, Option.bind_some, if_pos bI_fe, xo, Option.bind_some, if_pos bI_fe, y1, Option.bind_some, if_neg y2', p1, Option.bind_some, if_neg bI_tne, x_bad, Option.bind_some]
    · unfold f_X7_weight
      rw [s2, Option.bind_some, if_neg bI_tne, mo, Option.bind_some, if_neg bI_tne, if_neg y3', p2, Option.bind_some, if_pos bI_fe, m_bad, Option.bind_some]
  rw [decide_eq_false P4] at p1
  rw [decide_eq_true P4] at p2
  have e7 : (if (7 : Int32) < 0 ∨ 8 ≤ (7 : Int32).toNatClampNeg then (none : Option Int32) else some (Mr (7 : Int32).toNatClampNeg)) = some (nI K) := by
    rw [if_neg (by decide), cl7, hm7]
  have h7 : ¬ ((7 : Int32) < 0 ∨ 8 ≤ (7 : Int32).toNatClampNeg) := by decide
  have hM7 : Mr (7 : Int32).toNatClampNeg = nI K := by rw [cl7, hm7]
  by_cases P5 : m ≤ K
  · obtain ⟨d, g, g', U, V, w1, w2, w3, w4, w5, w6⟩ := wm (by omega) (by omega)
    obtain ⟨v, v1, v2⟩ := part_eq U V x3 w6
    refine ⟨(v, kb, kn, kf, nI d, g), (v, nI d, Mf, g'), ?_, ?_, rfl, hrel0⟩
    · unfold f_X6_weight
      rw [s1, Option.bind_some, if_pos bI_fe, xo, Option.bind_some, if_pos bI_fe, y1, Option.bind_some, if_neg y2', p1, Option.bind_some, if_pos bI_fe, z1, Option.bind_some, hSz, Option.bind_some, if_pos (nI_le P5 (by omega)), Option.bind_some, y4, w1, Option.bind_some]
      dsimp only
      rw [w3, Option.bind_some, w4, Option.bind_some, v1, Option.bind_some]
    · unfold f_X7_weight
      rw [s2, Option.bind_some, if_neg bI_tne, mo, Option.bind_some, if_neg bI_tne, if_neg y3', p2, Option.bind_some, if_neg bI_tne, z2, Option.bind_some, if_neg h7, hM7, if_pos (nI_le P5 (by omega)), w2, Option.bind_some]
      dsimp only
      rw [w5, Option.bind_some]
      dsimp only
      rw [v2, Option.bind_some]
  · refine ⟨((-1000002 : Int32).toInt64, kb, kn + 1, kf, pd, pn), ((-1000002 : Int32).toInt64, My, upd Mf 1 (Mf 1 + 1), Mx), ?_, ?_, rfl, rel_no hrel0⟩
    · unfold f_X6_weight
      rw [s1, Option.bind_some, if_pos bI_fe, xo, Option.bind_some, if_pos bI_fe, y1, Option.bind_some, if_neg y2', p1, Option.bind_some, if_pos bI_fe, z1, Option.bind_some, hSz, Option.bind_some, if_neg (nI_ge (by omega) (by omega)), x_no, Option.bind_some]
    · unfold f_X7_weight
      rw [s2, Option.bind_some, if_neg bI_tne, mo, Option.bind_some, if_neg bI_tne, if_neg y3', p2, Option.bind_some, if_neg bI_tne, z2, Option.bind_some, if_neg h7, hM7, if_neg (nI_ge (by omega) (by omega)), m_no, Option.bind_some]
set_option maxHeartbeats 4000000 in
set_option maxRecDepth 100000 in
theorem op_exact (x1 : Int32) (kb : Int32) (kn : Int32) (kf : Int32) (rK : Int32) (rf : Nat → Int32) (vo : Int32) (vd : Int32) (vs : Nat → Int32) (tl : Int32) (tb : Nat → Int32) (Ms : Int32) (Mb : Int32) (Mr : Nat → Int32) (Mp : Nat → Int32) (Mf : Nat → Int32) (Mt : Nat → Int32) (pd : Int32) (pn : Nat → Int64) (My : Int32) (Mx : Nat → Int64) (Mz : Nat → Int64) (hrel : Rel kb kn kf rK rf vo vd vs tl tb Ms Mb Mr Mp Mf Mt) : ∃ rx rm, f_X6_exact x1 kb kn kf rK rf pd pn = some rx ∧ f_X7_exact x1 My Mr Mf Mx Mz = some rm ∧ rx.1 = rm.1 ∧ Rel rx.2.1 rx.2.2.1 rx.2.2.2.1 rK rf vo vd vs tl tb Ms Mb Mr Mp rm.2.2.1 Mt := by
  have hrel0 := hrel
  obtain ⟨⟨K, a, hk, rfl, hf, hm, hm7⟩, hc, hs, ht⟩ := hrel
  have hK7 := hk.2.1
  have hSz : f_X3_size (nI K) = some (nI K) := rfl
  by_cases P0 : x1 < (1 : Int32) ∨ (524287 : Int32) < x1
  · have s1 := x_noSetO P0
    have s2 := m_isSetO P0
    refine ⟨(-1000001, kb + 1, kn, kf, pd, pn), (-1000001, My, upd Mf 0 (Mf 0 + 1), Mx, Mz), ?_, ?_, rfl, rel_bad hrel0⟩
    · unfold f_X6_exact
      rw [s1, Option.bind_some, if_neg bI_tne, x_bad, Option.bind_some]
    · unfold f_X7_exact
      rw [s2, Option.bind_some, if_pos bI_fe, m_bad, Option.bind_some]
  obtain ⟨S, hS1, hS, rfl⟩ := inS P0
  clear P0
  have hl := pcU_le S 19
  have hpos := pcU_pos hS1 hS
  have s1 := x_noSet hS1 hS
  have s2 := m_isSet hS1 hS
  have z1 := x_bits hS
  have z2 := m_size hS
  have hv := fun (h7 : pcU S 19 ≤ 7) => x_van (T := bitT S) (by rw [prD_bit]; exact h7) (y := nI S) (fun c hc => by
      rw [x_bit hS hc]
      unfold bitT
      rw [decide_eq_false_iff_not]
      omega) pn
  have hw := fun (h7 : pcU S 19 ≤ 7) => m_pr hS (x2 := (99 : Int32)) (T := bitT S) (by rw [prD_bit]; exact h7) (fun c hc => by
      unfold bitT
      rw [decide_eq_true_iff]
      exact ⟨fun z => ⟨z, tb_p99 c hc⟩, fun z => z.1⟩) Mx
  have hN := prN_1 (bitT S) 19
  rw [prD_bit] at hv hw hN
  generalize prN (bitT S) 19 = N at *
  generalize pcU S 19 = m at *
  generalize nI S = x at *
  by_cases P1 : 7 < m
  · rw [decide_eq_true P1] at s1
    rw [decide_eq_false (nn P1)] at s2
    refine ⟨(-1000001, kb + 1, kn, kf, pd, pn), (-1000001, My, upd Mf 0 (Mf 0 + 1), Mx, Mz), ?_, ?_, rfl, rel_bad hrel0⟩
    · unfold f_X6_exact
      rw [s1, Option.bind_some, if_neg bI_tne, x_bad, Option.bind_some]
    · unfold f_X7_exact
      rw [s2, Option.bind_some, if_pos bI_fe, m_bad, Option.bind_some]
  · rw [decide_eq_false P1] at s1
    rw [decide_eq_true P1] at s2
    by_cases P5 : m ≤ K
    · obtain ⟨g, g1, g2⟩ := hv (by omega)
      obtain ⟨g', g3, g4⟩ := hw (by omega)
      obtain ⟨z, z3, z4⟩ := m_e42 (m := m) (by omega) 0 200 Mz (by omega) (by omega)
      obtain ⟨r, z', w1, w2⟩ := ex_st hk hf hm hm7 hpos g2 g4 hN (nI m) Mf (K - m) 200 (m - 1) 0 z (by omega) (by omega) (by omega) (fun i hi => by rw [z4 i, if_pos (by omega)]; rfl) (fun i hi => by omega)
      rw [Nat.add_zero] at w2
      refine ⟨(r, kb, kn, kf, nI m, g), (r, nI m, Mf, g', z'), ?_, ?_, rfl, hrel0⟩
      · unfold f_X6_exact
        rw [s1, Option.bind_some, if_pos bI_fe, z1, Option.bind_some, hSz, Option.bind_some, if_pos (nI_le P5 (by omega)), g1, Option.bind_some]
        dsimp only
        rw [k1, pk_sub (by omega), w1, Option.bind_some]
      · unfold f_X7_exact
        simp only [s2, Option.bind_some, z2, cl7, H87, if_false, hm7]
        rw [if_neg bI_tne, if_pos (nI_le P5 (by omega)), g3, Option.bind_some]
        dsimp only
        rw [k0, z3, Option.bind_some, w2]
    · refine ⟨(-1000002, kb, kn + 1, kf, pd, pn), (-1000002, My, upd Mf 1 (Mf 1 + 1), Mx, Mz), ?_, ?_, rfl, rel_no hrel0⟩
      · unfold f_X6_exact
        rw [s1, Option.bind_some, if_pos bI_fe, z1, Option.bind_some, hSz, Option.bind_some, if_neg (nI_ge (by omega) (by omega)), x_no, Option.bind_some]
      · unfold f_X7_exact
        simp only [s2, Option.bind_some, z2, cl7, H87, if_false, hm7]
        rw [if_neg bI_tne, if_neg (nI_ge (by omega) (by omega)), m_no, Option.bind_some]
