/-! powers, sums, products of factors -/
def pw (x : Int64) : Nat → Int64
  | 0 => 1
  | n + 1 => pw x n * x
def sm (F : Nat → Int64) : Nat → Int64
  | 0 => 0
  | n + 1 => sm F n + F n
theorem sm_congr {F G : Nat → Int64} : ∀ {n : Nat}, (∀ i, i < n → F i = G i) → sm F n = sm G n
  | 0, _ => rfl
  | n + 1, h => by rw [sm, sm, sm_congr (fun i hi => h i (by omega)), h n (by omega)]
theorem x_powerL (x : Int64) {n : Nat} (hn : n < 100) : ∀ (fu i : Nat), i ≤ n → n - i < fu → f_X6_power_L5 fu x (nI n) (pw x i) (nI i) = some (pw x n) := by
  intro fu
  induction fu with
  | zero => intro i _ hm; omega
  | succ fu ih =>
    intro i hi hm
    rw [f_X6_power_L5]
    by_cases h : i = n
    · subst h; rw [if_pos (nI_le (by omega) (by omega))]
    · rw [if_neg (nI_ge (by omega : i < n) (by omega)), k1, nI_add]
      exact ih (i + 1) (by omega) (by omega)
theorem x_power (x : Int64) {n : Nat} (hn : n < 100) : f_X6_power x (nI n) = some (pw x n) := by
  unfold f_X6_power
  rw [k0, show (1 : Int64) = pw x 0 from rfl, x_powerL x hn 200 0 (by omega) (by omega)]
  rfl
theorem m_powerE : ∀ (fu : Nat) (x : Int64) (n : Int32) (p : Int64) (i : Int32), f_X7_power_L5 fu x n p i = f_X6_power_L5 fu x n p i := by
  intro fu
  induction fu with
  | zero => intros; rfl
  | succ fu ih => intros; rw [f_X7_power_L5, f_X6_power_L5]; simp only [ih]
theorem m_power (x : Int64) {n : Nat} (hn : n < 100) : f_X7_power x (nI n) = some (pw x n) := by
  rw [← x_power x hn]; unfold f_X7_power f_X6_power; rw [m_powerE]
/-- a place more -/
def vAdd (a : Nat → Int32) (x w : Int32) (j : Nat) : Int64 := (a j).toInt64 + w.toInt64 * pw x.toInt64 j
theorem x_addL {K : Nat} (hK : K ≤ 7) (a g : Nat → Int32) (hg : ∀ i, i < K → g i = a i) (x w : Int32) : ∀ (n j : Nat) (f : Nat → Int64), j ≤ K → K - j < n → ∃ f', f_X3_addPlace_L27 n x (w.toInt64 * pw x.toInt64 j) (nI j) (nI K) g f = some f' ∧ ∀ i, f' i = if j ≤ i ∧ i < K then vAdd a x w i else f i := by
  intro n
  induction n with
  | zero => intro j f _ hm; omega
  | succ n ih =>
    intro j f hj hm
    rw [f_X3_addPlace_L27]
    simp only [k0, k1]
    by_cases h8 : j = K
    · subst h8
      rw [if_pos (nI_le (by omega) (by omega))]
      exact ⟨f, rfl, fun i => by rw [if_neg (by omega)]⟩
    · rw [if_neg (nI_ge (by omega : j < K) (by omega)), gif0 (by omega) (by omega), gif0 (by omega) (by omega), nI_cl (by omega), nI_add, hg j (by omega), Int64.mul_assoc]
      obtain ⟨f', h1, h2⟩ := ih (j + 1) (vp_updL f j (vAdd a x w j)) (by omega) (by omega)
      refine ⟨f', h1, fun i => ?_⟩
      rw [h2 i]
      by_cases hi : i = j
      · subst hi; rw [if_neg (by omega), updL_s, if_pos (by omega)]
      · by_cases hi2 : j ≤ i ∧ i < K
        · rw [if_pos (by omega), if_pos hi2]
        · rw [if_neg (by omega), if_neg hi2, updL_n hi]
theorem m_addL {K : Nat} (hK : K ≤ 7) (a Mr : Nat → Int32) (hm : ∀ i, i < 7 → Mr i = a i) (hm7 : Mr 7 = nI K) (x w : Int32) : ∀ (n j : Nat) (f : Nat → Int64), j ≤ K → K - j < n → ∃ f', f_X7_addPlace_L2 n x w (nI j) Mr f = some f' ∧ ∀ i, f' i = if j ≤ i ∧ i < K then vAdd a x w i else f i := by
  intro n
  induction n with
  | zero => intro j f _ hm; omega
  | succ n ih =>
    intro j f hj hmm
    rw [f_X7_addPlace_L2, if_neg (by decide), show (7 : Int32).toNatClampNeg = 7 from rfl, hm7]
    simp only [k0, k1]
    by_cases h8 : j = K
    · subst h8
      rw [if_pos (nI_le (by omega) (by omega))]
      exact ⟨f, rfl, fun i => by rw [if_neg (by omega)]⟩
    · rw [if_neg (nI_ge (by omega : j < K) (by omega)), gif0 (by omega) (by omega), m_power _ (by omega), Option.bind_some, gif0 (by omega) (by omega), nI_cl (by omega), nI_add, hm j (by omega)]
      obtain ⟨f', h1, h2⟩ := ih (j + 1) (vp_updL f j (vAdd a x w j)) (by omega) (by omega)
      refine ⟨f', h1, fun i => ?_⟩
      rw [h2 i]
      by_cases hi : i = j
      · subst hi; rw [if_neg (by omega), updL_s, if_pos (by omega)]
      · by_cases hi2 : j ≤ i ∧ i < K
        · rw [if_pos (by omega), if_pos hi2]
        · rw [if_neg (by omega), if_neg hi2, updL_n hi]
/-- stretched -/
def vStr (a : Nat → Int32) (c : Int32) (j : Nat) : Int64 := pw c.toInt64 j * (a j).toInt64
theorem x_strL {K : Nat} (hK : K ≤ 7) (a g : Nat → Int32) (hg : ∀ i, i < K → g i = a i) (c : Int32) : ∀ (n j : Nat) (f : Nat → Int64), j ≤ K → K - j < n → ∃ f', f_X3_scale_L15 n c (pw c.toInt64 j) (nI j) (nI K) g f = some f' ∧ ∀ i, f' i = if j ≤ i ∧ i < K then vStr a c i else f i := by
  intro n
  induction n with
  | zero => intro j f _ hm; omega
  | succ n ih =>
    intro j f hj hm
    rw [f_X3_scale_L15]
    simp only [k0, k1]
    by_cases h8 : j = K
    · subst h8
      rw [if_pos (nI_le (by omega) (by omega))]
      exact ⟨f, rfl, fun i => by rw [if_neg (by omega)]⟩
    · rw [if_neg (nI_ge (by omega : j < K) (by omega)), gif0 (by omega) (by omega), gif0 (by omega) (by omega), nI_cl (by omega), nI_add, hg j (by omega)]
      obtain ⟨f', h1, h2⟩ := ih (j + 1) (vp_updL f j (vStr a c j)) (by omega) (by omega)
      refine ⟨f', h1, fun i => ?_⟩
      rw [h2 i]
      by_cases hi : i = j
      · subst hi; rw [if_neg (by omega), updL_s, if_pos (by omega)]
      · by_cases hi2 : j ≤ i ∧ i < K
        · rw [if_pos (by omega), if_pos hi2]
        · rw [if_neg (by omega), if_neg hi2, updL_n hi]
theorem m_strL {K : Nat} (hK : K ≤ 7) (a Mr : Nat → Int32) (hm : ∀ i, i < 7 → Mr i = a i) (hm7 : Mr 7 = nI K) (c : Int32) : ∀ (n j : Nat) (f : Nat → Int64), j ≤ K → K - j < n → ∃ f', f_X7_stretch_L2 n c (nI j) Mr f = some f' ∧ ∀ i, f' i = if j ≤ i ∧ i < K then vStr a c i else f i := by
  intro n
  induction n with
  | zero => intro j f _ hm; omega
  | succ n ih =>
    intro j f hj hmm
    rw [f_X7_stretch_L2, if_neg (by decide), show (7 : Int32).toNatClampNeg = 7 from rfl, hm7]
    simp only [k0, k1]
    by_cases h8 : j = K
    · subst h8
      rw [if_pos (nI_le (by omega) (by omega))]
      exact ⟨f, rfl, fun i => by rw [if_neg (by omega)]⟩
    · rw [if_neg (nI_ge (by omega : j < K) (by omega)), m_power _ (by omega), Option.bind_some, gif0 (by omega) (by omega), gif0 (by omega) (by omega), nI_cl (by omega), nI_add, hm j (by omega)]
      obtain ⟨f', h1, h2⟩ := ih (j + 1) (vp_updL f j (vStr a c j)) (by omega) (by omega)
      refine ⟨f', h1, fun i => ?_⟩
      rw [h2 i]
      by_cases hi : i = j
      · subst hi; rw [if_neg (by omega), updL_s, if_pos (by omega)]
      · by_cases hi2 : j ≤ i ∧ i < K
        · rw [if_pos (by omega), if_pos hi2]
        · rw [if_neg (by omega), if_neg hi2, updL_n hi]
/-- weighed -/
def vWei (a : Nat → Int32) (c : Int32) (j : Nat) : Int64 := (a (j + 1)).toInt64 - c.toInt64 * (a j).toInt64
theorem x_weiL {K : Nat} {a g : Nat → Int32} (hk : okRow K a) (hg : ∀ i, i < K → g i = a i) (c : Int32) : ∀ (n j : Nat) (f : Nat → Int64), j ≤ K - 1 → K - 1 - j < n → ∃ f', f_X3_reweigh_L23 n c (nI j) (nI K) g f = some f' ∧ ∀ i, f' i = if j ≤ i ∧ i < K - 1 then vWei a c i else f i := by
  have h1 := hk.1
  have h7 := hk.2.1
  intro n
  induction n with
  | zero => intro j f _ hm; omega
  | succ n ih =>
    intro j f hj hm
    rw [f_X3_reweigh_L23]
    simp only [k0, k1]
    rw [pk_sub h1, nI_add, x_at hk hg (by omega), x_at hk hg (by omega)]
    by_cases h8 : j = K - 1
    · subst h8
      rw [if_pos (nI_le (by omega) (by omega))]
      exact ⟨f, rfl, fun i => by rw [if_neg (by omega)]⟩
    · rw [if_neg (nI_ge (by omega : j < K - 1) (by omega)), Option.bind_some, Option.bind_some, gif0 (by omega) (by omega), nI_cl (by omega)]
      obtain ⟨f', h1, h2⟩ := ih (j + 1) (vp_updL f j (vWei a c j)) (by omega) (by omega)
      refine ⟨f', h1, fun i => ?_⟩
      rw [h2 i]
      by_cases hi : i = j
      · subst hi; rw [if_neg (by omega), updL_s, if_pos (by omega)]
      · by_cases hi2 : j ≤ i ∧ i < K - 1
        · rw [if_pos (by omega), if_pos hi2]
        · rw [if_neg (by omega), if_neg hi2, updL_n hi]
theorem m_weiL {K : Nat} (hK : K ≤ 7) (h1 : 1 ≤ K) (a Mr : Nat → Int32) (hm : ∀ i, i < 7 → Mr i = a i) (hm7 : Mr 7 = nI K) (c : Int32) : ∀ (n j : Nat) (f : Nat → Int64), j ≤ K - 1 → K - 1 - j < n → ∃ f', f_X7_weigh_L15 n c (nI j) Mr f = some f' ∧ ∀ i, f' i = if j ≤ i ∧ i < K - 1 then vWei a c i else f i := by
  intro n
  induction n with
  | zero => intro j f _ hm; omega
  | succ n ih =>
    intro j f hj hmm
    rw [f_X7_weigh_L15, if_neg (by decide), show (7 : Int32).toNatClampNeg = 7 from rfl, hm7]
    simp only [k0, k1]
    rw [nI_add]
    by_cases h8 : j = K - 1
    · subst h8
      rw [if_pos (nI_le (by omega) (by omega))]
      exact ⟨f, rfl, fun i => by rw [if_neg (by omega)]⟩
    · rw [if_neg (nI_ge (by omega : j + 1 < K) (by omega)), gif0 (by omega) (by omega), gif0 (by omega) (by omega), gif0 (by omega) (by omega), nI_cl (by omega), nI_cl (by omega), hm j (by omega), hm (j + 1) (by omega)]
      obtain ⟨f', h1, h2⟩ := ih (j + 1) (vp_updL f j (vWei a c j)) (by omega) (by omega)
      refine ⟨f', h1, fun i => ?_⟩
      rw [h2 i]
      by_cases hi : i = j
      · subst hi; rw [if_neg (by omega), updL_s, if_pos (by omega)]
      · by_cases hi2 : j ≤ i ∧ i < K - 1
        · rw [if_pos (by omega), if_pos hi2]
        · rw [if_neg (by omega), if_neg hi2, updL_n hi]
/-! products of factors x + c -/
def mulX (N : Nat → Int64) (c : Int64) (i : Nat) : Int64 := (if i = 0 then 0 else N (i - 1)) + c * N i
theorem x_number {i d : Nat} (hi : i < 100) (hd : d ≤ 7) (pn : Nat → Int64) : f_X1_number (nI i) (nI d) pn = some (if i ≤ d then pn i else 0) := by
  unfold f_X1_number
  rw [if_neg (nI_pos (by omega))]
  by_cases h : i ≤ d
  · rw [if_neg (nI_nlt h (by omega)), k7, if_pos (nI_le (by omega) (by omega)), gif (by omega) (by omega), nI_cl (by omega), if_pos h]
  · rw [if_pos (nI_lt (by omega) (by omega)), if_neg h]
theorem x_numneg (x pd : Int32) (h : x < 0) (pn : Nat → Int64) : f_X1_number x pd pn = some 0 := by
  unfold f_X1_number; rw [if_pos h]
theorem x_timesL {d : Nat} (hd : d < 7) {N : Nat → Int64} (hN : ∀ i, d < i → N i = 0) (c : Int32) : ∀ (j fu : Nat) (f : Nat → Int64), j ≤ d + 1 → j + 1 < fu → (∀ i, i ≤ j → i ≤ d → f i = N i) → ∃ g, f_X1_times_L17 fu c (nI j) (nI d) f = some g ∧ ∀ i, g i = if i ≤ j then mulX N c.toInt64 i else f i := by
  intro j
  induction j with
  | zero =>
    intro fu f hj hfu hf
    obtain ⟨fu, rfl⟩ : ∃ q, fu = q + 2 := ⟨fu - 2, by omega⟩
    rw [f_X1_times_L17, if_neg (nI_pos (by omega)), x_numneg _ _ (by decide), Option.bind_some, x_number (by omega) (by omega), Option.bind_some, gif (by omega) (by omega), nI_cl (by omega), f_X1_times_L17, if_pos (by decide)]
    refine ⟨_, rfl, fun i => ?_⟩
    by_cases hi : i = 0
    · subst hi; rw [updL_s, if_pos (by omega), if_pos (by omega), hf 0 (by omega) (by omega)]; rfl
    · rw [updL_n hi, if_neg (by omega)]
  | succ j ih =>
    intro fu f hj hfu hf
    obtain ⟨fu, rfl⟩ : ∃ q, fu = q + 1 := ⟨fu - 1, by omega⟩
    rw [f_X1_times_L17, if_neg (nI_pos (by omega)), nI_pred, x_number (by omega) (by omega), Option.bind_some, x_number (by omega) (by omega), Option.bind_some, gif (by omega) (by omega), nI_cl (by omega), pk_m1, if_pos (by omega), hf j (by omega) (by omega)]
    have e : (if j + 1 ≤ d then f (j + 1) else 0) = N (j + 1) := by
      by_cases h : j + 1 ≤ d
      · rw [if_pos h, hf (j + 1) (by omega) h]
      · rw [if_neg h, hN _ (by omega)]
    rw [e]
    obtain ⟨g, h1, h2⟩ := ih fu (vp_updL f (j + 1) (N j + c.toInt64 * N (j + 1))) (by omega) (by omega) (fun i hi hid => by rw [updL_n (by omega)]; exact hf i (by omega) hid)
    refine ⟨g, h1, fun i => ?_⟩
    rw [h2 i]
    by_cases hi : i = j + 1
    · subst hi; rw [if_neg (by omega), updL_s, if_pos (by omega)]; rfl
    · by_cases hi2 : i ≤ j
      · rw [if_pos hi2, if_pos (by omega)]
      · rw [if_neg hi2, if_neg (by omega), updL_n hi]
theorem x_times {d : Nat} (hd : d < 7) {N pn : Nat → Int64} (hN : ∀ i, d < i → N i = 0) (hp : ∀ i, i ≤ d → pn i = N i) (c : Int32) : ∃ g, f_X1_times c (nI d) pn = some (nI (d + 1), g) ∧ ∀ i, i ≤ d + 1 → g i = mulX N c.toInt64 i := by
  obtain ⟨g, h1, h2⟩ := x_timesL hd hN c (d + 1) 200 pn (by omega) (by omega) (fun i _ hi => hp i hi)
  refine ⟨g, ?_, fun i hi => by rw [h2 i, if_pos hi]⟩
  unfold f_X1_times
  rw [k7, if_pos (nI_lt hd (by omega)), k1, nI_add, h1]
  rfl
theorem mulX_0 {d : Nat} {N : Nat → Int64} (hN : ∀ i, d < i → N i = 0) (c : Int64) : ∀ i, d + 1 < i → mulX N c i = 0 := by
  intro i hi
  unfold mulX
  rw [if_neg (by omega), hN _ (by omega), hN _ (by omega), Int64.mul_zero, Int64.add_zero]
theorem x_meanL {K : Nat} {a rf : Nat → Int32} (hk : okRow K a) (hf : ∀ j, j < K → rf j = a j) {d u : Nat} (hd : d ≤ 7) (hu : u < 100) {N pn : Nat → Int64} (hp : ∀ i, i ≤ d → pn i = N i) : ∀ (fu i : Nat), i ≤ d + 1 → d + 1 - i < fu → f_X3_mean_L5 fu (nI u) (sm (fun i => N i * (a (i + u)).toInt64) i) (nI i) (nI K) rf (nI d) pn = some (sm (fun i => N i * (a (i + u)).toInt64) (d + 1)) := by
  intro fu
  induction fu with
  | zero => intro i _ hm; omega
  | succ fu ih =>
    intro i hi hm
    rw [f_X3_mean_L5]
    unfold f_X1_degree
    rw [Option.bind_some]
    by_cases h : i = d + 1
    · subst h; rw [if_pos (nI_lt (by omega) (by omega))]
    · rw [if_neg (nI_nlt (by omega) (by omega)), x_number (by omega) hd, Option.bind_some, nI_add, x_at hk hf (by omega), Option.bind_some, if_pos (by omega), hp i (by omega), k1, nI_add]
      exact ih (i + 1) (by omega) (by omega)
theorem x_mean {K : Nat} {a rf : Nat → Int32} (hk : okRow K a) (hf : ∀ j, j < K → rf j = a j) {d u : Nat} (hd : d ≤ 7) (hu : u < 100) {N pn : Nat → Int64} (hp : ∀ i, i ≤ d → pn i = N i) : f_X3_mean (nI u) (nI K) rf (nI d) pn = some (sm (fun i => N i * (a (i + u)).toInt64) (d + 1)) := by
  unfold f_X3_mean
  rw [k0, show (0 : Int64) = sm (fun i => N i * (a (i + u)).toInt64) 0 from rfl, x_meanL hk hf hd hu hp 200 0 (by omega) (by omega)]
  rfl
/-! moved -/
def cf (c : Int64) : Nat → Nat → Int64
  | 0 => fun i => if i = 0 then 1 else 0
  | d + 1 => mulX (cf c d) c
theorem cf_0 (c : Int64) : ∀ (d i : Nat), d < i → cf c d i = 0
  | 0, i, h => if_neg (by omega)
  | d + 1, i, h => mulX_0 (cf_0 c d) c i h
def vMov (a : Nat → Int32) (c : Int32) (j : Nat) : Int64 := sm (fun i => cf c.toInt64 j i * (a (i + 0)).toInt64) (j + 1)
theorem x_movL {K : Nat} {a g : Nat → Int32} (hk : okRow K a) (hg : ∀ i, i < K → g i = a i) (c : Int32) : ∀ (n j : Nat) (f pn : Nat → Int64), j ≤ K → K - j < n → (∀ i, i ≤ j → pn i = cf c.toInt64 j i) → ∃ f' pd' pn', f_X3_shift_L19 n c (nI j) (nI K) g f (nI j) pn = some (f', pd', pn') ∧ ∀ i, f' i = if j ≤ i ∧ i < K then vMov a c i else f i := by
  have h7 := hk.2.1
  intro n
  induction n with
  | zero => intro j f _ _ hm; omega
  | succ n ih =>
    intro j f pn hj hm hp
    rw [f_X3_shift_L19]
    simp only [k0, k1]
    by_cases h8 : j = K
    · subst h8
      rw [if_pos (nI_le (by omega) (by omega))]
      exact ⟨f, _, pn, rfl, fun i => by rw [if_neg (by omega)]⟩
    · obtain ⟨p2, t1, t2⟩ := x_times (d := j) (by omega) (cf_0 c.toInt64 j) hp c
      rw [if_neg (nI_ge (by omega : j < K) (by omega)), x_mean hk hg (u := 0) (by omega) (by omega) hp, Option.bind_some, gif0 (by omega) (by omega), nI_cl (by omega), nI_add, t1, Option.bind_some]
      obtain ⟨f', pd', pn', h1, h2⟩ := ih (j + 1) (vp_updL f j (vMov a c j)) p2 (by omega) (by omega) t2
      refine ⟨f', pd', pn', h1, fun i => ?_⟩
      rw [h2 i]
      by_cases hi : i = j
      · subst hi; rw [if_neg (by omega), updL_s, if_pos (by omega)]
      · by_cases hi2 : j ≤ i ∧ i < K
        · rw [if_pos (by omega), if_pos hi2]
        · rw [if_neg (by omega), if_neg hi2, updL_n hi]
def ch : Nat → Nat → Nat
  | _, 0 => 1
  | 0, _ + 1 => 0
  | j + 1, i + 1 => ch j i + ch j (i + 1)
theorem ch_0 : ∀ j i, j < i → ch j i = 0
  | 0, i + 1, _ => rfl
  | j + 1, i + 1, h => by rw [ch, ch_0 j i (by omega), ch_0 j (i + 1) (by omega)]
theorem m_choose : ∀ j, j < 7 → ∀ i, i < 7 → i ≤ j → f_X7_choose (nI j) (nI i) = some (lN (ch j i)) := by decide +kernel
theorem cf_ch (c : Int64) : ∀ j i, i ≤ j → cf c j i = lN (ch j i) * pw c (j - i) := by
  intro j
  induction j with
  | zero => intro i hi; rw [show i = 0 by omega]; rfl
  | succ j ih =>
    intro i hi
    show mulX (cf c j) c i = _
    unfold mulX
    cases i with
    | zero =>
      rw [if_pos rfl, ih 0 (by omega), Nat.sub_zero, Nat.sub_zero]
      have e1 : ch j 0 = 1 := by cases j <;> rfl
      have e2 : ch (j + 1) 0 = 1 := rfl
      rw [e1, e2, show pw c (j + 1) = pw c j * c from rfl, Int64.zero_add, Int64.mul_comm c, Int64.mul_assoc]
    | succ i =>
      rw [if_neg (by omega), Nat.add_sub_cancel, ih i (by omega), show j + 1 - (i + 1) = j - i by omega, ch, ← lN_add, Int64.add_mul]
      congr 1
      by_cases h : i + 1 ≤ j
      · rw [ih (i + 1) h, show j - i = (j - (i + 1)) + 1 by omega, show pw c (j - (i + 1) + 1) = pw c (j - (i + 1)) * c from rfl, Int64.mul_comm c, Int64.mul_assoc]
      · rw [cf_0 c j (i + 1) (by omega), ch_0 j (i + 1) (by omega), Int64.mul_zero]
        show (0 : Int64) = lN 0 * _
        rw [show lN 0 = 0 from rfl, Int64.zero_mul]
theorem m_movI {K : Nat} (hK : K ≤ 7) (a Mr : Nat → Int32) (hm : ∀ i, i < 7 → Mr i = a i) (c : Int32) {j : Nat} (hj : j < K) : ∀ (n i : Nat), i ≤ j + 1 → j + 1 - i < n → f_X7_move_L18 n c (nI j) (sm (fun i => cf c.toInt64 j i * (a (i + 0)).toInt64) i) (nI i) Mr = some (vMov a c j) := by
  intro n
  induction n with
  | zero => intro i _ hm; omega
  | succ n ih =>
    intro i hi hmm
    rw [f_X7_move_L18]
    by_cases h : i = j + 1
    · subst h; rw [if_pos (nI_lt (by omega) (by omega))]; rfl
    · rw [if_neg (nI_nlt (by omega) (by omega)), m_choose j (by omega) i (by omega) (by omega), Option.bind_some, pk_sub (by omega), m_power _ (by omega), Option.bind_some, gif (by omega) (by omega), nI_cl (by omega), hm i (by omega), ← cf_ch _ j i (by omega), k1, nI_add]
      exact ih (i + 1) (by omega) (by omega)
theorem m_movL {K : Nat} (hK : K ≤ 7) (a Mr : Nat → Int32) (hm : ∀ i, i < 7 → Mr i = a i) (hm7 : Mr 7 = nI K) (c : Int32) : ∀ (n j : Nat) (f : Nat → Int64), j ≤ K → K - j < n → ∃ f', f_X7_move_L2 n c (nI j) Mr f = some f' ∧ ∀ i, f' i = if j ≤ i ∧ i < K then vMov a c i else f i := by
  intro n
  induction n with
  | zero => intro j f _ hm; omega
  | succ n ih =>
    intro j f hj hmm
    rw [f_X7_move_L2, if_neg (by decide), show (7 : Int32).toNatClampNeg = 7 from rfl, hm7]
    by_cases h8 : j = K
    · subst h8
      rw [if_pos (nI_le (by omega) (by omega))]
      exact ⟨f, rfl, fun i => by rw [if_neg (by omega)]⟩
    · have e := m_movI hK a Mr hm c (j := j) (by omega) 200 0 (by omega) (by omega)
      rw [if_neg (nI_ge (by omega : j < K) (by omega)), show (0 : Int64) = sm (fun i => cf c.toInt64 j i * (a (i + 0)).toInt64) 0 from rfl, k0, e, Option.bind_some, gif0 (by omega) (by omega), nI_cl (by omega), k1, nI_add]
      obtain ⟨f', h1, h2⟩ := ih (j + 1) (vp_updL f j (vMov a c j)) (by omega) (by omega)
      refine ⟨f', h1, fun i => ?_⟩
      rw [h2 i]
      by_cases hi : i = j
      · subst hi; rw [if_neg (by omega), updL_s, if_pos (by omega)]
      · by_cases hi2 : j ≤ i ∧ i < K
        · rw [if_pos (by omega), if_pos hi2]
        · rw [if_neg (by omega), if_neg hi2, updL_n hi]
