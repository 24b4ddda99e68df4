/-! powers, sums, products of factors -/
def pw (x : Int64) : Nat → Int64
  | 0 => 1
  | n + 1 => pw x n * x
def sm (F : Nat → Int64) : Nat → Int64
  | 0 => 0
  | n + 1 => sm F n + F n
theorem sm_congr {F G : Nat → Int64} : ∀ {n : Nat}, (∀ i, i < n → F i = G i) → sm F n = sm G n
  | 0, _ => rfl
  | n + 1, h => by rw [sm, sm, sm_congr (fun i hi => h i (by omega)), h n (by omega)]
theorem x_powerL (x : Int64) {n : Nat} (hn : n < 100) : ∀ (fu i : Nat), i ≤ n → n - i < fu → f_X6_power_L5 fu x (nI n) (pw x i) (nI i) = some (pw x n) := by
  intro fu
  induction fu with
  | zero => intro i _ hm; omega
  | succ fu ih =>
    intro i hi hm
    rw [f_X6_power_L5]
    by_cases h : i = n
    · subst h; rw [if_pos (nI_le (by omega) (by omega))]
    · rw [if_neg (nI_ge (by omega : i < n) (by omega)), k1, nI_add]
      exact ih (i + 1) (by omega) (by omega)
theorem x_power (x : Int64) {n : Nat} (hn : n < 100) : f_X6_power x (nI n) = some (pw x n) := by
  unfold f_X6_power
  rw [k0, show (1 : Int64) = pw x 0 from rfl, x_powerL x hn 200 0 (by omega) (by omega)]
  rfl
theorem m_powerE : ∀ (fu : Nat) (x : Int64) (n : Int32) (p : Int64) (i : Int32), f_X7_power_L5 fu x n p i = f_X6_power_L5 fu x n p i := by
  intro fu
  induction fu with
  | zero => intros; rfl
  | succ fu ih => intros; rw [f_X7_power_L5, f_X6_power_L5]; simp only [ih]
theorem m_power (x : Int64) {n : Nat} (hn : n < 100) : f_X7_power x (nI n) = some (pw x n) := by
  rw [← x_power x hn]; unfold f_X7_power f_X6_power; rw [m_powerE]
/-- a place more -/
def vAdd (a : Nat → Int32) (x w : Int32) (j : Nat) : Int64 := (a j).toInt64 + w.toInt64 * pw x.toInt64 j
theorem x_addL {K : Nat} (hK : K ≤ 7) (a g : Nat → Int32) (hg : ∀ i, i < 7 → g i = a i) (x w : Int32) : ∀ (n j : Nat) (f : Nat → Int64), j ≤ K → K - j < n → ∃ f', f_X3_addPlace_L27 n x (w.toInt64 * pw x.toInt64 j) (nI j) (nI K) g f = some f' ∧ ∀ i, f' i = if j ≤ i ∧ i < K then vAdd a x w i else f i := by
  intro n
  induction n with
  | zero => intro j f _ hm; omega
  | succ n ih =>
    intro j f hj hm
    rw [f_X3_addPlace_L27]
    simp only [k0, k1]
    by_cases h8 : j = K
    · subst h8
      rw [if_pos (nI_le (by omega) (by omega))]
      exact ⟨f, rfl, fun i => by rw [if_neg (by omega)]⟩
    · rw [if_neg (nI_ge (by omega : j < K) (by omega)), gif0 (by omega) (by omega), gif0 (by omega) (by omega), nI_cl (by omega), nI_add, hg j (by omega), Int64.mul_assoc]
      obtain ⟨f', h1, h2⟩ := ih (j + 1) (vp_updL f j (vAdd a x w j)) (by omega) (by omega)
      refine ⟨f', h1, fun i => ?_⟩
      rw [h2 i]
      by_cases hi : i = j
      · subst hi; rw [if_neg (by omega), updL_s, if_pos (by omega)]
      · by_cases hi2 : j ≤ i ∧ i < K
        · rw [if_pos (by omega), if_pos hi2]
        · rw [if_neg (by omega), if_neg hi2, updL_n hi]
theorem m_addL {K : Nat} (hK : K ≤ 7) (a Mr : Nat → Int32) (hm : ∀ i, i < 7 → Mr i = a i) (hm7 : Mr 7 = nI K) (x w : Int32) : ∀ (n j : Nat) (f : Nat → Int64), j ≤ K → K - j < n → ∃ f', f_X7_addPlace_L2 n x w (nI j) Mr f = some f' ∧ ∀ i, f' i = if j ≤ i ∧ i < K then vAdd a x w i else f i := by
  intro n
  induction n with
  | zero => intro j f _ hm; omega
  | succ n ih =>
    intro j f hj hmm
    rw [f_X7_addPlace_L2, if_neg (by decide), show (7 : Int32).toNatClampNeg = 7 from rfl, hm7]
    simp only [k0, k1]
    by_cases h8 : j = K
    · subst h8
      rw [if_pos (nI_le (by omega) (by omega))]
      exact ⟨f, rfl, fun i => by rw [if_neg (by omega)]⟩
    · rw [if_neg (nI_ge (by omega : j < K) (by omega)), gif0 (by omega) (by omega), m_power _ (by omega), Option.bind_some, gif0 (by omega) (by omega), nI_cl (by omega), nI_add, hm j (by omega)]
      obtain ⟨f', h1, h2⟩ := ih (j + 1) (vp_updL f j (vAdd a x w j)) (by omega) (by omega)
      refine ⟨f', h1, fun i => ?_⟩
      rw [h2 i]
      by_cases hi : i = j
      · subst hi; rw [if_neg (by omega), updL_s, if_pos (by omega)]
      · by_cases hi2 : j ≤ i ∧ i < K
        · rw [if_pos (by omega), if_pos hi2]
        · rw [if_neg (by omega), if_neg hi2, updL_n hi]
/-- stretched -/
def vStr (a : Nat → Int32) (c : Int32) (j : Nat) : Int64 := pw c.toInt64 j * (a j).toInt64
theorem x_strL {K : Nat} (hK : K ≤ 7) (a g : Nat → Int32) (hg : ∀ i, i < 7 → g i = a i) (c : Int32) : ∀ (n j : Nat) (f : Nat → Int64), j ≤ K → K - j < n → ∃ f', f_X3_scale_L15 n c (pw c.toInt64 j) (nI j) (nI K) g f = some f' ∧ ∀ i, f' i = if j ≤ i ∧ i < K then vStr a c i else f i := by
  intro n
  induction n with
  | zero => intro j f _ hm; omega
  | succ n ih =>
    intro j f hj hm
    rw [f_X3_scale_L15]
    simp only [k0, k1]
    by_cases h8 : j = K
    · subst h8
      rw [if_pos (nI_le (by omega) (by omega))]
      exact ⟨f, rfl, fun i => by rw [if_neg (by omega)]⟩
    · rw [if_neg (nI_ge (by omega : j < K) (by omega)), gif0 (by omega) (by omega), gif0 (by omega) (by omega), nI_cl (by omega), nI_add, hg j (by omega)]
      obtain ⟨f', h1, h2⟩ := ih (j + 1) (vp_updL f j (vStr a c j)) (by omega) (by omega)
      refine ⟨f', h1, fun i => ?_⟩
      rw [h2 i]
      by_cases hi : i = j
      · subst hi; rw [if_neg (by omega), updL_s, if_pos (by omega)]
      · by_cases hi2 : j ≤ i ∧ i < K
        · rw [if_pos (by omega), if_pos hi2]
        · rw [if_neg (by omega), if_neg hi2, updL_n hi]
theorem m_strL {K : Nat} (hK : K ≤ 7) (a Mr : Nat → Int32) (hm : ∀ i, i < 7 → Mr i = a i) (hm7 : Mr 7 = nI K) (c : Int32) : ∀ (n j : Nat) (f : Nat → Int64), j ≤ K → K - j < n → ∃ f', f_X7_stretch_L2 n c (nI j) Mr f = some f' ∧ ∀ i, f' i = if j ≤ i ∧ i < K then vStr a c i else f i := by
  intro n
  induction n with
  | zero => intro j f _ hm; omega
  | succ n ih =>
    intro j f hj hmm
    rw [f_X7_stretch_L2, if_neg (by decide), show (7 : Int32).toNatClampNeg = 7 from rfl, hm7]
    simp only [k0, k1]
    by_cases h8 : j = K
    · subst h8
      rw [if_pos (nI_le (by omega) (by omega))]
      exact ⟨f, rfl, fun i => by rw [if_neg (by omega)]⟩
    · rw [if_neg (nI_ge (by omega : j < K) (by omega)), m_power _ (by omega), Option.bind_some, gif0 (by omega) (by omega), gif0 (by omega) (by omega), nI_cl (by omega), nI_add, hm j (by omega)]
      obtain ⟨f', h1, h2⟩ := ih (j + 1) (vp_updL f j (vStr a c j)) (by omega) (by omega)
      refine ⟨f', h1, fun i => ?_⟩
      rw [h2 i]
      by_cases hi : i = j
      · subst hi; rw [if_neg (by omega), updL_s, if_pos (by omega)]
      · by_cases hi2 : j ≤ i ∧ i < K
        · rw [if_pos (by omega), if_pos hi2]
        · rw [if_neg (by omega), if_neg hi2, updL_n hi]
/-- weighed -/
def vWei (a : Nat → Int32) (c : Int32) (j : Nat) : Int64 := (a (j + 1)).toInt64 - c.toInt64 * (a j).toInt64
theorem x_weiL {K : Nat} {a g : Nat → Int32} (hk : okRow K a) (hg : ∀ i, i < 7 → g i = a i) (c : Int32) : ∀ (n j : Nat) (f : Nat → Int64), j ≤ K - 1 → K - 1 - j < n → ∃ f', f_X3_reweigh_L23 n c (nI j) (nI K) g f = some f' ∧ ∀ i, f' i = if j ≤ i ∧ i < K - 1 then vWei a c i else f i := by
  have h1 := hk.1
  have h7 := hk.2.1
  intro n
  induction n with
  | zero => intro j f _ hm; omega
  | succ n ih =>
    intro j f hj hm
    rw [f_X3_reweigh_L23]
    simp only [k0, k1]
    rw [pk_sub h1, nI_add, x_at hk (fun i hi => hg i (by omega)) (by omega), x_at hk (fun i hi => hg i (by omega)) (by omega)]
    by_cases h8 : j = K - 1
    · subst h8
      rw [if_pos (nI_le (by omega) (by omega))]
      exact ⟨f, rfl, fun i => by rw [if_neg (by omega)]⟩
    · rw [if_neg (nI_ge (by omega : j < K - 1) (by omega)), Option.bind_some, Option.bind_some, gif0 (by omega) (by omega), nI_cl (by omega)]
      obtain ⟨f', h1, h2⟩ := ih (j + 1) (vp_updL f j (vWei a c j)) (by omega) (by omega)
      refine ⟨f', h1, fun i => ?_⟩
      rw [h2 i]
      by_cases hi : i = j
      · subst hi; rw [if_neg (by omega), updL_s, if_pos (by omega)]
      · by_cases hi2 : j ≤ i ∧ i < K - 1
        · rw [if_pos (by omega), if_pos hi2]
        · rw [if_neg (by omega), if_neg hi2, updL_n hi]
