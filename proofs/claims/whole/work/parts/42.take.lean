/-! what was made becomes the row -/
def okV (k : Nat) (V : Nat → Int64) : Prop := ∀ j, j < k → -500 ≤ (V j).toInt ∧ (V j).toInt ≤ 500
def rowV (k : Nat) (V : Nat → Int64) (j : Nat) : Int32 := if j < k then (V j).toInt32 else 0
theorem i32_of {x : Int64} (h1 : -500 ≤ x.toInt) (h2 : x.toInt ≤ 500) : x.toInt32.toInt = x.toInt := by
  rw [Int64.toInt_toInt32]
  exact Int.bmod_eq_of_le (by omega) (by omega)
theorem okRow_V {k : Nat} {V : Nat → Int64} (h1 : 1 ≤ k) (h2 : k ≤ 7) (h : okV k V) : okRow k (rowV k V) := by
  refine ⟨h1, h2, fun j hj => ?_, fun j hj => if_neg (by omega)⟩
  unfold rowV
  rw [if_pos hj, i32_of (h j hj).1 (h j hj).2]
  exact h j hj
theorem m500 : (-500 : Int64).toInt = -500 := by decide
theorem p500 : (500 : Int64).toInt = 500 := by decide
theorem x_take44 {k : Nat} (hk : k ≤ 7) (V : Nat → Int64) {rg : Nat → Int64} (hv : ∀ j, j < k → rg j = V j) : ∀ (n j : Nat) (f : Nat → Int32), j ≤ k → k - j < n → ∃ g, f_X3_takeNext_L57 n (nI k) (nI j) f rg = some g ∧ ∀ i, g i = if j ≤ i ∧ i < k then (V i).toInt32 else f i := by
  intro n
  induction n with
  | zero => intro j f _ hm; omega
  | succ n ih =>
    intro j f hj hm
    rw [f_X3_takeNext_L57]
    simp only [k0, k1]
    by_cases h8 : j = k
    · subst h8
      rw [if_pos (nI_le (by omega) (by omega))]
      exact ⟨f, rfl, fun i => by rw [if_neg (by omega)]⟩
    · rw [if_neg (nI_ge (by omega : j < k) (by omega)), gif0 (by omega) (by omega), gif0 (by omega) (by omega), nI_cl (by omega), nI_add, hv j (by omega)]
      obtain ⟨g, h1, h2⟩ := ih (j + 1) (upd f j (V j).toInt32) (by omega) (by omega)
      refine ⟨g, h1, fun i => ?_⟩
      rw [h2 i]
      by_cases hi : i = j
      · subst hi; rw [if_neg (by omega), upd_s, if_pos (by omega)]
      · by_cases hi2 : j ≤ i ∧ i < k
        · rw [if_pos (by omega), if_pos hi2]
        · rw [if_neg (by omega), if_neg hi2, upd_n hi]
theorem x_takeL {k : Nat} (hk : k ≤ 7) (V : Nat → Int64) {rg : Nat → Int64} (hv : ∀ j, j < k → rg j = V j) (rK : Int32) (rf : Nat → Int32) : ∀ (n j : Nat), j ≤ k → k - j < n → (∀ i, i < j → -500 ≤ (V i).toInt ∧ (V i).toInt ≤ 500) → (okV k V → ∃ g, f_X3_takeNext_L15 n (nI k) (nI j) rK rf rg = some (0, nI k, g) ∧ ∀ i, i < k → g i = (V i).toInt32) ∧ (¬ okV k V → f_X3_takeNext_L15 n (nI k) (nI j) rK rf rg = some (-1000002, rK, rf)) := by
  intro n
  induction n with
  | zero => intro j _ hm; omega
  | succ n ih =>
    intro j hj hm hb
    rw [f_X3_takeNext_L15]
    simp only [k0, k1]
    by_cases h8 : j = k
    · subst h8
      rw [if_pos (nI_le (by omega) (by omega))]
      refine ⟨fun _ => ?_, fun h => absurd hb h⟩
      obtain ⟨g, h1, h2⟩ := x_take44 hk V hv 200 0 rf (by omega) (by omega)
      exact ⟨g, by rw [h1]; rfl, fun i hi => by rw [h2 i, if_pos (by omega)]⟩
    · rw [if_neg (nI_ge (by omega : j < k) (by omega)), gif0 (by omega) (by omega), nI_cl (by omega), hv j (by omega)]
      by_cases h1 : V j < -500
      · rw [if_pos h1]
        refine ⟨fun h => absurd (h j (by omega)).1 ?_, fun _ => rfl⟩
        rw [Int64.lt_iff_toInt_lt, m500] at h1
        omega
      · rw [if_neg h1, gif1 (by omega) (by omega)]
        by_cases h2 : V j ≤ 500
        · rw [if_pos h2, nI_add]
          refine ih (j + 1) (by omega) (by omega) (fun i hi => ?_)
          by_cases hij : i = j
          · subst hij
            rw [Int64.lt_iff_toInt_lt, m500] at h1
            rw [Int64.le_iff_toInt_le, p500] at h2
            omega
          · exact hb i (by omega)
        · rw [if_neg h2]
          refine ⟨fun h => absurd (h j (by omega)).2 ?_, fun _ => rfl⟩
          rw [Int64.le_iff_toInt_le, p500] at h2
          omega
theorem x_cnt {k : Nat} (h1 : 1 ≤ k) (h7 : k ≤ 7) : f_X6_isOutside (nI k) 1 7 = some false := by
  have key : ∀ n, n < 8 → 1 ≤ n → f_X6_isOutside (nI n) 1 7 = some false := by decide +kernel
  exact key k (by omega) h1
theorem x_take {k : Nat} (hk1 : 1 ≤ k) (hk : k ≤ 7) (V : Nat → Int64) {rg : Nat → Int64} (hv : ∀ j, j < k → rg j = V j) (rK : Int32) (rf : Nat → Int32) : (okV k V → ∃ g, f_X3_takeNext (nI k) rK rf rg = some (0, nI k, g) ∧ ∀ i, i < k → g i = (V i).toInt32) ∧ (¬ okV k V → f_X3_takeNext (nI k) rK rf rg = some (-1000002, rK, rf)) := by
  have h := x_takeL hk V hv rK rf 200 0 (by omega) (by omega) (fun i hi => absurd hi (Nat.not_lt_zero i))
  unfold f_X3_takeNext
  rw [x_cnt hk1 hk, Option.bind_some, if_pos (show bI false = 0 from rfl), k0]
  exact h
theorem m_take4f {k : Nat} (hk : k ≤ 7) (Mm : Nat → Int64) : ∀ (n j : Nat), j ≤ k → k - j < n → f_X7_takeMade_L4 n (nI k) false (nI j) Mm = some false := by
  intro n
  induction n with
  | zero => intro j _ hm; omega
  | succ n ih =>
    intro j hj hm
    rw [f_X7_takeMade_L4]
    simp only [k0, k1]
    by_cases h8 : j = k
    · subst h8
      rw [if_pos (nI_le (by omega) (by omega))]
    · rw [if_neg (nI_ge (by omega : j < k) (by omega)), if_pos (by decide), nI_add]
      exact ih (j + 1) (by omega) (by omega)
theorem m_take4 {k : Nat} (hk : k ≤ 7) (V : Nat → Int64) {Mm : Nat → Int64} (hv : ∀ j, j < k → Mm j = V j) : ∀ (n j : Nat), j ≤ k → k - j < n → (∀ i, i < j → -500 ≤ (V i).toInt ∧ (V i).toInt ≤ 500) → (okV k V → f_X7_takeMade_L4 n (nI k) true (nI j) Mm = some true) ∧ (¬ okV k V → f_X7_takeMade_L4 n (nI k) true (nI j) Mm = some false) := by
  intro n
  induction n with
  | zero => intro j _ hm; omega
  | succ n ih =>
    intro j hj hm hb
    rw [f_X7_takeMade_L4]
    simp only [k0, k1]
    by_cases h8 : j = k
    · subst h8
      rw [if_pos (nI_le (by omega) (by omega))]
      exact ⟨fun _ => rfl, fun h => absurd hb h⟩
    · rw [if_neg (nI_ge (by omega : j < k) (by omega)), if_neg (by decide), gif0 (by omega) (by omega), nI_cl (by omega), hv j (by omega), m_in, Option.bind_some, nI_add]
      by_cases h1 : V j < -500 ∨ 500 < V j
      · rw [if_pos (by rw [← k0, bI_decn]; exact h1), m_take4f hk Mm n (j + 1) (by omega) (by omega)]
        refine ⟨fun h => ?_, fun _ => rfl⟩
        have := h j (by omega)
        rw [Int64.lt_iff_toInt_lt, Int64.lt_iff_toInt_lt, m500, p500] at h1
        omega
      · rw [if_neg (by rw [← k0, bI_decn]; exact h1)]
        refine ih (j + 1) (by omega) (by omega) (fun i hi => ?_)
        by_cases hij : i = j
        · subst hij
          rw [Int64.lt_iff_toInt_lt, Int64.lt_iff_toInt_lt, m500, p500] at h1
          omega
        · exact hb i (by omega)
theorem m_take45 {k : Nat} (hk : k ≤ 7) (V : Nat → Int64) {Mm : Nat → Int64} (hv : ∀ j, j < k → Mm j = V j) : ∀ (n j : Nat) (f : Nat → Int32), j ≤ 7 → 7 - j < n → ∃ g, f_X7_takeMade_L45 n (nI k) true (nI j) f Mm = some g ∧ ∀ i, g i = if j ≤ i ∧ i < 7 then rowV k V i else f i := by
  intro n
  induction n with
  | zero => intro j f _ hm; omega
  | succ n ih =>
    intro j f hj hm
    rw [f_X7_takeMade_L45]
    simp only [k0, k1, k7]
    by_cases h8 : j = 7
    · subst h8
      rw [if_pos (nI_le (by omega) (by omega))]
      exact ⟨f, rfl, fun i => by rw [if_neg (by omega)]⟩
    · rw [if_neg (nI_ge (by omega : j < 7) (by omega)), if_neg (by decide)]
      have key : ∀ x, x = rowV k V j → ∃ g, f_X7_takeMade_L45 n (nI k) true (nI (j + 1)) (upd f j x) Mm = some g ∧ ∀ i, g i = if j ≤ i ∧ i < 7 then rowV k V i else f i := by
        intro x hx
        obtain ⟨g, h1, h2⟩ := ih (j + 1) (upd f j x) (by omega) (by omega)
        refine ⟨g, h1, fun i => ?_⟩
        rw [h2 i]
        by_cases hi : i = j
        · subst hi; rw [if_neg (by omega), upd_s, if_pos (by omega), hx]
        · by_cases hi2 : j ≤ i ∧ i < 7
          · rw [if_pos (by omega), if_pos hi2]
          · rw [if_neg (by omega), if_neg hi2, upd_n hi]
      by_cases hjk : k ≤ j
      · rw [if_pos (nI_le hjk (by omega)), gif0 (by omega) (by omega), nI_cl (by omega), nI_add]
        exact key _ (by unfold rowV; rw [if_neg (by omega), k0])
      · rw [if_neg (nI_ge (by omega : j < k) (by omega)), gif0 (by omega) (by omega), gif0 (by omega) (by omega), nI_cl (by omega), nI_add, hv j (by omega)]
        exact key _ (by unfold rowV; rw [if_pos (by omega)])
theorem m_take45f (k : Int32) (f : Nat → Int32) (Mm : Nat → Int64) : f_X7_takeMade_L45 200 k false 0 f Mm = some f := rfl
theorem m_take {k : Nat} (hk : k ≤ 7) (V : Nat → Int64) {Mm : Nat → Int64} (hv : ∀ j, j < k → Mm j = V j) (Mr : Nat → Int32) : (okV k V → ∃ g, f_X7_takeMade (nI k) Mr Mm = some (true, g) ∧ (∀ i, i < 7 → g i = rowV k V i) ∧ g 7 = nI k) ∧ (¬ okV k V → ∃ g, f_X7_takeMade (nI k) Mr Mm = some (false, g) ∧ ∀ i, g i = Mr i) := by
  obtain ⟨h1, h2⟩ := m_take4 hk V hv 200 0 (by omega) (by omega) (fun i hi => absurd hi (Nat.not_lt_zero i))
  unfold f_X7_takeMade
  refine ⟨fun h => ?_, fun h => ?_⟩
  · obtain ⟨g, h3, h4⟩ := m_take45 hk V hv 200 0 Mr (by omega) (by omega)
    rw [k0, h1 h, Option.bind_some, h3, Option.bind_some]
    exact ⟨upd g 7 (nI k), rfl, fun i hi => by rw [upd_n (by omega), h4 i, if_pos (by omega)], upd_s _ _ _⟩
  · rw [k0, h2 h, Option.bind_some, ← k0, m_take45f, Option.bind_some]
    refine ⟨upd Mr 7 (Mr 7), rfl, fun i => ?_⟩
    by_cases hi : i = 7
    · subst hi; exact upd_s _ _ _
    · exact upd_n hi
