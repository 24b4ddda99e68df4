/-! values of the polynomials, zeros, quotients: both sides alike -/
theorem nI_m1 (j : Nat) : nI (j + 1) + (-1 : Int32) = nI j := by
  rw [← nI_add, Int32.add_assoc, show nI 1 + (-1 : Int32) = 0 from by decide, Int32.add_zero]
def hor (A : Nat → Int64) (n : Nat) (x y : Int64) : Nat → Int64 → Int64 → Int64
  | 0, s, p => s * x + co A n 0 * p
  | j + 1, s, p => hor A n x y j (s * x + co A n (j + 1) * p) (p * y)
theorem x_evL {A M : Nat → Int64} (h : MMs A M) {n : Nat} (hn : n ≤ 3) (x2 x3 : Int32) : ∀ (j fu : Nat) (s p : Int64), j ≤ n → j + 1 < fu → f_X0_evaluate_L9 fu (nI n) x2 x3 s p (nI j) M = some (hor A n x2.toInt64 x3.toInt64 j s p) := by
  intro j
  induction j with
  | zero =>
    intro fu s p hj hf
    obtain ⟨f, rfl⟩ : ∃ f, fu = f + 2 := ⟨fu - 2, by omega⟩
    rw [f_X0_evaluate_L9, if_neg (nI_pos (by omega)), x_coef h hn hj, Option.bind_some, f_X0_evaluate_L9, if_pos (by decide)]
    rfl
  | succ j ih =>
    intro fu s p hj hf
    obtain ⟨f, rfl⟩ : ∃ f, fu = f + 1 := ⟨fu - 1, by omega⟩
    rw [f_X0_evaluate_L9, if_neg (nI_pos (by omega)), x_coef h hn hj, Option.bind_some, nI_m1, ih f _ _ (by omega) (by omega)]
    rfl
def ev (A : Nat → Int64) (n : Nat) (x y : Int64) : Int64 := hor A n x y n 0 1
theorem x_ev {A M : Nat → Int64} (h : MMs A M) {n : Nat} (hn : n ≤ 3) (x2 x3 : Int32) : f_X0_evaluate (nI n) x2 x3 M = some (ev A n x2.toInt64 x3.toInt64) := by
  unfold f_X0_evaluate
  rw [x_evL h hn x2 x3 n 200 0 1 (by omega) (by omega)]
  rfl
def pol (P : Nat → Int64) (n : Nat) (x y : Int64) : Nat → Nat → Int64 → Int64
  | 0, _, s => s
  | k + 1, i, s => pol P n x y k (i + 1) (s + P i * pw x i * pw y (n - i))
theorem m_evL {n : Nat} (hn : n ≤ 3) (x2 x3 : Int32) (P : Nat → Int64) : ∀ (k fu i : Nat) (s : Int64), i + k = n + 1 → k < fu → f_X7_polyAt_L6 fu (nI n) x2 x3 s (nI i) P = some (pol P n x2.toInt64 x3.toInt64 k i s) := by
  intro k
  induction k with
  | zero =>
    intro fu i s hi hf
    obtain ⟨f, rfl⟩ : ∃ f, fu = f + 1 := ⟨fu - 1, by omega⟩
    rw [f_X7_polyAt_L6, if_pos (nI_lt (by omega) (by omega))]
    rfl
  | succ k ih =>
    intro fu i s hi hf
    obtain ⟨f, rfl⟩ : ∃ f, fu = f + 1 := ⟨fu - 1, by omega⟩
    rw [f_X7_polyAt_L6, if_neg (nI_nlt (by omega) (by omega)), gif (by omega) (by omega), nI_cl (by omega), m_power _ (by omega), Option.bind_some, pk_sub (by omega), m_power _ (by omega), Option.bind_some, k1, nI_add, ih f _ _ (by omega) (by omega)]
    rfl
theorem pw0 (x : Int64) : pw x 0 = 1 := rfl
theorem hor_pol {A : Nat → Int64} {n : Nat} (hn : n ≤ 3) {P : Nat → Int64} (hP : ∀ c, c ≤ n → P c = co A n c) (x y : Int64) : pol P n x y (n + 1) 0 0 = ev A n x y := by
  unfold ev
  rcases (by omega : n = 0 ∨ n = 1 ∨ n = 2 ∨ n = 3) with rfl | rfl | rfl | rfl
  · simp only [pol, hor, pw, Nat.sub_self, pw0, hP 0 (by omega)]
    generalize co A 0 0 = c0
    grind
  · simp only [pol, hor, pw, Nat.sub_self, pw0, hP 0 (by omega), hP 1 (by omega)]
    generalize co A 1 0 = c0
    generalize co A 1 1 = c1
    grind
  · simp only [pol, hor, pw, Nat.sub_self, pw0, hP 0 (by omega), hP 1 (by omega), hP 2 (by omega)]
    generalize co A 2 0 = c0
    generalize co A 2 1 = c1
    generalize co A 2 2 = c2
    grind
  · simp only [pol, hor, pw, Nat.sub_self, pw0, hP 0 (by omega), hP 1 (by omega), hP 2 (by omega), hP 3 (by omega)]
    generalize co A 3 0 = c0
    generalize co A 3 1 = c1
    generalize co A 3 2 = c2
    generalize co A 3 3 = c3
    grind
theorem m_ev {A : Nat → Int64} {n : Nat} (hn : n ≤ 3) {P : Nat → Int64} (hP : ∀ c, c ≤ n → P c = co A n c) (x2 x3 : Int32) : f_X7_polyAt (nI n) x2 x3 P = some (ev A n x2.toInt64 x3.toInt64) := by
  unfold f_X7_polyAt
  rw [k0, m_evL hn x2 x3 P (n + 1) 200 0 0 (by omega) (by omega), Option.bind_some, hor_pol hn hP]
theorem tb_pw : ∀ n : Nat, n < 4 → ∀ q : Nat, q < 10 → pw (nI q).toInt64 n = Int64.ofInt ((q : Int) ^ n) := by decide +kernel
theorem tb_pwb : ∀ n : Nat, n < 4 → ∀ q : Nat, q < 10 → 1 ≤ q → ((q : Int) ^ n).natAbs ≤ 729 ∧ (q : Int) ^ n ≠ 0 := by decide +kernel
theorem dtpw_ne {K : Nat} {a : Nat → Int32} (hk : okRow K a) {n q : Nat} (hn : n ≤ 3) (hq : 1 ≤ q) (hq9 : q ≤ 9) (h : dt (fun t => (a t).toInt64) n ≠ 0) : dt (fun t => (a t).toInt64) n * pw (nI q).toInt64 n ≠ 0 := by
  obtain ⟨z, y1, y2⟩ := dt_b0 hk (n := n) (by omega)
  have e := tb_pw n (by omega) q (by omega)
  obtain ⟨b1, b2⟩ := tb_pwb n (by omega) q (by omega) hq
  have zb : z.natAbs ≤ 750000000 := by
    rcases (by omega : n ≤ 1 ∨ n = 2 ∨ n = 3) with q | q | q
    · rw [if_pos q] at y2; omega
    · rw [if_neg (by omega), if_pos q] at y2; omega
    · rw [if_neg (by omega), if_neg (by omega), if_pos q] at y2; omega
  refine mul_ne0 y1 e h ?_ (Nat.lt_of_le_of_lt (nbm zb b1) (by omega))
  rw [e]
  intro q
  exact b2 ((oI_eq0 (by omega)).mp q)
/-! zeros below a spot -/
def sgn (v : Int64) : Int32 := if v ≤ 0 then (if 0 ≤ v then 0 else -1) else 1
theorem x_sgn (v : Int64) : f_X6_signOf v = some (sgn v) := by
  unfold f_X6_signOf sgn
  by_cases h : v ≤ 0
  · rw [if_pos h, if_pos h]
    by_cases h2 : 0 ≤ v
    · rw [if_pos h2, if_pos h2]
    · rw [if_neg h2, if_neg h2]
  · rw [if_neg h, if_neg h]
theorem sub_step (N w : Int32) : N - w + (-1 : Int32) = N - (w + 1) := by grind
theorem zb_st {K : Nat} {a Mr : Nat → Int32} (hk : okRow K a) (hm : ∀ j, j < 7 → Mr j = a j) {M : Nat → Int64} (h : MMs (fun t => (a t).toInt64) M) {n : Nat} (hn : n ≤ 3) (hK : 2 * n ≤ K) (x2 x3 N : Int32) : ∀ (m fu k : Nat) (w x5 x6 x6r : Int32) (MB : Int64) (T P : Nat → Int64), k + m = n + 1 → 1 ≤ k → m < fu → (x5 = 1 ∨ x5 = -1) → x6r = (if x6 = 0 then 1 else 0) → ∃ w' x6' MB' T' P', f_X0_zerosBelow_L12 fu (nI n) x2 x3 (N - w) x5 x6 (nI k) M = some (N - w', x6') ∧ f_X7_belowSpot_L12 fu (nI n) x2 x3 w x5 x6r (nI k) MB Mr T P = some (w', (if x6' = 0 then 1 else 0), MB', T', P') := by
  intro m
  induction m with
  | zero =>
    intro fu k w x5 x6 x6r MB T P hkm hk1 hf h5 h6
    obtain ⟨f, rfl⟩ : ∃ f, fu = f + 1 := ⟨fu - 1, by omega⟩
    refine ⟨w, x6, MB, T, P, ?_, ?_⟩
    · rw [f_X0_zerosBelow_L12, if_pos (nI_lt (by omega) (by omega))]
    · rw [f_X7_belowSpot_L12, if_pos (nI_lt (by omega) (by omega)), h6]
  | succ m ih =>
    intro fu k w x5 x6 x6r MB T P hkm hk1 hf h5 h6
    obtain ⟨f, rfl⟩ : ∃ f, fu = f + 1 := ⟨fu - 1, by omega⟩
    obtain ⟨T1, P1, e1, e2⟩ := m_makePoly hk hm (n := k) (by omega) (by omega) T P
    have e3 := m_ev (n := k) (by omega) e2 x2 x3
    have e4 := x_ev h (n := k) (by omega) x2 x3
    rw [f_X0_zerosBelow_L12, f_X7_belowSpot_L12, if_neg (nI_nlt (by omega) (by omega)), if_neg (nI_nlt (by omega) (by omega)), e1, Option.bind_some, e4, Option.bind_some, x_sgn, Option.bind_some, sub_step]
    dsimp only
    rw [e3, Option.bind_some]
    generalize ev (fun t => (a t).toInt64) k x2.toInt64 x3.toInt64 = v
    rw [show nI k + (1 : Int32) = nI (k + 1) from by rw [k1, nI_add], Int32.add_zero]
    unfold sgn
    by_cases q1 : v ≤ 0
    · rw [if_pos q1, if_pos q1]
      by_cases q2 : (0 : Int64) ≤ v
      · rw [if_pos q2, if_pos q2]
        rcases h5 with rfl | rfl
        · rw [if_neg (by decide), if_neg (by decide)]
          exact ih f (k + 1) w 1 0 1 _ T1 P1 (by omega) (by omega) (by omega) (Or.inl rfl) rfl
        · rw [if_neg (by decide), if_neg (by decide)]
          exact ih f (k + 1) w (-1) 0 1 _ T1 P1 (by omega) (by omega) (by omega) (Or.inr rfl) rfl
      · rw [if_neg q2, if_neg q2]
        rcases h5 with rfl | rfl
        · rw [if_pos (by decide), if_pos (by decide)]
          exact ih f (k + 1) (w + 1) (-1) (-1) 0 _ T1 P1 (by omega) (by omega) (by omega) (Or.inr rfl) (by decide)
        · rw [if_neg (by decide), if_neg (by decide)]
          exact ih f (k + 1) w (-1) (-1) 0 _ T1 P1 (by omega) (by omega) (by omega) (Or.inr rfl) (by decide)
    · rw [if_neg q1, if_neg q1]
      rcases h5 with rfl | rfl
      · rw [if_neg (by decide), if_neg (by decide)]
        exact ih f (k + 1) w 1 1 0 _ T1 P1 (by omega) (by omega) (by omega) (Or.inl rfl) (by decide)
      · rw [if_pos (by decide), if_pos (by decide)]
        exact ih f (k + 1) (w + 1) 1 1 0 _ T1 P1 (by omega) (by omega) (by omega) (Or.inl rfl) (by decide)
theorem zb {K : Nat} {a Mr : Nat → Int32} (hk : okRow K a) (hm : ∀ j, j < 7 → Mr j = a j) {M : Nat → Int64} (h : MMs (fun t => (a t).toInt64) M) {n : Nat} (hn : n ≤ 3) (hK : 2 * n ≤ K) (x2 x3 : Int32) (MB : Int64) (T P : Nat → Int64) : ∃ r MB' T' P', f_X0_zerosBelow (nI n) x2 x3 M = some r ∧ f_X7_belowSpot (nI n) x2 x3 MB Mr T P = some (r, MB', T', P') := by
  obtain ⟨w', x6', MB', T', P', h1, h2⟩ := zb_st hk hm h hn hK x2 x3 (nI n) n 200 1 0 1 1 0 MB T P (by omega) (by omega) (by omega) (Or.inl rfl) (by decide)
  have h1' : f_X0_zerosBelow_L12 200 (nI n) x2 x3 (nI n) (1 : Int32) (1 : Int32) (1 : Int32) M = some (nI n - w', x6') := by
    rw [Int32.sub_zero] at h1; exact h1
  have h2' : f_X7_belowSpot_L12 200 (nI n) x2 x3 (0 : Int32) (1 : Int32) (0 : Int32) (1 : Int32) MB Mr T P = some (w', (if x6' = 0 then 1 else 0), MB', T', P') := h2
  unfold f_X0_zerosBelow f_X7_belowSpot
  rw [h1', h2', Option.bind_some, Option.bind_some]
  dsimp only
  by_cases q : x6' = 0
  · rw [if_pos q, if_pos q, if_neg (by decide)]
    exact ⟨_, _, _, _, rfl, rfl⟩
  · rw [if_neg q, if_neg q, if_pos rfl, Int32.sub_zero]
    exact ⟨_, _, _, _, rfl, rfl⟩
/-! whether the determinants are all positive -/
def posF (A : Nat → Int64) : Nat → Nat → Bool
  | 0, _ => true
  | m + 1, k => if 0 < dt A k then posF A m (k + 1) else false
theorem x_fzL {A M : Nat → Int64} (h : MMs A M) {n : Nat} (hn : n ≤ 3) (mc : Int32) : ∀ (m fu k : Nat), k + m = n + 1 → m < fu → f_X6_findZeros_L12 fu (nI n) (nI k) mc M = some (posF A m k, mc, M) := by
  intro m
  induction m with
  | zero =>
    intro fu k hkm hf
    obtain ⟨f, rfl⟩ : ∃ f, fu = f + 1 := ⟨fu - 1, by omega⟩
    rw [f_X6_findZeros_L12, if_pos (nI_lt (by omega) (by omega))]
    rfl
  | succ m ih =>
    intro fu k hkm hf
    obtain ⟨f, rfl⟩ : ∃ f, fu = f + 1 := ⟨fu - 1, by omega⟩
    rw [f_X6_findZeros_L12, if_neg (nI_nlt (by omega) (by omega)), x_det h (by omega), Option.bind_some, posF]
    by_cases q : 0 < dt A k
    · rw [if_pos q, if_pos q, k1, nI_add, ih f (k + 1) (by omega) (by omega)]
    · rw [if_neg q, if_neg q]
theorem m_posL {K : Nat} {a Mr : Nat → Int32} (hk : okRow K a) (hm : ∀ j, j < 7 → Mr j = a j) {n : Nat} (hn : n ≤ 3) (hK : 2 * n ≤ K) : ∀ (m fu i : Nat) (T : Nat → Int64), i + m = n → m < fu → ∃ T', f_X7_isPositive_L8 fu (nI n) true (nI i) Mr T = some (posF (fun t => (a t).toInt64) m (i + 1), T') := by
  intro m
  induction m with
  | zero =>
    intro fu i T hkm hf
    obtain ⟨f, rfl⟩ : ∃ f, fu = f + 1 := ⟨fu - 1, by omega⟩
    rw [f_X7_isPositive_L8, if_pos (nI_le (by omega) (by omega))]
    exact ⟨T, rfl⟩
  | succ m ih =>
    intro fu i T hkm hf
    obtain ⟨f, rfl⟩ : ∃ f, fu = f + 1 := ⟨fu - 1, by omega⟩
    obtain ⟨T1, e1⟩ := m_det0 hk hm (n := i + 1) (by omega) (by omega) T
    rw [f_X7_isPositive_L8, if_neg (nI_ge (by omega) (by omega)), if_neg bI_tne, k1, nI_add, k0, e1, Option.bind_some, posF]
    dsimp only
    by_cases q : 0 < dt (fun t => (a t).toInt64) (i + 1)
    · have q2 : ¬ dt (fun t => (a t).toInt64) (i + 1) ≤ 0 := by
        rw [Int64.le_iff_toInt_le]; rw [Int64.lt_iff_toInt_lt] at q; omega
      rw [if_pos q, if_neg q2]
      exact ih f (i + 1) T1 (by omega) (by omega)
    · have q2 : dt (fun t => (a t).toInt64) (i + 1) ≤ 0 := by
        rw [Int64.le_iff_toInt_le]; rw [Int64.lt_iff_toInt_lt] at q; omega
      rw [if_neg q, if_pos q2]
      obtain ⟨f, rfl⟩ : ∃ g, f = g + 1 := by
        by_cases hf0 : f = 0
        · omega
        · exact ⟨f - 1, by omega⟩
      rw [f_X7_isPositive_L8]
      by_cases z : nI n ≤ nI (i + 1)
      · rw [if_pos z]; exact ⟨T1, rfl⟩
      · rw [if_neg z, if_pos (show bI false = 0 from rfl)]; exact ⟨T1, rfl⟩
def hasZ (K : Nat) (A : Nat → Int64) (n : Nat) : Bool := hasP K A n && posF A n 1
