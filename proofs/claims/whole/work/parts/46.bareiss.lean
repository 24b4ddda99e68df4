/-! determinants of tables: rows cleared one by one, over whole numbers -/
theorem nbm {x y : Int} {A B : Nat} (hx : x.natAbs ≤ A) (hy : y.natAbs ≤ B) : (x * y).natAbs ≤ A * B := by
  rw [Int.natAbs_mul]; exact Nat.mul_le_mul hx hy
theorem nba {x y : Int} {A B : Nat} (hx : x.natAbs ≤ A) (hy : y.natAbs ≤ B) : (x + y).natAbs ≤ A + B := by omega
theorem nbs {x y : Int} {A B : Nat} (hx : x.natAbs ≤ A) (hy : y.natAbs ≤ B) : (x - y).natAbs ≤ A + B := by omega
theorem oI_toInt {x : Int} (h : x.natAbs < 2 ^ 63) : (Int64.ofInt x).toInt = x := Int64.toInt_ofInt_of_le (by omega) (by omega)
theorem oI_eq0 {x : Int} (h : x.natAbs < 2 ^ 63) : Int64.ofInt x = 0 ↔ x = 0 := by
  constructor
  · intro q
    have := oI_toInt h
    rw [q] at this
    exact this.symm
  · rintro rfl; rfl
theorem div_ex {x y z : Int} (h : x = y * z) (hy : y ≠ 0) (bx : x.natAbs < 2 ^ 63) (bY : y.natAbs < 2 ^ 63) : Int64.ofInt x / Int64.ofInt y = Int64.ofInt z := by
  apply Int64.toInt_inj.mp
  rw [Int64.toInt_div, oI_toInt bx, oI_toInt bY, h, Int.mul_tdiv_cancel_left _ hy, Int64.toInt_ofInt]
theorem c20 {n k : Nat} (hn : n ≤ 4) (hk : k < 4) (T : Nat → Int64) : ∀ (fu p : Nat), p ≤ n → n - p < fu → ∃ q, p ≤ q ∧ q ≤ n ∧ f_X7_clearTable_L20 fu (nI n) (nI k) (nI p) T = some (nI q) ∧ (∀ i, p ≤ i → i < q → T (4 * i + k) = 0) ∧ (q < n → T (4 * q + k) ≠ 0) := by
  intro fu
  induction fu with
  | zero => intro p _ hm; omega
  | succ fu ih =>
    intro p hp hm
    rw [f_X7_clearTable_L20]
    simp only [k4, k1, k0]
    by_cases h : p = n
    · subst h
      rw [if_pos (nI_le (by omega) (by omega))]
      exact ⟨p, by omega, by omega, rfl, fun i h1 h2 => by omega, fun q => by omega⟩
    · rw [if_neg (nI_ge (by omega : p < n) (by omega)), pk_mul, nI_add, gif0 (by omega) (by omega), nI_cl (by omega), nI_add]
      by_cases hz : T (4 * p + k) = 0
      · rw [if_pos hz]
        obtain ⟨q, h1, h2, h3, h4, h5⟩ := ih (p + 1) (by omega) (by omega)
        refine ⟨q, by omega, h2, h3, fun i hi1 hi2 => ?_, h5⟩
        by_cases e : i = p
        · rw [e]; exact hz
        · exact h4 i (by omega) hi2
      · rw [if_neg hz]
        exact ⟨p, by omega, hp, rfl, fun i h1 h2 => by omega, fun _ => hz⟩
theorem c60 {n k q : Nat} (hn : n ≤ 4) (hk : k < n) (hq : q < n) (hkq : q ≠ k) : ∀ (fu j : Nat) (T : Nat → Int64), j ≤ n → n - j < fu → ∃ T', f_X7_clearTable_L60 fu (nI n) (nI k) (nI q) (nI j) T = some T' ∧ ∀ i c, c < 4 → T' (4 * i + c) = if j ≤ c ∧ c < n then (if i = q then T (4 * k + c) else if i = k then T (4 * q + c) else T (4 * i + c)) else T (4 * i + c) := by
  intro fu
  induction fu with
  | zero => intro j T _ hm; omega
  | succ fu ih =>
    intro j T hj hm
    rw [f_X7_clearTable_L60]
    simp only [k4, k1, k0]
    by_cases h : j = n
    · subst h
      rw [if_pos (nI_le (by omega) (by omega))]
      exact ⟨T, rfl, fun i c hc => by rw [if_neg (by omega)]⟩
    · rw [if_neg (nI_ge (by omega : j < n) (by omega)), if_neg (by rw [nI_eq (by omega) (by omega)]; exact hkq), pk_mul, nI_add, pk_mul, nI_add, gif0 (by omega) (by omega), gif0 (by omega) (by omega), gif0 (by omega) (by omega), gif0 (by omega) (by omega), nI_cl (by omega), nI_cl (by omega), nI_add]
      obtain ⟨T', h1, h2⟩ := ih (j + 1) (vp_updL (vp_updL T (4 * q + j) (T (4 * k + j))) (4 * k + j) (T (4 * q + j))) (by omega) (by omega)
      refine ⟨T', h1, fun i c hc => ?_⟩
      rw [h2 i c hc]
      by_cases hcj : c = j
      · subst hcj
        rw [if_neg (by omega), if_pos (by omega)]
        by_cases e1 : i = q
        · subst e1; rw [if_pos rfl, updL_n (by omega), updL_s]
        · rw [if_neg e1]
          by_cases e2 : i = k
          · subst e2; rw [if_pos rfl, updL_s]
          · rw [if_neg e2, updL_n (by omega), updL_n (by omega)]
      · have u : ∀ x, x < 4 → x ≠ j → ∀ i, vp_updL (vp_updL T (4 * q + j) (T (4 * k + j))) (4 * k + j) (T (4 * q + j)) (4 * i + x) = T (4 * i + x) := fun x hx hxj i => by rw [updL_n (by omega), updL_n (by omega)]
        rw [u c hc hcj, u c hc hcj, u c hc hcj]
        by_cases h3 : j ≤ c ∧ c < n
        · rw [if_pos (by omega), if_pos h3]
        · rw [if_neg (by omega), if_neg h3]
theorem c60s {n k : Nat} (hn : n ≤ 4) (hk : k < n) (T : Nat → Int64) : f_X7_clearTable_L60 200 (nI n) (nI k) (nI k) (nI 0) T = some T := by
  rw [f_X7_clearTable_L60, if_neg (nI_ge (by omega : 0 < n) (by omega)), if_pos rfl]
theorem c166 {n k i : Nat} (hn : n ≤ 4) (hki : k < i) (hi : i < n) {b : Int64} (hb : ¬ b = 0) : ∀ (fu j : Nat) (T : Nat → Int64), k < j → j ≤ n → n - j < fu → ∃ T', f_X7_clearTable_L166 fu (nI n) b (nI k) (nI i) (nI j) T = some T' ∧ ∀ i' c, c < 4 → T' (4 * i' + c) = if i' = i ∧ j ≤ c ∧ c < n then (T (4 * i + c) * T (4 * k + k) - T (4 * i + k) * T (4 * k + c)) / b else T (4 * i' + c) := by
  intro fu
  induction fu with
  | zero => intro j T _ _ hm; omega
  | succ fu ih =>
    intro j T hkj hj hm
    rw [f_X7_clearTable_L166]
    simp only [k4, k1, k0]
    by_cases h : j = n
    · subst h
      rw [if_pos (nI_le (by omega) (by omega))]
      exact ⟨T, rfl, fun i c hc => by rw [if_neg (by omega)]⟩
    · rw [if_neg (nI_ge (by omega : j < n) (by omega)), pk_mul, pk_mul, nI_add, nI_add, nI_add, nI_add, nI_add, gif0 (by omega) (by omega), gif0 (by omega) (by omega), gif0 (by omega) (by omega), gif0 (by omega) (by omega), if_neg hb, gif0 (by omega) (by omega), nI_cl (by omega), nI_cl (by omega), nI_cl (by omega), nI_cl (by omega)]
      obtain ⟨T', h1, h2⟩ := ih (j + 1) (vp_updL T (4 * i + j) ((T (4 * i + j) * T (4 * k + k) - T (4 * i + k) * T (4 * k + j)) / b)) (by omega) (by omega) (by omega)
      refine ⟨T', h1, fun i' c hc => ?_⟩
      rw [h2 i' c hc]
      by_cases e : i' = i ∧ c = j
      · obtain ⟨rfl, rfl⟩ := e
        rw [if_neg (by omega), updL_s, if_pos (by omega)]
      · by_cases h3 : i' = i ∧ j ≤ c ∧ c < n
        · rw [if_pos (by omega), if_pos h3, updL_n (by omega), updL_n (by omega), updL_n (by omega), updL_n (by omega)]
        · rw [if_neg (by omega), if_neg h3, updL_n (by omega)]
theorem c154 {n k : Nat} (hn : n ≤ 4) {b : Int64} (hb : ¬ b = 0) : ∀ (fu i : Nat) (T : Nat → Int64), k < i → i ≤ n → n - i < fu → ∃ T', f_X7_clearTable_L154 fu (nI n) b (nI k) (nI i) T = some T' ∧ ∀ i' c, c < 4 → T' (4 * i' + c) = if i ≤ i' ∧ i' < n ∧ k < c ∧ c < n then (T (4 * i' + c) * T (4 * k + k) - T (4 * i' + k) * T (4 * k + c)) / b else T (4 * i' + c) := by
  intro fu
  induction fu with
  | zero => intro j T _ _ hm; omega
  | succ fu ih =>
    intro i T hki hi hm
    rw [f_X7_clearTable_L154]
    simp only [k1]
    by_cases h : i = n
    · subst h
      rw [if_pos (nI_le (by omega) (by omega))]
      exact ⟨T, rfl, fun i c hc => by rw [if_neg (by omega)]⟩
    · rw [if_neg (nI_ge (by omega : i < n) (by omega)), nI_add, nI_add]
      obtain ⟨T1, g1, g2⟩ := c166 hn hki (by omega : i < n) hb 200 (k + 1) T (by omega) (by omega) (by omega)
      rw [g1, Option.bind_some]
      obtain ⟨T', h1, h2⟩ := ih (i + 1) T1 (by omega) (by omega) (by omega)
      refine ⟨T', h1, fun i' c hc => ?_⟩
      rw [h2 i' c hc]
      have u : ∀ i2 c2, c2 < 4 → i2 ≠ i → T1 (4 * i2 + c2) = T (4 * i2 + c2) := fun i2 c2 hc2 hi2 => by rw [g2 i2 c2 hc2, if_neg (by omega)]
      by_cases e : i' = i
      · subst e
        rw [if_neg (by omega), g2 i' c hc]
        by_cases h3 : k < c ∧ c < n
        · rw [if_pos (by omega), if_pos (by omega)]
        · rw [if_neg (by omega), if_neg (by omega)]
      · by_cases h3 : i ≤ i' ∧ i' < n ∧ k < c ∧ c < n
        · rw [if_pos (by omega), if_pos h3, u i' c hc e, u k k (by omega) (by omega), u i' k (by omega) e, u k c hc (by omega)]
        · rw [if_neg (by omega), if_neg h3, u i' c hc e]
def mI : Nat → (Nat → Nat → Int) → Nat → Nat → Int
  | 0, R, i, c => R i c
  | 1, R, i, c => R i c * R 0 0 - R i 0 * R 0 c
  | 2, R, i, c => R 0 0 * (R 1 1 * R i c - R 1 c * R i 1) - R 0 1 * (R 1 0 * R i c - R 1 c * R i 0) + R 0 c * (R 1 0 * R i 1 - R 1 1 * R i 0)
  | _, R, i, c =>
    R 0 0 * (R 1 1 * (R 2 2 * R i c - R 2 c * R i 2) - R 1 2 * (R 2 1 * R i c - R 2 c * R i 1) + R 1 c * (R 2 1 * R i 2 - R 2 2 * R i 1))
    - R 0 1 * (R 1 0 * (R 2 2 * R i c - R 2 c * R i 2) - R 1 2 * (R 2 0 * R i c - R 2 c * R i 0) + R 1 c * (R 2 0 * R i 2 - R 2 2 * R i 0))
    + R 0 2 * (R 1 0 * (R 2 1 * R i c - R 2 c * R i 1) - R 1 1 * (R 2 0 * R i c - R 2 c * R i 0) + R 1 c * (R 2 0 * R i 1 - R 2 1 * R i 0))
    - R 0 c * (R 1 0 * (R 2 1 * R i 2 - R 2 2 * R i 1) - R 1 1 * (R 2 0 * R i 2 - R 2 2 * R i 0) + R 1 2 * (R 2 0 * R i 1 - R 2 1 * R i 0))
def pI : Nat → (Nat → Nat → Int) → Int
  | 0, _ => 1
  | k + 1, R => mI k R k k
theorem syl (R : Nat → Nat → Int) (i c : Nat) : ∀ k, k < 3 → mI k R i c * mI k R k k - mI k R i k * mI k R k c = pI k R * mI (k + 1) R i c := by
  intro k hk
  rcases (by omega : k = 0 ∨ k = 1 ∨ k = 2) with rfl | rfl | rfl
  · simp only [mI, pI]; grind
  · simp only [mI, pI]; grind
  · simp only [mI, pI]
    generalize R 0 0 = x1, R 0 1 = x2, R 0 2 = x3, R 0 c = x4, R 1 0 = y1, R 1 1 = y2, R 1 2 = y3, R 1 c = y4, R 2 0 = z1, R 2 1 = z2, R 2 2 = z3, R 2 c = z4, R i 0 = w1, R i 1 = w2, R i 2 = w3, R i c = w4
    grind
def bR (n : Nat) (R : Nat → Nat → Int) : Prop := ∀ i j, i < n → j < n → (R i j).natAbs ≤ 500
theorem mI_b {n : Nat} (hn : n ≤ 4) {R : Nat → Nat → Int} (hR : bR n R) {k i c : Nat} (hk : k < n) (hi : i < n) (hc : c < n) : (mI k R i c).natAbs ≤ (if k = 0 then 500 else if k = 1 then 500000 else if k = 2 then 750000000 else 1500000000000) := by
  have h := fun i j hi hj => hR i j hi hj
  rcases (by omega : k = 0 ∨ k = 1 ∨ k = 2 ∨ k = 3) with rfl | rfl | rfl | rfl
  · exact h i c hi hc
  · exact nbs (nbm (h i c hi hc) (h 0 0 (by omega) (by omega))) (nbm (h i 0 hi (by omega)) (h 0 c (by omega) hc))
  · have m2 : ∀ p q s t, p < n → q < n → s < n → t < n → (R p s * R q t - R p t * R q s).natAbs ≤ 500000 := fun p q s t hp hq hs ht => nbs (nbm (h p s hp hs) (h q t hq ht)) (nbm (h p t hp ht) (h q s hq hs))
    exact nba (nbs (nbm (h 0 0 (by omega) (by omega)) (m2 1 i 1 c (by omega) hi (by omega) hc)) (nbm (h 0 1 (by omega) (by omega)) (m2 1 i 0 c (by omega) hi (by omega) hc))) (nbm (h 0 c (by omega) hc) (m2 1 i 0 1 (by omega) hi (by omega) (by omega)))
  · have m2 : ∀ p q s t, p < n → q < n → s < n → t < n → (R p s * R q t - R p t * R q s).natAbs ≤ 500000 := fun p q s t hp hq hs ht => nbs (nbm (h p s hp hs) (h q t hq ht)) (nbm (h p t hp ht) (h q s hq hs))
    have m3 : ∀ s t u, s < n → t < n → u < n → (R 1 s * (R 2 t * R i u - R 2 u * R i t) - R 1 t * (R 2 s * R i u - R 2 u * R i s) + R 1 u * (R 2 s * R i t - R 2 t * R i s)).natAbs ≤ 750000000 := fun s t u hs ht hu => nba (nbs (nbm (h 1 s (by omega) hs) (m2 2 i t u (by omega) hi ht hu)) (nbm (h 1 t (by omega) ht) (m2 2 i s u (by omega) hi hs hu))) (nbm (h 1 u (by omega) hu) (m2 2 i s t (by omega) hi hs ht))
    exact nbs (nba (nbs (nbm (h 0 0 (by omega) (by omega)) (m3 1 2 c (by omega) (by omega) hc)) (nbm (h 0 1 (by omega) (by omega)) (m3 0 2 c (by omega) (by omega) hc))) (nbm (h 0 2 (by omega) (by omega)) (m3 0 1 c (by omega) (by omega) hc))) (nbm (h 0 c (by omega) hc) (m3 0 1 2 (by omega) (by omega) (by omega)))
theorem mI_b63 {n : Nat} (hn : n ≤ 4) {R : Nat → Nat → Int} (hR : bR n R) {k i c : Nat} (hk : k < n) (hi : i < n) (hc : c < n) : (mI k R i c).natAbs < 2 ^ 63 := by
  have := mI_b hn hR hk hi hc
  split at this
  · omega
  · split at this
    · omega
    · split at this <;> omega
theorem pm_b {n : Nat} (hn : n ≤ 4) {R : Nat → Nat → Int} (hR : bR n R) {k i c : Nat} (hk : k + 1 < n) (hi : i < n) (hc : c < n) : (pI k R * mI (k + 1) R i c).natAbs < 2 ^ 63 ∧ (pI k R).natAbs < 2 ^ 63 := by
  rcases (by omega : k = 0 ∨ k = 1 ∨ k = 2) with rfl | rfl | rfl
  · have h1 := mI_b hn hR (k := 1) (by omega) hi hc
    simp at h1
    exact ⟨by show (1 * mI 1 R i c).natAbs < _; rw [Int.one_mul]; omega, by show (1 : Int).natAbs < _; decide⟩
  · have h1 := mI_b hn hR (k := 0) (i := 0) (c := 0) (by omega) (by omega) (by omega)
    have := nbm h1 (mI_b hn hR hk hi hc)
    simp at this h1
    exact ⟨by show (mI 0 R 0 0 * mI 2 R i c).natAbs < _; omega, by show (mI 0 R 0 0).natAbs < _; omega⟩
  · have h1 := mI_b hn hR (k := 1) (i := 1) (c := 1) (by omega) (by omega) (by omega)
    have := nbm h1 (mI_b hn hR hk hi hc)
    simp at this h1
    exact ⟨by show (mI 1 R 1 1 * mI 3 R i c).natAbs < _; omega, by show (mI 1 R 1 1).natAbs < _; omega⟩
def dI (n : Nat) (R : Nat → Nat → Int) : Int := if n = 0 then 1 else mI (n - 1) R (n - 1) (n - 1)
def swR (k q : Nat) (R : Nat → Nat → Int) (i : Nat) : Nat → Int := R (if i = q then k else if i = k then q else i)
theorem dI_sw (R : Nat → Nat → Int) {n k q : Nat} (hn : n ≤ 4) (hk : k < q) (hq : q < n) : dI n (swR k q R) = - dI n R := by
  rcases (by omega : (n = 2 ∧ k = 0 ∧ q = 1) ∨ (n = 3 ∧ k = 0 ∧ q = 1) ∨ (n = 3 ∧ k = 0 ∧ q = 2) ∨ (n = 3 ∧ k = 1 ∧ q = 2) ∨ (n = 4 ∧ k = 0 ∧ q = 1) ∨ (n = 4 ∧ k = 0 ∧ q = 2) ∨ (n = 4 ∧ k = 0 ∧ q = 3) ∨ (n = 4 ∧ k = 1 ∧ q = 2) ∨ (n = 4 ∧ k = 1 ∧ q = 3) ∨ (n = 4 ∧ k = 2 ∧ q = 3)) with ⟨rfl, rfl, rfl⟩ | ⟨rfl, rfl, rfl⟩ | ⟨rfl, rfl, rfl⟩ | ⟨rfl, rfl, rfl⟩ | ⟨rfl, rfl, rfl⟩ | ⟨rfl, rfl, rfl⟩ | ⟨rfl, rfl, rfl⟩ | ⟨rfl, rfl, rfl⟩ | ⟨rfl, rfl, rfl⟩ | ⟨rfl, rfl, rfl⟩ <;> simp [dI, mI, swR] <;> grind
theorem dI_z {R : Nat → Nat → Int} {n k : Nat} (hn : n ≤ 4) (hk : k + 1 < n) (hp : pI k R ≠ 0) (hz : ∀ i, k ≤ i → i < n → mI k R i k = 0) : dI n R = 0 := by
  rcases (by omega : k = 0 ∨ k = 1 ∨ k = 2) with rfl | rfl | rfl
  · have z0 := hz 0 (by omega) (by omega)
    have z1 := hz 1 (by omega) (by omega)
    rcases (by omega : n = 2 ∨ n = 3 ∨ n = 4) with rfl | rfl | rfl
    · simp only [mI] at z0 z1; simp [dI, mI, z0, z1]
    · have z2 := hz 2 (by omega) (by omega)
      simp only [mI] at z0 z1 z2; simp [dI, mI, z0, z1, z2]
    · have z2 := hz 2 (by omega) (by omega)
      have z3 := hz 3 (by omega) (by omega)
      simp only [mI] at z0 z1 z2 z3; simp [dI, mI, z0, z1, z2, z3]
  · have z1 := hz 1 (by omega) (by omega)
    have z2 := hz 2 (by omega) (by omega)
    rcases (by omega : n = 3 ∨ n = 4) with rfl | rfl
    · have e := syl R 2 2 1 (by omega)
      rw [z1, z2] at e
      simp only [Int.mul_zero, Int.zero_mul, Int.sub_zero] at e
      exact (Int.mul_eq_zero.mp e.symm).resolve_left hp
    · have z3 := hz 3 (by omega) (by omega)
      have e1 := syl R 2 2 1 (by omega)
      have e2 := syl R 3 2 1 (by omega)
      rw [z1, z2] at e1
      rw [z1, z3] at e2
      simp only [Int.mul_zero, Int.zero_mul, Int.sub_zero] at e1 e2
      have f1 := (Int.mul_eq_zero.mp e1.symm).resolve_left hp
      have f2 := (Int.mul_eq_zero.mp e2.symm).resolve_left hp
      have e : pI 1 R * (pI 1 R * mI 3 R 3 3) = mI 1 R 1 1 * (mI 1 R 2 2 * mI 1 R 3 3 - mI 1 R 2 3 * mI 1 R 3 2) - mI 1 R 1 2 * (mI 1 R 2 1 * mI 1 R 3 3 - mI 1 R 2 3 * mI 1 R 3 1) + mI 1 R 1 3 * (mI 1 R 2 1 * mI 1 R 3 2 - mI 1 R 2 2 * mI 1 R 3 1) := by
        simp only [mI, pI]
        generalize R 0 0 = x1, R 0 1 = x2, R 0 2 = x3, R 0 3 = x4, R 1 0 = y1, R 1 1 = y2, R 1 2 = y3, R 1 3 = y4, R 2 0 = z1, R 2 1 = z2, R 2 2 = z3, R 2 3 = z4, R 3 0 = w1, R 3 1 = w2, R 3 2 = w3, R 3 3 = w4
        grind
      rw [z1, z2, z3] at e
      simp only [Int.mul_zero, Int.zero_mul, Int.sub_zero, Int.add_zero, Int.sub_self] at e
      exact (Int.mul_eq_zero.mp ((Int.mul_eq_zero.mp e).resolve_left hp)).resolve_left hp
  · have hn4 : n = 4 := by omega
    subst hn4
    have z2 := hz 2 (by omega) (by omega)
    have z3 := hz 3 (by omega) (by omega)
    have e := syl R 3 3 2 (by omega)
    rw [z2, z3] at e
    simp only [Int.mul_zero, Int.zero_mul, Int.sub_zero] at e
    exact (Int.mul_eq_zero.mp e.symm).resolve_left hp
theorem mI_sw {R : Nat → Nat → Int} {k q : Nat} (hk : k < q) (hk3 : k ≤ 3) (i c : Nat) (hi : k ≤ i) : mI k (swR k q R) i c = mI k R (if i = q then k else if i = k then q else i) c := by
  rcases (by omega : k = 0 ∨ k = 1 ∨ k = 2 ∨ k = 3) with rfl | rfl | rfl | rfl
  · rfl
  · simp only [mI, swR, if_neg (show ¬ (0 : Nat) = q by omega), if_neg (show ¬ (0 : Nat) = 1 by omega)]
  · simp only [mI, swR, if_neg (show ¬ (0 : Nat) = q by omega), if_neg (show ¬ (0 : Nat) = 2 by omega), if_neg (show ¬ (1 : Nat) = q by omega), if_neg (show ¬ (1 : Nat) = 2 by omega)]
  · simp only [mI, swR, if_neg (show ¬ (0 : Nat) = q by omega), if_neg (show ¬ (0 : Nat) = 3 by omega), if_neg (show ¬ (1 : Nat) = q by omega), if_neg (show ¬ (1 : Nat) = 3 by omega), if_neg (show ¬ (2 : Nat) = q by omega), if_neg (show ¬ (2 : Nat) = 3 by omega)]
theorem pI_sw {R : Nat → Nat → Int} {k q : Nat} (hk : k < q) (hk3 : k ≤ 2) : pI k (swR k q R) = pI k R := by
  rcases (by omega : k = 0 ∨ k = 1 ∨ k = 2) with rfl | rfl | rfl
  · rfl
  · simp only [pI, mI, swR, if_neg (show ¬ (0 : Nat) = q by omega), if_neg (show ¬ (0 : Nat) = 1 by omega)]
  · simp only [pI, mI, swR, if_neg (show ¬ (0 : Nat) = q by omega), if_neg (show ¬ (0 : Nat) = 2 by omega), if_neg (show ¬ (1 : Nat) = q by omega), if_neg (show ¬ (1 : Nat) = 2 by omega)]
/-- a step's elimination, rows in their places -/
theorem c_elim {n k : Nat} (hn : n ≤ 4) (hk : k + 1 < n) {R : Nat → Nat → Int} (hR : bR n R) (hp : pI k R ≠ 0) {T : Nat → Int64} (hT : ∀ i c, k ≤ i → i < n → k ≤ c → c < n → T (4 * i + c) = Int64.ofInt (mI k R i c)) :
    ∃ T', f_X7_clearTable_L154 200 (nI n) (Int64.ofInt (pI k R)) (nI k) (nI (k + 1)) T = some T' ∧ T' (4 * k + k) = Int64.ofInt (pI (k + 1) R) ∧ ∀ i c, k + 1 ≤ i → i < n → k + 1 ≤ c → c < n → T' (4 * i + c) = Int64.ofInt (mI (k + 1) R i c) := by
  have hpb := (pm_b hn hR hk (i := k) (c := k) (by omega) (by omega)).2
  obtain ⟨T', h1, h2⟩ := c154 hn (b := Int64.ofInt (pI k R)) (k := k) (fun q => hp ((oI_eq0 hpb).mp q)) 200 (k + 1) T (by omega) (by omega) (by omega)
  refine ⟨T', h1, ?_, fun i c hi1 hi2 hc1 hc2 => ?_⟩
  · rw [h2 k k (by omega), if_neg (by omega), hT k k (by omega) (by omega) (by omega) (by omega)]
    rfl
  · rw [h2 i c (by omega), if_pos (by omega), hT i c (by omega) (by omega) (by omega) (by omega), hT k k (by omega) (by omega) (by omega) (by omega), hT i k (by omega) (by omega) (by omega) (by omega), hT k c (by omega) (by omega) (by omega) (by omega), ← Int64.ofInt_mul, ← Int64.ofInt_mul, ← Int64.ofInt_sub]
    have e := syl R i c k (by omega)
    exact div_ex e hp (by rw [e]; exact (pm_b hn hR hk hi2 hc2).1) hpb
theorem c_main {n : Nat} (hn : n ≤ 4) (hn1 : 1 ≤ n) : ∀ (m k fu : Nat) (R : Nat → Nat → Int) (sg : Int64) (T : Nat → Int64), k + m + 1 = n → m < fu → bR n R → pI k R ≠ 0 → (∀ i c, k ≤ i → i < n → k ≤ c → c < n → T (4 * i + c) = Int64.ofInt (mI k R i c)) → ∃ T', f_X7_clearTable_L8 fu (nI n) (Int64.ofInt (pI k R)) sg (nI k) T = some (sg * Int64.ofInt (dI n R), T') := by
  intro m
  induction m with
  | zero =>
    intro k fu R sg T hkm hfu hR hp hT
    obtain ⟨fu, rfl⟩ : ∃ q, fu = q + 1 := ⟨fu - 1, by omega⟩
    rw [f_X7_clearTable_L8]
    simp only [k1, k5, k0]
    rw [nI_add, if_pos (nI_le (by omega) (by omega)), if_neg (by rw [nI_eq (by omega) (by omega)]; omega), pk_mul, pk_sub (by omega), gif0 (by omega) (by omega), nI_cl (by omega), show 5 * n - 5 = 4 * k + k by omega, hT k k (by omega) (by omega) (by omega) (by omega)]
    exact ⟨T, by unfold dI; rw [if_neg (by omega), show n - 1 = k by omega]⟩
  | succ m ih =>
    intro k fu R sg T hkm hfu hR hp hT
    obtain ⟨fu, rfl⟩ : ∃ q, fu = q + 1 := ⟨fu - 1, by omega⟩
    rw [f_X7_clearTable_L8]
    simp only [k1, k5, k0]
    rw [nI_add, if_neg (nI_ge (by omega : k + 1 < n) (by omega))]
    obtain ⟨q, q1, q2, q3, q4, q5⟩ := c20 hn (k := k) (by omega) T 200 k (by omega) (by omega)
    rw [q3, Option.bind_some]
    by_cases hqn : q = n
    · rw [if_pos (by rw [hqn])]
      have hz : dI n R = 0 := dI_z hn (by omega) hp (fun i hi1 hi2 => by
        have := q4 i hi1 (by omega)
        rw [hT i k hi1 hi2 (by omega) (by omega)] at this
        exact (oI_eq0 (mI_b63 hn hR (by omega) hi2 (by omega))).mp this)
      exact ⟨T, by rw [hz]; show some ((0 : Int64), T) = some (sg * 0, T); rw [Int64.mul_zero]⟩
    · rw [if_neg (by rw [nI_eq (by omega) (by omega)]; exact hqn)]
      have hne := q5 (by omega)
      rw [hT q k (by omega) (by omega) (by omega) (by omega)] at hne
      have hne2 : mI k R q k ≠ 0 := fun z => hne (by rw [z]; rfl)
      by_cases hqk : q = k
      · subst hqk
        rw [c60s hn (by omega), Option.bind_some, if_pos rfl]
        obtain ⟨T', t1, t2, t3⟩ := c_elim hn (by omega) hR hp hT
        rw [t1, Option.bind_some, pk_mul, gif0 (by omega) (by omega), nI_cl (by omega), show 5 * q = 4 * q + q by omega, t2]
        exact ih (q + 1) fu R sg T' (by omega) (by omega) hR hne2 t3
      · obtain ⟨U, u1, u2⟩ := c60 hn (by omega : k < n) (by omega : q < n) hqk 200 0 T (by omega) (by omega)
        rw [u1, Option.bind_some, if_neg (by rw [nI_eq (by omega) (by omega)]; exact hqk)]
        have hR2 : bR n (swR k q R) := fun i j hi hj => by
          unfold swR
          split
          · exact hR k j (by omega) hj
          · split
            · exact hR q j (by omega) hj
            · exact hR i j hi hj
        have hp2 : pI k (swR k q R) ≠ 0 := by rw [pI_sw (by omega) (by omega)]; exact hp
        have hU : ∀ i c, k ≤ i → i < n → k ≤ c → c < n → U (4 * i + c) = Int64.ofInt (mI k (swR k q R) i c) := fun i c hi1 hi2 hc1 hc2 => by
          rw [u2 i c (by omega), if_pos (by omega), mI_sw (by omega) (by omega) i c hi1]
          split
          · exact hT k c (by omega) (by omega) hc1 hc2
          · split
            · exact hT q c (by omega) (by omega) hc1 hc2
            · exact hT i c hi1 hi2 hc1 hc2
        obtain ⟨T', t1, t2, t3⟩ := c_elim hn (by omega) hR2 hp2 hU
        rw [pI_sw (by omega) (by omega)] at t1
        rw [t1, Option.bind_some, pk_mul, gif0 (by omega) (by omega), nI_cl (by omega), show 5 * k = 4 * k + k by omega, t2]
        have hne3 : pI (k + 1) (swR k q R) ≠ 0 := by
          show mI k (swR k q R) k k ≠ 0
          rw [mI_sw (by omega) (by omega) k k (by omega), if_neg (by omega), if_pos rfl]
          exact hne2
        obtain ⟨T2, r1⟩ := ih (k + 1) fu (swR k q R) (-sg) T' (by omega) (by omega) hR2 hne3 t3
        refine ⟨T2, ?_⟩
        rw [r1, dI_sw R hn (by omega) (by omega), Int64.ofInt_neg]
        congr 2
        grind
/-- the reference's determinant of a table -/
theorem m_clear {n : Nat} (hn : n ≤ 4) {R : Nat → Nat → Int} (hR : bR n R) {T : Nat → Int64} (hT : ∀ i c, i < n → c < n → T (4 * i + c) = Int64.ofInt (R i c)) : ∃ T', f_X7_clearTable (nI n) T = some (Int64.ofInt (dI n R), T') := by
  unfold f_X7_clearTable
  by_cases h0 : n = 0
  · subst h0
    exact ⟨T, rfl⟩
  · obtain ⟨T', h⟩ := c_main hn (by omega) (n - 1) 0 200 R 1 T (by omega) (by omega) hR (show (1 : Int) ≠ 0 by decide) (fun i c _ hi _ hc => hT i c hi hc)
    refine ⟨T', ?_⟩
    rw [k0]
    rw [Int64.one_mul] at h
    exact h
