/-! determinants and polynomials on both sides as the same numbers -/
def MMs (A M : Nat → Int64) : Prop := (∀ n, n ≤ 4 → M (2 ^ n - 1) = dt A n) ∧ ∀ n, n ≤ 3 → ∀ j, j ≤ n → (if (n - j) % 2 = 0 then M ((2 ^ (n + 1) - 1) ^^^ 2 ^ j) else -M ((2 ^ (n + 1) - 1) ^^^ 2 ^ j)) = co A n j
theorem dt0 (A : Nat → Int64) : dt A 0 = 1 := rfl
theorem dt1 (A : Nat → Int64) : dt A 1 = A 0 := rfl
theorem dt2 (A : Nat → Int64) : dt A 2 = A 2 * A 0 - A 1 * A 1 := rfl
theorem dt3 (A : Nat → Int64) : dt A 3 = A 0 * (A 2 * A 4 - A 3 * A 3) - A 1 * (A 1 * A 4 - A 3 * A 2) + A 2 * (A 1 * A 3 - A 2 * A 2) := rfl
theorem dt4 (A : Nat → Int64) : dt A 4 =
    A 0 * (A 2 * (A 4 * A 6 - A 5 * A 5) - A 3 * (A 3 * A 6 - A 5 * A 4) + A 4 * (A 3 * A 5 - A 4 * A 4))
    - A 1 * (A 1 * (A 4 * A 6 - A 5 * A 5) - A 3 * (A 2 * A 6 - A 5 * A 3) + A 4 * (A 2 * A 5 - A 4 * A 3))
    + A 2 * (A 1 * (A 3 * A 6 - A 5 * A 4) - A 2 * (A 2 * A 6 - A 5 * A 3) + A 4 * (A 2 * A 4 - A 3 * A 3))
    - A 3 * (A 1 * (A 3 * A 5 - A 4 * A 4) - A 2 * (A 2 * A 5 - A 4 * A 3) + A 3 * (A 2 * A 4 - A 3 * A 3)) := rfl
theorem co_n (A : Nat → Int64) (n : Nat) : co A n n = dt A n := by unfold co; rw [if_pos rfl]
theorem co10 (A : Nat → Int64) : co A 1 0 = -A 1 := rfl
theorem co20 (A : Nat → Int64) : co A 2 0 = A 2 * -A 2 - -A 3 * A 1 := rfl
theorem co21 (A : Nat → Int64) : co A 2 1 = -A 3 * A 0 - A 1 * -A 2 := rfl
theorem co30 (A : Nat → Int64) : co A 3 0 = -A 3 * (A 2 * A 4 - A 3 * A 3) - A 1 * (-A 4 * A 4 - A 3 * -A 5) + A 2 * (-A 4 * A 3 - A 2 * -A 5) := rfl
theorem co31 (A : Nat → Int64) : co A 3 1 = A 0 * (-A 4 * A 4 - A 3 * -A 5) - -A 3 * (A 1 * A 4 - A 3 * A 2) + A 2 * (A 1 * -A 5 - -A 4 * A 2) := rfl
theorem co32 (A : Nat → Int64) : co A 3 2 = A 0 * (A 2 * -A 5 - -A 4 * A 3) - A 1 * (A 1 * -A 5 - -A 4 * A 2) + -A 3 * (A 1 * A 3 - A 2 * A 2) := rfl
theorem MMs_of (A mm0 : Nat → Int64) : MMs A (Msq A mm0 15) := by
  have q0 := M_0 A mm0
  have q1 := M_1 A mm0
  have q2 := M_2 A mm0
  have q4 := M_4 A mm0
  have q8 := M_8 A mm0
  have q3 := R_3 A mm0
  have q5 := R_5 A mm0
  have q6 := R_6 A mm0
  have q9 := R_9 A mm0
  have q10 := R_10 A mm0
  have q12 := R_12 A mm0
  have q7 := R_7 A mm0
  have q11 := R_11 A mm0
  have q13 := R_13 A mm0
  have q14 := R_14 A mm0
  have q15 := R_15 A mm0
  generalize Msq A mm0 15 = M at *
  constructor
  · intro n hn
    rcases (by omega : n = 0 ∨ n = 1 ∨ n = 2 ∨ n = 3 ∨ n = 4) with rfl | rfl | rfl | rfl | rfl
    · exact q0
    · exact q1
    · show M 3 = _
      rw [dt2, q3, q2, q1]; grind
    · show M 7 = _
      rw [dt3, q7, q6, q5, q3, q4, q2, q1]; grind
    · show M 15 = _
      rw [dt4, q15, q14, q13, q11, q7, q12, q10, q9, q6, q5, q3, q8, q4, q2, q1]; grind
  · intro n hn j hj
    rcases (by omega : (n = 0 ∧ j = 0) ∨ (n = 1 ∧ j = 0) ∨ (n = 1 ∧ j = 1) ∨ (n = 2 ∧ j = 0) ∨ (n = 2 ∧ j = 1) ∨ (n = 2 ∧ j = 2) ∨ (n = 3 ∧ j = 0) ∨ (n = 3 ∧ j = 1) ∨ (n = 3 ∧ j = 2) ∨ (n = 3 ∧ j = 3)) with ⟨rfl, rfl⟩ | ⟨rfl, rfl⟩ | ⟨rfl, rfl⟩ | ⟨rfl, rfl⟩ | ⟨rfl, rfl⟩ | ⟨rfl, rfl⟩ | ⟨rfl, rfl⟩ | ⟨rfl, rfl⟩ | ⟨rfl, rfl⟩ | ⟨rfl, rfl⟩
    · exact q0
    · show -M 2 = _
      rw [co10, q2]
    · show M 1 = _
      rw [co_n, dt1, q1]
    · show M 6 = _
      rw [co20, q6, q4, q2]; grind
    · show -M 5 = _
      rw [co21, q5, q4, q1]; grind
    · show M 3 = _
      rw [co_n, dt2, q3, q2, q1]; grind
    · show -M 14 = _
      rw [co30, q14, q12, q10, q6, q8, q4, q2]; grind
    · show M 13 = _
      rw [co31, q13, q12, q9, q5, q8, q4, q1]; grind
    · show -M 11 = _
      rw [co32, q11, q10, q9, q3, q8, q2, q1]; grind
    · show M 7 = _
      rw [co_n, dt3, q7, q6, q5, q3, q4, q2, q1]; grind
theorem x_fill {K : Nat} {a rf : Nat → Int32} (hk : okRow K a) (hf : ∀ j, j < K → rf j = a j) {s : Nat} (hs : s < 100) (mm : Nat → Int64) : ∃ M, f_X0_fill (nI s) mm (nI K) rf = some (nI K, M) ∧ MMs (fun t => (a (s + t)).toInt64) M := by
  refine ⟨_, ?_, MMs_of (fun t => (a (s + t)).toInt64) mm⟩
  unfold f_X0_fill f_X3_size
  rw [Option.bind_some, if_neg (by decide), show (0 : Int32).toNatClampNeg = 0 from rfl, show (1 : Int32) = nI (0 + 1) from by decide, show vp_updL mm 0 1 = Msq (fun t => (a (s + t)).toInt64) mm 0 from rfl, x_fillL hk hf hs mm 200 0 (by omega) (by omega)]
  rfl
theorem tb_sh1 : ∀ n, n ≤ 4 → ((1 : Int32) <<< (nI n &&& 31)) - (1 : Int32) = nI (2 ^ n - 1) ∧ 2 ^ n - 1 < 16 := by decide +kernel
theorem tb_cox : ∀ n, n ≤ 3 → ∀ j, j ≤ n → (((1 : Int32) <<< ((nI n + (1 : Int32)) &&& 31)) - (1 : Int32)) ^^^ ((1 : Int32) <<< (nI j &&& 31)) = nI ((2 ^ (n + 1) - 1) ^^^ 2 ^ j) ∧ (2 ^ (n + 1) - 1) ^^^ 2 ^ j < 16 := by decide +kernel
theorem nI_out {n a b : Nat} (hn : n < 2 ^ 31) (ha : a ≤ n) (hb : n ≤ b) (hb2 : b < 2 ^ 31) : ¬ (nI n < nI a ∨ nI b < nI n) := by
  rw [nI_ltI hn (by omega), nI_ltI hb2 hn]; omega
theorem x_det {A M : Nat → Int64} (h : MMs A M) {n : Nat} (hn : n ≤ 4) : f_X0_det (nI n) M = some (dt A n) := by
  unfold f_X0_det
  rw [x_out, Option.bind_some]
  simp only [bI_dec]
  rw [k0, k4, if_pos (nI_out (by omega) (by omega) hn (by omega)), (tb_sh1 n hn).1, x_minor (tb_sh1 n hn).2, h.1 n hn]
  rfl
theorem x_coef {A M : Nat → Int64} (h : MMs A M) {n j : Nat} (hn : n ≤ 3) (hj : j ≤ n) : f_X0_coefficient (nI n) (nI j) M = some (co A n j) := by
  unfold f_X0_coefficient
  simp only [x_out, Option.bind_some, bI_dec]
  rw [k0, k3, if_pos (nI_out (by omega) (by omega) hn (by omega)), if_pos (nI_out (by omega) (by omega) hj (by omega)), (tb_cox n hn j hj).1, x_minor (tb_cox n hn j hj).2, Option.bind_some, k2, if_neg (by decide), pk_sub hj, pk_rem (by omega) (by omega) (by omega), ← h.2 n hn j hj]
  by_cases e : (n - j) % 2 = 0
  · rw [if_pos e, if_pos (by rw [e])]
  · rw [if_neg e, if_neg (by rw [nI_eq (by omega) (by omega)]; exact e)]
def hasP (K : Nat) (A : Nat → Int64) (n : Nat) : Bool := decide (n = 0 ∨ (2 * n ≤ K ∧ dt A n ≠ 0))
theorem x_hasP {K : Nat} (hK : K ≤ 7) {A M : Nat → Int64} (h : MMs A M) {n : Nat} (hn : n ≤ 4) : f_X0_hasPolynomial (nI n) (nI K) M = some (hasP K A n) := by
  unfold f_X0_hasPolynomial hasP
  by_cases h0 : n = 0
  · subst h0; rw [if_pos (by decide)]; simp
  · rw [if_neg (by rw [k0, nI_eq (by omega) (by omega)]; exact h0), k2, pk_mul]
    by_cases h1 : K < 2 * n
    · rw [if_pos (nI_lt h1 (by omega))]
      congr 1
      exact (decide_eq_false (by omega)).symm
    · rw [if_neg (nI_nlt (by omega) (by omega)), x_det h hn, Option.bind_some]
      by_cases h2 : dt A n = 0
      · rw [if_pos h2]
        congr 1
        exact (decide_eq_false (fun q => q.elim (fun q => h0 q) (fun q => q.2 h2))).symm
      · rw [if_neg h2]
        congr 1
        exact (decide_eq_true (Or.inr ⟨by omega, h2⟩)).symm
/-! the reference's side -/
theorem d10 {n s i : Nat} (hn : n ≤ 4) (hi : i < n) (hs : s + 2 * (n - 1) < 7) (Mr : Nat → Int32) : ∀ (fu j : Nat) (T : Nat → Int64), j ≤ n → n - j < fu → ∃ T', f_X7_detOf_L10 fu (nI s) (nI n) (nI i) (nI j) Mr T = some T' ∧ ∀ q, T' q = if 4 * i + j ≤ q ∧ q < 4 * i + n then (Mr (s + i + (q - 4 * i))).toInt64 else T q := by
  intro fu
  induction fu with
  | zero => intro j T _ hm; omega
  | succ fu ih =>
    intro j T hj hm
    rw [f_X7_detOf_L10]
    by_cases h : j = n
    · subst h
      rw [if_pos (nI_le (by omega) (by omega))]
      exact ⟨T, rfl, fun q => by rw [if_neg (by omega)]⟩
    · rw [if_neg (nI_ge (by omega) (by omega)), nI_add, nI_add, gif (by omega) (by omega), nI_cl (by omega), k4, pk_mul, nI_add, gif (by omega) (by omega), nI_cl (by omega), k1, nI_add]
      obtain ⟨T', h1, h2⟩ := ih (j + 1) (vp_updL T (4 * i + j) ((Mr (s + i + j)).toInt64)) (by omega) (by omega)
      refine ⟨T', h1, fun q => ?_⟩
      rw [h2 q]
      by_cases hq : q = 4 * i + j
      · subst hq; rw [if_neg (by omega), updL_s, if_pos (by omega), show 4 * i + j - 4 * i = j by omega]
      · by_cases hq2 : 4 * i + j ≤ q ∧ q < 4 * i + n
        · rw [if_pos (by omega), if_pos hq2]
        · rw [if_neg (by omega), if_neg hq2, updL_n hq]
theorem d2 {n s : Nat} (hn : n ≤ 4) (hs : s + 2 * (n - 1) < 7) (Mr : Nat → Int32) : ∀ (fu i : Nat) (T : Nat → Int64), i ≤ n → n - i < fu → ∃ T', f_X7_detOf_L2 fu (nI s) (nI n) (nI i) Mr T = some T' ∧ ∀ p c, c < n → T' (4 * p + c) = if i ≤ p ∧ p < n then (Mr (s + p + c)).toInt64 else T (4 * p + c) := by
  intro fu
  induction fu with
  | zero => intro i T _ hm; omega
  | succ fu ih =>
    intro i T hi hm
    rw [f_X7_detOf_L2]
    by_cases h : i = n
    · subst h
      rw [if_pos (nI_le (by omega) (by omega))]
      exact ⟨T, rfl, fun p c _ => by rw [if_neg (by omega)]⟩
    · obtain ⟨T1, e1, e2⟩ := d10 hn (by omega : i < n) hs Mr 200 0 T (by omega) (by omega)
      rw [if_neg (nI_ge (by omega) (by omega)), k0, e1, Option.bind_some, k1, nI_add]
      obtain ⟨T', h1, h2⟩ := ih (i + 1) T1 (by omega) (by omega)
      refine ⟨T', h1, fun p c hc => ?_⟩
      rw [h2 p c hc, e2]
      by_cases hp : p = i
      · subst hp; rw [if_neg (by omega), if_pos (by omega), if_pos (by omega), show 4 * p + c - 4 * p = c by omega]
      · by_cases hp2 : i ≤ p ∧ p < n
        · rw [if_pos (by omega), if_pos hp2]
        · rw [if_neg (by omega), if_neg hp2, if_neg (by omega)]
theorem ok500 {K : Nat} {a : Nat → Int32} (hk : okRow K a) (j : Nat) : (a j).toInt.natAbs ≤ 500 := by
  by_cases h : j < K
  · have := hk.2.2.1 j h; omega
  · rw [hk.2.2.2 j (by omega)]; decide
theorem m_det {K : Nat} {a Mr : Nat → Int32} (hk : okRow K a) (hm : ∀ j, j < 7 → Mr j = a j) {s n : Nat} (hn : n ≤ 4) (hs : n = 0 ∨ s + 2 * (n - 1) < K) (T : Nat → Int64) : ∃ T', f_X7_detOf (nI s) (nI n) Mr T = some (dt (fun t => (a (s + t)).toInt64) n, T') := by
  have hK := hk.2.1
  have key : ∃ T1, f_X7_detOf_L2 200 (nI s) (nI n) (nI 0) Mr T = some T1 ∧ ∀ i c, i < n → c < n → T1 (4 * i + c) = Int64.ofInt ((a (s + (i + c))).toInt) := by
    by_cases h0 : n = 0
    · subst h0
      refine ⟨T, ?_, fun i c hi => by omega⟩
      rw [f_X7_detOf_L2, if_pos (nI_le (by omega) (by omega))]
    · obtain ⟨T1, e1, e2⟩ := d2 (s := s) hn (by omega) Mr 200 0 T (by omega) (by omega)
      refine ⟨T1, e1, fun i c hi hc => ?_⟩
      rw [e2 i c hc, if_pos (by omega), hm _ (by omega), Nat.add_assoc, i64_of]
  obtain ⟨T1, e1, e2⟩ := key
  obtain ⟨T', e3⟩ := m_clear hn (R := fun i c => (a (s + (i + c))).toInt) (fun i j _ _ => ok500 hk _) e2
  refine ⟨T', ?_⟩
  unfold f_X7_detOf
  rw [k0, e1, Option.bind_some, e3, Option.bind_some, dJ_of hn]
  have : dt (fun t => (a (s + t)).toInt64) n = dJ n (fun i j => Int64.ofInt ((fun i c => (a (s + (i + c))).toInt) i j)) := by
    unfold dt
    simp only [i64_of]
  rw [this]
theorem m_det0 {K : Nat} {a Mr : Nat → Int32} (hk : okRow K a) (hm : ∀ j, j < 7 → Mr j = a j) {n : Nat} (hn : n ≤ 4) (hs : n = 0 ∨ 2 * (n - 1) < K) (T : Nat → Int64) : ∃ T', f_X7_detOf (nI 0) (nI n) Mr T = some (dt (fun t => (a t).toInt64) n, T') := by
  obtain ⟨T', h⟩ := m_det hk hm (s := 0) hn (by omega) T
  refine ⟨T', ?_⟩
  rw [h]
  simp only [Nat.zero_add]
theorem m_isPoly {K : Nat} {a Mr : Nat → Int32} (hk : okRow K a) (hm : ∀ j, j < 7 → Mr j = a j) (hm7 : Mr 7 = nI K) {n : Nat} (hn : n ≤ 4) (T : Nat → Int64) : ∃ T', f_X7_isPoly (nI n) Mr T = some (hasP K (fun t => (a t).toInt64) n, T') := by
  have hK := hk.2.1
  unfold f_X7_isPoly hasP
  by_cases h0 : n = 0
  · subst h0; rw [if_pos (by decide)]; exact ⟨T, by simp⟩
  · rw [if_neg (by rw [k0, nI_eq (by omega) (by omega)]; exact h0), if_neg (by decide), show (7 : Int32).toNatClampNeg = 7 from rfl, hm7, k2, pk_mul]
    by_cases h1 : K < 2 * n
    · rw [if_pos (nI_lt h1 (by omega))]
      refine ⟨T, ?_⟩
      rw [decide_eq_false (by omega)]
    · obtain ⟨T', e⟩ := m_det0 hk hm hn (by omega) T
      rw [if_neg (nI_nlt (by omega) (by omega)), k0, e, Option.bind_some]
      by_cases h2 : dt (fun t => (a t).toInt64) n = 0
      · rw [if_pos h2]
        refine ⟨T', ?_⟩
        rw [decide_eq_false (fun q => q.elim (fun q => h0 q) (fun q => q.2 h2))]
      · rw [if_neg h2]
        refine ⟨T', ?_⟩
        rw [decide_eq_true (Or.inr ⟨by omega, h2⟩)]
def pR (a : Nat → Int32) (n p i c : Nat) : Int := if c = p then -(a (i + n)).toInt else (a (i + c)).toInt
theorem neg64 {x : Int32} (h : x.toInt.natAbs ≤ 500) : (-x).toInt64 = Int64.ofInt (-x.toInt) := by
  rw [i64_of, Int32.toInt_neg, Int.bmod_eq_of_le (by omega) (by omega)]
theorem p27 {K : Nat} {a Mr : Nat → Int32} (hk : okRow K a) (hm : ∀ j, j < 7 → Mr j = a j) {n p i : Nat} (hn : n ≤ 3) (hp : p < n) (hi : i < n) : ∀ (fu j : Nat) (T : Nat → Int64), j ≤ n → n - j < fu → ∃ T', f_X7_makePoly_L27 fu (nI n) (nI p) (nI i) (nI j) Mr T = some T' ∧ ∀ q, T' q = if 4 * i + j ≤ q ∧ q < 4 * i + n then Int64.ofInt (pR a n p i (q - 4 * i)) else T q := by
  intro fu
  induction fu with
  | zero => intro j T _ hm; omega
  | succ fu ih =>
    intro j T hj hmm
    rw [f_X7_makePoly_L27]
    by_cases h : j = n
    · subst h
      rw [if_pos (nI_le (by omega) (by omega))]
      exact ⟨T, rfl, fun q => by rw [if_neg (by omega)]⟩
    · have step : ∀ x, x = Int64.ofInt (pR a n p i j) → ∃ T', f_X7_makePoly_L27 fu (nI n) (nI p) (nI i) (nI (j + 1)) Mr (vp_updL T (4 * i + j) x) = some T' ∧ ∀ q, T' q = if 4 * i + j ≤ q ∧ q < 4 * i + n then Int64.ofInt (pR a n p i (q - 4 * i)) else T q := by
        intro x hx
        obtain ⟨T', h1, h2⟩ := ih (j + 1) (vp_updL T (4 * i + j) x) (by omega) (by omega)
        refine ⟨T', h1, fun q => ?_⟩
        rw [h2 q]
        by_cases hq : q = 4 * i + j
        · subst hq; rw [if_neg (by omega), updL_s, if_pos (by omega), show 4 * i + j - 4 * i = j by omega, hx]
        · by_cases hq2 : 4 * i + j ≤ q ∧ q < 4 * i + n
          · rw [if_pos (by omega), if_pos hq2]
          · rw [if_neg (by omega), if_neg hq2, updL_n hq]
      rw [if_neg (nI_ge (by omega) (by omega)), k4, pk_mul, nI_add, nI_add, nI_add, k1, nI_add]
      by_cases hjp : j = p
      · rw [if_pos (by rw [hjp]), gif (by omega) (by omega), gif (by omega) (by omega), nI_cl (by omega), nI_cl (by omega)]
        apply step
        unfold pR; rw [if_pos hjp, hm _ (by omega), neg64 (ok500 hk _)]
      · rw [if_neg (by rw [nI_eq (by omega) (by omega)]; exact hjp), gif (by omega) (by omega), gif (by omega) (by omega), nI_cl (by omega), nI_cl (by omega)]
        apply step
        unfold pR; rw [if_neg hjp, hm _ (by omega), i64_of]
theorem p19 {K : Nat} {a Mr : Nat → Int32} (hk : okRow K a) (hm : ∀ j, j < 7 → Mr j = a j) {n p : Nat} (hn : n ≤ 3) (hp : p < n) : ∀ (fu i : Nat) (T : Nat → Int64), i ≤ n → n - i < fu → ∃ T', f_X7_makePoly_L19 fu (nI n) (nI p) (nI i) Mr T = some T' ∧ ∀ q c, c < n → T' (4 * q + c) = if i ≤ q ∧ q < n then Int64.ofInt (pR a n p q c) else T (4 * q + c) := by
  intro fu
  induction fu with
  | zero => intro i T _ hm; omega
  | succ fu ih =>
    intro i T hi hmm
    rw [f_X7_makePoly_L19]
    by_cases h : i = n
    · subst h
      rw [if_pos (nI_le (by omega) (by omega))]
      exact ⟨T, rfl, fun p c _ => by rw [if_neg (by omega)]⟩
    · obtain ⟨T1, e1, e2⟩ := p27 hk hm hn hp (by omega : i < n) 200 0 T (by omega) (by omega)
      rw [if_neg (nI_ge (by omega) (by omega)), k0, e1, Option.bind_some, k1, nI_add]
      obtain ⟨T', h1, h2⟩ := ih (i + 1) T1 (by omega) (by omega)
      refine ⟨T', h1, fun q c hc => ?_⟩
      rw [h2 q c hc, e2]
      by_cases hq : q = i
      · subst hq; rw [if_neg (by omega), if_pos (by omega), if_pos (by omega), show 4 * q + c - 4 * q = c by omega]
      · by_cases hp2 : i ≤ q ∧ q < n
        · rw [if_pos (by omega), if_pos hp2]
        · rw [if_neg (by omega), if_neg hp2, if_neg (by omega)]
theorem p12 {K : Nat} {a Mr : Nat → Int32} (hk : okRow K a) (hm : ∀ j, j < 7 → Mr j = a j) {n : Nat} (hn : n ≤ 3) : ∀ (fu p : Nat) (T P : Nat → Int64), p ≤ n → n - p < fu → ∃ T' P', f_X7_makePoly_L12 fu (nI n) (nI p) Mr T P = some (T', P') ∧ ∀ c, P' c = if p ≤ c ∧ c < n then co (fun t => (a t).toInt64) n c else P c := by
  intro fu
  induction fu with
  | zero => intro p T P _ hm; omega
  | succ fu ih =>
    intro p T P hp hmm
    rw [f_X7_makePoly_L12]
    by_cases h : p = n
    · subst h
      rw [if_pos (nI_le (by omega) (by omega))]
      exact ⟨T, P, rfl, fun c => by rw [if_neg (by omega)]⟩
    · obtain ⟨T1, e1, e2⟩ := p19 hk hm hn (by omega : p < n) 200 0 T (by omega) (by omega)
      obtain ⟨T2, e3⟩ := m_clear (n := n) (by omega) (R := pR a n p) (T := T1) (fun i j _ _ => by
        unfold pR
        by_cases q : j = p
        · rw [if_pos q, Int.natAbs_neg]; exact ok500 hk _
        · rw [if_neg q]; exact ok500 hk _) (fun i c hi hc => by rw [e2 i c hc, if_pos (by omega)])
      rw [if_neg (nI_ge (by omega) (by omega)), k0, e1, Option.bind_some, e3, Option.bind_some, gif0 (by omega) (by omega), nI_cl (by omega), k1, nI_add]
      obtain ⟨T', P', h1, h2⟩ := ih (p + 1) T2 (vp_updL P p (Int64.ofInt (dI n (pR a n p)))) (by omega) (by omega)
      refine ⟨T', P', h1, fun c => ?_⟩
      rw [h2 c]
      by_cases hq : c = p
      · subst hq
        rw [if_neg (by omega), updL_s, if_pos (by omega), dJ_of (by omega)]
        unfold co
        rw [if_neg (by omega)]
        congr 1
        funext i j
        unfold pR
        by_cases q : j = c
        · rw [if_pos q, if_pos q, Int64.ofInt_neg]; show _ = -(a (i + n)).toInt64; rw [i64_of]
        · rw [if_neg q, if_neg q]; show _ = (a (i + j)).toInt64; rw [i64_of]
      · by_cases hq2 : p ≤ c ∧ c < n
        · rw [if_pos (by omega), if_pos hq2]
        · rw [if_neg (by omega), if_neg hq2, updL_n hq]
theorem m_makePoly {K : Nat} {a Mr : Nat → Int32} (hk : okRow K a) (hm : ∀ j, j < 7 → Mr j = a j) {n : Nat} (hn : n ≤ 3) (hs : n = 0 ∨ 2 * (n - 1) < K) (T P : Nat → Int64) : ∃ T' P', f_X7_makePoly (nI n) Mr T P = some (dt (fun t => (a t).toInt64) n, T', P') ∧ ∀ c, c ≤ n → P' c = co (fun t => (a t).toInt64) n c := by
  obtain ⟨T1, e1⟩ := m_det0 hk hm (n := n) (by omega) hs T
  obtain ⟨T', P', e2, e3⟩ := p12 hk hm hn 200 0 T1 P (by omega) (by omega)
  refine ⟨T', vp_updL P' n (dt (fun t => (a t).toInt64) n), ?_, fun c hc => ?_⟩
  · unfold f_X7_makePoly
    rw [k0, e1, Option.bind_some, e2, Option.bind_some, gif0 (by omega) (by omega), nI_cl (by omega)]
  · by_cases h : c = n
    · subst h; rw [updL_s, co_n]
    · rw [updL_n h, e3, if_pos (by omega)]
/-! bounds -/
theorem dI_b {n : Nat} (hn : n ≤ 4) {R : Nat → Nat → Int} (hR : bR n R) : (dI n R).natAbs ≤ (if n ≤ 1 then 500 else if n = 2 then 500000 else if n = 3 then 750000000 else 1500000000000) := by
  cases n with
  | zero => show (1 : Int).natAbs ≤ 500; decide
  | succ n =>
    rw [dI_s]
    have := mI_b hn hR (k := n) (i := n) (c := n) (by omega) (by omega) (by omega)
    rcases (by omega : n = 0 ∨ n = 1 ∨ n = 2 ∨ n = 3) with rfl | rfl | rfl | rfl <;> simpa using this
theorem dt_b {K : Nat} {a : Nat → Int32} (hk : okRow K a) (s : Nat) {n : Nat} (hn : n ≤ 4) : ∃ z : Int, dt (fun t => (a (s + t)).toInt64) n = Int64.ofInt z ∧ z.natAbs ≤ (if n ≤ 1 then 500 else if n = 2 then 500000 else if n = 3 then 750000000 else 1500000000000) := by
  refine ⟨dI n (fun i j => (a (s + (i + j))).toInt), ?_, dI_b hn (fun i j _ _ => ok500 hk _)⟩
  rw [dJ_of hn]
  unfold dt
  simp only [i64_of]
theorem dt_b0 {K : Nat} {a : Nat → Int32} (hk : okRow K a) {n : Nat} (hn : n ≤ 4) : ∃ z : Int, dt (fun t => (a t).toInt64) n = Int64.ofInt z ∧ z.natAbs ≤ (if n ≤ 1 then 500 else if n = 2 then 500000 else if n = 3 then 750000000 else 1500000000000) := by
  obtain ⟨z, h1, h2⟩ := dt_b hk 0 hn
  refine ⟨z, ?_, h2⟩
  rw [← h1]
  simp only [Nat.zero_add]
theorem mul_ne0 {x y : Int64} {p q : Int} (hx : x = Int64.ofInt p) (hy : y = Int64.ofInt q) (h1 : x ≠ 0) (h2 : y ≠ 0) (hb : (p * q).natAbs < 2 ^ 63) : x * y ≠ 0 := by
  subst hx hy
  have hp : p ≠ 0 := fun e => h1 (by rw [e]; rfl)
  have hq : q ≠ 0 := fun e => h2 (by rw [e]; rfl)
  rw [← Int64.ofInt_mul]
  intro e
  exact absurd ((oI_eq0 hb).mp e) (Int.mul_ne_zero hp hq)
