/-! the class's minors, and both sides' determinants and polynomials as the same numbers -/
theorem i64_of (x : Int32) : x.toInt64 = Int64.ofInt x.toInt := by
  apply Int64.toInt_inj.mp
  have h1 := x.le_toInt; have h2 := x.toInt_lt
  rw [Int32.toInt_toInt64, Int64.toInt_ofInt_of_le (by omega) (by omega)]
def popc (c : Nat) : Nat := c % 2 + c / 2 % 2 + c / 4 % 2 + c / 8 % 2
def evb (c k : Nat) : Bool := popc (c / 2 ^ (k + 1)) % 2 == 0
def exK (B mm : Nat → Int64) (c : Nat) : Nat → Int64
  | 0 => 0
  | k + 1 => if c.testBit k then (if evb c k then exK B mm c k + B k * mm (c ^^^ 2 ^ k) else exK B mm c k + -(B k * mm (c ^^^ 2 ^ k))) else exK B mm c k
theorem tb_bc : ∀ c, c < 16 → f_J6_bitCount_0f7a4 (nI c) = some (nI (popc c)) := by decide +kernel
theorem tb_and : ∀ c, c < 16 → ∀ k, k < 4 → decide ((nI c &&& ((1 : Int32) <<< (nI k &&& 31))) = 0) = !c.testBit k := by decide +kernel
theorem tb_xor : ∀ c, c < 16 → ∀ k, k < 4 → nI c ^^^ ((1 : Int32) <<< (nI k &&& 31)) = nI (c ^^^ 2 ^ k) ∧ (c ^^^ 2 ^ k) < 16 := by decide +kernel
theorem tb_shr : ∀ c, c < 16 → ∀ k, k < 4 → f_J6_bitCount_0f7a4 (nI c >>> ((nI k + (1 : Int32)) &&& 31)) = some (nI (popc (c / 2 ^ (k + 1)))) := by decide +kernel
theorem tb_pop : ∀ c, c < 16 → 1 ≤ c → 1 ≤ popc c ∧ popc c ≤ 4 := by decide +kernel
theorem x_minor {c : Nat} (hc : c < 16) (mm : Nat → Int64) : f_X0_minor (nI c) mm = some (mm c) := by
  unfold f_X0_minor
  rw [if_neg (nI_pos (by omega)), k16, if_pos (nI_lt hc (by omega)), gif (by omega) (by omega), nI_cl (by omega)]
theorem popc_b (x : Nat) : popc x ≤ 4 := by unfold popc; omega
theorem x_expandL {K : Nat} {a rf : Nat → Int32} (hk : okRow K a) (hf : ∀ j, j < K → rf j = a j) {s c l : Nat} (hs : s < 100) (hl : l < 100) (hc : c < 16) (mm : Nat → Int64) : ∀ (fu k : Nat), k ≤ 4 → 4 - k < fu → f_X0_expand_L14 fu (nI s) (nI c) (nI l) (exK (fun k => (a (s + l + k)).toInt64) mm c k) (nI k) mm (nI K) rf = some (exK (fun k => (a (s + l + k)).toInt64) mm c 4) := by
  intro fu
  induction fu with
  | zero => intro k _ hm; omega
  | succ fu ih =>
    intro k hk4 hm
    rw [f_X0_expand_L14]
    by_cases h : k = 4
    · subst h; rw [k4, if_pos (nI_le (by omega) (by omega))]
    · have hb := popc_b (c / 2 ^ (k + 1))
      rw [k4, if_neg (nI_ge (by omega : k < 4) (by omega))]
      have t := tb_and c hc k (by omega)
      by_cases hb2 : c.testBit k = true
      · rw [hb2] at t
        have e : exK (fun k => (a (s + l + k)).toInt64) mm c (k + 1) = if evb c k then exK (fun k => (a (s + l + k)).toInt64) mm c k + (a (s + l + k)).toInt64 * mm (c ^^^ 2 ^ k) else exK (fun k => (a (s + l + k)).toInt64) mm c k + -((a (s + l + k)).toInt64 * mm (c ^^^ 2 ^ k)) := by
          rw [exK, hb2]; rfl
        rw [if_neg (of_decide_eq_false t), nI_add, nI_add, x_at hk hf (by omega), Option.bind_some, (tb_xor c hc k (by omega)).1, x_minor (tb_xor c hc k (by omega)).2, Option.bind_some, tb_shr c hc k (by omega), Option.bind_some, if_neg (by decide), k2, pk_rem (by omega) (by omega) (by omega), k1, nI_add]
        by_cases hev : evb c k = true
        · rw [if_pos hev] at e
          rw [if_pos (by unfold evb at hev; rw [beq_iff_eq.mp hev]; decide), ← e]
          exact ih (k + 1) (by omega) (by omega)
        · rw [if_neg hev] at e
          rw [if_neg (by
            unfold evb at hev
            have h2 : popc (c / 2 ^ (k + 1)) % 2 = 1 := by
              have h3 : ¬ popc (c / 2 ^ (k + 1)) % 2 = 0 := fun q => hev (beq_iff_eq.mpr q)
              omega
            rw [h2]; decide), ← e]
          exact ih (k + 1) (by omega) (by omega)
      · have hb3 : c.testBit k = false := by simpa using hb2
        rw [hb3] at t
        have e : exK (fun k => (a (s + l + k)).toInt64) mm c (k + 1) = exK (fun k => (a (s + l + k)).toInt64) mm c k := by
          rw [exK, hb3]; rfl
        rw [if_pos (of_decide_eq_true t), k1, nI_add, ← e]
        exact ih (k + 1) (by omega) (by omega)
theorem x_expand {K : Nat} {a rf : Nat → Int32} (hk : okRow K a) (hf : ∀ j, j < K → rf j = a j) {s c : Nat} (hs : s < 100) (hc : c < 16) (hc1 : 1 ≤ c) (mm : Nat → Int64) : f_X0_expand (nI s) (nI c) mm (nI K) rf = some (exK (fun k => (a (s + (popc c - 1) + k)).toInt64) mm c 4) := by
  unfold f_X0_expand
  have hb := tb_pop c hc hc1
  rw [tb_bc c hc, Option.bind_some, k1, pk_sub hb.1, k0, show (0 : Int64) = exK (fun k => (a (s + (popc c - 1) + k)).toInt64) mm c 0 from rfl, x_expandL hk hf hs (by omega) hc mm 200 0 (by omega) (by omega)]
  rfl
def Msq (A mm0 : Nat → Int64) : Nat → Nat → Int64
  | 0 => vp_updL mm0 0 1
  | c + 1 => vp_updL (Msq A mm0 c) (c + 1) (exK (fun k => A (popc (c + 1) - 1 + k)) (Msq A mm0 c) (c + 1) 4)
theorem x_fillL {K : Nat} {a rf : Nat → Int32} (hk : okRow K a) (hf : ∀ j, j < K → rf j = a j) {s : Nat} (hs : s < 100) (mm0 : Nat → Int64) : ∀ (fu c : Nat), c ≤ 15 → 15 - c + 1 < fu → f_X0_fill_L17 fu (nI s) (nI (c + 1)) (Msq (fun t => (a (s + t)).toInt64) mm0 c) (nI K) rf = some (Msq (fun t => (a (s + t)).toInt64) mm0 15) := by
  intro fu
  induction fu with
  | zero => intro c _ hm; omega
  | succ fu ih =>
    intro c hc hm
    rw [f_X0_fill_L17]
    by_cases h : c = 15
    · subst h; rw [k16, if_pos (nI_le (by omega) (by omega))]
    · rw [k16, if_neg (nI_ge (by omega : c + 1 < 16) (by omega)), x_expand hk hf hs (by omega) (by omega), Option.bind_some, gif (by omega) (by omega), nI_cl (by omega), k1, nI_add]
      have e : Msq (fun t => (a (s + t)).toInt64) mm0 (c + 1) = vp_updL (Msq (fun t => (a (s + t)).toInt64) mm0 c) (c + 1) (exK (fun k => (a (s + (popc (c + 1) - 1) + k)).toInt64) (Msq (fun t => (a (s + t)).toInt64) mm0 c) (c + 1) 4) := by
        rw [Msq]
        congr 2
        funext k
        rw [Nat.add_assoc]
      rw [← e]
      exact ih (c + 1) (by omega) (by omega)
/-- the same numbers over longs -/
def mJ : Nat → (Nat → Nat → Int64) → Nat → Nat → Int64
  | 0, R, i, c => R i c
  | 1, R, i, c => R i c * R 0 0 - R i 0 * R 0 c
  | 2, R, i, c => R 0 0 * (R 1 1 * R i c - R 1 c * R i 1) - R 0 1 * (R 1 0 * R i c - R 1 c * R i 0) + R 0 c * (R 1 0 * R i 1 - R 1 1 * R i 0)
  | _, R, i, c =>
    R 0 0 * (R 1 1 * (R 2 2 * R i c - R 2 c * R i 2) - R 1 2 * (R 2 1 * R i c - R 2 c * R i 1) + R 1 c * (R 2 1 * R i 2 - R 2 2 * R i 1))
    - R 0 1 * (R 1 0 * (R 2 2 * R i c - R 2 c * R i 2) - R 1 2 * (R 2 0 * R i c - R 2 c * R i 0) + R 1 c * (R 2 0 * R i 2 - R 2 2 * R i 0))
    + R 0 2 * (R 1 0 * (R 2 1 * R i c - R 2 c * R i 1) - R 1 1 * (R 2 0 * R i c - R 2 c * R i 0) + R 1 c * (R 2 0 * R i 1 - R 2 1 * R i 0))
    - R 0 c * (R 1 0 * (R 2 1 * R i 2 - R 2 2 * R i 1) - R 1 1 * (R 2 0 * R i 2 - R 2 2 * R i 0) + R 1 2 * (R 2 0 * R i 1 - R 2 1 * R i 0))
def dJ (n : Nat) (R : Nat → Nat → Int64) : Int64 := if n = 0 then 1 else mJ (n - 1) R (n - 1) (n - 1)
theorem dI_s (n : Nat) (R : Nat → Nat → Int) : dI (n + 1) R = mI n R n n := by
  unfold dI; rw [if_neg (by omega)]; rfl
theorem dJ_s (n : Nat) (R : Nat → Nat → Int64) : dJ (n + 1) R = mJ n R n n := by
  unfold dJ; rw [if_neg (by omega)]; rfl
theorem mJ_of {n : Nat} (hn : n ≤ 3) (R : Nat → Nat → Int) (i c : Nat) : Int64.ofInt (mI n R i c) = mJ n (fun i j => Int64.ofInt (R i j)) i c := by
  rcases (by omega : n = 0 ∨ n = 1 ∨ n = 2 ∨ n = 3) with rfl | rfl | rfl | rfl
  · rfl
  · rw [mI, mJ]; simp only [Int64.ofInt_mul, Int64.ofInt_sub, Int64.ofInt_add]
  · rw [mI, mJ]; simp only [Int64.ofInt_mul, Int64.ofInt_sub, Int64.ofInt_add]
  · simp only [mI, mJ, Int64.ofInt_mul, Int64.ofInt_sub, Int64.ofInt_add]
theorem dJ_of {n : Nat} (hn : n ≤ 4) (R : Nat → Nat → Int) : Int64.ofInt (dI n R) = dJ n (fun i j => Int64.ofInt (R i j)) := by
  cases n with
  | zero => rfl
  | succ n => rw [dI_s, dJ_s, mJ_of (by omega)]
/-- DET of the table from the numbers A on; the numbers of P of n times it -/
def dt (A : Nat → Int64) (n : Nat) : Int64 := dJ n (fun i j => A (i + j))
def co (A : Nat → Int64) (n c : Nat) : Int64 := if c = n then dt A n else dJ n (fun i j => if j = c then -A (i + n) else A (i + j))
theorem exK_congr {B m1 m2 : Nat → Int64} {c : Nat} : ∀ k, (∀ j, j < k → c.testBit j = true → m1 (c ^^^ 2 ^ j) = m2 (c ^^^ 2 ^ j)) → exK B m1 c k = exK B m2 c k := by
  intro k
  induction k with
  | zero => intro _; rfl
  | succ k ih =>
    intro h
    rw [exK, exK, ih (fun j hj => h j (by omega))]
    by_cases hb : c.testBit k = true
    · rw [h k (by omega) hb]
    · rw [if_neg hb, if_neg hb]
theorem Msq_st (A mm0 : Nat → Int64) (x : Nat) : ∀ n, x ≤ n → Msq A mm0 n x = Msq A mm0 x x := by
  intro n
  induction n with
  | zero => intro h; have : x = 0 := by omega
            subst this; rfl
  | succ n ih =>
    intro h
    by_cases e : x = n + 1
    · subst e; rfl
    · rw [Msq, updL_n (by omega)]
      exact ih (by omega)
theorem tb_xlt : ∀ c, c < 16 → ∀ k, k < 4 → c.testBit k = true → c ^^^ 2 ^ k < c := by decide +kernel
theorem Msq_at (A mm0 : Nat → Int64) {c : Nat} (h1 : 1 ≤ c) (h : c < 16) : Msq A mm0 15 c = exK (fun k => A (popc c - 1 + k)) (Msq A mm0 15) c 4 := by
  obtain ⟨d, rfl⟩ : ∃ d, c = d + 1 := ⟨c - 1, by omega⟩
  rw [Msq_st A mm0 (d + 1) 15 (by omega), Msq, updL_s]
  apply exK_congr
  intro j hj hb
  have := tb_xlt (d + 1) h j hj hb
  rw [Msq_st A mm0 _ d (by omega), Msq_st A mm0 _ 15 (by omega)]
theorem M_0 (A mm0 : Nat → Int64) : Msq A mm0 15 0 = 1 := by rw [Msq_st A mm0 0 15 (by omega)]; rfl
theorem M_1 (A mm0 : Nat → Int64) : Msq A mm0 15 1 = A 0 := by
  rw [Msq_at A mm0 (by omega) (by omega)]
  have h := M_0 A mm0
  generalize Msq A mm0 15 = M at *
  show 0 + A 0 * M 0 = A 0
  rw [h]; grind
theorem M_2 (A mm0 : Nat → Int64) : Msq A mm0 15 2 = A 1 := by
  rw [Msq_at A mm0 (by omega) (by omega)]
  have h := M_0 A mm0
  generalize Msq A mm0 15 = M at *
  show 0 + A 1 * M 0 = A 1
  rw [h]; grind
theorem M_4 (A mm0 : Nat → Int64) : Msq A mm0 15 4 = A 2 := by
  rw [Msq_at A mm0 (by omega) (by omega)]
  have h := M_0 A mm0
  generalize Msq A mm0 15 = M at *
  show 0 + A 2 * M 0 = A 2
  rw [h]; grind
theorem M_8 (A mm0 : Nat → Int64) : Msq A mm0 15 8 = A 3 := by
  rw [Msq_at A mm0 (by omega) (by omega)]
  have h := M_0 A mm0
  generalize Msq A mm0 15 = M at *
  show 0 + A 3 * M 0 = A 3
  rw [h]; grind
theorem R_3 (A mm0 : Nat → Int64) : Msq A mm0 15 3 = 0 + -(A 1 * Msq A mm0 15 2) + A 2 * Msq A mm0 15 1 := by
  rw [Msq_at A mm0 (c := 3) (by omega) (by omega)]
  generalize Msq A mm0 15 = M
  rfl
theorem R_5 (A mm0 : Nat → Int64) : Msq A mm0 15 5 = 0 + -(A 1 * Msq A mm0 15 4) + A 3 * Msq A mm0 15 1 := by
  rw [Msq_at A mm0 (c := 5) (by omega) (by omega)]
  generalize Msq A mm0 15 = M
  rfl
theorem R_6 (A mm0 : Nat → Int64) : Msq A mm0 15 6 = 0 + -(A 2 * Msq A mm0 15 4) + A 3 * Msq A mm0 15 2 := by
  rw [Msq_at A mm0 (c := 6) (by omega) (by omega)]
  generalize Msq A mm0 15 = M
  rfl
theorem R_9 (A mm0 : Nat → Int64) : Msq A mm0 15 9 = 0 + -(A 1 * Msq A mm0 15 8) + A 4 * Msq A mm0 15 1 := by
  rw [Msq_at A mm0 (c := 9) (by omega) (by omega)]
  generalize Msq A mm0 15 = M
  rfl
theorem R_10 (A mm0 : Nat → Int64) : Msq A mm0 15 10 = 0 + -(A 2 * Msq A mm0 15 8) + A 4 * Msq A mm0 15 2 := by
  rw [Msq_at A mm0 (c := 10) (by omega) (by omega)]
  generalize Msq A mm0 15 = M
  rfl
theorem R_12 (A mm0 : Nat → Int64) : Msq A mm0 15 12 = 0 + -(A 3 * Msq A mm0 15 8) + A 4 * Msq A mm0 15 4 := by
  rw [Msq_at A mm0 (c := 12) (by omega) (by omega)]
  generalize Msq A mm0 15 = M
  rfl
theorem R_7 (A mm0 : Nat → Int64) : Msq A mm0 15 7 = 0 + A 2 * Msq A mm0 15 6 + -(A 3 * Msq A mm0 15 5) + A 4 * Msq A mm0 15 3 := by
  rw [Msq_at A mm0 (c := 7) (by omega) (by omega)]
  generalize Msq A mm0 15 = M
  rfl
theorem R_11 (A mm0 : Nat → Int64) : Msq A mm0 15 11 = 0 + A 2 * Msq A mm0 15 10 + -(A 3 * Msq A mm0 15 9) + A 5 * Msq A mm0 15 3 := by
  rw [Msq_at A mm0 (c := 11) (by omega) (by omega)]
  generalize Msq A mm0 15 = M
  rfl
theorem R_13 (A mm0 : Nat → Int64) : Msq A mm0 15 13 = 0 + A 2 * Msq A mm0 15 12 + -(A 4 * Msq A mm0 15 9) + A 5 * Msq A mm0 15 5 := by
  rw [Msq_at A mm0 (c := 13) (by omega) (by omega)]
  generalize Msq A mm0 15 = M
  rfl
theorem R_14 (A mm0 : Nat → Int64) : Msq A mm0 15 14 = 0 + A 3 * Msq A mm0 15 12 + -(A 4 * Msq A mm0 15 10) + A 5 * Msq A mm0 15 6 := by
  rw [Msq_at A mm0 (c := 14) (by omega) (by omega)]
  generalize Msq A mm0 15 = M
  rfl
theorem R_15 (A mm0 : Nat → Int64) : Msq A mm0 15 15 = 0 + -(A 3 * Msq A mm0 15 14) + A 4 * Msq A mm0 15 13 + -(A 5 * Msq A mm0 15 11) + A 6 * Msq A mm0 15 7 := by
  rw [Msq_at A mm0 (c := 15) (by omega) (by omega)]
  generalize Msq A mm0 15 = M
  rfl
