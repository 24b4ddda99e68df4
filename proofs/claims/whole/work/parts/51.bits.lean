/-! the number of places in a set -/
theorem bs_sh : ∀ n, n < 32 → ((nI n &&& 31).toBitVec.smod 32).toNat = n := by decide +kernel
theorem bs_and (a b : Nat) : nI a &&& nI b = nI (a &&& b) := by
  apply Int32.toBitVec_inj.mp
  show BitVec.ofNat 32 a &&& BitVec.ofNat 32 b = BitVec.ofNat 32 (a &&& b)
  apply BitVec.eq_of_toNat_eq
  rw [BitVec.toNat_and, BitVec.toNat_ofNat, BitVec.toNat_ofNat, BitVec.toNat_ofNat, Nat.and_mod_two_pow]
theorem bs_xor (a b : Nat) : nI a ^^^ nI b = nI (a ^^^ b) := by
  apply Int32.toBitVec_inj.mp
  show BitVec.ofNat 32 a ^^^ BitVec.ofNat 32 b = BitVec.ofNat 32 (a ^^^ b)
  apply BitVec.eq_of_toNat_eq
  rw [BitVec.toNat_xor, BitVec.toNat_ofNat, BitVec.toNat_ofNat, BitVec.toNat_ofNat, Nat.xor_mod_two_pow]
theorem and_cat (a b c d : Nat) (hb : b < 16) (hd : d < 16) : (16 * a + b) &&& (16 * c + d) = 16 * (a &&& c) + (b &&& d) := by
  apply Nat.eq_of_testBit_eq
  intro i
  have hbd : b &&& d < 2 ^ 4 := Nat.and_lt_two_pow b hd
  rw [Nat.testBit_and, show 16 * a + b = 2 ^ 4 * a + b from rfl, show 16 * c + d = 2 ^ 4 * c + d from rfl, show 16 * (a &&& c) + (b &&& d) = 2 ^ 4 * (a &&& c) + (b &&& d) from rfl, Nat.testBit_two_pow_mul_add _ hb, Nat.testBit_two_pow_mul_add _ hd, Nat.testBit_two_pow_mul_add _ hbd]
  by_cases h : i < 4
  · rw [if_pos h, if_pos h, if_pos h, Nat.testBit_and]
  · rw [if_neg h, if_neg h, if_neg h, Nat.testBit_and]
theorem tb_5 : ∀ l, l < 16 → ∀ h, h < 2 → (8 * h + l / 2) &&& 5 = l / 2 &&& 5 := by decide +kernel
theorem tb_3 : ∀ l, l < 16 → ∀ h, h < 4 → (4 * h + l / 4) &&& 3 = l / 4 &&& 3 := by decide +kernel
theorem dg1 (M h l : Nat) (hl : l < 16) : (16 * h + l) - ((16 * h + l) / 2 &&& (16 * M + 5)) = 16 * (h - (h / 2 &&& M)) + (l - (l / 2 &&& 5)) := by
  have e1 : (16 * h + l) / 2 = 16 * (h / 2) + (8 * (h % 2) + l / 2) := by omega
  have e2 : h / 2 &&& M ≤ h / 2 := Nat.and_le_left
  have e3 : l / 2 &&& 5 ≤ l / 2 := Nat.and_le_left
  rw [e1, and_cat _ _ _ _ (by omega) (by omega), tb_5 l hl _ (by omega)]
  omega
theorem dg2 (M h l : Nat) (hl : l < 16) : ((16 * h + l) &&& (16 * M + 3)) + ((16 * h + l) / 4 &&& (16 * M + 3)) = 16 * ((h &&& M) + (h / 4 &&& M)) + ((l &&& 3) + (l / 4 &&& 3)) := by
  have e1 : (16 * h + l) / 4 = 16 * (h / 4) + (4 * (h % 4) + l / 4) := by omega
  rw [e1, and_cat _ _ _ _ hl (by omega), and_cat _ _ _ _ (by omega) (by omega), tb_3 l hl _ (by omega)]
  omega
def pN (n : Nat) : Nat := n % 2 + n / 2 % 2 + n / 4 % 2 + n / 8 % 2
def bc1 (x : Nat) : Nat := x - (x / 2 &&& 1431655765)
def bc2 (y : Nat) : Nat := (y &&& 858993459) + (y / 4 &&& 858993459)
def bc3 (z : Nat) : Nat := (z + z / 16) &&& 252645135
def bc4 (u : Nat) : Nat := u + u / 256
def bcN (x : Nat) : Nat := (bc4 (bc3 (bc2 (bc1 x))) + bc4 (bc3 (bc2 (bc1 x))) / 65536) &&& 63
theorem tb_t4 : ∀ n, n < 8 → n - (n / 2 &&& 21845) = n - (n / 2 &&& 5) := by decide +kernel
theorem tb_tl : ∀ n, n < 16 → n - (n / 2 &&& 5) < 16 := by decide +kernel
theorem tb_tp : ∀ n, n < 16 → ((n - (n / 2 &&& 5)) &&& 3) + ((n - (n / 2 &&& 5)) / 4 &&& 3) = pN n := by decide +kernel
theorem tb_p4 : ∀ n, n < 8 → ((n - (n / 2 &&& 5)) &&& 13107) + ((n - (n / 2 &&& 5)) / 4 &&& 13107) = pN n := by decide +kernel
theorem tb_pl : ∀ n, n < 16 → pN n ≤ 4 := by decide +kernel
theorem tb_15 : ∀ n, n < 16 → n &&& 15 = n := by decide +kernel
theorem tb_38 : ∀ n, n < 8 → n &&& 3855 = n := by decide +kernel
theorem bc_fin (a0 a1 a2 a3 a4 : Nat) (p0 : a0 ≤ 4) (p1 : a1 ≤ 4) (p2 : a2 ≤ 4) (p3 : a3 ≤ 4) (p4 : a4 ≤ 4) : (bc4 (bc3 (16 * (16 * (16 * (16 * a4 + a3) + a2) + a1) + a0)) + bc4 (bc3 (16 * (16 * (16 * (16 * a4 + a3) + a2) + a1) + a0)) / 65536) &&& 63 = a0 + a1 + a2 + a3 + a4 := by
  have e3 : bc3 (16 * (16 * (16 * (16 * a4 + a3) + a2) + a1) + a0) = 65536 * a4 + 256 * (a3 + a2) + (a1 + a0) := by
    unfold bc3
    have : 16 * (16 * (16 * (16 * a4 + a3) + a2) + a1) + a0 + (16 * (16 * (16 * (16 * a4 + a3) + a2) + a1) + a0) / 16 = 16 * (16 * (16 * (16 * a4 + (a4 + a3)) + (a3 + a2)) + (a2 + a1)) + (a1 + a0) := by omega
    rw [this, show 252645135 = 16 * 15790320 + 15 from rfl, and_cat _ _ _ _ (by omega) (by omega), show 15790320 = 16 * 986895 + 0 from rfl, and_cat _ _ _ _ (by omega) (by omega), show 986895 = 16 * 61680 + 15 from rfl, and_cat _ _ _ _ (by omega) (by omega), show 61680 = 16 * 3855 + 0 from rfl, and_cat _ _ _ _ (by omega) (by omega), tb_15 _ (by omega), tb_15 _ (by omega), tb_38 _ (by omega), Nat.and_zero, Nat.and_zero]
    omega
  have e4 : bc4 (65536 * a4 + 256 * (a3 + a2) + (a1 + a0)) = 65536 * a4 + 256 * (a4 + a3 + a2) + (a3 + a2 + a1 + a0) := by
    unfold bc4; omega
  have e5 : (65536 * a4 + 256 * (a4 + a3 + a2) + (a3 + a2 + a1 + a0)) / 65536 = a4 := by omega
  rw [e3, e4, e5, show (63 : Nat) = 2 ^ 6 - 1 from rfl, Nat.and_two_pow_sub_one_eq_mod, show (2 : Nat) ^ 6 = 64 from rfl]
  omega
theorem bc_dig (n0 n1 n2 n3 n4 : Nat) (h0 : n0 < 16) (h1 : n1 < 16) (h2 : n2 < 16) (h3 : n3 < 16) (h4 : n4 < 8) : bcN (16 * (16 * (16 * (16 * n4 + n3) + n2) + n1) + n0) = pN n0 + pN n1 + pN n2 + pN n3 + pN n4 := by
  have e1 : bc1 (16 * (16 * (16 * (16 * n4 + n3) + n2) + n1) + n0) = 16 * (16 * (16 * (16 * (n4 - (n4 / 2 &&& 5)) + (n3 - (n3 / 2 &&& 5))) + (n2 - (n2 / 2 &&& 5))) + (n1 - (n1 / 2 &&& 5))) + (n0 - (n0 / 2 &&& 5)) := by
    unfold bc1
    rw [show 1431655765 = 16 * 89478485 + 5 from rfl, dg1 _ _ _ h0, show 89478485 = 16 * 5592405 + 5 from rfl, dg1 _ _ _ h1, show 5592405 = 16 * 349525 + 5 from rfl, dg1 _ _ _ h2, show 349525 = 16 * 21845 + 5 from rfl, dg1 _ _ _ h3, tb_t4 n4 h4]
  have e2 : bc2 (16 * (16 * (16 * (16 * (n4 - (n4 / 2 &&& 5)) + (n3 - (n3 / 2 &&& 5))) + (n2 - (n2 / 2 &&& 5))) + (n1 - (n1 / 2 &&& 5))) + (n0 - (n0 / 2 &&& 5))) = 16 * (16 * (16 * (16 * pN n4 + pN n3) + pN n2) + pN n1) + pN n0 := by
    unfold bc2
    rw [show 858993459 = 16 * 53687091 + 3 from rfl, dg2 _ _ _ (tb_tl n0 h0), show 53687091 = 16 * 3355443 + 3 from rfl, dg2 _ _ _ (tb_tl n1 h1), show 3355443 = 16 * 209715 + 3 from rfl, dg2 _ _ _ (tb_tl n2 h2), show 209715 = 16 * 13107 + 3 from rfl, dg2 _ _ _ (tb_tl n3 h3), tb_p4 n4 h4, tb_tp n0 h0, tb_tp n1 h1, tb_tp n2 h2, tb_tp n3 h3]
  unfold bcN
  rw [e1, e2]
  exact bc_fin _ _ _ _ _ (tb_pl n0 h0) (tb_pl n1 h1) (tb_pl n2 h2) (tb_pl n3 h3) (tb_pl n4 (by omega))
def pcU (x : Nat) : Nat → Nat
  | 0 => 0
  | b + 1 => pcU x b + x / 2 ^ b % 2
theorem pc_cat (h l : Nat) (hl : l < 16) : ∀ k, pcU (16 * h + l) (k + 4) = pN l + pcU h k := by
  intro k
  induction k with
  | zero =>
    have e0 : (16 * h + l) / 1 % 2 = l % 2 := by omega
    have e1 : (16 * h + l) / 2 % 2 = l / 2 % 2 := by omega
    have e2 : (16 * h + l) / 4 % 2 = l / 4 % 2 := by omega
    have e3 : (16 * h + l) / 8 % 2 = l / 8 % 2 := by omega
    show 0 + (16 * h + l) / 1 % 2 + (16 * h + l) / 2 % 2 + (16 * h + l) / 4 % 2 + (16 * h + l) / 8 % 2 = pN l + 0
    rw [e0, e1, e2, e3]
    unfold pN
    omega
  | succ k ih =>
    rw [show k + 1 + 4 = (k + 4) + 1 by omega, pcU, ih, pcU]
    have : (16 * h + l) / 2 ^ (k + 4) = h / 2 ^ k := by
      rw [Nat.pow_add, Nat.mul_comm (2 ^ k), ← Nat.div_div_eq_div_mul, show (16 * h + l) / 2 ^ 4 = h from by
        show (16 * h + l) / 16 = h
        omega]
    rw [this, Nat.add_assoc]
theorem tb_n4 : ∀ n, n < 8 → pcU n 3 = pN n := by decide +kernel
theorem pc_dig (n0 n1 n2 n3 n4 : Nat) (h0 : n0 < 16) (h1 : n1 < 16) (h2 : n2 < 16) (h3 : n3 < 16) (h4 : n4 < 8) : pcU (16 * (16 * (16 * (16 * n4 + n3) + n2) + n1) + n0) 19 = pN n0 + pN n1 + pN n2 + pN n3 + pN n4 := by
  rw [pc_cat _ _ h0 15, pc_cat _ _ h1 11, pc_cat _ _ h2 7, pc_cat _ _ h3 3, tb_n4 n4 h4]
  omega
theorem bcN_pc {x : Nat} (hx : x < 2 ^ 19) : bcN x = pcU x 19 := by
  have e : x = 16 * (16 * (16 * (16 * (x / 65536) + x / 4096 % 16) + x / 256 % 16) + x / 16 % 16) + x % 16 := by omega
  rw [e, bc_dig _ _ _ _ _ (by omega) (by omega) (by omega) (by omega) (by omega), pc_dig _ _ _ _ _ (by omega) (by omega) (by omega) (by omega) (by omega)]
theorem x_bits {x : Nat} (hx : x < 2 ^ 19) : f_J6_bitCount_0f7a4 (nI x) = some (nI (pcU x 19)) := by
  rw [← bcN_pc hx]
  have m1 : x / 2 &&& 1431655765 ≤ x / 2 := Nat.and_le_left
  have b1 : bc1 x < 2 ^ 32 := by unfold bc1; omega
  have m2 : bc1 x &&& 858993459 ≤ 858993459 := Nat.and_le_right
  have m3 : bc1 x / 4 &&& 858993459 ≤ 858993459 := Nat.and_le_right
  have b2 : bc2 (bc1 x) < 2 ^ 32 := by unfold bc2; omega
  have m4 : bc3 (bc2 (bc1 x)) ≤ 252645135 := by unfold bc3; exact Nat.and_le_right
  have b4 : bc4 (bc3 (bc2 (bc1 x))) < 2 ^ 32 := by unfold bc4; omega
  have c1 : (1431655765 : Int32) = nI 1431655765 := rfl
  have c2 : (858993459 : Int32) = nI 858993459 := rfl
  have c3 : (252645135 : Int32) = nI 252645135 := rfl
  have c4 : (63 : Int32) = nI 63 := rfl
  unfold f_J6_bitCount_0f7a4
  rw [Option.bind_some, pk_ushrN (by omega) 1 1 (by decide), c1, bs_and, show x / 2 ^ 1 = x / 2 from rfl, pk_sub (by omega), show x - (x / 2 &&& 1431655765) = bc1 x from rfl]
  rw [Option.bind_some, pk_ushrN b1 2 2 (by decide), c2, bs_and, bs_and, nI_add, show (bc1 x &&& 858993459) + (bc1 x / 2 ^ 2 &&& 858993459) = bc2 (bc1 x) from rfl]
  rw [Option.bind_some, pk_ushrN b2 4 4 (by decide), nI_add, c3, bs_and, show (bc2 (bc1 x) + bc2 (bc1 x) / 2 ^ 4) &&& 252645135 = bc3 (bc2 (bc1 x)) from rfl]
  rw [Option.bind_some, pk_ushrN (by omega) 8 8 (by decide), nI_add, show bc3 (bc2 (bc1 x)) + bc3 (bc2 (bc1 x)) / 2 ^ 8 = bc4 (bc3 (bc2 (bc1 x))) from rfl, pk_ushrN b4 16 16 (by decide), nI_add, c4, bs_and]
  rfl
theorem pcU_le (x : Nat) : ∀ b, pcU x b ≤ b := by
  intro b
  induction b with
  | zero => exact Nat.le_refl 0
  | succ b ih => rw [pcU]; omega
theorem pcU_0 (x : Nat) : ∀ b, pcU x b = 0 → x % 2 ^ b = 0 := by
  intro b
  induction b with
  | zero => intro _; rw [Nat.pow_zero]; omega
  | succ b ih =>
    intro h
    rw [pcU] at h
    rw [Nat.mod_pow_succ, ih (by omega), show x / 2 ^ b % 2 = 0 by omega]
    rfl
theorem pcU_pos {x : Nat} (h1 : 1 ≤ x) (hx : x < 2 ^ 19) : 1 ≤ pcU x 19 := by
  by_cases h : pcU x 19 = 0
  · have := pcU_0 x 19 h
    rw [Nat.mod_eq_of_lt hx] at this
    omega
  · omega
theorem m_bit {x b : Nat} (hx : x < 2 ^ 19) (hb : b < 32) : (nI x >>> (nI b &&& 31)) &&& (1 : Int32) = nI (x / 2 ^ b % 2) := by
  have : x / 2 ^ b ≤ x := Nat.div_le_self _ _
  rw [pk_shrN (by omega) _ b (bs_sh b hb), pk_andN (by omega) 1 (by decide)]
theorem x_bit {x b : Nat} (hx : x < 2 ^ 19) (hb : b < 19) : (nI x &&& ((1 : Int32) <<< (nI b &&& 31)) = 0) = (x / 2 ^ b % 2 = 0) := by
  have h2 : 2 ^ b < 2 ^ 31 := Nat.pow_lt_pow_right (by omega) (by omega)
  have e : (1 : Int32) <<< (nI b &&& 31) = nI (2 ^ b) := by
    rw [k1, pk_shlN _ b (bs_sh b (by omega)) (by omega), Nat.one_mul]
  have h3 : x &&& 2 ^ b ≤ x := Nat.and_le_left
  rw [e, bs_and, k0, nI_eq (by omega) (by omega)]
  apply propext
  have t := Nat.testBit_eq_decide_div_mod_eq (x := x) (i := b)
  by_cases q : x / 2 ^ b % 2 = 1
  · rw [decide_eq_true q] at t
    constructor
    · intro z
      have : (x &&& 2 ^ b).testBit b = true := by rw [Nat.testBit_and, t, Nat.testBit_two_pow_self]; rfl
      rw [z, Nat.zero_testBit] at this
      exact absurd this (by simp)
    · intro z; omega
  · rw [decide_eq_false q] at t
    constructor
    · intro _; omega
    · intro _
      apply Nat.eq_of_testBit_eq
      intro i
      rw [Nat.testBit_and, Nat.zero_testBit, Nat.testBit_two_pow]
      by_cases hi : b = i
      · subst hi; rw [t]; rfl
      · rw [decide_eq_false hi, Bool.and_false]
theorem m_sizeL {x : Nat} (hx : x < 2 ^ 19) : ∀ (m fu b : Nat), b + m = 19 → m < fu → f_X7_size_L4 fu (nI x) (nI (pcU x b)) (nI b) = some (nI (pcU x 19)) := by
  intro m
  induction m with
  | zero =>
    intro fu b hb hfu
    obtain ⟨f, rfl⟩ : ∃ f, fu = f + 1 := ⟨fu - 1, by omega⟩
    rw [f_X7_size_L4, show (19 : Int32) = nI 19 from by decide, if_pos (nI_le (by omega) (by omega)), show b = 19 by omega]
  | succ m ih =>
    intro fu b hb hfu
    obtain ⟨f, rfl⟩ : ∃ f, fu = f + 1 := ⟨fu - 1, by omega⟩
    rw [f_X7_size_L4, show (19 : Int32) = nI 19 from by decide, if_neg (nI_ge (by omega) (by omega)), m_bit hx (by omega), nI_add, show pcU x b + x / 2 ^ b % 2 = pcU x (b + 1) from rfl, k1, nI_add, ih f (b + 1) (by omega) (by omega)]
theorem m_size {x : Nat} (hx : x < 2 ^ 19) : f_X7_size (nI x) = some (nI (pcU x 19)) := by
  unfold f_X7_size
  rw [k0, show nI 0 = nI (pcU x 0) from rfl]
  have := m_sizeL hx 19 200 0 (by omega) (by omega)
  rw [show nI (pcU x 0) = nI 0 from rfl] at *
  rw [this]
  rfl
