theorem bI_fe : bI false = 0 := rfl
theorem in06 (x : Int32) : f_X7_in x.toInt64 (0 : Int64) (6 : Int64) = some (decide (¬ (x < (0 : Int32) ∨ (6 : Int32) < x))) := m_inb (by decide) (by decide) x
theorem in04 (x : Int32) : f_X7_in x.toInt64 (0 : Int64) (4 : Int64) = some (decide (¬ (x < (0 : Int32) ∨ (4 : Int32) < x))) := m_inb (by decide) (by decide) x
theorem in03 (x : Int32) : f_X7_in x.toInt64 (0 : Int64) (3 : Int64) = some (decide (¬ (x < (0 : Int32) ∨ (3 : Int32) < x))) := m_inb (by decide) (by decide) x
theorem in01 (x : Int32) : f_X7_in x.toInt64 (0 : Int64) (1 : Int64) = some (decide (¬ (x < (0 : Int32) ∨ (1 : Int32) < x))) := m_inb (by decide) (by decide) x
theorem in16 (x : Int32) : f_X7_in x.toInt64 (1 : Int64) (6 : Int64) = some (decide (¬ (x < (1 : Int32) ∨ (6 : Int32) < x))) := m_inb (by decide) (by decide) x
theorem in0y (x y : Int32) : f_X7_in x.toInt64 (0 : Int64) y.toInt64 = some (decide (¬ (x < (0 : Int32) ∨ y < x))) := m_inb (by decide) rfl x
theorem iny2 (x y : Int32) : f_X7_in x.toInt64 y.toInt64 (2 : Int64) = some (decide (¬ (x < y ∨ (2 : Int32) < x))) := m_inb rfl (by decide) x
theorem m_isPart (x : Int32) : f_X7_isPart x = some (decide (¬ (x < (0 : Int32) ∨ (1 : Int32) < x))) := by
  unfold f_X7_isPart; rw [in01]; rfl
theorem inn {x : Int32} {a b : Nat} (ha : a ≤ b) (hb : b < 2 ^ 31) (h : ¬ (x < nI a ∨ nI b < x)) : ∃ n, a ≤ n ∧ n ≤ b ∧ x = nI n := by
  have e1 : (nI a).toInt = (a : Int) := by
    have := pk_sub_toInt (a := 0) (b := 0) (by omega) (by omega)
    rw [nI, Int32.toInt_ofNat_of_lt (by omega)]
  have e2 : (nI b).toInt = (b : Int) := by rw [nI, Int32.toInt_ofNat_of_lt (by omega)]
  rw [Int32.lt_iff_toInt_lt, Int32.lt_iff_toInt_lt, e1, e2] at h
  refine ⟨x.toInt.toNat, by omega, by omega, ?_⟩
  apply Int32.toInt_inj.mp
  rw [nI, Int32.toInt_ofNat_of_lt (by omega)]
  omega
theorem nn {P : Prop} (h : P) : ¬ ¬ P := fun q => q h
theorem x_table {K : Nat} (hK : K ≤ 7) {s n : Nat} (hs : s < 100) (hn : n < 100) : f_X3_hasTable (nI s) (nI n) (nI K) = some (decide (n = 0 ∨ s + 2 * (n - 1) < K)) := by
  unfold f_X3_hasTable
  by_cases h0 : n = 0
  · subst h0; rw [if_pos (by decide)]; simp
  · rw [if_neg (by rw [k0, nI_eq (by omega) (by omega)]; exact h0), k1, pk_sub (by omega), k2, pk_mul, nI_add]
    by_cases h1 : K ≤ s + 2 * (n - 1)
    · rw [if_pos (nI_le h1 (by omega)), decide_eq_false (by omega)]
    · rw [if_neg (nI_ge (by omega) (by omega)), decide_eq_true (by omega)]
theorem m_there {K : Nat} (hK : K ≤ 7) {Mr : Nat → Int32} (hm7 : Mr 7 = nI K) {s n : Nat} (hs : s < 100) (hn : n < 100) : f_X7_isThere (nI s) (nI n) Mr = some (decide (n = 0 ∨ s + 2 * (n - 1) < K)) := by
  unfold f_X7_isThere
  rw [show (7 : Int32).toNatClampNeg = 7 from rfl, hm7]
  rw [if_neg (show ¬ ((7 : Int32) < 0 ∨ 8 ≤ 7) by decide)]
  exact x_table hK hs hn
theorem hasP_ne {K : Nat} {A : Nat → Int64} {n : Nat} (h : hasP K A n = true) : dt A n ≠ 0 := by
  rcases of_decide_eq_true h with rfl | h
  · rw [dt0]; decide
  · exact h.2
theorem hasP_K {K : Nat} {A : Nat → Int64} {n : Nat} (h : hasP K A n = true) : n = 0 ∨ 2 * (n - 1) < K := by
  rcases of_decide_eq_true h with rfl | h
  · exact Or.inl rfl
  · omega
theorem x_fill0 {K : Nat} {a rf : Nat → Int32} (hk : okRow K a) (hf : ∀ j, j < K → rf j = a j) (mm : Nat → Int64) : ∃ M, f_X0_fill (0 : Int32) mm (nI K) rf = some (nI K, M) ∧ MMs (fun t => (a t).toInt64) M := by
  obtain ⟨M, h1, h2⟩ := x_fill hk hf (s := 0) (by omega) mm
  simp only [Nat.zero_add] at h2
  exact ⟨M, h1, h2⟩
theorem x_findP {K : Nat} {a rf : Nat → Int32} (hk : okRow K a) (hf : ∀ j, j < K → rf j = a j) {n : Nat} (hn : n ≤ 4) (mm : Nat → Int64) : ∃ M, f_X6_findPolynomial (nI n) (nI K) rf mm = some (hasP K (fun t => (a t).toInt64) n, nI K, M) ∧ MMs (fun t => (a t).toInt64) M := by
  obtain ⟨M, h1, h2⟩ := x_fill0 hk hf mm
  refine ⟨M, ?_, h2⟩
  unfold f_X6_findPolynomial
  rw [h1, Option.bind_some, x_hasP hk.2.1 h2 hn]
  rfl
theorem m_det00 {K : Nat} {a Mr : Nat → Int32} (hk : okRow K a) (hm : ∀ j, j < 7 → Mr j = a j) {n : Nat} (hn : n ≤ 4) (hs : n = 0 ∨ 2 * (n - 1) < K) (T : Nat → Int64) : ∃ T', f_X7_detOf (0 : Int32) (nI n) Mr T = some (dt (fun t => (a t).toInt64) n, T') := m_det0 hk hm hn hs T
theorem tb_half : ∀ m, m < 8 → (nI m + (1 : Int32)) / (2 : Int32) = nI ((m + 1) / 2) := by decide +kernel
theorem rule_b {K : Nat} {a : Nat → Int32} (hk : okRow K a) {n : Nat} (hn2 : n ≤ 2) : ∃ z1 z2 : Int, dt (fun t => (a t).toInt64) n = Int64.ofInt z1 ∧ dt (fun t => (a t).toInt64) (n + 1) = Int64.ofInt z2 ∧ (z1 * z2).natAbs < 2 ^ 63 ∧ (z1 * z1).natAbs < 2 ^ 63 := by
  obtain ⟨z1, y1, y2⟩ := dt_b0 hk (n := n) (by omega)
  obtain ⟨z2, y3, y4⟩ := dt_b0 hk (n := n + 1) (by omega)
  have z1b : z1.natAbs ≤ 500000 := by
    rcases (by omega : n ≤ 1 ∨ n = 2) with q | q
    · rw [if_pos q] at y2; omega
    · rw [if_neg (by omega), if_pos q] at y2; omega
  have z2b : z2.natAbs ≤ 750000000 := by
    rcases (by omega : n = 0 ∨ n = 1 ∨ n = 2) with rfl | rfl | rfl
    · rw [if_pos (by omega)] at y4; omega
    · rw [if_neg (by omega), if_pos (by omega)] at y4; omega
    · rw [if_neg (by omega), if_neg (by omega), if_pos (by omega)] at y4; omega
  exact ⟨z1, z2, y1, y3, Nat.lt_of_le_of_lt (nbm z1b z2b) (by omega), Nat.lt_of_le_of_lt (nbm z1b z1b) (by omega)⟩
set_option maxHeartbeats 4000000 in
set_option maxRecDepth 100000 in
theorem op_determinant (x1 : Int32) (x2 : Int32) (kb : Int32) (kn : Int32) (kf : Int32) (rK : Int32) (rf : Nat → Int32) (vo : Int32) (vd : Int32) (vs : Nat → Int32) (tl : Int32) (tb : Nat → Int32) (Ms : Int32) (Mb : Int32) (Mr : Nat → Int32) (Mp : Nat → Int32) (Mf : Nat → Int32) (Mt : Nat → Int32) (nc : Int32) (nm : Nat → Int64) (MT : Nat → Int64) (hrel : Rel kb kn kf rK rf vo vd vs tl tb Ms Mb Mr Mp Mf Mt) : ∃ rx rm, f_X6_determinant x1 x2 kb kn kf rK rf nc nm = some rx ∧ f_X7_determinant x1 x2 Mr Mf MT = some rm ∧ rx.1 = rm.1 ∧ Rel rx.2.1 rx.2.2.1 rx.2.2.2.1 rK rf vo vd vs tl tb Ms Mb Mr Mp rm.2.1 Mt := by
  have hrel0 := hrel
  obtain ⟨⟨K, a, hk, rfl, hf, hm, hm7⟩, hc, hs, ht⟩ := hrel
  have hK7 := hk.2.1
  by_cases P1 : x1 < (0 : Int32) ∨ (6 : Int32) < x1
  · exact ⟨_, _, by unfold f_X6_determinant; simp only [x_out, Option.bind_some, bI_dec, x_bad]; rw [if_neg (nn P1)], by unfold f_X7_determinant; simp only [in06, Option.bind_some, bI_decn, m_bad]; rw [if_pos P1], rfl, rel_bad hrel0⟩
  by_cases P2 : x2 < (0 : Int32) ∨ (4 : Int32) < x2
  · exact ⟨_, _, by unfold f_X6_determinant; simp only [x_out, Option.bind_some, bI_dec, x_bad]; rw [if_pos P1, if_neg (nn P2)], by unfold f_X7_determinant; simp only [in06, in04, Option.bind_some, bI_decn, m_bad]; rw [if_neg P1, if_pos P2], rfl, rel_bad hrel0⟩
  obtain ⟨s, _, hs6, rfl⟩ := inn (a := 0) (b := 6) (by omega) (by omega) P1
  obtain ⟨n, _, hn4, rfl⟩ := inn (a := 0) (b := 4) (by omega) (by omega) P2
  have t1 := x_table hK7 (s := s) (n := n) (by omega) (by omega)
  have t2 := m_there hK7 hm7 (s := s) (n := n) (by omega) (by omega)
  by_cases P3 : n = 0 ∨ s + 2 * (n - 1) < K
  · obtain ⟨M, e1, e2⟩ := x_fill hk hf (s := s) (by omega) nm
    obtain ⟨T', e3⟩ := m_det hk hm hn4 P3 MT
    exact ⟨_, _, by unfold f_X6_determinant; simp only [x_out, Option.bind_some, bI_dec, x_bad, t1]; rw [if_pos P1, if_pos P2, if_neg (nn P3), e1, Option.bind_some, x_det e2 hn4, Option.bind_some], by unfold f_X7_determinant; simp only [in06, in04, Option.bind_some, bI_dec, m_bad, t2]; rw [if_neg (nn P1), if_neg (nn P2), if_neg (nn P3), e3, Option.bind_some], rfl, hrel0⟩
  · exact ⟨_, _, by unfold f_X6_determinant; simp only [x_out, Option.bind_some, bI_dec, x_bad, t1, x_no]; rw [if_pos P1, if_pos P2, if_pos P3], by unfold f_X7_determinant; simp only [in06, in04, Option.bind_some, bI_dec, m_bad, t2, m_no]; rw [if_neg (nn P1), if_neg (nn P2), if_pos P3], rfl, rel_no hrel0⟩
set_option maxHeartbeats 4000000 in
set_option maxRecDepth 100000 in
theorem op_polynomial (x1 : Int32) (x2 : Int32) (x3 : Int32) (kb : Int32) (kn : Int32) (kf : Int32) (rK : Int32) (rf : Nat → Int32) (vo : Int32) (vd : Int32) (vs : Nat → Int32) (tl : Int32) (tb : Nat → Int32) (Ms : Int32) (Mb : Int32) (Mr : Nat → Int32) (Mp : Nat → Int32) (Mf : Nat → Int32) (Mt : Nat → Int32) (mc : Int32) (mm : Nat → Int64) (MB : Int64) (MT : Nat → Int64) (MP : Nat → Int64) (hrel : Rel kb kn kf rK rf vo vd vs tl tb Ms Mb Mr Mp Mf Mt) : ∃ rx rm, f_X6_polynomial x1 x2 x3 kb kn kf rK rf mc mm = some rx ∧ f_X7_polynomial x1 x2 x3 MB Mr Mf MT MP = some rm ∧ rx.1 = rm.1 ∧ Rel rx.2.1 rx.2.2.1 rx.2.2.2.1 rK rf vo vd vs tl tb Ms Mb Mr Mp rm.2.2.1 Mt := by
  have hrel0 := hrel
  obtain ⟨⟨K, a, hk, rfl, hf, hm, hm7⟩, hc, hs, ht⟩ := hrel
  have hK7 := hk.2.1
  by_cases P1 : x1 < (0 : Int32) ∨ (3 : Int32) < x1
  · exact ⟨_, _, by unfold f_X6_polynomial; simp only [x_out, Option.bind_some, bI_dec, x_bad]; rw [if_neg (nn P1)], by unfold f_X7_polynomial; simp only [in03, Option.bind_some, bI_decn, m_bad]; rw [if_pos P1], rfl, rel_bad hrel0⟩
  by_cases P2 : x2 < (0 : Int32) ∨ x1 < x2
  · exact ⟨_, _, by unfold f_X6_polynomial; simp only [x_out, Option.bind_some, bI_dec, x_bad]; rw [if_pos P1, if_neg (nn P2)], by unfold f_X7_polynomial; simp only [in03, in0y, Option.bind_some, bI_decn, m_bad]; rw [if_neg P1, if_pos P2], rfl, rel_bad hrel0⟩
  by_cases P3 : x3 < (0 : Int32) ∨ (1 : Int32) < x3
  · exact ⟨_, _, by unfold f_X6_polynomial; simp only [x_out, Option.bind_some, bI_dec, x_bad]; rw [if_pos P1, if_pos P2, if_neg (nn P3)], by unfold f_X7_polynomial; simp only [in03, in0y, m_isPart, Option.bind_some, bI_decn, m_bad]; rw [if_neg P1, if_neg P2, if_pos P3], rfl, rel_bad hrel0⟩
  obtain ⟨n, _, hn3, rfl⟩ := inn (a := 0) (b := 3) (by omega) (by omega) P1
  obtain ⟨j, _, hj, rfl⟩ := inn (a := 0) (b := n) (by omega) (by omega) P2
  obtain ⟨M, e1, e2⟩ := x_findP hk hf (n := n) (by omega) mm
  obtain ⟨T1, e3⟩ := m_isPoly hk hm hm7 (n := n) (by omega) MT
  cases h : hasP K (fun t => (a t).toInt64) n with
  | false =>
    rw [h] at e1 e3
    exact ⟨_, _, by unfold f_X6_polynomial; simp only [x_out, Option.bind_some, bI_dec, x_bad, e1, x_no]; rw [if_pos P1, if_pos P2, if_pos P3, if_pos bI_fe], by unfold f_X7_polynomial; simp only [in03, in0y, m_isPart, Option.bind_some, bI_decn, m_bad, e3, m_no]; rw [if_neg P1, if_neg P2, if_neg P3, if_pos bI_fe], rfl, rel_no hrel0⟩
  | true =>
    rw [h] at e1 e3
    obtain ⟨T2, P, e4, e5⟩ := m_makePoly hk hm hn3 (hasP_K h) T1 MP
    obtain ⟨v, v1, v2⟩ := part_eq (co (fun t => (a t).toInt64) n j) (dt (fun t => (a t).toInt64) n) x3 (hasP_ne h)
    exact ⟨_, _, by unfold f_X6_polynomial; simp only [x_out, Option.bind_some, bI_dec, x_bad, e1, x_no]; rw [if_pos P1, if_pos P2, if_pos P3, if_neg bI_tne, x_coef e2 hn3 hj, Option.bind_some, x_det e2 (by omega), Option.bind_some, v1, Option.bind_some], by unfold f_X7_polynomial; simp only [in03, in0y, m_isPart, Option.bind_some, bI_decn, m_bad, e3, m_no, e4]; rw [if_neg P1, if_neg P2, if_neg P3, if_neg bI_tne, gif (by omega) (by omega), nI_cl (by omega), e5 j hj, v2, Option.bind_some], rfl, hrel0⟩
set_option maxHeartbeats 4000000 in
set_option maxRecDepth 100000 in
theorem op_norm (x1 : Int32) (x2 : Int32) (kb : Int32) (kn : Int32) (kf : Int32) (rK : Int32) (rf : Nat → Int32) (vo : Int32) (vd : Int32) (vs : Nat → Int32) (tl : Int32) (tb : Nat → Int32) (Ms : Int32) (Mb : Int32) (Mr : Nat → Int32) (Mp : Nat → Int32) (Mf : Nat → Int32) (Mt : Nat → Int32) (mc : Int32) (mm : Nat → Int64) (MT : Nat → Int64) (hrel : Rel kb kn kf rK rf vo vd vs tl tb Ms Mb Mr Mp Mf Mt) : ∃ rx rm, f_X6_norm x1 x2 kb kn kf rK rf mc mm = some rx ∧ f_X7_norm x1 x2 Mr Mf MT = some rm ∧ rx.1 = rm.1 ∧ Rel rx.2.1 rx.2.2.1 rx.2.2.2.1 rK rf vo vd vs tl tb Ms Mb Mr Mp rm.2.1 Mt := by
  have hrel0 := hrel
  obtain ⟨⟨K, a, hk, rfl, hf, hm, hm7⟩, hc, hs, ht⟩ := hrel
  have hK7 := hk.2.1
  by_cases P1 : x1 < (0 : Int32) ∨ (3 : Int32) < x1
  · exact ⟨_, _, by unfold f_X6_norm; simp only [x_out, Option.bind_some, bI_dec, x_bad]; rw [if_neg (nn P1)], by unfold f_X7_norm; simp only [in03, Option.bind_some, bI_decn, m_bad]; rw [if_pos P1], rfl, rel_bad hrel0⟩
  by_cases P3 : x2 < (0 : Int32) ∨ (1 : Int32) < x2
  · exact ⟨_, _, by unfold f_X6_norm; simp only [x_out, Option.bind_some, bI_dec, x_bad]; rw [if_pos P1, if_neg (nn P3)], by unfold f_X7_norm; simp only [in03, m_isPart, Option.bind_some, bI_decn, m_bad]; rw [if_neg P1, if_pos P3], rfl, rel_bad hrel0⟩
  obtain ⟨n, _, hn3, rfl⟩ := inn (a := 0) (b := 3) (by omega) (by omega) P1
  obtain ⟨M, e1, e2⟩ := x_findP hk hf (n := n) (by omega) mm
  obtain ⟨T1, e3⟩ := m_isPoly hk hm hm7 (n := n) (by omega) MT
  have hN : (7 : Int32).toNatClampNeg = 7 := rfl
  have hG : ¬ ((7 : Int32) < 0 ∨ 8 ≤ 7) := by decide
  have hS : f_X3_size (nI K) = some (nI K) := rfl
  cases h : hasP K (fun t => (a t).toInt64) n with
  | false =>
    rw [h] at e1 e3
    have e4 : ∃ T, f_X7_isNorm (nI n) Mr MT = some (false, T) := by
      unfold f_X7_isNorm
      rw [hN, if_neg hG, hm7, e3, Option.bind_some, if_pos bI_fe]
      by_cases q : nI K ≤ (2 : Int32) * nI n
      · rw [if_pos q]; exact ⟨_, rfl⟩
      · rw [if_neg q]; exact ⟨_, rfl⟩
    obtain ⟨T, e4⟩ := e4
    exact ⟨_, _, by unfold f_X6_norm; simp only [x_out, Option.bind_some, bI_dec, x_bad, e1, x_no]; rw [if_pos P1, if_pos P3, if_pos bI_fe], by unfold f_X7_norm; simp only [in03, m_isPart, Option.bind_some, bI_decn, m_bad, e4, m_no]; rw [if_neg P1, if_neg P3, if_pos bI_fe], rfl, rel_no hrel0⟩
  | true =>
    rw [h] at e1 e3
    by_cases hq : 2 * n < K
    · have e4 : f_X7_isNorm (nI n) Mr MT = some (true, T1) := by
        unfold f_X7_isNorm
        rw [hN, if_neg hG, hm7, e3, Option.bind_some, k2, pk_mul, if_neg (nI_ge hq (by omega)), if_neg bI_tne]
      obtain ⟨T2, e5⟩ := m_det00 hk hm (n := n + 1) (by omega) (by omega) T1
      obtain ⟨T3, e6⟩ := m_det00 hk hm (n := n) (by omega) (by omega) T2
      obtain ⟨v, v1, v2⟩ := part_eq (dt (fun t => (a t).toInt64) (n + 1)) (dt (fun t => (a t).toInt64) n) x2 (hasP_ne h)
      exact ⟨_, _, by unfold f_X6_norm; simp only [x_out, Option.bind_some, bI_dec, x_bad, e1, x_no, hS]; rw [if_pos P1, if_pos P3, if_neg bI_tne, k2, pk_mul, if_pos (nI_lt hq (by omega)), k1, nI_add, x_det e2 (by omega), Option.bind_some, x_det e2 (by omega), Option.bind_some, v1, Option.bind_some], by unfold f_X7_norm; simp only [in03, m_isPart, Option.bind_some, bI_decn, m_bad, e4, m_no]; rw [if_neg P1, if_neg P3, if_neg bI_tne, k1, nI_add, e5, Option.bind_some, e6, Option.bind_some, v2, Option.bind_some], rfl, hrel0⟩
    · have e4 : f_X7_isNorm (nI n) Mr MT = some (false, MT) := by
        unfold f_X7_isNorm
        rw [hN, if_neg hG, hm7, k2, pk_mul, if_pos (nI_le (by omega) (by omega))]
      exact ⟨_, _, by unfold f_X6_norm; simp only [x_out, Option.bind_some, bI_dec, x_bad, e1, x_no, hS]; rw [if_pos P1, if_pos P3, if_neg bI_tne, k2, pk_mul, if_neg (nI_nlt (by omega) (by omega))], by unfold f_X7_norm; simp only [in03, m_isPart, Option.bind_some, bI_decn, m_bad, e4, m_no]; rw [if_neg P1, if_neg P3, if_pos bI_fe], rfl, rel_no hrel0⟩
set_option maxHeartbeats 4000000 in
set_option maxRecDepth 100000 in
theorem op_rule (x1 : Int32) (x2 : Int32) (x3 : Int32) (kb : Int32) (kn : Int32) (kf : Int32) (rK : Int32) (rf : Nat → Int32) (vo : Int32) (vd : Int32) (vs : Nat → Int32) (tl : Int32) (tb : Nat → Int32) (Ms : Int32) (Mb : Int32) (Mr : Nat → Int32) (Mp : Nat → Int32) (Mf : Nat → Int32) (Mt : Nat → Int32) (mc : Int32) (mm : Nat → Int64) (MB : Int64) (MT : Nat → Int64) (MP : Nat → Int64) (hrel : Rel kb kn kf rK rf vo vd vs tl tb Ms Mb Mr Mp Mf Mt) : ∃ rx rm, f_X6_rule x1 x2 x3 kb kn kf rK rf mc mm = some rx ∧ f_X7_rule x1 x2 x3 MB Mr Mf MT MP = some rm ∧ rx.1 = rm.1 ∧ Rel rx.2.1 rx.2.2.1 rx.2.2.2.1 rK rf vo vd vs tl tb Ms Mb Mr Mp rm.2.2.1 Mt := by
  have hrel0 := hrel
  obtain ⟨⟨K, a, hk, rfl, hf, hm, hm7⟩, hc, hs, ht⟩ := hrel
  have hK7 := hk.2.1
  by_cases P1 : x1 < (0 : Int32) ∨ (1 : Int32) < x1
  · exact ⟨_, _, by unfold f_X6_rule; simp only [x_out, Option.bind_some, bI_dec, x_bad]; rw [if_neg (nn P1)], by unfold f_X7_rule; simp only [in01, Option.bind_some, bI_decn, m_bad]; rw [if_pos P1], rfl, rel_bad hrel0⟩
  by_cases P2 : x2 < x1 ∨ (2 : Int32) < x2
  · exact ⟨_, _, by unfold f_X6_rule; simp only [x_out, Option.bind_some, bI_dec, x_bad]; rw [if_pos P1, if_neg (nn P2)], by unfold f_X7_rule; simp only [in01, iny2, Option.bind_some, bI_decn, m_bad]; rw [if_neg P1, if_pos P2], rfl, rel_bad hrel0⟩
  by_cases P3 : x3 < (0 : Int32) ∨ (1 : Int32) < x3
  · exact ⟨_, _, by unfold f_X6_rule; simp only [x_out, Option.bind_some, bI_dec, x_bad]; rw [if_pos P1, if_pos P2, if_neg (nn P3)], by unfold f_X7_rule; simp only [in01, iny2, m_isPart, Option.bind_some, bI_decn, m_bad]; rw [if_neg P1, if_neg P2, if_pos P3], rfl, rel_bad hrel0⟩
  obtain ⟨b, _, hb1, rfl⟩ := inn (a := 0) (b := 1) (by omega) (by omega) P1
  obtain ⟨n, hbn, hn2, rfl⟩ := inn (a := b) (b := 2) (by omega) (by omega) P2
  obtain ⟨M, e1, e2⟩ := x_fill0 hk hf mm
  have xh : ∀ m, m ≤ 4 → f_X0_hasPolynomial (nI m) (nI K) M = some (hasP K (fun t => (a t).toInt64) m) := fun m hm => x_hasP hK7 e2 hm
  have mh : ∀ m, m ≤ 4 → ∀ T, ∃ T', f_X7_isPoly (nI m) Mr T = some (hasP K (fun t => (a t).toInt64) m, T') := fun m hm' T => m_isPoly hk hm hm7 hm' T
  have md : ∀ m, m ≤ 4 → (m = 0 ∨ 2 * (m - 1) < K) → ∀ T, ∃ T', f_X7_detOf (0 : Int32) (nI m) Mr T = some (dt (fun t => (a t).toInt64) m, T') := fun m h1 h2 T => m_det00 hk hm h1 h2 T
  obtain ⟨z1, z2, y1, y3, b12, b11⟩ := rule_b hk hn2
  have mp : ∀ m, m ≤ 3 → (m = 0 ∨ 2 * (m - 1) < K) → ∀ T P, ∃ T' P', f_X7_makePoly (nI m) Mr T P = some (dt (fun t => (a t).toInt64) m, T', P') ∧ ∀ c, c ≤ m → P' c = co (fun t => (a t).toInt64) m c := fun m h1 h2 T P => m_makePoly hk hm h1 h2 T P
  generalize (fun t => (a t).toInt64) = A at *
  by_cases h0 : n = 0
  · have g1 : nI n = (0 : Int32) := by rw [h0]; decide
    have g2 : nI n ≤ (0 : Int32) := by rw [h0]; decide
    have g4 : nI n + (1 : Int32) = nI (n + 1) := by rw [k1, nI_add]
    have gb : nI b = (0 : Int32) := by rw [show b = 0 by omega]; decide
    have gc : ¬ nI b = (1 : Int32) := by rw [show b = 0 by omega]; decide
    have c0 : f_X0_coefficient (nI n) (nI n - (1 : Int32)) M = some 0 := by
      rw [h0]
      unfold f_X0_coefficient
      simp only [x_out, Option.bind_some, bI_dec]
      rw [if_pos (by decide), if_neg (by decide)]
    obtain ⟨T0, f0⟩ := mh n (by omega) MT
    obtain ⟨T1, f1⟩ := mh (n + 1) (by omega) T0
    have p0 : hasP K A n = true := by rw [h0]; simp [hasP]
    rw [p0] at f0
    cases h1 : hasP K A (n + 1) with
    | false =>
      rw [h1] at f1
      have r1 : f_X6_findRule (nI n) (nI K) rf mm = some (false, nI K, M) := by
        unfold f_X6_findRule
        rw [e1, Option.bind_some, if_pos g1, xh n (by omega), Option.bind_some, p0, if_neg bI_tne, g4, xh (n + 1) (by omega), Option.bind_some, h1, if_pos bI_fe]
      exact ⟨_, _, by unfold f_X6_rule; simp only [x_out, Option.bind_some, bI_dec, x_bad, r1, x_no]; rw [if_pos P1, if_pos P2, if_pos P3, if_pos bI_fe], by unfold f_X7_rule; simp only [in01, iny2, m_isPart, Option.bind_some, bI_decn, m_bad, m_no]; rw [if_neg P1, if_neg P2, if_neg P3, if_pos g2, f0, Option.bind_some, if_neg bI_tne, g4, f1, Option.bind_some, if_pos bI_fe], rfl, rel_no hrel0⟩
    | true =>
      rw [h1] at f1
      have r1 : f_X6_findRule (nI n) (nI K) rf mm = some (true, nI K, M) := by
        unfold f_X6_findRule
        rw [e1, Option.bind_some, if_pos g1, xh n (by omega), Option.bind_some, p0, if_neg bI_tne, g4, xh (n + 1) (by omega), Option.bind_some, h1, if_neg bI_tne]
      obtain ⟨T2, f2⟩ := md n (by omega) (by omega) T1
      obtain ⟨T3, f3⟩ := md (n + 1) (by omega) (hasP_K h1) T2
      obtain ⟨T4, Q4, f4, _⟩ := mp n (by omega) (by omega) T3 MP
      obtain ⟨T5, Q5, f5, f6⟩ := mp (n + 1) (by omega) (hasP_K h1) T4 Q4
      obtain ⟨v, v1, v2⟩ := part_eq (0 * dt A (n + 1) - co A (n + 1) n * dt A n) (dt A n * dt A (n + 1)) x3 (mul_ne0 y1 y3 (hasP_ne p0) (hasP_ne h1) b12)
      have c1 := x_coef e2 (n := n + 1) (j := n) (by omega) (by omega)
      have d1 := x_det e2 (n := n) (by omega)
      have d2 := x_det e2 (n := n + 1) (by omega)
      have xx : f_X6_rule (nI b) (nI n) x3 kb kn kf (nI K) rf mc mm = some (v, kb, kn, kf, nI K, M) := by
        unfold f_X6_rule
        simp only [x_out, Option.bind_some, bI_dec, r1]
        rw [if_pos P1, if_pos P2, if_pos P3, if_neg bI_tne, g4, d1, Option.bind_some, d2, Option.bind_some, if_pos gb, c0, Option.bind_some, c1, Option.bind_some, v1, Option.bind_some]
      have mx : f_X7_rule (nI b) (nI n) x3 MB Mr Mf MT MP = some (v, dt A (n + 1), Mf, T5, Q5) := by
        unfold f_X7_rule
        simp only [in01, iny2, m_isPart, Option.bind_some, bI_decn]
        rw [if_neg P1, if_neg P2, if_neg P3, if_pos g2, f0, Option.bind_some, if_neg bI_tne, g4, f1, Option.bind_some, if_neg bI_tne, f2, Option.bind_some, f3, Option.bind_some, if_neg gc, f4, Option.bind_some, if_pos g1, f5, Option.bind_some, gif (by omega) (by omega), nI_cl (by omega)]
        dsimp only
        rw [f6 n (by omega), v2, Option.bind_some]
      exact ⟨_, _, xx, mx, rfl, hrel0⟩
  · have g1 : ¬ nI n = (0 : Int32) := by rw [k0, nI_eq (by omega) (by omega)]; exact h0
    have g2 : ¬ nI n ≤ (0 : Int32) := by rw [k0]; exact nI_ge (by omega) (by omega)
    have g3 : nI n - (1 : Int32) = nI (n - 1) := by rw [k1, pk_sub (by omega)]
    have g4 : nI n + (1 : Int32) = nI (n + 1) := by rw [k1, nI_add]
    obtain ⟨T0, f0⟩ := mh (n - 1) (by omega) MT
    obtain ⟨T1, f1⟩ := mh n (by omega) T0
    obtain ⟨T2, f2⟩ := mh (n + 1) (by omega) T1
    cases h1 : hasP K A (n - 1) with
    | false =>
      rw [h1] at f0
      have r1 : f_X6_findRule (nI n) (nI K) rf mm = some (false, nI K, M) := by
        unfold f_X6_findRule
        rw [e1, Option.bind_some, if_neg g1, g3, xh (n - 1) (by omega), Option.bind_some, h1, if_pos bI_fe]
      exact ⟨_, _, by unfold f_X6_rule; simp only [x_out, Option.bind_some, bI_dec, x_bad, r1, x_no]; rw [if_pos P1, if_pos P2, if_pos P3, if_pos bI_fe], by unfold f_X7_rule; simp only [in01, iny2, m_isPart, Option.bind_some, bI_decn, m_bad, m_no]; rw [if_neg P1, if_neg P2, if_neg P3, if_neg g2, g3, f0, Option.bind_some, if_pos bI_fe], rfl, rel_no hrel0⟩
    | true =>
    cases h2 : hasP K A n with
    | false =>
      rw [h1] at f0
      rw [h2] at f1
      have r1 : f_X6_findRule (nI n) (nI K) rf mm = some (false, nI K, M) := by
        unfold f_X6_findRule
        rw [e1, Option.bind_some, if_neg g1, g3, xh (n - 1) (by omega), Option.bind_some, h1, if_neg bI_tne, xh n (by omega), Option.bind_some, h2, if_pos bI_fe]
      exact ⟨_, _, by unfold f_X6_rule; simp only [x_out, Option.bind_some, bI_dec, x_bad, r1, x_no]; rw [if_pos P1, if_pos P2, if_pos P3, if_pos bI_fe], by unfold f_X7_rule; simp only [in01, iny2, m_isPart, Option.bind_some, bI_decn, m_bad, m_no]; rw [if_neg P1, if_neg P2, if_neg P3, if_neg g2, g3, f0, Option.bind_some, if_neg bI_tne, f1, Option.bind_some, if_pos bI_fe], rfl, rel_no hrel0⟩
    | true =>
    cases h3 : hasP K A (n + 1) with
    | false =>
      rw [h1] at f0
      rw [h2] at f1
      rw [h3] at f2
      have r1 : f_X6_findRule (nI n) (nI K) rf mm = some (false, nI K, M) := by
        unfold f_X6_findRule
        rw [e1, Option.bind_some, if_neg g1, g3, xh (n - 1) (by omega), Option.bind_some, h1, if_neg bI_tne, xh n (by omega), Option.bind_some, h2, if_neg bI_tne, g4, xh (n + 1) (by omega), Option.bind_some, h3, if_pos bI_fe]
      exact ⟨_, _, by unfold f_X6_rule; simp only [x_out, Option.bind_some, bI_dec, x_bad, r1, x_no]; rw [if_pos P1, if_pos P2, if_pos P3, if_pos bI_fe], by unfold f_X7_rule; simp only [in01, iny2, m_isPart, Option.bind_some, bI_decn, m_bad, m_no]; rw [if_neg P1, if_neg P2, if_neg P3, if_neg g2, g3, f0, Option.bind_some, if_neg bI_tne, f1, Option.bind_some, if_neg bI_tne, g4, f2, Option.bind_some, if_pos bI_fe], rfl, rel_no hrel0⟩
    | true =>
      rw [h1] at f0
      rw [h2] at f1
      rw [h3] at f2
      have r1 : f_X6_findRule (nI n) (nI K) rf mm = some (true, nI K, M) := by
        unfold f_X6_findRule
        rw [e1, Option.bind_some, if_neg g1, g3, xh (n - 1) (by omega), Option.bind_some, h1, if_neg bI_tne, xh n (by omega), Option.bind_some, h2, if_neg bI_tne, g4, xh (n + 1) (by omega), Option.bind_some, h3, if_neg bI_tne]
      obtain ⟨T3, f3⟩ := md n (by omega) (hasP_K h2) T2
      obtain ⟨T4, f4⟩ := md (n + 1) (by omega) (hasP_K h3) T3
      by_cases hb : b = 1
      · subst hb
        obtain ⟨T5, f5⟩ := md (n - 1) (by omega) (hasP_K h1) T4
        obtain ⟨v, v1, v2⟩ := part_eq (dt A (n + 1) * dt A (n - 1)) (dt A n * dt A n) x3 (mul_ne0 y1 y1 (hasP_ne h2) (hasP_ne h2) b11)
        exact ⟨_, _, by unfold f_X6_rule; simp only [x_out, Option.bind_some, bI_dec, x_bad, r1, x_no]; rw [if_pos P1, if_pos P2, if_pos P3, if_neg bI_tne, x_det e2 (by omega), Option.bind_some, g4, x_det e2 (by omega), Option.bind_some, if_neg (by decide), g3, x_det e2 (by omega), Option.bind_some, v1, Option.bind_some], by unfold f_X7_rule; simp only [in01, iny2, m_isPart, Option.bind_some, bI_decn, m_bad, m_no]; rw [if_neg P1, if_neg P2, if_neg P3, if_neg g2, g3, f0, Option.bind_some, if_neg bI_tne, f1, Option.bind_some, if_neg bI_tne, g4, f2, Option.bind_some, if_neg bI_tne, f3, Option.bind_some, f4, Option.bind_some, if_pos (by decide), f5, Option.bind_some, v2, Option.bind_some], rfl, hrel0⟩
      · have hb0 : b = 0 := by omega
        subst hb0
        obtain ⟨T5, Q5, f5, f6⟩ := mp n (by omega) (hasP_K h2) T4 MP
        obtain ⟨T7, Q7, f7, f8⟩ := mp (n + 1) (by omega) (hasP_K h3) T5 Q5
        obtain ⟨v, v1, v2⟩ := part_eq (co A n (n - 1) * dt A (n + 1) - co A (n + 1) n * dt A n) (dt A n * dt A (n + 1)) x3 (mul_ne0 y1 y3 (hasP_ne h2) (hasP_ne h3) b12)
        exact ⟨_, _, by unfold f_X6_rule; simp only [x_out, Option.bind_some, bI_dec, x_bad, r1, x_no]; rw [if_pos P1, if_pos P2, if_pos P3, if_neg bI_tne, x_det e2 (by omega), Option.bind_some, g4, x_det e2 (by omega), Option.bind_some, if_pos (by decide), g3, x_coef e2 (by omega) (by omega), Option.bind_some, x_coef e2 (by omega) (by omega), Option.bind_some, v1, Option.bind_some], by unfold f_X7_rule; simp only [in01, iny2, m_isPart, Option.bind_some, bI_decn, m_bad, m_no]; rw [if_neg P1, if_neg P2, if_neg P3, if_neg g2, g3, f0, Option.bind_some, if_neg bI_tne, f1, Option.bind_some, if_neg bI_tne, g4, f2, Option.bind_some, if_neg bI_tne, f3, Option.bind_some, f4, Option.bind_some, if_neg (by decide), f5, Option.bind_some, if_neg g1, gif (by omega) (by omega), f7, Option.bind_some, gif (by omega) (by omega), nI_cl (by omega), nI_cl (by omega)]; dsimp only; rw [f6 (n - 1) (by omega), f8 n (by omega), v2, Option.bind_some], rfl, hrel0⟩
set_option maxHeartbeats 4000000 in
set_option maxRecDepth 100000 in
theorem op_step (x1 : Int32) (x2 : Int32) (kb : Int32) (kn : Int32) (kf : Int32) (rK : Int32) (rf : Nat → Int32) (vo : Int32) (vd : Int32) (vs : Nat → Int32) (tl : Int32) (tb : Nat → Int32) (Ms : Int32) (Mb : Int32) (Mr : Nat → Int32) (Mp : Nat → Int32) (Mf : Nat → Int32) (Mt : Nat → Int32) (mc : Int32) (mm : Nat → Int64) (nc : Int32) (nm : Nat → Int64) (MT : Nat → Int64) (hrel : Rel kb kn kf rK rf vo vd vs tl tb Ms Mb Mr Mp Mf Mt) : ∃ rx rm, f_X6_step x1 x2 kb kn kf rK rf mc mm nc nm = some rx ∧ f_X7_step x1 x2 Mr Mf MT = some rm ∧ rx.1 = rm.1 ∧ Rel rx.2.1 rx.2.2.1 rx.2.2.2.1 rK rf vo vd vs tl tb Ms Mb Mr Mp rm.2.1 Mt := by
  have hrel0 := hrel
  obtain ⟨⟨K, a, hk, rfl, hf, hm, hm7⟩, hc, hs, ht⟩ := hrel
  have hK7 := hk.2.1
  by_cases P1 : x1 < (1 : Int32) ∨ (6 : Int32) < x1
  · exact ⟨_, _, by unfold f_X6_step; simp only [x_out, Option.bind_some, bI_dec, x_bad]; rw [if_neg (nn P1)], by unfold f_X7_step; simp only [in16, Option.bind_some, bI_decn, m_bad]; rw [if_pos P1], rfl, rel_bad hrel0⟩
  by_cases P2 : x2 < (0 : Int32) ∨ (1 : Int32) < x2
  · exact ⟨_, _, by unfold f_X6_step; simp only [x_out, Option.bind_some, bI_dec, x_bad]; rw [if_pos P1, if_neg (nn P2)], by unfold f_X7_step; simp only [in16, m_isPart, Option.bind_some, bI_decn, m_bad]; rw [if_neg P1, if_pos P2], rfl, rel_bad hrel0⟩
  obtain ⟨m, hm1, hm6, rfl⟩ := inn (a := 1) (b := 6) (by omega) (by omega) P1
  have gz : ¬ ((2 : Int32) = 0) := by decide
  have gh := tb_half m (by omega)
  have gr : nI m - nI m / (2 : Int32) * (2 : Int32) = nI (m % 2) := by rw [k2, pk_rem (by omega) (by omega) (by omega)]
  have hh : ∃ h, h = (m + 1) / 2 := ⟨_, rfl⟩
  obtain ⟨h, hh⟩ := hh
  rw [← hh] at gh
  have gm : nI h - (1 : Int32) = nI (h - 1) := by rw [k1, pk_sub (by omega)]
  have gp : nI h + (1 : Int32) = nI (h + 1) := by rw [k1, nI_add]
  have gq : nI h + (0 : Int32) = nI h := by rw [k0, nI_add]; rfl
  obtain ⟨M, e1, e2⟩ := x_fill0 hk hf mm
  obtain ⟨N, e3', e4⟩ := x_fill hk hf (s := 1) (by omega) nm
  have e3 : f_X0_fill (1 : Int32) nm (nI K) rf = some (nI K, N) := e3'
  have u1 : f_X3_hasTable (1 : Int32) (nI h) (nI K) = some (decide (h = 0 ∨ 1 + 2 * (h - 1) < K)) := x_table hK7 (s := 1) (by omega) (by omega)
  have u2 : f_X3_hasTable (0 : Int32) (nI (h + 1)) (nI K) = some (decide (h + 1 = 0 ∨ 0 + 2 * (h + 1 - 1) < K)) := x_table hK7 (s := 0) (by omega) (by omega)
  have mt0 : ∀ n, n < 100 → f_X7_isThere (0 : Int32) (nI n) Mr = some (decide (n = 0 ∨ 0 + 2 * (n - 1) < K)) := fun n h2 => m_there hK7 hm7 (s := 0) (by omega) h2
  have mt1 : ∀ n, n < 100 → f_X7_isThere (1 : Int32) (nI n) Mr = some (decide (n = 0 ∨ 1 + 2 * (n - 1) < K)) := fun n h2 => m_there hK7 hm7 (s := 1) (by omega) h2
  have md0 : ∀ n, n ≤ 4 → (n = 0 ∨ 2 * (n - 1) < K) → ∀ T, ∃ T', f_X7_detOf (0 : Int32) (nI n) Mr T = some (dt (fun t => (a t).toInt64) n, T') := fun n h1 h2 T => m_det00 hk hm h1 h2 T
  have md1 : ∀ n, n ≤ 4 → (n = 0 ∨ 1 + 2 * (n - 1) < K) → ∀ T, ∃ T', f_X7_detOf (1 : Int32) (nI n) Mr T = some (dt (fun t => (a (1 + t)).toInt64) n, T') := fun n h1 h2 T => m_det hk hm (s := 1) h1 h2 T
  have w1 := mt0 h (by omega)
  have w2 := mt1 h (by omega)
  have w3 := mt1 (h - 1) (by omega)
  have w4 := mt0 (h - 1) (by omega)
  have w5 := mt0 (h + 1) (by omega)
  generalize (fun t => (a t).toInt64) = A at *
  generalize (fun t => (a (1 + t)).toInt64) = B at *
  have d1 := x_det e4 (n := h) (by omega)
  have d2 := x_det e2 (n := h - 1) (by omega)
  have d3 := x_det e2 (n := h) (by omega)
  have d4 := x_det e4 (n := h - 1) (by omega)
  have d5 := x_det e2 (n := h + 1) (by omega)
  by_cases hodd : m % 2 = 1
  · have gr1 : nI m - nI m / (2 : Int32) * (2 : Int32) = (1 : Int32) := by rw [gr, hodd]; decide
    by_cases P3 : h = 0 ∨ 1 + 2 * (h - 1) < K
    · have Q1 : h = 0 ∨ 0 + 2 * (h - 1) < K := by omega
      have Q3 : h - 1 = 0 ∨ 1 + 2 * (h - 1 - 1) < K := by omega
      have Q4 : h - 1 = 0 ∨ 0 + 2 * (h - 1 - 1) < K := by omega
      obtain ⟨T1, f1⟩ := md1 h (by omega) P3 MT
      obtain ⟨T2, f2⟩ := md0 (h - 1) (by omega) (by omega) T1
      obtain ⟨T3, f3⟩ := md0 h (by omega) (by omega) T2
      obtain ⟨T4, f4⟩ := md1 (h - 1) (by omega) Q3 T3
      have xx : f_X6_step (nI m) x2 kb kn kf (nI K) rf mc mm nc nm = if dt A h * dt B (h - 1) = (0 : Int64) then some ((-1000002 : Int32).toInt64, kb, kn + 1, kf, nI K, M, nI K, N) else (f_X6_part (dt B h * dt A (h - 1)) (dt A h * dt B (h - 1)) x2).bind fun q => some (q, kb, kn, kf, nI K, M, nI K, N) := by
        unfold f_X6_step
        simp only [x_out, Option.bind_some, bI_dec, x_no, gh, gr1, gm, u1, e1, e3, d1, d2, d3, d4, P1, P2, P3, gz, not_false_eq_true, not_true_eq_false, reduceIte]
      have mx : f_X7_step (nI m) x2 Mr Mf MT = if dt A h * dt B (h - 1) = (0 : Int64) then some ((-1000002 : Int32).toInt64, upd Mf 1 (Mf 1 + 1), T4) else (f_X7_part (dt B h * dt A (h - 1)) (dt A h * dt B (h - 1)) x2).bind fun q => some (q, Mf, T4) := by
        unfold f_X7_step
        simp only [in16, m_isPart, Option.bind_some, bI_dec, bI_decn, m_no, gh, gr1, gm, gq, w1, w2, w3, w4, f1, f2, f3, f4, P1, P2, P3, Q1, Q3, Q4, gz, not_false_eq_true, not_true_eq_false, reduceIte]
      by_cases D : dt A h * dt B (h - 1) = (0 : Int64)
      · exact ⟨_, _, by rw [xx, if_pos D], by rw [mx, if_pos D], rfl, rel_no hrel0⟩
      · obtain ⟨v, v1, v2⟩ := part_eq (dt B h * dt A (h - 1)) (dt A h * dt B (h - 1)) x2 D
        exact ⟨_, _, by rw [xx, if_neg D, v1, Option.bind_some], by rw [mx, if_neg D, v2, Option.bind_some], rfl, hrel0⟩
    · have xx : f_X6_step (nI m) x2 kb kn kf (nI K) rf mc mm nc nm = some ((-1000002 : Int32).toInt64, kb, kn + 1, kf, mc, mm, nc, nm) := by
        unfold f_X6_step
        simp only [x_out, Option.bind_some, bI_dec, x_no, gh, gr1, gm, u1, P1, P2, P3, gz, not_false_eq_true, not_true_eq_false, reduceIte]
      have mx : f_X7_step (nI m) x2 Mr Mf MT = some ((-1000002 : Int32).toInt64, upd Mf 1 (Mf 1 + 1), MT) := by
        unfold f_X7_step
        simp only [in16, m_isPart, Option.bind_some, bI_dec, bI_decn, m_no, gh, gr1, gm, gq, w1, w2, P1, P2, P3, gz, not_false_eq_true, not_true_eq_false, reduceIte, ite_self]
      exact ⟨_, _, xx, mx, rfl, rel_no hrel0⟩
  · have gr1 : ¬ nI m - nI m / (2 : Int32) * (2 : Int32) = (1 : Int32) := by rw [gr, k1, nI_eq (by omega) (by omega)]; exact hodd
    by_cases P4 : h + 1 = 0 ∨ 0 + 2 * (h + 1 - 1) < K
    · have P3 : h = 0 ∨ 1 + 2 * (h - 1) < K := by omega
      have Q1 : h = 0 ∨ 0 + 2 * (h - 1) < K := by omega
      have Q3 : h - 1 = 0 ∨ 1 + 2 * (h - 1 - 1) < K := by omega
      have Q4 : h - 1 = 0 ∨ 0 + 2 * (h - 1 - 1) < K := by omega
      obtain ⟨T1, f1⟩ := md0 (h + 1) (by omega) (by omega) MT
      obtain ⟨T2, f2⟩ := md1 (h - 1) (by omega) (by omega) T1
      obtain ⟨T3, f3⟩ := md0 h (by omega) (by omega) T2
      obtain ⟨T4, f4⟩ := md1 h (by omega) P3 T3
      have xx : f_X6_step (nI m) x2 kb kn kf (nI K) rf mc mm nc nm = if dt A h * dt B h = (0 : Int64) then some ((-1000002 : Int32).toInt64, kb, kn + 1, kf, nI K, M, nI K, N) else (f_X6_part (dt A (h + 1) * dt B (h - 1)) (dt A h * dt B h) x2).bind fun q => some (q, kb, kn, kf, nI K, M, nI K, N) := by
        unfold f_X6_step
        simp only [x_out, Option.bind_some, bI_dec, x_no, gh, gr1, gm, gp, u1, u2, e1, e3, d1, d2, d3, d4, d5, P1, P2, P3, P4, gz, not_false_eq_true, not_true_eq_false, reduceIte]
      have mx : f_X7_step (nI m) x2 Mr Mf MT = if dt A h * dt B h = (0 : Int64) then some ((-1000002 : Int32).toInt64, upd Mf 1 (Mf 1 + 1), T4) else (f_X7_part (dt A (h + 1) * dt B (h - 1)) (dt A h * dt B h) x2).bind fun q => some (q, Mf, T4) := by
        unfold f_X7_step
        simp only [in16, m_isPart, Option.bind_some, bI_dec, bI_decn, m_no, gh, gr1, gm, gp, w1, w2, w3, w4, w5, f1, f2, f3, f4, P1, P2, P3, P4, Q1, Q3, Q4, gz, not_false_eq_true, not_true_eq_false, reduceIte]
      by_cases D : dt A h * dt B h = (0 : Int64)
      · exact ⟨_, _, by rw [xx, if_pos D], by rw [mx, if_pos D], rfl, rel_no hrel0⟩
      · obtain ⟨v, v1, v2⟩ := part_eq (dt A (h + 1) * dt B (h - 1)) (dt A h * dt B h) x2 D
        exact ⟨_, _, by rw [xx, if_neg D, v1, Option.bind_some], by rw [mx, if_neg D, v2, Option.bind_some], rfl, hrel0⟩
    · have xx : f_X6_step (nI m) x2 kb kn kf (nI K) rf mc mm nc nm = some ((-1000002 : Int32).toInt64, kb, kn + 1, kf, mc, mm, nc, nm) := by
        unfold f_X6_step
        simp only [x_out, Option.bind_some, bI_dec, x_no, gh, gr1, gm, gp, u1, u2, P1, P2, P4, gz, not_false_eq_true, not_true_eq_false, reduceIte, ite_self]
      have mx : f_X7_step (nI m) x2 Mr Mf MT = some ((-1000002 : Int32).toInt64, upd Mf 1 (Mf 1 + 1), MT) := by
        unfold f_X7_step
        simp only [in16, m_isPart, Option.bind_some, bI_dec, bI_decn, m_no, gh, gr1, gm, gp, w5, P1, P2, P4, gz, not_false_eq_true, not_true_eq_false, reduceIte]
      exact ⟨_, _, xx, mx, rfl, rel_no hrel0⟩
