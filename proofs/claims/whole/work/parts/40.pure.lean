/-! pure facts: numbers, rows, states -/
theorem lit_nI (n : Nat) : (OfNat.ofNat n : Int32) = nI n := rfl
theorem k0 : (0 : Int32) = nI 0 := by decide
theorem k1 : (1 : Int32) = nI 1 := by decide
theorem k2 : (2 : Int32) = nI 2 := by decide
theorem k3 : (3 : Int32) = nI 3 := by decide
theorem k4 : (4 : Int32) = nI 4 := by decide
theorem k5 : (5 : Int32) = nI 5 := by decide
theorem k6 : (6 : Int32) = nI 6 := by decide
theorem k7 : (7 : Int32) = nI 7 := by decide
theorem k8 : (8 : Int32) = nI 8 := by decide
theorem k9 : (9 : Int32) = nI 9 := by decide
theorem k10 : (10 : Int32) = nI 10 := by decide
theorem k16 : (16 : Int32) = nI 16 := by decide
theorem k20 : (20 : Int32) = nI 20 := by decide
theorem k40 : (40 : Int32) = nI 40 := by decide
theorem k48 : (48 : Int32) = nI 48 := by decide
theorem k50 : (50 : Int32) = nI 50 := by decide
theorem k51 : (51 : Int32) = nI 51 := by decide
theorem k99 : (99 : Int32) = nI 99 := by decide
theorem k100 : (100 : Int32) = nI 100 := by decide
theorem k127 : (127 : Int32) = nI 127 := by decide
theorem k130 : (130 : Int32) = nI 130 := by decide
theorem bI_t : bI true = 1 := rfl
theorem bI_f : bI false = 0 := rfl
theorem nI_lt0 {n : Nat} (h : n < 2 ^ 31) : ¬ nI n < 0 := nI_pos h
theorem guard {n N : Nat} (h : n < N) (hN : N < 2 ^ 31) : ¬ (nI n < 0 ∨ N ≤ (nI n).toNatClampNeg) := nI_in h hN
theorem gif {α : Type} {n N : Nat} {x : Option α} (h : n < N) (hN : N < 2 ^ 31) : (if nI n < 0 ∨ N ≤ (nI n).toNatClampNeg then none else x) = x := if_neg (nI_in h hN)
theorem gif0 {α : Type} {n N : Nat} {x : Option α} (h : n < N) (hN : N < 2 ^ 31) : (if nI n < nI 0 ∨ N ≤ (nI n).toNatClampNeg then none else x) = x := if_neg (nI_in h hN)
theorem gif1 {α : Type} {n N : Nat} {x : Option α} (h : n < N) (hN : N < 2 ^ 31) : (if nI n < nI 0 ∨ N ≤ n then none else x) = x := if_neg (fun q => q.elim (nI_pos (by omega)) (fun q => by omega))
theorem nI_cl {n : Nat} (h : n < 2 ^ 31) : (nI n).toNatClampNeg = n := nI_clamp h
theorem x_out (x a b : Int32) : f_X6_isOutside x a b = some (decide (x < a ∨ b < x)) := by
  unfold f_X6_isOutside
  by_cases h : x < a
  · rw [if_pos h]; simp [h]
  · rw [if_neg h]
    by_cases h2 : x ≤ b
    · rw [if_pos h2]
      have : ¬ b < x := by rw [Int32.lt_iff_toInt_lt]; rw [Int32.le_iff_toInt_le] at h2; omega
      simp [h, this]
    · rw [if_neg h2]
      have : b < x := by rw [Int32.lt_iff_toInt_lt]; rw [Int32.le_iff_toInt_le] at h2; omega
      simp [h, this]
theorem m_in (x a b : Int64) : f_X7_in x a b = some (decide (¬ (x < a ∨ b < x))) := by
  unfold f_X7_in
  by_cases h : x < a
  · rw [if_pos h]; simp [h]
  · rw [if_neg h]
    by_cases h2 : b < x
    · rw [if_pos h2]; simp [h2]
    · rw [if_neg h2]; simp [h, h2]
theorem i64_lt (a b : Int32) : a.toInt64 < b.toInt64 ↔ a < b := by
  rw [Int64.lt_iff_toInt_lt, Int32.lt_iff_toInt_lt, Int32.toInt_toInt64, Int32.toInt_toInt64]
/-- both sides' test of a number against bounds -/
theorem m_in32 (x a b : Int32) : f_X7_in x.toInt64 a.toInt64 b.toInt64 = some (decide (¬ (x < a ∨ b < x))) := by
  rw [m_in]; congr 2; rw [i64_lt, i64_lt]
theorem bI_dec (P : Prop) [Decidable P] : (bI (decide P) = 0) = ¬ P := by
  by_cases h : P <;> simp [h, bI]
theorem bI_decn (P : Prop) [Decidable P] : (bI (decide (¬ P)) = 0) = P := by
  by_cases h : P <;> simp [h, bI]
theorem upd_s (f : Nat → Int32) (k : Nat) (x : Int32) : upd f k x k = x := pk_us
theorem upd_n {f : Nat → Int32} {k j : Nat} {x : Int32} (h : j ≠ k) : upd f k x j = f j := pk_un h
theorem updL_s (f : Nat → Int64) (k : Nat) (x : Int64) : vp_updL f k x k = x := pk_uLs
theorem updL_n {f : Nat → Int64} {k j : Nat} {x : Int64} (h : j ≠ k) : vp_updL f k x j = f j := pk_uLn h
/-- refusals on both sides -/
theorem m_bad (Mf : Nat → Int32) : f_X7_bad Mf = some ((-1000001 : Int32), upd Mf 0 (Mf 0 + 1)) := rfl
theorem m_no (Mf : Nat → Int32) : f_X7_no Mf = some ((-1000002 : Int32), upd Mf 1 (Mf 1 + 1)) := rfl
theorem m_full (Mf : Nat → Int32) : f_X7_full Mf = some ((-1000003 : Int32), upd Mf 2 (Mf 2 + 1)) := rfl
theorem x_bad (kb kn kf : Int32) : f_X6_refuse (-1000001) kb kn kf = some (-1000001, kb + 1, kn, kf) := rfl
theorem x_no (kb kn kf : Int32) : f_X6_refuse (-1000002) kb kn kf = some (-1000002, kb, kn + 1, kf) := rfl
theorem x_full (kb kn kf : Int32) : f_X6_refuse (-1000003) kb kn kf = some (-1000003, kb, kn, kf + 1) := rfl
theorem rel_bad {kb kn kf rK : Int32} {rf : Nat → Int32} {vo vd : Int32} {vs : Nat → Int32} {tl : Int32} {tb : Nat → Int32} {Ms Mb : Int32} {Mr Mp Mf Mt : Nat → Int32} (h : Rel kb kn kf rK rf vo vd vs tl tb Ms Mb Mr Mp Mf Mt) : Rel (kb + 1) kn kf rK rf vo vd vs tl tb Ms Mb Mr Mp (upd Mf 0 (Mf 0 + 1)) Mt := by
  obtain ⟨h1, ⟨h2, h3, h4⟩, h5, h6⟩ := h
  exact ⟨h1, ⟨by rw [upd_s, h2], by rw [upd_n (by omega), h3], by rw [upd_n (by omega), h4]⟩, h5, h6⟩
theorem rel_no {kb kn kf rK : Int32} {rf : Nat → Int32} {vo vd : Int32} {vs : Nat → Int32} {tl : Int32} {tb : Nat → Int32} {Ms Mb : Int32} {Mr Mp Mf Mt : Nat → Int32} (h : Rel kb kn kf rK rf vo vd vs tl tb Ms Mb Mr Mp Mf Mt) : Rel kb (kn + 1) kf rK rf vo vd vs tl tb Ms Mb Mr Mp (upd Mf 1 (Mf 1 + 1)) Mt := by
  obtain ⟨h1, ⟨h2, h3, h4⟩, h5, h6⟩ := h
  exact ⟨h1, ⟨by rw [upd_n (by omega), h2], by rw [upd_s, h3], by rw [upd_n (by omega), h4]⟩, h5, h6⟩
theorem rel_full {kb kn kf rK : Int32} {rf : Nat → Int32} {vo vd : Int32} {vs : Nat → Int32} {tl : Int32} {tb : Nat → Int32} {Ms Mb : Int32} {Mr Mp Mf Mt : Nat → Int32} (h : Rel kb kn kf rK rf vo vd vs tl tb Ms Mb Mr Mp Mf Mt) : Rel kb kn (kf + 1) rK rf vo vd vs tl tb Ms Mb Mr Mp (upd Mf 2 (Mf 2 + 1)) Mt := by
  obtain ⟨h1, ⟨h2, h3, h4⟩, h5, h6⟩ := h
  exact ⟨h1, ⟨by rw [upd_n (by omega), h2], by rw [upd_n (by omega), h3], by rw [upd_s, h4]⟩, h5, h6⟩
/-- the row's moments as the class gives them -/
theorem x_at {K : Nat} {a : Nat → Int32} {rf : Nat → Int32} (h : okRow K a) (hf : ∀ j, j < K → rf j = a j) {j : Nat} (hj : j < 2 ^ 31) : f_X3_at (nI j) (nI K) rf = some (a j) := by
  obtain ⟨h1, h2, h3, h4⟩ := h
  unfold f_X3_at
  simp only [k0, k7]
  rw [if_neg (show ¬ nI j < nI 0 from nI_pos hj)]
  by_cases hk : K ≤ j
  · rw [if_pos (nI_le hk hj), h4 j hk, k0]
  · have hjk : j < K := by omega
    rw [if_neg (nI_ge hjk (by omega)), if_pos (nI_lt (by omega : j < 7) (by omega)), gif0 (by omega) (by omega), nI_cl hj, hf j hjk]
theorem x_at_neg {x rK : Int32} {rf : Nat → Int32} (h : x < 0) : f_X3_at x rK rf = some 0 := by
  unfold f_X3_at; rw [if_pos h]
theorem x_copyL {K : Nat} {a : Nat → Int32} {rf : Nat → Int32} (h : okRow K a) (hf : ∀ j, j < K → rf j = a j) : ∀ (n j : Nat) (f : Nat → Int32), j ≤ 7 → 7 - j < n → ∃ g, f_X3_copy_L2 n (nI j) f (nI K) rf = some g ∧ ∀ i, g i = if j ≤ i ∧ i < 7 then a i else f i := by
  intro n
  induction n with
  | zero => intro j f _ hm; omega
  | succ n ih =>
    intro j f hj hm
    rw [f_X3_copy_L2]
    simp only [k0, k1, k7]
    by_cases h7 : j = 7
    · subst h7
      rw [if_pos (nI_le (by omega) (by omega))]
      exact ⟨f, rfl, fun i => by rw [if_neg (by omega)]⟩
    · rw [if_neg (nI_ge (by omega : j < 7) (by omega)), x_at h hf (by omega), Option.bind_some, gif0 (by omega) (by omega), nI_cl (by omega), nI_add]
      obtain ⟨g, h1, h2⟩ := ih (j + 1) (upd f j (a j)) (by omega) (by omega)
      refine ⟨g, h1, fun i => ?_⟩
      rw [h2 i]
      by_cases hi : i = j
      · subst hi; rw [if_neg (by omega), upd_s, if_pos (by omega)]
      · by_cases hi2 : j ≤ i ∧ i < 7
        · rw [if_pos (by omega), if_pos hi2]
        · rw [if_neg (by omega), if_neg hi2, upd_n hi]
theorem x_copy {K : Nat} {a : Nat → Int32} {rf : Nat → Int32} (h : okRow K a) (hf : ∀ j, j < K → rf j = a j) (f : Nat → Int32) : ∃ g, f_X3_copy f (nI K) rf = some (nI K, g) ∧ ∀ i, i < 7 → g i = a i := by
  obtain ⟨g, h1, h2⟩ := x_copyL h hf 200 0 f (by omega) (by omega)
  refine ⟨g, ?_, fun i hi => by rw [h2 i, if_pos (by omega)]⟩
  unfold f_X3_copy
  rw [show (0 : Int32) = nI 0 from rfl, h1]
  rfl
theorem x_saveL {K : Nat} {a : Nat → Int32} {rf : Nat → Int32} (h : okRow K a) (hf : ∀ j, j < K → rf j = a j) {p : Nat} (hp : p ≤ 40) : ∀ (n j : Nat) (f : Nat → Int32), j ≤ 7 → 7 - j < n → ∃ g, f_X3_save_L25 n (nI p) (nI j) (nI K) rf f = some g ∧ ∀ i, g i = if p + 1 + j ≤ i ∧ i < p + 8 then a (i - (p + 1)) else f i := by
  intro n
  induction n with
  | zero => intro j f _ hm; omega
  | succ n ih =>
    intro j f hj hm
    rw [f_X3_save_L25]
    simp only [k0, k1, k7]
    by_cases h7 : j = 7
    · subst h7
      rw [if_pos (nI_le (by omega) (by omega))]
      exact ⟨f, rfl, fun i => by rw [if_neg (by omega)]⟩
    · rw [if_neg (nI_ge (by omega : j < 7) (by omega)), x_at h hf (by omega), Option.bind_some, nI_add, nI_add, nI_add, gif0 (by omega) (by omega), nI_cl (by omega)]
      obtain ⟨g, h1, h2⟩ := ih (j + 1) (upd f (p + 1 + j) (a j)) (by omega) (by omega)
      refine ⟨g, h1, fun i => ?_⟩
      rw [h2 i]
      by_cases hi : i = p + 1 + j
      · subst hi; rw [if_neg (by omega), upd_s, if_pos (by omega), show p + 1 + j - (p + 1) = j by omega]
      · by_cases hi2 : p + 1 + j ≤ i ∧ i < p + 8
        · rw [if_pos (by omega), if_pos hi2]
        · rw [if_neg (by omega), if_neg hi2, upd_n hi]
theorem x_save {K : Nat} {a : Nat → Int32} {rf : Nat → Int32} (h : okRow K a) (hf : ∀ j, j < K → rf j = a j) {p : Nat} (hp : p ≤ 40) (f : Nat → Int32) : ∃ g, f_X3_save (nI p) (nI K) rf f = some g ∧ ∀ i, g i = if i = p then nI K else if p + 1 ≤ i ∧ i < p + 8 then a (i - (p + 1)) else f i := by
  obtain ⟨g, h1, h2⟩ := x_saveL h hf hp 200 0 (upd f p (nI K)) (by omega) (by omega)
  refine ⟨g, ?_, fun i => ?_⟩
  · unfold f_X3_save
    rw [if_neg (nI_pos (by omega)), show (((48 : Int32) - (1 : Int32)) - (7 : Int32)) = nI 40 from rfl, if_pos (nI_le hp (by omega)), gif (by omega) (by omega), nI_cl (by omega), show (0 : Int32) = nI 0 from rfl, h1]
    rfl
  · rw [h2 i]
    by_cases hi : i = p
    · subst hi; rw [if_neg (by omega), upd_s, if_pos rfl]
    · rw [if_neg hi, upd_n hi]
