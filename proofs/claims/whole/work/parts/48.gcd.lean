/-! the common divisor: class and reference alike -/
theorem rem_i (x y : Int64) : x - x / y * y = Int64.ofInt (x.toInt.tmod y.toInt) := by
  have e : x / y = Int64.ofInt (x.toInt.tdiv y.toInt) := by
    apply Int64.toInt_inj.mp; rw [Int64.toInt_div, Int64.toInt_ofInt]
  have h := Int.mul_tdiv_add_tmod x.toInt y.toInt
  have e2 : x.toInt.tmod y.toInt = x.toInt - y.toInt * x.toInt.tdiv y.toInt := by omega
  rw [e2, Int64.ofInt_sub, Int64.ofInt_mul, Int64.ofInt_toInt, Int64.ofInt_toInt, e, Int64.mul_comm]
theorem rem_t {x y : Int64} (h : y ≠ 0) : (x - x / y * y).toInt = x.toInt.tmod y.toInt := by
  rw [rem_i]
  have h0 : y.toInt ≠ 0 := fun q => h (Int64.toInt_inj.mp q)
  have h1 : (x.toInt.tmod y.toInt).natAbs < y.toInt.natAbs := by rw [Int.natAbs_tmod]; exact Nat.mod_lt _ (by omega)
  have h2 := y.le_toInt; have h3 := y.toInt_lt
  rw [Int64.toInt_ofInt_of_le (by omega) (by omega)]
theorem abs_tmod (a b : Int) : (a.tmod b).natAbs = a.natAbs % b.natAbs := Int.natAbs_tmod a b
theorem gcd_st : ∀ (m : Nat) (x y : Int64) (t fu1 fu2 : Nat), y.toInt.natAbs < 2 ^ m → t + 2 * m ≤ 130 → 2 * m < fu1 → 2 * m < fu2 → (x ≠ 0 ∨ y ≠ 0) → ∃ g, f_X6_commonDivisor_L9 fu1 x y (nI t) = some g ∧ f_X7_common_L28 fu2 x y = some g ∧ g ≠ 0 := by
  have zero : ∀ (x : Int64) (t fu1 fu2 : Nat), 0 < fu1 → 0 < fu2 → (x ≠ 0 ∨ (0 : Int64) ≠ 0) → ∃ g, f_X6_commonDivisor_L9 fu1 x 0 (nI t) = some g ∧ f_X7_common_L28 fu2 x 0 = some g ∧ g ≠ 0 := by
    intro x t fu1 fu2 h1 h2 h3
    obtain ⟨f1, rfl⟩ : ∃ f, fu1 = f + 1 := ⟨fu1 - 1, by omega⟩
    obtain ⟨f2, rfl⟩ : ∃ f, fu2 = f + 1 := ⟨fu2 - 1, by omega⟩
    refine ⟨x, ?_, ?_, h3.elim id (fun q => absurd rfl q)⟩
    · rw [f_X6_commonDivisor_L9, if_pos rfl, ite_self]
    · rw [f_X7_common_L28, if_pos rfl]
  intro m
  induction m with
  | zero =>
    intro x y t fu1 fu2 hy ht h1 h2 h3
    have : y = 0 := by
      apply Int64.toInt_inj.mp
      have : y.toInt.natAbs = 0 := by omega
      rw [Int64.toInt_zero]; omega
    subst this
    exact zero x t fu1 fu2 (by omega) (by omega) h3
  | succ m ih =>
    intro x y t fu1 fu2 hy ht h1 h2 h3
    by_cases hy0 : y = 0
    · subst hy0; exact zero x t fu1 fu2 (by omega) (by omega) h3
    · obtain ⟨f1, rfl⟩ : ∃ f, fu1 = f + 2 := ⟨fu1 - 2, by omega⟩
      obtain ⟨f2, rfl⟩ : ∃ f, fu2 = f + 2 := ⟨fu2 - 2, by omega⟩
      rw [f_X6_commonDivisor_L9, f_X7_common_L28, k130, if_neg (nI_ge (by omega : t < 130) (by omega)), if_neg hy0, if_neg hy0, if_neg hy0, if_neg hy0, k1, nI_add]
      have hr := rem_t (x := x) hy0
      generalize x - x / y * y = r at *
      by_cases hr0 : r = 0
      · subst hr0; exact zero y (t + 1) (f1 + 1) (f2 + 1) (by omega) (by omega) (Or.inl hy0)
      · rw [f_X6_commonDivisor_L9, f_X7_common_L28, k130, if_neg (nI_ge (by omega : t + 1 < 130) (by omega)), if_neg hr0, if_neg hr0, if_neg hr0, if_neg hr0, k1, nI_add]
        have hs := rem_t (x := y) hr0
        generalize y - y / r * r = s at *
        apply ih r s (t + 1 + 1) f1 f2 _ (by omega) (by omega) (by omega) (Or.inl hr0)
        have hr1 : r.toInt.natAbs ≠ 0 := fun q => hr0 (Int64.toInt_inj.mp (by rw [Int64.toInt_zero]; omega))
        have hy1 : y.toInt.natAbs ≠ 0 := fun q => hy0 (Int64.toInt_inj.mp (by rw [Int64.toInt_zero]; omega))
        have e1 : r.toInt.natAbs < y.toInt.natAbs := by
          rw [hr, abs_tmod]; exact Nat.mod_lt _ (by omega)
        have e2 : s.toInt.natAbs = y.toInt.natAbs % r.toInt.natAbs := by rw [hs, abs_tmod]
        have e3 : s.toInt.natAbs < r.toInt.natAbs := by rw [e2]; exact Nat.mod_lt _ (by omega)
        have e4 := Nat.div_add_mod y.toInt.natAbs r.toInt.natAbs
        have e5 : 1 ≤ y.toInt.natAbs / r.toInt.natAbs := (Nat.one_le_div_iff (by omega)).mpr (by omega)
        have e6 : r.toInt.natAbs ≤ r.toInt.natAbs * (y.toInt.natAbs / r.toInt.natAbs) := Nat.le_mul_of_pos_right _ (by omega)
        rw [Nat.pow_succ] at hy
        omega
theorem abs_nat (x : Int64) : x.toInt.natAbs < 2 ^ 64 := by
  have h1 := x.le_toInt; have h2 := x.toInt_lt
  omega
theorem neg_ne0 {x : Int64} (h : x ≠ 0) : -x ≠ 0 := fun q => h (by have := Int64.neg_neg (a := x); rw [q] at this; rw [← this]; rfl)
theorem absC (x : Int64) : (if (0 : Int64) < x then x else -x) = if (0 : Int64) ≤ x then x else -x := by
  by_cases h : x = 0
  · subst h; rfl
  · by_cases h1 : (0 : Int64) < x
    · rw [if_pos h1, if_pos (Int64.le_of_lt h1)]
    · rw [if_neg h1, if_neg (fun q => h1 (Int64.lt_of_le_of_ne q (fun q => h q.symm)))]
theorem part_eq (x0 x2 : Int64) (w : Int32) (h : x2 ≠ 0) : ∃ v, f_X6_part x0 x2 w = some v ∧ f_X7_part x0 x2 w = some v := by
  have hb : (if (0 : Int64) ≤ x2 then x2 else -x2) ≠ 0 := by
    by_cases q : (0 : Int64) ≤ x2
    · rw [if_pos q]; exact h
    · rw [if_neg q]; exact neg_ne0 h
  obtain ⟨g, h1, h2, h3⟩ := gcd_st 64 (if (0 : Int64) ≤ x0 then x0 else -x0) (if (0 : Int64) ≤ x2 then x2 else -x2) 0 200 200 (abs_nat _) (by omega) (by omega) (by omega) (Or.inr hb)
  have hc : f_X7_common x0 x2 = some g := by
    unfold f_X7_common
    by_cases q0 : (0 : Int64) ≤ x0
    · by_cases q2 : (0 : Int64) ≤ x2
      · rw [if_pos q0, if_pos q2] at h2; rw [if_pos q0, if_pos q2, h2]; rfl
      · rw [if_pos q0, if_neg q2] at h2; rw [if_pos q0, if_neg q2, h2]; rfl
    · by_cases q2 : (0 : Int64) ≤ x2
      · rw [if_neg q0, if_pos q2] at h2; rw [if_neg q0, if_pos q2, h2]; rfl
      · rw [if_neg q0, if_neg q2] at h2; rw [if_neg q0, if_neg q2, h2]; rfl
  unfold f_X6_part f_X7_part f_X6_commonDivisor
  rw [absC, absC, k0, h1, Option.bind_some, Option.bind_some, hc, Option.bind_some]
  simp only [if_neg h3, if_neg (neg_ne0 h3)]
  by_cases q2 : (0 : Int64) ≤ x2
  · rw [if_pos q2]
    by_cases q4 : w = nI 0
    · rw [if_pos q4]; exact ⟨_, rfl, rfl⟩
    · rw [if_neg q4]; exact ⟨_, rfl, rfl⟩
  · rw [if_neg q2]
    by_cases q4 : w = nI 0
    · rw [if_pos q4]; exact ⟨_, rfl, rfl⟩
    · rw [if_neg q4]; exact ⟨_, rfl, rfl⟩
