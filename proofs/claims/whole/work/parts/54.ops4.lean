theorem x_findZ {K : Nat} {a rf : Nat → Int32} (hk : okRow K a) (hf : ∀ j, j < K → rf j = a j) {n : Nat} (hn : n ≤ 3) (mm : Nat → Int64) : ∃ M, f_X6_findZeros (nI n) (nI K) rf mm = some (hasZ K (fun t => (a t).toInt64) n, nI K, M) ∧ MMs (fun t => (a t).toInt64) M := by
  obtain ⟨M, h1, h2⟩ := x_findP hk hf (n := n) (by omega) mm
  refine ⟨M, ?_, h2⟩
  unfold f_X6_findZeros hasZ
  rw [h1, Option.bind_some]
  dsimp only
  cases h : hasP K (fun t => (a t).toInt64) n with
  | false => rw [if_pos bI_fe]; rfl
  | true => rw [if_neg bI_tne, k1, x_fzL h2 hn (nI K) n 200 1 (by omega) (by omega)]; rfl
theorem m_posN {K : Nat} {a Mr : Nat → Int32} (hk : okRow K a) (hm : ∀ j, j < 7 → Mr j = a j) (hm7 : Mr 7 = nI K) {n : Nat} (hn : n ≤ 3) (T : Nat → Int64) : ∃ T', f_X7_isPositive (nI n) Mr T = some (hasZ K (fun t => (a t).toInt64) n, T') := by
  obtain ⟨T1, e1⟩ := m_isPoly hk hm hm7 (n := n) (by omega) T
  unfold f_X7_isPositive hasZ
  rw [e1, Option.bind_some]
  dsimp only
  cases h : hasP K (fun t => (a t).toInt64) n with
  | false =>
    rw [f_X7_isPositive_L8]
    by_cases z : nI n ≤ (0 : Int32)
    · rw [if_pos z]; exact ⟨T1, rfl⟩
    · rw [if_neg z, if_pos bI_fe]; exact ⟨T1, rfl⟩
  | true =>
    have hK : 2 * n ≤ K := by
      rcases of_decide_eq_true h with rfl | h
      · omega
      · exact h.1
    obtain ⟨T', e2⟩ := m_posL hk hm hn hK n 200 0 T1 (by omega) (by omega)
    rw [k0, e2]
    exact ⟨T', rfl⟩
theorem hasZ_K {K : Nat} {A : Nat → Int64} {n : Nat} (h : hasZ K A n = true) : 2 * n ≤ K := by
  unfold hasZ at h
  have h1 : hasP K A n = true := by
    cases q : hasP K A n with
    | false => rw [q] at h; exact absurd h (by simp)
    | true => rfl
  rcases of_decide_eq_true h1 with rfl | h
  · omega
  · exact h.1
theorem mid_lo (lo : Int32) {w : Nat} (hw : w < 2 ^ 31) : lo + (lo + nI w - lo) / (2 : Int32) = lo + nI (w / 2) := by
  rw [show lo + nI w - lo = nI w from by grind, k2, pk_div hw (by omega) (by omega)]
theorem enc_st {K : Nat} {a Mr : Nat → Int32} (hk : okRow K a) (hm : ∀ j, j < 7 → Mr j = a j) {M : Nat → Int64} (h : MMs (fun t => (a t).toInt64) M) {n : Nat} (hn : n ≤ 3) (hK : 2 * n ≤ K) (x2 x3 : Int32) : ∀ (m fu1 fu2 w t : Nat) (lo : Int32) (MB : Int64) (T P : Nat → Int64), w ≤ 2 ^ m → m ≤ 16 → t + m ≤ 16 → m < fu1 → m < fu2 → ∃ r MB' T' P', f_X6_enclose_L48 fu1 (nI n) x2 x3 lo (lo + nI w) (nI t) M = some r ∧ f_X7_zero_L94 fu2 (nI n) x2 x3 lo (lo + nI w) MB Mr T P = some (r, MB', T', P') := by
  intro m
  induction m with
  | zero =>
    intro fu1 fu2 w t lo MB T P hw hm16 ht h1 h2
    obtain ⟨f1, rfl⟩ : ∃ f, fu1 = f + 1 := ⟨fu1 - 1, by omega⟩
    obtain ⟨f2, rfl⟩ : ∃ f, fu2 = f + 1 := ⟨fu2 - 1, by omega⟩
    have e : lo + nI w - lo ≤ (1 : Int32) := by
      rw [show lo + nI w - lo = nI w from by grind, k1]; exact nI_le (by omega) (by omega)
    refine ⟨lo, MB, T, P, ?_, ?_⟩
    · rw [f_X6_enclose_L48, if_pos e, ite_self]
    · rw [f_X7_zero_L94, if_pos e]
  | succ m ih =>
    intro fu1 fu2 w t lo MB T P hw hm16 ht h1 h2
    have h216 : 2 ^ (m + 1) ≤ 2 ^ 16 := Nat.pow_le_pow_right (by omega) hm16
    rw [Nat.pow_succ] at hw
    obtain ⟨f1, rfl⟩ : ∃ f, fu1 = f + 1 := ⟨fu1 - 1, by omega⟩
    obtain ⟨f2, rfl⟩ : ∃ f, fu2 = f + 1 := ⟨fu2 - 1, by omega⟩
    have e0 : lo + nI w - lo = nI w := by grind
    by_cases hw1 : w ≤ 1
    · have e : lo + nI w - lo ≤ (1 : Int32) := by
        rw [e0, k1]; exact nI_le (by omega) (by omega)
      refine ⟨lo, MB, T, P, ?_, ?_⟩
      · rw [f_X6_enclose_L48, if_pos e, ite_self]
      · rw [f_X7_zero_L94, if_pos e]
    · have e : ¬ lo + nI w - lo ≤ (1 : Int32) := by
        rw [e0, k1]; exact nI_ge (by omega) (by omega)
      obtain ⟨r, MB1, T1, P1, z1, z2⟩ := zb hk hm h hn hK (lo + nI (w / 2)) x3 MB T P
      have g2 : ¬ ((2 : Int32) = 0) := by decide
      have g16 : ¬ ((16 : Int32) ≤ nI t) := by rw [k16]; exact nI_ge (by omega) (by omega)
      have gt : nI t + (1 : Int32) = nI (t + 1) := by rw [k1, nI_add]
      rw [f_X6_enclose_L48, f_X7_zero_L94, if_neg g16, if_neg e, if_neg e, if_neg g2, if_neg g2, mid_lo lo (by omega), z1, z2, Option.bind_some, Option.bind_some, gt]
      dsimp only
      by_cases q : x2 < r
      · rw [if_pos q, if_pos q]
        exact ih f1 f2 (w / 2) (t + 1) lo MB1 T1 P1 (by omega) (by omega) (by omega) (by omega) (by omega)
      · rw [if_neg q, if_neg q]
        have e5 : lo + nI w = (lo + nI (w / 2)) + nI (w - w / 2) := by
          rw [Int32.add_assoc, nI_add]; congr 2; omega
        rw [e5]
        exact ih f1 f2 (w - w / 2) (t + 1) (lo + nI (w / 2)) MB1 T1 P1 (by omega) (by omega) (by omega) (by omega) (by omega)
theorem tb_99 : ∀ q, q < 10 → (99 : Int32) * nI q = (-99 : Int32) * nI q + nI (198 * q) := by decide +kernel
theorem x_noPt (x y : Int32) : f_X6_isNoPoint x y = some (decide ((x < (-99 : Int32) ∨ (99 : Int32) < x) ∨ (y < (1 : Int32) ∨ (9 : Int32) < y))) := by
  unfold f_X6_isNoPoint
  simp only [x_out, Option.bind_some, bI_dec]
  by_cases h1 : x < (-99 : Int32) ∨ (99 : Int32) < x
  · rw [if_neg (nn h1), decide_eq_true (Or.inl h1)]
  · rw [if_pos h1]
    by_cases h2 : y < (1 : Int32) ∨ (9 : Int32) < y
    · rw [if_neg (nn h2), decide_eq_true (Or.inr h2)]
    · rw [if_pos h2, decide_eq_false (fun q => q.elim h1 h2)]
theorem m_isSpot (x y : Int32) : f_X7_isSpot x y = some (decide (¬ ((x < (-99 : Int32) ∨ (99 : Int32) < x) ∨ (y < (1 : Int32) ∨ (9 : Int32) < y)))) := by
  unfold f_X7_isSpot
  rw [m_inb (a := -99) (b := 99) (by decide) (by decide) x, Option.bind_some, m_inb (a := 1) (b := 9) (by decide) (by decide) y, Option.bind_some]
  simp only [bI_decn]
  by_cases h1 : x < (-99 : Int32) ∨ (99 : Int32) < x
  · rw [if_pos h1, decide_eq_false (nn (Or.inl h1))]
  · rw [if_neg h1]
    by_cases h2 : y < (1 : Int32) ∨ (9 : Int32) < y
    · rw [if_pos h2, decide_eq_false (nn (Or.inr h2))]
    · have h3 : ¬ ((x < (-99 : Int32) ∨ (99 : Int32) < x) ∨ (y < (1 : Int32) ∨ (9 : Int32) < y)) := fun q => q.elim h1 h2
      rw [if_neg h2, decide_eq_true h3]
theorem in13 (x : Int32) : f_X7_in x.toInt64 (1 : Int64) (3 : Int64) = some (decide (¬ (x < (1 : Int32) ∨ (3 : Int32) < x))) := m_inb (by decide) (by decide) x
theorem in14 (x : Int32) : f_X7_in x.toInt64 (1 : Int64) (4 : Int64) = some (decide (¬ (x < (1 : Int32) ∨ (4 : Int32) < x))) := m_inb (by decide) (by decide) x
theorem in19 (x : Int32) : f_X7_in x.toInt64 (1 : Int64) (9 : Int64) = some (decide (¬ (x < (1 : Int32) ∨ (9 : Int32) < x))) := m_inb (by decide) (by decide) x
theorem in20 (x : Int32) : f_X7_in x.toInt64 (-20 : Int64) (20 : Int64) = some (decide (¬ (x < (-20 : Int32) ∨ (20 : Int32) < x))) := m_inb (by decide) (by decide) x
def qmf (A : Nat → Int64) (n : Nat) (x y : Int64) : Nat → Int64 → Int64 → Int64 → Int64
  | 0, s, _, _ => s
  | j + 1, s, u, p => qmf A n x y j (s + (u * x + co A n (j + 1) * p) * pw y j * A j) (u * x + co A n (j + 1) * p) (p * y)
theorem x_qmL {K : Nat} {a rf : Nat → Int32} (hk : okRow K a) (hf : ∀ j, j < K → rf j = a j) {M : Nat → Int64} (h : MMs (fun t => (a t).toInt64) M) {n : Nat} (hn : n ≤ 3) (x2 x3 : Int32) : ∀ (j fu : Nat) (s u p : Int64), j ≤ n → j < fu → f_X0_quotientMean_L12 fu (nI n) x2 x3 s u p (nI j) M (nI K) rf = some (qmf (fun t => (a t).toInt64) n x2.toInt64 x3.toInt64 j s u p) := by
  intro j
  induction j with
  | zero =>
    intro fu s u p hj hfu
    obtain ⟨f, rfl⟩ : ∃ f, fu = f + 1 := ⟨fu - 1, by omega⟩
    rw [f_X0_quotientMean_L12, if_pos (by decide)]
    rfl
  | succ j ih =>
    intro fu s u p hj hfu
    obtain ⟨f, rfl⟩ : ∃ f, fu = f + 1 := ⟨fu - 1, by omega⟩
    rw [f_X0_quotientMean_L12, nI_m1, k1, if_neg (nI_nlt (by omega) (by omega)), x_coef h hn hj, Option.bind_some, pk_sub (by omega), Nat.add_sub_cancel, x_power _ (by omega), Option.bind_some, x_at hk hf (by omega), Option.bind_some, ih f _ _ _ (by omega) (by omega)]
    rfl
theorem x_qm {K : Nat} {a rf : Nat → Int32} (hk : okRow K a) (hf : ∀ j, j < K → rf j = a j) {M : Nat → Int64} (h : MMs (fun t => (a t).toInt64) M) {n : Nat} (hn : n ≤ 3) (x2 x3 : Int32) : f_X0_quotientMean (nI n) x2 x3 M (nI K) rf = some (qmf (fun t => (a t).toInt64) n x2.toInt64 x3.toInt64 n 0 0 1) := by
  unfold f_X0_quotientMean
  rw [x_qmL hk hf h hn x2 x3 n 200 0 0 1 (by omega) (by omega)]
  rfl
def fri (A P : Nat → Int64) (n k : Nat) (x y : Int64) : Nat → Nat → Int64 → Int64
  | 0, _, s => s
  | m + 1, i, s => fri A P n k x y m (i + 1) (s + P k * pw x i * pw y (n - i) * A (k - 1 - i))
def fro (A P : Nat → Int64) (n : Nat) (x y : Int64) : Nat → Nat → Int64 → Int64
  | 0, _, s => s
  | m + 1, k, s => fro A P n x y m (k + 1) (fri A P n k x y k 0 s)
theorem m_fri {a Mr : Nat → Int32} (hm : ∀ j, j < 7 → Mr j = a j) {n k : Nat} (hn : n ≤ 3) (hk1 : 1 ≤ k) (hkn : k ≤ n) (x2 x3 : Int32) (P : Nat → Int64) : ∀ (m fu i : Nat) (s : Int64), i + m = k → m < fu → f_X7_fraction_L108 fu (nI n) x2 x3 s (nI k) (nI i) Mr P = some (fri (fun t => (a t).toInt64) P n k x2.toInt64 x3.toInt64 m i s) := by
  intro m
  induction m with
  | zero =>
    intro fu i s hi hfu
    obtain ⟨f, rfl⟩ : ∃ f, fu = f + 1 := ⟨fu - 1, by omega⟩
    rw [f_X7_fraction_L108, if_pos (nI_le (by omega) (by omega))]
    rfl
  | succ m ih =>
    intro fu i s hi hfu
    obtain ⟨f, rfl⟩ : ∃ f, fu = f + 1 := ⟨fu - 1, by omega⟩
    rw [f_X7_fraction_L108, if_neg (nI_ge (by omega) (by omega)), gif (by omega) (by omega), nI_cl (by omega), m_power _ (by omega), Option.bind_some, pk_sub (by omega), m_power _ (by omega), Option.bind_some, k1, pk_sub (by omega), pk_sub (by omega), gif (by omega) (by omega), nI_cl (by omega), Option.bind_some, nI_add, hm _ (by omega), ih f _ _ (by omega) (by omega)]
    rfl
theorem m_fro {a Mr : Nat → Int32} (hm : ∀ j, j < 7 → Mr j = a j) {n : Nat} (hn : n ≤ 3) (x2 x3 : Int32) (P : Nat → Int64) : ∀ (m fu k : Nat) (s : Int64), k + m = n + 1 → 1 ≤ k → m < fu → f_X7_fraction_L99 fu (nI n) x2 x3 s (nI k) Mr P = some (fro (fun t => (a t).toInt64) P n x2.toInt64 x3.toInt64 m k s) := by
  intro m
  induction m with
  | zero =>
    intro fu i s hi h1 hfu
    obtain ⟨f, rfl⟩ : ∃ f, fu = f + 1 := ⟨fu - 1, by omega⟩
    rw [f_X7_fraction_L99, if_pos (nI_lt (by omega) (by omega))]
    rfl
  | succ m ih =>
    intro fu i s hi h1 hfu
    obtain ⟨f, rfl⟩ : ∃ f, fu = f + 1 := ⟨fu - 1, by omega⟩
    rw [f_X7_fraction_L99, if_neg (nI_nlt (by omega) (by omega)), k0, m_fri hm hn h1 (by omega) x2 x3 P i 200 0 s (by omega) (by omega), Option.bind_some, k1, nI_add, ih f _ _ (by omega) (by omega) (by omega)]
    rfl
theorem fr_eq {A P : Nat → Int64} {n : Nat} (hn1 : 1 ≤ n) (hn : n ≤ 3) (hP : ∀ c, c ≤ n → P c = co A n c) (x y : Int64) : fro A P n x y n 1 0 = y * qmf A n x y n 0 0 1 := by
  rcases (by omega : n = 1 ∨ n = 2 ∨ n = 3) with rfl | rfl | rfl
  · simp only [fro, fri, qmf, pw, Nat.sub_self, Nat.sub_zero, pw0, hP 1 (by omega)]
    generalize co A 1 1 = c1
    generalize A 0 = a0
    grind
  · simp only [fro, fri, qmf, pw, Nat.sub_self, Nat.sub_zero, pw0, hP 1 (by omega), hP 2 (by omega)]
    generalize co A 2 1 = c1
    generalize co A 2 2 = c2
    generalize A 0 = a0
    generalize A 1 = a1
    grind
  · simp only [fro, fri, qmf, pw, Nat.sub_self, Nat.sub_zero, pw0, hP 1 (by omega), hP 2 (by omega), hP 3 (by omega)]
    generalize co A 3 1 = c1
    generalize co A 3 2 = c2
    generalize co A 3 3 = c3
    generalize A 0 = a0
    generalize A 1 = a1
    generalize A 2 = a2
    grind
set_option maxHeartbeats 4000000 in
set_option maxRecDepth 100000 in
theorem op_value (x1 : Int32) (x2 : Int32) (x3 : Int32) (x4 : Int32) (kb : Int32) (kn : Int32) (kf : Int32) (rK : Int32) (rf : Nat → Int32) (vo : Int32) (vd : Int32) (vs : Nat → Int32) (tl : Int32) (tb : Nat → Int32) (Ms : Int32) (Mb : Int32) (Mr : Nat → Int32) (Mp : Nat → Int32) (Mf : Nat → Int32) (Mt : Nat → Int32) (mc : Int32) (mm : Nat → Int64) (MB : Int64) (MT : Nat → Int64) (MP : Nat → Int64) (hrel : Rel kb kn kf rK rf vo vd vs tl tb Ms Mb Mr Mp Mf Mt) : ∃ rx rm, f_X6_value x1 x2 x3 x4 kb kn kf rK rf mc mm = some rx ∧ f_X7_value x1 x2 x3 x4 MB Mr Mf MT MP = some rm ∧ rx.1 = rm.1 ∧ Rel rx.2.1 rx.2.2.1 rx.2.2.2.1 rK rf vo vd vs tl tb Ms Mb Mr Mp rm.2.2.1 Mt := by
  have hrel0 := hrel
  obtain ⟨⟨K, a, hk, rfl, hf, hm, hm7⟩, hc, hs, ht⟩ := hrel
  have hK7 := hk.2.1
  by_cases P1 : x1 < (0 : Int32) ∨ (3 : Int32) < x1
  · exact ⟨_, _, by unfold f_X6_value; simp only [x_out, Option.bind_some, bI_dec, x_bad]; rw [if_neg (nn P1)], by unfold f_X7_value; simp only [in03, Option.bind_some, bI_decn, m_bad]; rw [if_pos P1], rfl, rel_bad hrel0⟩
  by_cases P2 : (x2 < (-99 : Int32) ∨ (99 : Int32) < x2) ∨ (x3 < (1 : Int32) ∨ (9 : Int32) < x3)
  · exact ⟨_, _, by unfold f_X6_value; simp only [x_out, x_noPt, Option.bind_some, bI_dec, x_bad]; rw [if_pos P1, if_neg (nn P2)], by unfold f_X7_value; simp only [in03, m_isSpot, Option.bind_some, bI_decn, m_bad]; rw [if_neg P1, if_pos P2], rfl, rel_bad hrel0⟩
  by_cases P3 : x4 < (0 : Int32) ∨ (1 : Int32) < x4
  · exact ⟨_, _, by unfold f_X6_value; simp only [x_out, x_noPt, Option.bind_some, bI_dec, x_bad]; rw [if_pos P1, if_pos P2, if_neg (nn P3)], by unfold f_X7_value; simp only [in03, m_isSpot, m_isPart, Option.bind_some, bI_decn, m_bad]; rw [if_neg P1, if_neg P2, if_pos P3], rfl, rel_bad hrel0⟩
  obtain ⟨n, _, hn3, rfl⟩ := inn (a := 0) (b := 3) (by omega) (by omega) P1
  obtain ⟨q, hq1, hq9, rfl⟩ := inn (x := x3) (a := 1) (b := 9) (by omega) (by omega) (fun z => P2 (Or.inr z))
  obtain ⟨M, e1, e2⟩ := x_findP hk hf (n := n) (by omega) mm
  obtain ⟨T1, e3⟩ := m_isPoly hk hm hm7 (n := n) (by omega) MT
  cases h : hasP K (fun t => (a t).toInt64) n with
  | false =>
    rw [h] at e1 e3
    exact ⟨_, _, by unfold f_X6_value; simp only [x_out, x_noPt, Option.bind_some, bI_dec, x_bad, e1, x_no]; rw [if_pos P1, if_pos P2, if_pos P3, if_pos bI_fe], by unfold f_X7_value; simp only [in03, m_isSpot, m_isPart, Option.bind_some, bI_decn, m_bad, e3, m_no]; rw [if_neg P1, if_neg P2, if_neg P3, if_pos bI_fe], rfl, rel_no hrel0⟩
  | true =>
    rw [h] at e1 e3
    obtain ⟨T2, P, e4, e5⟩ := m_makePoly hk hm hn3 (hasP_K h) T1 MP
    obtain ⟨v, v1, v2⟩ := part_eq (ev (fun t => (a t).toInt64) n x2.toInt64 (nI q).toInt64) (dt (fun t => (a t).toInt64) n * pw (nI q).toInt64 n) x4 (dtpw_ne hk hn3 hq1 hq9 (hasP_ne h))
    have xe := x_ev e2 hn3 x2 (nI q)
    have me := m_ev hn3 e5 x2 (nI q)
    have xd := x_det e2 (n := n) (by omega)
    have xp := x_power (nI q).toInt64 (n := n) (by omega)
    have mp := m_power (nI q).toInt64 (n := n) (by omega)
    exact ⟨_, _, by unfold f_X6_value; simp only [x_out, x_noPt, Option.bind_some, bI_dec, x_bad, e1, x_no]; rw [if_pos P1, if_pos P2, if_pos P3, if_neg bI_tne, xe, Option.bind_some, xd, Option.bind_some, xp, Option.bind_some, v1, Option.bind_some], by unfold f_X7_value; simp only [in03, m_isSpot, m_isPart, Option.bind_some, bI_decn, m_bad, e3, m_no, e4, mp, me, v2]; rw [if_neg P1, if_neg P2, if_neg P3, if_neg bI_tne], rfl, hrel0⟩
set_option maxHeartbeats 4000000 in
set_option maxRecDepth 100000 in
theorem op_under (x1 : Int32) (x2 : Int32) (x3 : Int32) (kb : Int32) (kn : Int32) (kf : Int32) (rK : Int32) (rf : Nat → Int32) (vo : Int32) (vd : Int32) (vs : Nat → Int32) (tl : Int32) (tb : Nat → Int32) (Ms : Int32) (Mb : Int32) (Mr : Nat → Int32) (Mp : Nat → Int32) (Mf : Nat → Int32) (Mt : Nat → Int32) (mc : Int32) (mm : Nat → Int64) (MB : Int64) (MT : Nat → Int64) (MP : Nat → Int64) (hrel : Rel kb kn kf rK rf vo vd vs tl tb Ms Mb Mr Mp Mf Mt) : ∃ rx rm, f_X6_under x1 x2 x3 kb kn kf rK rf mc mm = some rx ∧ f_X7_under x1 x2 x3 MB Mr Mf MT MP = some rm ∧ rx.1 = rm.1 ∧ Rel rx.2.1 rx.2.2.1 rx.2.2.2.1 rK rf vo vd vs tl tb Ms Mb Mr Mp rm.2.2.1 Mt := by
  have hrel0 := hrel
  obtain ⟨⟨K, a, hk, rfl, hf, hm, hm7⟩, hc, hs, ht⟩ := hrel
  have hK7 := hk.2.1
  by_cases P1 : x1 < (1 : Int32) ∨ (3 : Int32) < x1
  · exact ⟨_, _, by unfold f_X6_under; simp only [x_out, Option.bind_some, bI_dec, x_bad]; rw [if_neg (nn P1)], by unfold f_X7_under; simp only [in13, Option.bind_some, bI_decn, m_bad]; rw [if_pos P1], rfl, rel_bad hrel0⟩
  by_cases P2 : (x2 < (-99 : Int32) ∨ (99 : Int32) < x2) ∨ (x3 < (1 : Int32) ∨ (9 : Int32) < x3)
  · exact ⟨_, _, by unfold f_X6_under; simp only [x_out, x_noPt, Option.bind_some, bI_dec, x_bad]; rw [if_pos P1, if_neg (nn P2)], by unfold f_X7_under; simp only [in13, m_isSpot, Option.bind_some, bI_decn, m_bad]; rw [if_neg P1, if_pos P2], rfl, rel_bad hrel0⟩
  obtain ⟨n, _, hn3, rfl⟩ := inn (a := 1) (b := 3) (by omega) (by omega) P1
  obtain ⟨M, e1, e2⟩ := x_findZ hk hf (n := n) (by omega) mm
  obtain ⟨T1, e3⟩ := m_posN hk hm hm7 (n := n) (by omega) MT
  cases h : hasZ K (fun t => (a t).toInt64) n with
  | false =>
    rw [h] at e1 e3
    exact ⟨_, _, by unfold f_X6_under; simp only [x_out, x_noPt, Option.bind_some, bI_dec, x_bad, e1, x_no]; rw [if_pos P1, if_pos P2, if_pos bI_fe], by unfold f_X7_under; simp only [in13, m_isSpot, Option.bind_some, bI_decn, m_bad, e3, m_no]; rw [if_neg P1, if_neg P2, if_pos bI_fe], rfl, rel_no hrel0⟩
  | true =>
    rw [h] at e1 e3
    obtain ⟨r, MB1, T2, P, z1, z2⟩ := zb hk hm e2 hn3 (hasZ_K h) x2 x3 MB T1 MP
    exact ⟨_, _, by unfold f_X6_under; simp only [x_out, x_noPt, Option.bind_some, bI_dec, x_bad, e1, x_no]; rw [if_pos P1, if_pos P2, if_neg bI_tne, z1, Option.bind_some], by unfold f_X7_under; simp only [in13, m_isSpot, Option.bind_some, bI_decn, m_bad, e3, m_no, z2]; rw [if_neg P1, if_neg P2, if_neg bI_tne], rfl, hrel0⟩
set_option maxHeartbeats 4000000 in
set_option maxRecDepth 100000 in
theorem op_zero (x1 : Int32) (x2 : Int32) (x3 : Int32) (kb : Int32) (kn : Int32) (kf : Int32) (rK : Int32) (rf : Nat → Int32) (vo : Int32) (vd : Int32) (vs : Nat → Int32) (tl : Int32) (tb : Nat → Int32) (Ms : Int32) (Mb : Int32) (Mr : Nat → Int32) (Mp : Nat → Int32) (Mf : Nat → Int32) (Mt : Nat → Int32) (mc : Int32) (mm : Nat → Int64) (MB : Int64) (MT : Nat → Int64) (MP : Nat → Int64) (hrel : Rel kb kn kf rK rf vo vd vs tl tb Ms Mb Mr Mp Mf Mt) : ∃ rx rm, f_X6_zero x1 x2 x3 kb kn kf rK rf mc mm = some rx ∧ f_X7_zero x1 x2 x3 MB Mr Mf MT MP = some rm ∧ rx.1 = rm.1 ∧ Rel rx.2.1 rx.2.2.1 rx.2.2.2.1 rK rf vo vd vs tl tb Ms Mb Mr Mp rm.2.2.1 Mt := by
  have hrel0 := hrel
  obtain ⟨⟨K, a, hk, rfl, hf, hm, hm7⟩, hc, hs, ht⟩ := hrel
  have hK7 := hk.2.1
  by_cases P1 : x1 < (1 : Int32) ∨ (3 : Int32) < x1
  · exact ⟨_, _, by unfold f_X6_zero; simp only [x_out, Option.bind_some, bI_dec, x_bad]; rw [if_neg (nn P1)], by unfold f_X7_zero; simp only [in13, Option.bind_some, bI_decn, m_bad]; rw [if_pos P1], rfl, rel_bad hrel0⟩
  by_cases P2 : x2 < (0 : Int32) ∨ (x1 - (1 : Int32)) < x2
  · exact ⟨_, _, by unfold f_X6_zero; simp only [x_out, Option.bind_some, bI_dec, x_bad]; rw [if_pos P1, if_neg (nn P2)], by unfold f_X7_zero; simp only [in13, in0y, Option.bind_some, bI_decn, m_bad]; rw [if_neg P1, if_pos P2], rfl, rel_bad hrel0⟩
  by_cases P3 : x3 < (1 : Int32) ∨ (9 : Int32) < x3
  · exact ⟨_, _, by unfold f_X6_zero; simp only [x_out, Option.bind_some, bI_dec, x_bad]; rw [if_pos P1, if_pos P2, if_neg (nn P3)], by unfold f_X7_zero; simp only [in13, in0y, in19, Option.bind_some, bI_decn, m_bad]; rw [if_neg P1, if_neg P2, if_pos P3], rfl, rel_bad hrel0⟩
  obtain ⟨n, _, hn3, rfl⟩ := inn (a := 1) (b := 3) (by omega) (by omega) P1
  obtain ⟨q, hq1, hq9, rfl⟩ := inn (x := x3) (a := 1) (b := 9) (by omega) (by omega) P3
  obtain ⟨M, e1, e2⟩ := x_findZ hk hf (n := n) (by omega) mm
  obtain ⟨T1, e3⟩ := m_posN hk hm hm7 (n := n) (by omega) MT
  cases h : hasZ K (fun t => (a t).toInt64) n with
  | false =>
    rw [h] at e1 e3
    exact ⟨_, _, by unfold f_X6_zero; simp only [x_out, Option.bind_some, bI_dec, x_bad, e1, x_no]; rw [if_pos P1, if_pos P2, if_pos P3, if_pos bI_fe], by unfold f_X7_zero; simp only [in13, in0y, in19, Option.bind_some, bI_decn, m_bad, e3, m_no]; rw [if_neg P1, if_neg P2, if_neg P3, if_pos bI_fe], rfl, rel_no hrel0⟩
  | true =>
    rw [h] at e1 e3
    obtain ⟨r, MB1, T2, Q2, z1, z2⟩ := zb hk hm e2 hn3 (hasZ_K h) ((-99 : Int32) * nI q) (nI q) MB T1 MP
    obtain ⟨r', MB2, T3, Q3, z3, z4⟩ := zb hk hm e2 hn3 (hasZ_K h) ((99 : Int32) * nI q) (nI q) MB1 T2 Q2
    obtain ⟨u, MB3, T4, Q4, z5, z6⟩ := enc_st hk hm e2 hn3 (hasZ_K h) x2 (nI q) 11 200 200 (198 * q) 0 ((-99 : Int32) * nI q) MB2 T3 Q3 (by omega) (by omega) (by omega) (by omega) (by omega)
    rw [← tb_99 q (by omega)] at z5 z6
    have z5' : f_X6_enclose_L48 200 (nI n) x2 (nI q) ((-99 : Int32) * nI q) ((99 : Int32) * nI q) (0 : Int32) M = some u := z5
    have xe : f_X6_enclose (nI n) x2 (nI q) M = if x2 < r then some (-1000000 : Int32) else if x2 < r' then some u else some (-1000000 : Int32) := by
      unfold f_X6_enclose
      rw [z1, Option.bind_some, z3, Option.bind_some, z5', Option.bind_some]
    have mx : ∃ MB' T' P', f_X7_zero (nI n) x2 (nI q) MB Mr Mf MT MP = some (if x2 < r then (-1000000 : Int32) else if x2 < r' then u else (-1000000 : Int32), MB', Mf, T', P') := by
      unfold f_X7_zero
      simp only [in13, in0y, in19, Option.bind_some, bI_decn, e3, z2, z4, z6]
      rw [if_neg P1, if_neg P2, if_neg P3, if_neg bI_tne]
      by_cases w1 : x2 < r
      · rw [if_pos w1, if_pos w1]; exact ⟨_, _, _, rfl⟩
      · rw [if_neg w1, if_neg w1]
        by_cases w2 : x2 < r'
        · rw [if_pos w2, if_pos w2]; exact ⟨_, _, _, rfl⟩
        · rw [if_neg w2, if_neg w2]; exact ⟨_, _, _, rfl⟩
    obtain ⟨MB', T', P', mx⟩ := mx
    refine ⟨(if x2 < r then (-1000000 : Int32) else if x2 < r' then u else (-1000000 : Int32), kb, kn, kf, nI K, M), _, ?_, mx, rfl, hrel0⟩
    unfold f_X6_zero
    simp only [x_out, Option.bind_some, bI_dec, e1]
    rw [if_pos P1, if_pos P2, if_pos P3, if_neg bI_tne, xe]
    by_cases w1 : x2 < r
    · rw [if_pos w1, if_pos w1]; rfl
    · rw [if_neg w1, if_neg w1]
      by_cases w2 : x2 < r'
      · rw [if_pos w2, if_pos w2]; rfl
      · rw [if_neg w2, if_neg w2]; rfl
set_option maxHeartbeats 4000000 in
set_option maxRecDepth 100000 in
theorem op_fraction (x1 : Int32) (x2 : Int32) (x3 : Int32) (x4 : Int32) (kb : Int32) (kn : Int32) (kf : Int32) (rK : Int32) (rf : Nat → Int32) (vo : Int32) (vd : Int32) (vs : Nat → Int32) (tl : Int32) (tb : Nat → Int32) (Ms : Int32) (Mb : Int32) (Mr : Nat → Int32) (Mp : Nat → Int32) (Mf : Nat → Int32) (Mt : Nat → Int32) (mc : Int32) (mm : Nat → Int64) (MB : Int64) (MT : Nat → Int64) (MP : Nat → Int64) (hrel : Rel kb kn kf rK rf vo vd vs tl tb Ms Mb Mr Mp Mf Mt) : ∃ rx rm, f_X6_fraction x1 x2 x3 x4 kb kn kf rK rf mc mm = some rx ∧ f_X7_fraction x1 x2 x3 x4 MB Mr Mf MT MP = some rm ∧ rx.1 = rm.1 ∧ Rel rx.2.1 rx.2.2.1 rx.2.2.2.1 rK rf vo vd vs tl tb Ms Mb Mr Mp rm.2.2.1 Mt := by
  have hrel0 := hrel
  obtain ⟨⟨K, a, hk, rfl, hf, hm, hm7⟩, hc, hs, ht⟩ := hrel
  have hK7 := hk.2.1
  by_cases P1 : x1 < (1 : Int32) ∨ (3 : Int32) < x1
  · exact ⟨_, _, by unfold f_X6_fraction; simp only [x_out, Option.bind_some, bI_dec, x_bad]; rw [if_neg (nn P1)], by unfold f_X7_fraction; simp only [in13, Option.bind_some, bI_decn, m_bad]; rw [if_pos P1], rfl, rel_bad hrel0⟩
  by_cases P2 : x2 < (-20 : Int32) ∨ (20 : Int32) < x2
  · exact ⟨_, _, by unfold f_X6_fraction; simp only [x_out, Option.bind_some, bI_dec, x_bad]; rw [if_pos P1, if_neg (nn P2)], by unfold f_X7_fraction; simp only [in13, in20, Option.bind_some, bI_decn, m_bad]; rw [if_neg P1, if_pos P2], rfl, rel_bad hrel0⟩
  by_cases P3 : x3 < (1 : Int32) ∨ (4 : Int32) < x3
  · exact ⟨_, _, by unfold f_X6_fraction; simp only [x_out, Option.bind_some, bI_dec, x_bad]; rw [if_pos P1, if_pos P2, if_neg (nn P3)], by unfold f_X7_fraction; simp only [in13, in20, in14, Option.bind_some, bI_decn, m_bad]; rw [if_neg P1, if_neg P2, if_pos P3], rfl, rel_bad hrel0⟩
  by_cases P4 : x4 < (0 : Int32) ∨ (1 : Int32) < x4
  · exact ⟨_, _, by unfold f_X6_fraction; simp only [x_out, Option.bind_some, bI_dec, x_bad]; rw [if_pos P1, if_pos P2, if_pos P3, if_neg (nn P4)], by unfold f_X7_fraction; simp only [in13, in20, in14, m_isPart, Option.bind_some, bI_decn, m_bad]; rw [if_neg P1, if_neg P2, if_neg P3, if_pos P4], rfl, rel_bad hrel0⟩
  obtain ⟨n, hn1, hn3, rfl⟩ := inn (a := 1) (b := 3) (by omega) (by omega) P1
  obtain ⟨M, e1, e2⟩ := x_findP hk hf (n := n) (by omega) mm
  obtain ⟨T1, e3⟩ := m_isPoly hk hm hm7 (n := n) (by omega) MT
  cases h : hasP K (fun t => (a t).toInt64) n with
  | false =>
    rw [h] at e1 e3
    exact ⟨_, _, by unfold f_X6_fraction; simp only [x_out, Option.bind_some, bI_dec, x_bad, e1, x_no]; rw [if_pos P1, if_pos P2, if_pos P3, if_pos P4, if_pos bI_fe], by unfold f_X7_fraction; simp only [in13, in20, in14, m_isPart, Option.bind_some, bI_decn, m_bad, e3, m_no]; rw [if_neg P1, if_neg P2, if_neg P3, if_neg P4, if_pos bI_fe], rfl, rel_no hrel0⟩
  | true =>
    rw [h] at e1 e3
    obtain ⟨T2, P, e4, e5⟩ := m_makePoly hk hm hn3 (hasP_K h) T1 MP
    have xe := x_ev e2 hn3 x2 x3
    have me := m_ev hn3 e5 x2 x3
    have xq := x_qm hk hf e2 hn3 x2 x3
    have mq : f_X7_fraction_L99 200 (nI n) x2 x3 (0 : Int64) (1 : Int32) Mr P = some (fro (fun t => (a t).toInt64) P n x2.toInt64 x3.toInt64 n 1 0) := m_fro hm hn3 x2 x3 P n 200 1 0 (by omega) (by omega) (by omega)
    rw [fr_eq hn1 hn3 e5] at mq
    generalize qmf (fun t => (a t).toInt64) n x2.toInt64 x3.toInt64 n 0 0 1 = Q at *
    generalize ev (fun t => (a t).toInt64) n x2.toInt64 x3.toInt64 = E at *
    by_cases D : E = 0
    · exact ⟨_, _, by unfold f_X6_fraction; simp only [x_out, Option.bind_some, bI_dec, x_bad, e1, x_no, xe]; rw [if_pos P1, if_pos P2, if_pos P3, if_pos P4, if_neg bI_tne, if_pos D], by unfold f_X7_fraction; simp only [in13, in20, in14, m_isPart, Option.bind_some, bI_decn, m_bad, e3, m_no, e4, me]; rw [if_neg P1, if_neg P2, if_neg P3, if_neg P4, if_neg bI_tne, if_pos D], rfl, rel_no hrel0⟩
    · obtain ⟨v, v1, v2⟩ := part_eq (x3.toInt64 * Q) E x4 D
      exact ⟨_, _, by unfold f_X6_fraction; simp only [x_out, Option.bind_some, bI_dec, x_bad, e1, x_no, xe, xq, v1]; rw [if_pos P1, if_pos P2, if_pos P3, if_pos P4, if_neg bI_tne, if_neg D], by unfold f_X7_fraction; simp only [in13, in20, in14, m_isPart, Option.bind_some, bI_decn, m_bad, e3, m_no, e4, me, mq, v2]; rw [if_neg P1, if_neg P2, if_neg P3, if_neg P4, if_neg bI_tne, if_neg D], rfl, hrel0⟩
