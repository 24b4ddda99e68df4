/-! states: the class's ring, the reference's row of rows -/
theorem x_place {o d : Nat} (h : o + d < 1000) : f_X4_place (nI d) (nI o) = some (nI ((o + d) % 6 * 8)) := by
  unfold f_X4_place
  simp only [k0, k6, k8]
  rw [if_neg (by decide), nI_add, pk_rem (by omega) (by omega) (by omega), pk_mul]
theorem m_bringL {p : Nat} (hp : p ≤ 40) (Mr : Nat → Int32) : ∀ (n j : Nat) (f : Nat → Int32), j ≤ 8 → 8 - j < n → ∃ g, f_X7_bring_L3 n (nI 0) (nI p) (nI j) Mr f = some g ∧ ∀ i, g i = if p + j ≤ i ∧ i < p + 8 then Mr (i - p) else f i := by
  intro n
  induction n with
  | zero => intro j f _ hm; omega
  | succ n ih =>
    intro j f hj hm
    rw [f_X7_bring_L3]
    simp only [k0, k1, k8]
    by_cases h8 : j = 8
    · subst h8
      rw [if_pos (nI_le (by omega) (by omega))]
      exact ⟨f, rfl, fun i => by rw [if_neg (by omega)]⟩
    · rw [if_neg (nI_ge (by omega : j < 8) (by omega)), nI_add, nI_add, nI_add, Nat.zero_add, gif0 (by omega) (by omega), gif0 (by omega) (by omega), nI_cl (by omega), nI_cl (by omega)]
      obtain ⟨g, h1, h2⟩ := ih (j + 1) (upd f (p + j) (Mr j)) (by omega) (by omega)
      refine ⟨g, h1, fun i => ?_⟩
      rw [h2 i]
      by_cases hi : i = p + j
      · subst hi; rw [if_neg (by omega), upd_s, if_pos (by omega), show p + j - p = j by omega]
      · by_cases hi2 : p + j ≤ i ∧ i < p + 8
        · rw [if_pos (by omega), if_pos hi2]
        · rw [if_neg (by omega), if_neg hi2, upd_n hi]
theorem m_bring {p : Nat} (hp : p ≤ 40) (Mr f : Nat → Int32) : ∃ g, f_X7_bring (nI 0) (nI p) Mr f = some g ∧ ∀ i, g i = if p ≤ i ∧ i < p + 8 then Mr (i - p) else f i := by
  obtain ⟨g, h1, h2⟩ := m_bringL hp Mr 200 0 f (by omega) (by omega)
  refine ⟨g, ?_, fun i => by rw [h2 i]; rfl⟩
  unfold f_X7_bring
  rw [k0, h1]
  rfl
theorem m_noteL : ∀ (n j : Nat) (f : Nat → Int32), j ≤ 40 → 40 - j < n → ∃ g, f_X7_note_L11 n (nI j) f = some g ∧ ∀ i, g i = if j ≤ i ∧ i < 40 then f (i + 8) else f i := by
  intro n
  induction n with
  | zero => intro j f _ hm; omega
  | succ n ih =>
    intro j f hj hm
    rw [f_X7_note_L11]
    simp only [k0, k1, k8, k40]
    by_cases h8 : j = 40
    · subst h8
      rw [if_pos (nI_le (by omega) (by omega))]
      exact ⟨f, rfl, fun i => by rw [if_neg (by omega)]⟩
    · rw [if_neg (nI_ge (by omega : j < 40) (by omega)), nI_add, nI_add, gif0 (by omega) (by omega), gif0 (by omega) (by omega), nI_cl (by omega), nI_cl (by omega)]
      obtain ⟨g, h1, h2⟩ := ih (j + 1) (upd f j (f (j + 8))) (by omega) (by omega)
      refine ⟨g, h1, fun i => ?_⟩
      rw [h2 i]
      by_cases hi : i = j
      · subst hi; rw [if_neg (by omega), upd_s, if_pos (by omega)]
      · by_cases hi2 : j ≤ i ∧ i < 40
        · rw [if_pos (by omega), if_pos hi2, upd_n (by omega)]
        · rw [if_neg (by omega), if_neg hi2, upd_n hi]
theorem push_note {K : Nat} {a rf Mx : Nat → Int32} (hk : okRow K a) (hf : ∀ j, j < K → rf j = a j) (hx : ∀ j, j < 7 → Mx j = a j) (hx7 : Mx 7 = nI K) {d o : Nat} {SK : Nat → Nat} {sa : Nat → Nat → Int32} {vo vd : Int32} {vs : Nat → Int32} {Ms : Int32} {Mp : Nat → Int32} (hs : RelSt d o SK sa vo vd vs Ms Mp) :
    ∃ vo' vd' vs' Ms' Mp', f_X4_push vo vd vs (nI K) rf = some (vo', vd', vs') ∧ f_X7_note Ms Mx Mp = some (Ms', Mp') ∧ ∃ d' o' SK' sa', RelSt d' o' SK' sa' vo' vd' vs' Ms' Mp' := by
  obtain ⟨hd, ho, rfl, rfl, rfl, hst⟩ := hs
  by_cases h6 : d = 6
  · subst h6
    obtain ⟨g, hg1, hg2⟩ := x_save hk hf (p := ((o + 1) % 6 + 5) % 6 * 8) (by omega) vs
    obtain ⟨f1, hf1, hf2⟩ := m_noteL 200 0 Mp (by omega) (by omega)
    obtain ⟨f2, hf3, hf4⟩ := m_bring (p := 40) (by omega) Mx f1
    refine ⟨nI ((o + 1) % 6), nI 6, g, nI 6, f2, ?_, ?_, 6, (o + 1) % 6, fun i => if i = 5 then K else SK (i + 1), fun i => if i = 5 then a else sa (i + 1), by omega, by omega, rfl, rfl, rfl, fun i hi => ?_⟩
    · unfold f_X4_push
      simp only [k0, k1, k5, k6]
      rw [if_neg (nI_nlt (by omega) (by omega)), if_neg (by decide), nI_add, pk_rem (by omega) (by omega) (by omega), x_place (by omega), Option.bind_some, hg1]
      rfl
    · unfold f_X7_note
      simp only [k0, k1, k6, k8]
      rw [if_pos trivial, hf1, Option.bind_some, pk_sub (by omega), pk_mul, hf3]
      rfl
    · by_cases h5 : i = 5
      · subst h5
        refine ⟨by simpa using hk, ?_, fun j hj => ?_, fun j hj => ?_, ?_⟩
        · rw [hg2, if_pos rfl]; rfl
        · rw [hg2, if_neg (by omega), if_pos (by omega)]
          show a _ = (if (5 : Nat) = 5 then a else sa (5 + 1)) j
          rw [if_pos rfl]; congr 1; omega
        · rw [hf4, if_pos (by omega), show 8 * 5 + j - 40 = j by omega, hx j hj]; rfl
        · rw [hf4, if_pos (by omega)]; exact hx7
      · obtain ⟨g1, g2, g3, g4, g5⟩ := hst (i + 1) (by omega)
        simp only [if_neg h5]
        refine ⟨g1, ?_, fun j hj => ?_, fun j hj => ?_, ?_⟩
        · rw [hg2, if_neg (by omega), if_neg (by omega), ← g2]; congr 1; omega
        · rw [hg2, if_neg (by omega), if_neg (by omega), ← g3 j hj]; congr 1; omega
        · rw [hf4, if_neg (by omega), hf2, if_pos (by omega), ← g4 j hj]; congr 1; omega
        · rw [hf4, if_neg (by omega), hf2, if_pos (by omega), ← g5]; exact congrArg Mp (by omega)
  · obtain ⟨g, hg1, hg2⟩ := x_save hk hf (p := (o + d) % 6 * 8) (by omega) vs
    obtain ⟨f2, hf3, hf4⟩ := m_bring (p := 8 * d) (by omega) Mx Mp
    refine ⟨nI o, nI (d + 1), g, nI (d + 1), f2, ?_, ?_, d + 1, o, fun i => if i = d then K else SK i, fun i => if i = d then a else sa i, by omega, by omega, rfl, rfl, rfl, fun i hi => ?_⟩
    · unfold f_X4_push
      simp only [k0, k1, k5, k6]
      rw [if_pos (nI_lt (by omega) (by omega)), x_place (by omega), Option.bind_some, hg1, nI_add]
      rfl
    · unfold f_X7_note
      simp only [k0, k1, k6, k8]
      rw [if_neg (by rw [nI_eq (by omega) (by omega)]; exact h6), pk_mul, hf3, nI_add]
      rfl
    · by_cases h5 : i = d
      · subst h5
        refine ⟨by simpa using hk, ?_, fun j hj => ?_, fun j hj => ?_, ?_⟩
        · rw [hg2, if_pos rfl]; show nI K = nI (if i = i then K else SK i); rw [if_pos rfl]
        · rw [hg2, if_neg (by omega), if_pos (by omega)]
          show a _ = (if i = i then a else sa i) j
          rw [if_pos rfl]; congr 1; omega
        · rw [hf4, if_pos (by omega), show 8 * i + j - 8 * i = j by omega, hx j hj]
          show a j = (if i = i then a else sa i) j
          rw [if_pos rfl]
        · rw [hf4, if_pos (by omega), show 8 * i + 7 - 8 * i = 7 by omega, hx7]
          show nI K = nI (if i = i then K else SK i); rw [if_pos rfl]
      · obtain ⟨g1, g2, g3, g4, g5⟩ := hst i (by omega)
        simp only [if_neg h5]
        refine ⟨g1, ?_, fun j hj => ?_, fun j hj => ?_, ?_⟩
        · rw [hg2, if_neg (by omega), if_neg (by omega), ← g2]
        · rw [hg2, if_neg (by omega), if_neg (by omega), ← g3 j hj]
        · rw [hf4, if_neg (by omega), ← g4 j hj]
        · rw [hf4, if_neg (by omega), ← g5]
theorem m_bring_v2 : ∀ (n : Nat) (x2 x4 x5 : Int32) (f g : Nat → Int32), f_X7_bring_v2_L3 n x2 x4 x5 f g = f_X7_bring_L3 n x2 x4 x5 f g := by
  intro n
  induction n with
  | zero => intros; rfl
  | succ n ih => intros; rw [f_X7_bring_v2_L3, f_X7_bring_L3]; simp only [ih]
theorem m_note_v1L : ∀ (n : Nat) (x : Int32) (f : Nat → Int32), f_X7_note_v1_L11 n x f = f_X7_note_L11 n x f := by
  intro n
  induction n with
  | zero => intros; rfl
  | succ n ih => intros; rw [f_X7_note_v1_L11, f_X7_note_L11]; simp only [ih]
theorem m_note_v1 (Ms : Int32) (f g : Nat → Int32) : f_X7_note_v1 Ms f g = f_X7_note Ms f g := by
  unfold f_X7_note_v1 f_X7_note f_X7_bring_v2 f_X7_bring
  simp only [m_note_v1L, m_bring_v2]
/-- a changed trial row is kept: states on both sides, the new row -/
theorem keep_rel {K : Nat} {a rf Mr : Nat → Int32} (hk : okRow K a) (hf : ∀ j, j < K → rf j = a j) {Mx : Nat → Int32} (hx : ∀ j, j < 7 → Mx j = a j) (hx7 : Mx 7 = nI K) {vo vd : Int32} {vs : Nat → Int32} {Ms : Int32} {Mp : Nat → Int32} (hs : ∃ d o SK sa, RelSt d o SK sa vo vd vs Ms Mp) {K' : Nat} {a' sf' : Nat → Int32} (hk' : okRow K' a') (hf' : ∀ j, j < K' → sf' j = a' j) :
    ∃ rf' vo' vd' vs' Ms' Mp', f_X6_keepTrial (nI K) rf (nI K') sf' vo vd vs = some (nI K', rf', vo', vd', vs') ∧ f_X7_note Ms Mx Mp = some (Ms', Mp') ∧ (∀ j, j < 7 → rf' j = a' j) ∧ ∃ d' o' SK' sa', RelSt d' o' SK' sa' vo' vd' vs' Ms' Mp' := by
  obtain ⟨d, o, SK, sa, hs⟩ := hs
  obtain ⟨vo', vd', vs', Ms', Mp', h1, h2, h3⟩ := push_note hk hf hx hx7 hs
  obtain ⟨g, h4, h5⟩ := x_copy hk' hf' rf
  refine ⟨g, vo', vd', vs', Ms', Mp', ?_, h2, h5, h3⟩
  unfold f_X6_keepTrial
  rw [h1, Option.bind_some, h4]
  rfl
