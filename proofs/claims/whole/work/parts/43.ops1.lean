theorem m_inb {A B : Int64} {a b : Int32} (hA : A = a.toInt64) (hB : B = b.toInt64) (x : Int32) : f_X7_in x.toInt64 A B = some (decide (¬ (x < a ∨ b < x))) := by
  rw [hA, hB]; exact m_in32 x a b
theorem x_at_some {K : Nat} {a rf : Nat → Int32} (hk : okRow K a) (hf : ∀ j, j < K → rf j = a j) (x : Int32) : ∃ v, f_X3_at x (nI K) rf = some v := by
  by_cases h : x < 0
  · exact ⟨0, x_at_neg h⟩
  · obtain ⟨j, hj, rfl⟩ := nI_of h
    exact ⟨a j, x_at hk hf hj⟩
theorem in_row {K : Nat} (h1 : 1 ≤ K) (h2 : K ≤ 7) {x : Int32} (h : ¬ (x < 0 ∨ nI K - 1 < x)) : ∃ j, j < K ∧ x = nI j := by
  obtain ⟨j, hj, rfl⟩ := nI_of (fun q => h (Or.inl q))
  refine ⟨j, ?_, rfl⟩
  have h3 : ¬ nI K - 1 < nI j := fun q => h (Or.inr q)
  rw [k1, pk_sub h1, nI_ltI (by omega) hj] at h3
  omega
theorem okRow_set {K : Nat} {a : Nat → Int32} (hk : okRow K a) {j : Nat} (hj : j < K) {v : Int32} (hv : ¬ (v < -500 ∨ 500 < v)) : okRow K (fun i => if i = j then v else a i) := by
  obtain ⟨h1, h2, h3, h4⟩ := hk
  refine ⟨h1, h2, fun i hi => ?_, fun i hi => ?_⟩
  · by_cases e : i = j
    · simp only [e, if_true]
      rw [Int32.lt_iff_toInt_lt, Int32.lt_iff_toInt_lt, show (-500 : Int32).toInt = -500 by decide, show (500 : Int32).toInt = 500 by decide] at hv
      omega
    · simp only [e, if_false]; exact h3 i hi
  · simp only [show ¬ i = j by omega, if_false]; exact h4 i hi
theorem b_nar {x : Int32} (h : ¬ (x < 0 ∨ 127 < x)) : vp_nar .byte x.toInt8.toInt32 = x := by
  obtain ⟨j, hj, rfl⟩ := nI_of2 (M := 127) (n := 127) (by decide) (fun q => h (Or.inl q)) (by
    have h2 : ¬ 127 < x := fun q => h (Or.inr q)
    rw [Int32.lt_iff_toInt_lt] at h2; rw [Int32.le_iff_toInt_le]; omega)
  rw [pk_vb]
  have key : ∀ n, n < 128 → (nI n).toInt8.toInt32 = nI n := by decide +kernel
  exact key j (by omega)
theorem x_loadL {p : Nat} (hp : p ≤ 40) (ar : Nat → Int32) : ∀ (n j : Nat) (f : Nat → Int32), j ≤ 7 → 7 - j < n → ∃ g, f_X3_load_L37 n (nI p) (nI j) f ar = some g ∧ ∀ i, g i = if j ≤ i ∧ i < 7 then ar (p + 1 + i) else f i := by
  intro n
  induction n with
  | zero => intro j f _ hm; omega
  | succ n ih =>
    intro j f hj hm
    rw [f_X3_load_L37]
    simp only [k0, k1, k7]
    by_cases h8 : j = 7
    · subst h8
      rw [if_pos (nI_le (by omega) (by omega))]
      exact ⟨f, rfl, fun i => by rw [if_neg (by omega)]⟩
    · rw [if_neg (nI_ge (by omega : j < 7) (by omega)), nI_add, nI_add, nI_add, gif0 (by omega) (by omega), gif0 (by omega) (by omega), nI_cl (by omega), nI_cl (by omega)]
      obtain ⟨g, h1, h2⟩ := ih (j + 1) (upd f j (ar (p + 1 + j))) (by omega) (by omega)
      refine ⟨g, h1, fun i => ?_⟩
      rw [h2 i]
      by_cases hi : i = j
      · subst hi; rw [if_neg (by omega), upd_s, if_pos (by omega)]
      · by_cases hi2 : j ≤ i ∧ i < 7
        · rw [if_pos (by omega), if_pos hi2]
        · rw [if_neg (by omega), if_neg hi2, upd_n hi]
theorem m_bring4L {p : Nat} (hp : p ≤ 40) (Mp : Nat → Int32) : ∀ (n j : Nat) (f : Nat → Int32), j ≤ 8 → 8 - j < n → ∃ g, f_X7_bring_v4_L3 n (nI p) (nI 0) (nI j) f Mp = some g ∧ ∀ i, g i = if j ≤ i ∧ i < 8 then Mp (p + i) else f i := by
  intro n
  induction n with
  | zero => intro j f _ hm; omega
  | succ n ih =>
    intro j f hj hm
    rw [f_X7_bring_v4_L3]
    simp only [k0, k1, k8]
    by_cases h8 : j = 8
    · subst h8
      rw [if_pos (nI_le (by omega) (by omega))]
      exact ⟨f, rfl, fun i => by rw [if_neg (by omega)]⟩
    · rw [if_neg (nI_ge (by omega : j < 8) (by omega)), nI_add, nI_add, nI_add, Nat.zero_add, gif0 (by omega) (by omega), gif0 (by omega) (by omega), nI_cl (by omega), nI_cl (by omega)]
      obtain ⟨g, h1, h2⟩ := ih (j + 1) (upd f j (Mp (p + j))) (by omega) (by omega)
      refine ⟨g, h1, fun i => ?_⟩
      rw [h2 i]
      by_cases hi : i = j
      · subst hi; rw [if_neg (by omega), upd_s, if_pos (by omega)]
      · by_cases hi2 : j ≤ i ∧ i < 8
        · rw [if_pos (by omega), if_pos hi2]
        · rw [if_neg (by omega), if_neg hi2, upd_n hi]
set_option maxHeartbeats 4000000 in
set_option maxRecDepth 100000 in
theorem op_moment (x1 : Int32) (x2 : Int32) (kb : Int32) (kn : Int32) (kf : Int32) (rK : Int32) (rf : Nat → Int32) (vo : Int32) (vd : Int32) (vs : Nat → Int32) (tl : Int32) (tb : Nat → Int32) (Ms : Int32) (Mb : Int32) (Mr : Nat → Int32) (Mp : Nat → Int32) (Mf : Nat → Int32) (Mt : Nat → Int32) (sf : Nat → Int32) (hrel : Rel kb kn kf rK rf vo vd vs tl tb Ms Mb Mr Mp Mf Mt) : ∃ rx rm, f_X6_moment x1 x2 kb kn kf rK rf sf vo vd vs = some rx ∧ f_X7_moment x1 x2 Ms Mr Mp Mf = some rm ∧ rx.1 = rm.1 ∧ Rel rx.2.1 rx.2.2.1 rx.2.2.2.1 rx.2.2.2.2.1 rx.2.2.2.2.2.1 rx.2.2.2.2.2.2.2.2.1 rx.2.2.2.2.2.2.2.2.2.1 rx.2.2.2.2.2.2.2.2.2.2 tl tb rm.2.1 Mb rm.2.2.1 rm.2.2.2.1 rm.2.2.2.2 Mt := by
  have hrel0 := hrel
  obtain ⟨⟨K, a, hk, rfl, hf, hm, hm7⟩, hc, hs, ht⟩ := hrel
  have hK1 := hk.1
  have hK7 := hk.2.1
  obtain ⟨v, hat⟩ := x_at_some hk hf x1
  obtain ⟨g, hg1, hg2⟩ := x_copy hk hf sf
  by_cases P1 : x1 < 0 ∨ nI K - 1 < x1
  · refine ⟨(-1000001, kb + 1, kn, kf, nI K, rf, nI K, g, vo, vd, vs), (-1000001, Ms, Mr, Mp, upd Mf 0 (Mf 0 + 1)), ?_, ?_, rfl, rel_bad hrel0⟩
    · unfold f_X6_moment
      rw [hat, Option.bind_some, hg1, Option.bind_some]
      unfold f_X3_put
      simp only [x_out, Option.bind_some, bI_dec]
      rw [if_neg (fun h => h P1)]
      rfl
    · unfold f_X7_moment
      rw [if_neg (by decide), show (7 : Int32).toNatClampNeg = 7 from rfl, hm7, m_inb (a := 0) (b := nI K - 1) (by decide) rfl]
      simp only [Option.bind_some, bI_decn]
      rw [if_pos P1]
      rfl
  · by_cases P2 : x2 < -500 ∨ 500 < x2
    · refine ⟨(-1000001, kb + 1, kn, kf, nI K, rf, nI K, g, vo, vd, vs), (-1000001, Ms, Mr, Mp, upd Mf 0 (Mf 0 + 1)), ?_, ?_, rfl, rel_bad hrel0⟩
      · unfold f_X6_moment
        rw [hat, Option.bind_some, hg1, Option.bind_some]
        unfold f_X3_put f_X3_isNoMoment
        simp only [x_out, Option.bind_some, bI_dec]
        rw [if_pos P1, if_neg (fun h => h P2)]
        rfl
      · unfold f_X7_moment
        rw [if_neg (by decide), show (7 : Int32).toNatClampNeg = 7 from rfl, hm7, m_inb (a := 0) (b := nI K - 1) (by decide) rfl, m_inb (a := -500) (b := 500) (by decide) (by decide)]
        simp only [Option.bind_some, bI_decn]
        rw [if_neg P1, if_pos P2]
        rfl
    · obtain ⟨j, hj, rfl⟩ := in_row hK1 hK7 P1
      have hk2 := okRow_set hk hj P2
      obtain ⟨rf', vo', vd', vs', Ms', Mp', e1, e2, e3, e4⟩ := keep_rel (Mr := Mr) (sf' := upd g j x2) hk hf hm hm7 hs hk2 (fun i hi => by
        by_cases e : i = j
        · subst e; rw [upd_s, if_pos rfl]
        · rw [upd_n e, if_neg e, hg2 i (by omega)])
      refine ⟨(a j, kb, kn, kf, nI K, rf', nI K, upd g j x2, vo', vd', vs'), (Mr j, Ms', upd Mr j x2, Mp', Mf), ?_, ?_, (hm j (by omega)).symm, ⟨K, _, hk2, rfl, fun i hi => e3 i (by omega), fun i hi => ?_, ?_⟩, hc, e4, ht⟩
      · unfold f_X6_moment
        rw [x_at hk hf (by omega), Option.bind_some, hg1, Option.bind_some]
        unfold f_X3_put f_X3_isNoMoment
        simp only [x_out, Option.bind_some, bI_dec]
        rw [if_pos P1, if_pos P2, gif (by omega) (by omega), nI_cl (by omega), Option.bind_some, if_pos rfl, e1]
        rfl
      · unfold f_X7_moment
        rw [if_neg (by decide), show (7 : Int32).toNatClampNeg = 7 from rfl, hm7, m_inb (a := 0) (b := nI K - 1) (by decide) rfl, m_inb (a := -500) (b := 500) (by decide) (by decide)]
        simp only [Option.bind_some, bI_decn]
        rw [if_neg P1, if_neg P2, e2, Option.bind_some, gif (by omega) (by omega), gif (by omega) (by omega), nI_cl (by omega)]
      · by_cases e : i = j
        · subst e; show upd Mr i x2 i = _; rw [upd_s, if_pos rfl]
        · show upd Mr j x2 i = _; rw [upd_n e, if_neg e, hm i hi]
      · show upd Mr j x2 7 = _; rw [upd_n (by omega), hm7]
set_option maxHeartbeats 4000000 in
set_option maxRecDepth 100000 in
theorem op_more (x1 : Int32) (kb : Int32) (kn : Int32) (kf : Int32) (rK : Int32) (rf : Nat → Int32) (vo : Int32) (vd : Int32) (vs : Nat → Int32) (tl : Int32) (tb : Nat → Int32) (Ms : Int32) (Mb : Int32) (Mr : Nat → Int32) (Mp : Nat → Int32) (Mf : Nat → Int32) (Mt : Nat → Int32) (sf : Nat → Int32) (hrel : Rel kb kn kf rK rf vo vd vs tl tb Ms Mb Mr Mp Mf Mt) : ∃ rx rm, f_X6_more x1 kb kn kf rK rf sf vo vd vs = some rx ∧ f_X7_more x1 Ms Mr Mp Mf = some rm ∧ rx.1 = rm.1 ∧ Rel rx.2.1 rx.2.2.1 rx.2.2.2.1 rx.2.2.2.2.1 rx.2.2.2.2.2.1 rx.2.2.2.2.2.2.2.2.1 rx.2.2.2.2.2.2.2.2.2.1 rx.2.2.2.2.2.2.2.2.2.2 tl tb rm.2.1 Mb rm.2.2.1 rm.2.2.2.1 rm.2.2.2.2 Mt := by
  have hrel0 := hrel
  obtain ⟨⟨K, a, hk, rfl, hf, hm, hm7⟩, hc, hs, ht⟩ := hrel
  have hK1 := hk.1
  have hK7 := hk.2.1
  obtain ⟨g, hg1, hg2⟩ := x_copy hk hf sf
  by_cases P1 : x1 < -500 ∨ 500 < x1
  · refine ⟨(-1000001, kb + 1, kn, kf, nI K, rf, nI K, g, vo, vd, vs), (-1000001, Ms, Mr, Mp, upd Mf 0 (Mf 0 + 1)), ?_, ?_, rfl, rel_bad hrel0⟩
    · unfold f_X6_more
      rw [hg1, Option.bind_some]
      unfold f_X3_append f_X3_isNoMoment
      simp only [x_out, Option.bind_some, bI_dec]
      rw [if_neg (fun h => h P1)]
      rfl
    · unfold f_X7_more
      rw [m_inb (a := -500) (b := 500) (by decide) (by decide)]
      simp only [Option.bind_some, bI_decn]
      rw [if_pos P1]
      rfl
  · by_cases h7 : K = 7
    · refine ⟨(-1000003, kb, kn, kf + 1, nI K, rf, nI K, g, vo, vd, vs), (-1000003, Ms, Mr, Mp, upd Mf 2 (Mf 2 + 1)), ?_, ?_, rfl, rel_full hrel0⟩
      · unfold f_X6_more
        rw [hg1, Option.bind_some]
        unfold f_X3_append f_X3_isNoMoment
        simp only [x_out, Option.bind_some, bI_dec]
        rw [if_pos P1, k7, if_neg (nI_nlt (by omega) (by omega))]
        rfl
      · unfold f_X7_more
        rw [m_inb (a := -500) (b := 500) (by decide) (by decide)]
        simp only [Option.bind_some, bI_decn]
        rw [if_neg P1, if_neg (by decide), show (7 : Int32).toNatClampNeg = 7 from rfl, hm7, k7, if_pos (by rw [h7])]
        rfl
    · have hk2 : okRow (K + 1) (fun i => if i = K then x1 else a i) := by
        obtain ⟨h1, h2, h3, h4⟩ := hk
        refine ⟨by omega, by omega, fun i hi => ?_, fun i hi => ?_⟩
        · by_cases e : i = K
          · simp only [e, if_true]
            rw [Int32.lt_iff_toInt_lt, Int32.lt_iff_toInt_lt, show (-500 : Int32).toInt = -500 by decide, show (500 : Int32).toInt = 500 by decide] at P1
            omega
          · simp only [e, if_false]; exact h3 i (by omega)
        · simp only [show ¬ i = K by omega, if_false]; exact h4 i (by omega)
      obtain ⟨rf', vo', vd', vs', Ms', Mp', e1, e2, e3, e4⟩ := keep_rel (Mr := Mr) (sf' := upd g K x1) hk hf hm hm7 hs hk2 (fun i hi => by
        by_cases e : i = K
        · subst e; rw [upd_s, if_pos rfl]
        · rw [upd_n e, if_neg e, hg2 i (by omega)])
      refine ⟨(nI (K + 1), kb, kn, kf, nI (K + 1), rf', nI (K + 1), upd g K x1, vo', vd', vs'), (nI (K + 1), Ms', upd (upd Mr K x1) 7 (nI (K + 1)), Mp', Mf), ?_, ?_, rfl, ⟨K + 1, _, hk2, rfl, fun i hi => e3 i (by omega), fun i hi => ?_, ?_⟩, hc, e4, ht⟩
      · unfold f_X6_more
        rw [hg1, Option.bind_some]
        unfold f_X3_append f_X3_isNoMoment f_X3_size
        simp only [x_out, Option.bind_some, bI_dec]
        rw [if_pos P1, k7, if_pos (nI_lt (by omega) (by omega)), gif (by omega) (by omega), nI_cl (by omega), k1, nI_add, Option.bind_some, if_pos rfl, e1]
        rfl
      · unfold f_X7_more
        rw [m_inb (a := -500) (b := 500) (by decide) (by decide)]
        simp only [Option.bind_some, bI_decn]
        rw [if_neg P1, if_neg (by decide), show (7 : Int32).toNatClampNeg = 7 from rfl, hm7, if_neg (by rw [k7, nI_eq (by omega) (by omega)]; exact h7), e2, Option.bind_some]
        unfold f_X7_put
        rw [if_neg (by decide), show (7 : Int32).toNatClampNeg = 7 from rfl, hm7, gif (by omega) (by omega), if_neg (by decide), if_neg (by decide), nI_cl (by omega), upd_n (by omega), hm7, k1, nI_add, Option.bind_some, if_neg (by decide), upd_s]
      · show upd (upd Mr K x1) 7 (nI (K + 1)) i = _
        rw [upd_n (by omega)]
        by_cases e : i = K
        · subst e; rw [upd_s, if_pos rfl]
        · rw [upd_n e, if_neg e, hm i hi]
      · show upd (upd Mr K x1) 7 (nI (K + 1)) 7 = _; rw [upd_s]
set_option maxHeartbeats 4000000 in
set_option maxRecDepth 100000 in
theorem op_less  (kb : Int32) (kn : Int32) (kf : Int32) (rK : Int32) (rf : Nat → Int32) (vo : Int32) (vd : Int32) (vs : Nat → Int32) (tl : Int32) (tb : Nat → Int32) (Ms : Int32) (Mb : Int32) (Mr : Nat → Int32) (Mp : Nat → Int32) (Mf : Nat → Int32) (Mt : Nat → Int32) (sf : Nat → Int32) (hrel : Rel kb kn kf rK rf vo vd vs tl tb Ms Mb Mr Mp Mf Mt) : ∃ rx rm, f_X6_less kb kn kf rK rf sf vo vd vs = some rx ∧ f_X7_less Ms Mr Mp Mf = some rm ∧ rx.1 = rm.1 ∧ Rel rx.2.1 rx.2.2.1 rx.2.2.2.1 rx.2.2.2.2.1 rx.2.2.2.2.2.1 rx.2.2.2.2.2.2.2.2.1 rx.2.2.2.2.2.2.2.2.2.1 rx.2.2.2.2.2.2.2.2.2.2 tl tb rm.2.1 Mb rm.2.2.1 rm.2.2.2.1 rm.2.2.2.2 Mt := by
  have hrel0 := hrel
  obtain ⟨⟨K, a, hk, rfl, hf, hm, hm7⟩, hc, hs, ht⟩ := hrel
  have hK1 := hk.1
  have hK7 := hk.2.1
  obtain ⟨g, hg1, hg2⟩ := x_copy hk hf sf
  by_cases h1 : K = 1
  · refine ⟨(-1000002, kb, kn + 1, kf, nI K, rf, nI K, g, vo, vd, vs), (-1000002, Ms, Mr, Mp, upd Mf 1 (Mf 1 + 1)), ?_, ?_, rfl, rel_no hrel0⟩
    · unfold f_X6_less
      rw [hg1, Option.bind_some]
      unfold f_X3_drop
      rw [k1, if_neg (nI_nlt (by omega) (by omega))]
      rfl
    · unfold f_X7_less
      rw [if_neg (by decide), show (7 : Int32).toNatClampNeg = 7 from rfl, hm7, if_pos (by rw [h1]; rfl)]
      rfl
  · have hk2 : okRow (K - 1) (fun i => if i = K - 1 then 0 else a i) := by
      obtain ⟨h1, h2, h3, h4⟩ := hk
      refine ⟨by omega, by omega, fun i hi => ?_, fun i hi => ?_⟩
      · simp only [show ¬ i = K - 1 by omega, if_false]; exact h3 i (by omega)
      · by_cases e : i = K - 1
        · simp only [e, if_true]
        · simp only [e, if_false]; exact h4 i (by omega)
    obtain ⟨rf', vo', vd', vs', Ms', Mp', e1, e2, e3, e4⟩ := keep_rel (Mr := Mr) (sf' := g) hk hf hm hm7 hs hk2 (fun i hi => by
      rw [if_neg (by omega), hg2 i (by omega)])
    refine ⟨(nI (K - 1), kb, kn, kf, nI (K - 1), rf', nI (K - 1), g, vo', vd', vs'), (nI (K - 1), Ms', upd (upd Mr 7 (nI (K - 1))) (K - 1) 0, Mp', Mf), ?_, ?_, rfl, ⟨K - 1, _, hk2, rfl, fun i hi => e3 i (by omega), fun i hi => ?_, ?_⟩, hc, e4, ht⟩
    · unfold f_X6_less
      rw [hg1, Option.bind_some]
      unfold f_X3_drop f_X3_size
      rw [k1, if_pos (nI_lt (by omega) (by omega)), pk_sub (by omega), Option.bind_some, if_pos rfl, e1]
      rfl
    · unfold f_X7_less
      rw [if_neg (by decide), show (7 : Int32).toNatClampNeg = 7 from rfl, hm7, if_neg (by rw [k1, nI_eq (by omega) (by omega)]; exact h1), e2, Option.bind_some]
      unfold f_X7_cut
      rw [if_neg (by decide), show (7 : Int32).toNatClampNeg = 7 from rfl, hm7, k1, pk_sub (by omega), upd_s, if_neg (by decide), if_neg (by decide), gif (by omega) (by omega), nI_cl (by omega), Option.bind_some, if_neg (by decide), upd_n (by omega), upd_s]
    · show upd (upd Mr 7 (nI (K - 1))) (K - 1) 0 i = _
      by_cases e : i = K - 1
      · subst e; rw [upd_s, if_pos rfl]
      · rw [upd_n e, upd_n (by omega), if_neg e, hm i hi]
    · show upd (upd Mr 7 (nI (K - 1))) (K - 1) 0 7 = _
      rw [upd_n (by omega), upd_s]
set_option maxHeartbeats 4000000 in
set_option maxRecDepth 100000 in
theorem op_of (x1 : Int32) (kb : Int32) (kn : Int32) (kf : Int32) (rK : Int32) (rf : Nat → Int32) (vo : Int32) (vd : Int32) (vs : Nat → Int32) (tl : Int32) (tb : Nat → Int32) (Ms : Int32) (Mb : Int32) (Mr : Nat → Int32) (Mp : Nat → Int32) (Mf : Nat → Int32) (Mt : Nat → Int32) (hrel : Rel kb kn kf rK rf vo vd vs tl tb Ms Mb Mr Mp Mf Mt) : ∃ rx rm, f_X6_of x1 kb kn kf rK rf = some rx ∧ f_X7_of x1 Mr Mf = some rm ∧ rx.1 = rm.1 ∧ Rel rx.2.1 rx.2.2.1 rx.2.2.2 rK rf vo vd vs tl tb Ms Mb Mr Mp rm.2 Mt := by
  have hrel0 := hrel
  obtain ⟨⟨K, a, hk, rfl, hf, hm, hm7⟩, hc, hs, ht⟩ := hrel
  have hK1 := hk.1
  have hK7 := hk.2.1
  by_cases P1 : x1 < 0 ∨ nI K - 1 < x1
  · refine ⟨(-1000001, kb + 1, kn, kf), (-1000001, upd Mf 0 (Mf 0 + 1)), ?_, ?_, rfl, rel_bad hrel0⟩
    · unfold f_X6_of f_X3_size
      simp only [x_out, Option.bind_some, bI_dec]
      rw [if_neg (fun h => h P1)]
      rfl
    · unfold f_X7_of
      rw [if_neg (by decide), show (7 : Int32).toNatClampNeg = 7 from rfl, hm7, m_inb (a := 0) (b := nI K - 1) (by decide) rfl]
      simp only [Option.bind_some, bI_decn]
      rw [if_pos P1]
      rfl
  · obtain ⟨j, hj, rfl⟩ := in_row hK1 hK7 P1
    refine ⟨(a j, kb, kn, kf), (Mr j, Mf), ?_, ?_, (hm j (by omega)).symm, hrel0⟩
    · unfold f_X6_of f_X3_size
      simp only [x_out, Option.bind_some, bI_dec]
      rw [if_pos P1, x_at hk hf (by omega)]
      rfl
    · unfold f_X7_of
      rw [if_neg (by decide), show (7 : Int32).toNatClampNeg = 7 from rfl, hm7, m_inb (a := 0) (b := nI K - 1) (by decide) rfl]
      simp only [Option.bind_some, bI_decn]
      rw [if_neg P1, gif (by omega) (by omega), nI_cl (by omega)]
set_option maxHeartbeats 4000000 in
set_option maxRecDepth 100000 in
theorem op_type (x1 : Int32) (kb : Int32) (kn : Int32) (kf : Int32) (rK : Int32) (rf : Nat → Int32) (vo : Int32) (vd : Int32) (vs : Nat → Int32) (tl : Int32) (tb : Nat → Int32) (Ms : Int32) (Mb : Int32) (Mr : Nat → Int32) (Mp : Nat → Int32) (Mf : Nat → Int32) (Mt : Nat → Int32) (hrel : Rel kb kn kf rK rf vo vd vs tl tb Ms Mb Mr Mp Mf Mt) : ∃ rx rm, f_X6_type x1 kb kn kf tl tb = some rx ∧ f_X7_type x1 Mb Mf Mt = some rm ∧ rx.1 = rm.1 ∧ Rel rx.2.1 rx.2.2.1 rx.2.2.2.1 rK rf vo vd vs rx.2.2.2.2.1 rx.2.2.2.2.2 Ms rm.2.1 Mr Mp rm.2.2.1 rm.2.2.2 := by
  have hrel0 := hrel
  obtain ⟨hr, hc, hs, L, hL, rfl, rfl, ht⟩ := hrel
  by_cases P1 : x1 < 0 ∨ 127 < x1
  · refine ⟨(-1000001, kb + 1, kn, kf, nI L, tb), (-1000001, nI L, upd Mf 0 (Mf 0 + 1), Mt), ?_, ?_, rfl, rel_bad hrel0⟩
    · unfold f_X6_type
      simp only [x_out, Option.bind_some, bI_dec]
      rw [if_neg (fun h => h P1)]
      rfl
    · unfold f_X7_type
      rw [m_inb (a := 0) (b := 127) (by decide) (by decide)]
      simp only [Option.bind_some, bI_decn]
      rw [if_pos P1]
      rfl
  · by_cases h1 : L = 100
    · refine ⟨(-1000003, kb, kn, kf + 1, nI L, tb), (-1000003, nI L, upd Mf 2 (Mf 2 + 1), Mt), ?_, ?_, rfl, rel_full hrel0⟩
      · unfold f_X6_type f_X5_append
        simp only [x_out, Option.bind_some, bI_dec]
        rw [if_pos P1, k100, if_neg (nI_nlt (by omega) (by omega))]
        rfl
      · unfold f_X7_type
        rw [m_inb (a := 0) (b := 127) (by decide) (by decide)]
        simp only [Option.bind_some, bI_decn]
        rw [if_neg P1, if_pos (by rw [h1]; rfl)]
        rfl
    · refine ⟨(nI (L + 1), kb, kn, kf, nI (L + 1), upd tb L x1), (nI (L + 1), nI (L + 1), Mf, upd Mt L x1), ?_, ?_, rfl, hr, hc, hs, L + 1, by omega, rfl, rfl, fun j hj => ?_⟩
      · unfold f_X6_type f_X5_append f_X5_length
        simp only [x_out, Option.bind_some, bI_dec]
        rw [if_pos P1, k100, if_pos (nI_lt (by omega) (by omega)), gif (by omega) (by omega), nI_cl (by omega), k1, nI_add, b_nar P1]
        rfl
      · unfold f_X7_type
        rw [m_inb (a := 0) (b := 127) (by decide) (by decide)]
        simp only [Option.bind_some, bI_decn]
        rw [if_neg P1, if_neg (by rw [k100, nI_eq (by omega) (by omega)]; exact h1), gif (by omega) (by omega), nI_cl (by omega), k1, nI_add]
      · show upd tb L x1 j = upd Mt L x1 j ∧ 0 ≤ (upd Mt L x1 j).toInt ∧ (upd Mt L x1 j).toInt ≤ 127
        by_cases e : j = L
        · subst e
          rw [upd_s, upd_s]
          rw [Int32.lt_iff_toInt_lt, Int32.lt_iff_toInt_lt, show (0 : Int32).toInt = 0 by decide, show (127 : Int32).toInt = 127 by decide] at P1
          exact ⟨rfl, by omega, by omega⟩
        · rw [upd_n e, upd_n e]
          exact ht j (by omega)
set_option maxHeartbeats 4000000 in
set_option maxRecDepth 100000 in
theorem op_clear  (kb : Int32) (kn : Int32) (kf : Int32) (rK : Int32) (rf : Nat → Int32) (vo : Int32) (vd : Int32) (vs : Nat → Int32) (tl : Int32) (tb : Nat → Int32) (Ms : Int32) (Mb : Int32) (Mr : Nat → Int32) (Mp : Nat → Int32) (Mf : Nat → Int32) (Mt : Nat → Int32) (hrel : Rel kb kn kf rK rf vo vd vs tl tb Ms Mb Mr Mp Mf Mt) : ∃ rx rm, f_X6_clear tl = some rx ∧ f_X7_clear Mb = some rm ∧ rx.1 = rm.1 ∧ Rel kb kn kf rK rf vo vd vs rx.2 tb Ms rm.2 Mr Mp Mf Mt := by
  obtain ⟨hr, hc, hs, L, hL, rfl, rfl, ht⟩ := hrel
  exact ⟨(nI L, 0), (nI L, 0), rfl, rfl, rfl, hr, hc, hs, 0, by omega, rfl, rfl, fun j hj => absurd hj (Nat.not_lt_zero j)⟩
set_option maxHeartbeats 4000000 in
set_option maxRecDepth 100000 in
theorem op_told (x1 : Int32) (kb : Int32) (kn : Int32) (kf : Int32) (rK : Int32) (rf : Nat → Int32) (vo : Int32) (vd : Int32) (vs : Nat → Int32) (tl : Int32) (tb : Nat → Int32) (Ms : Int32) (Mb : Int32) (Mr : Nat → Int32) (Mp : Nat → Int32) (Mf : Nat → Int32) (Mt : Nat → Int32) (hrel : Rel kb kn kf rK rf vo vd vs tl tb Ms Mb Mr Mp Mf Mt) : ∃ rx rm, f_X6_told x1 kb kn kf rK vd tl = some rx ∧ f_X7_told x1 Ms Mb Mr Mf = some rm ∧ rx.1 = rm.1 ∧ Rel rx.2.1 rx.2.2.1 rx.2.2.2 rK rf vo vd vs tl tb Ms Mb Mr Mp rm.2 Mt := by
  have hrel0 := hrel
  obtain ⟨⟨K, a, hk, rfl, hf, hm, hm7⟩, ⟨c1, c2, c3⟩, ⟨d, o, SK, sa, hd6, ho6, rfl, rfl, rfl, hst⟩, L, hL, rfl, rfl, ht⟩ := hrel
  by_cases P1 : x1 < 0 ∨ 5 < x1
  · refine ⟨(-1000001, kb + 1, kn, kf), (-1000001, upd Mf 0 (Mf 0 + 1)), ?_, ?_, rfl, rel_bad hrel0⟩
    · unfold f_X6_told
      simp only [x_out, Option.bind_some, bI_dec]
      rw [if_neg (fun h => h P1)]
      rfl
    · unfold f_X7_told
      rw [m_inb (a := 0) (b := 5) (by decide) (by decide)]
      simp only [Option.bind_some, bI_decn]
      rw [if_pos P1]
      rfl
  · obtain ⟨v, h1, h2⟩ : ∃ v, f_X6_tally x1 kb kn kf (nI K) (nI d) (nI L) = some v ∧ f_X7_toldOf x1 (nI d) (nI L) Mr Mf = some v := by
      obtain ⟨j, hj, rfl⟩ := nI_of2 (M := 5) (n := 5) (by decide) (fun q => P1 (Or.inl q)) (by
        have h2 : ¬ 5 < x1 := fun q => P1 (Or.inr q)
        rw [Int32.lt_iff_toInt_lt] at h2; rw [Int32.le_iff_toInt_le]; omega)
      rcases (by omega : j = 0 ∨ j = 1 ∨ j = 2 ∨ j = 3 ∨ j = 4 ∨ j = 5) with rfl | rfl | rfl | rfl | rfl | rfl
      · exact ⟨kb, rfl, by rw [c1]; rfl⟩
      · exact ⟨kn, rfl, by rw [c2]; rfl⟩
      · exact ⟨kf, rfl, by rw [c3]; rfl⟩
      · exact ⟨nI L, rfl, rfl⟩
      · exact ⟨nI K, rfl, by rw [← hm7]; rfl⟩
      · exact ⟨nI d, rfl, rfl⟩
    refine ⟨(v, kb, kn, kf), (v, Mf), ?_, ?_, rfl, hrel0⟩
    · unfold f_X6_told
      simp only [x_out, Option.bind_some, bI_dec]
      rw [if_pos P1, h1]
      rfl
    · unfold f_X7_told
      rw [m_inb (a := 0) (b := 5) (by decide) (by decide)]
      simp only [Option.bind_some, bI_decn]
      rw [if_neg P1, h2]
      rfl
set_option maxHeartbeats 4000000 in
set_option maxRecDepth 100000 in
theorem op_back  (kb : Int32) (kn : Int32) (kf : Int32) (rK : Int32) (rf : Nat → Int32) (vo : Int32) (vd : Int32) (vs : Nat → Int32) (tl : Int32) (tb : Nat → Int32) (Ms : Int32) (Mb : Int32) (Mr : Nat → Int32) (Mp : Nat → Int32) (Mf : Nat → Int32) (Mt : Nat → Int32) (hrel : Rel kb kn kf rK rf vo vd vs tl tb Ms Mb Mr Mp Mf Mt) : ∃ rx rm, f_X6_back kb kn kf rK rf vo vd vs = some rx ∧ f_X7_back Ms Mr Mp Mf = some rm ∧ rx.1 = rm.1 ∧ Rel rx.2.1 rx.2.2.1 rx.2.2.2.1 rx.2.2.2.2.1 rx.2.2.2.2.2.1 vo rx.2.2.2.2.2.2 vs tl tb rm.2.1 Mb rm.2.2.1 Mp rm.2.2.2 Mt := by
  have hrel0 := hrel
  obtain ⟨⟨K, a, hk, rfl, hf, hm, hm7⟩, hc, ⟨d, o, SK, sa, hd6, ho6, rfl, rfl, rfl, hst⟩, ht⟩ := hrel
  by_cases h0 : d = 0
  · subst h0
    exact ⟨(-1000002, kb, kn + 1, kf, nI K, rf, nI 0), (-1000002, nI 0, Mr, upd Mf 1 (Mf 1 + 1)), rfl, rfl, rfl, rel_no hrel0⟩
  · obtain ⟨g1, g2, g3, g4, g5⟩ := hst (d - 1) (by omega)
    obtain ⟨f1, e1, e2⟩ := x_loadL (p := (o + (d - 1)) % 6 * 8) (by omega) vs 200 0 rf (by omega) (by omega)
    obtain ⟨f2, e3, e4⟩ := m_bring4L (p := 8 * (d - 1)) (by omega) Mp 200 0 Mr (by omega) (by omega)
    refine ⟨(nI (d - 1), kb, kn, kf, nI (SK (d - 1)), f1, nI (d - 1)), (nI (d - 1), nI (d - 1), f2, Mf), ?_, ?_, rfl, ⟨SK (d - 1), sa (d - 1), g1, rfl, fun j hj => ?_, fun j hj => ?_, ?_⟩, hc, ⟨d - 1, o, SK, sa, by omega, ho6, rfl, rfl, rfl, fun i hi => hst i (by omega)⟩, ht⟩
    · unfold f_X6_back f_X4_depth f_X4_pop f_X3_load
      rw [Option.bind_some, if_neg (by rw [k0, nI_eq (by omega) (by omega)]; exact h0), if_pos (show (0 : Int32) < nI d from nI_lt (a := 0) (by omega) (by omega)), k1, pk_sub (by omega), x_place (by omega), Option.bind_some, if_neg (nI_pos (by omega)), show (((48 : Int32) - nI 1) - (7 : Int32)) = nI 40 from rfl, if_neg (nI_nlt (by omega) (by omega)), gif (by omega) (by omega), nI_cl (by omega), g2, show f_X6_isOutside (nI (SK (d - 1))) (nI 1) 7 = some false from x_cnt g1.1 g1.2.1, Option.bind_some, if_pos (show bI false = 0 from rfl), if_neg (fun q => q.elim (nI_pos (by omega)) (by omega)), k0, e1]
      rfl
    · unfold f_X7_back f_X7_bring_v4
      rw [if_neg (by rw [k0, nI_eq (by omega) (by omega)]; exact h0), k1, pk_sub (by omega), k8, pk_mul, k0, e3]
      rfl
    · have := g1.2.1
      show f1 j = _
      rw [e2 j, if_pos (by omega), g3 j (by omega)]
    · show f2 j = _
      rw [e4 j, if_pos (by omega), g4 j hj]
    · show f2 7 = _
      rw [e4 7, if_pos (by omega), g5]
