def mnp (A : Nat → Int64) (r j : Nat) : Nat → Nat → Int64 → Int64
  | 0, _, s => s
  | m + 1, c, s => mnp A r j m (c + 1) (s + co A r c * A (c + j))
def mj (A : Nat → Int64) (r j : Nat) : Int64 := mnp A r j (r + 1) 0 0
theorem x_mtpL {K : Nat} {a rf : Nat → Int32} (hk : okRow K a) (hf : ∀ j, j < K → rf j = a j) {M : Nat → Int64} (h : MMs (fun t => (a t).toInt64) M) {r j : Nat} (hr : r ≤ 3) (hj : j < 100) : ∀ (m fu c : Nat) (s : Int64), c + m = r + 1 → m < fu → f_X0_meanTimesPower_L6 fu (nI r) (nI j) s (nI c) M (nI K) rf = some (mnp (fun t => (a t).toInt64) r j m c s) := by
  intro m
  induction m with
  | zero =>
    intro fu c s hc hfu
    obtain ⟨f, rfl⟩ : ∃ f, fu = f + 1 := ⟨fu - 1, by omega⟩
    rw [f_X0_meanTimesPower_L6, if_pos (nI_lt (by omega) (by omega))]
    rfl
  | succ m ih =>
    intro fu c s hc hfu
    obtain ⟨f, rfl⟩ : ∃ f, fu = f + 1 := ⟨fu - 1, by omega⟩
    rw [f_X0_meanTimesPower_L6, if_neg (nI_nlt (by omega) (by omega)), x_coef h hr (by omega), Option.bind_some, nI_add, x_at hk hf (by omega), Option.bind_some, k1, nI_add, ih f _ _ (by omega) (by omega)]
    rfl
theorem x_mtp {K : Nat} {a rf : Nat → Int32} (hk : okRow K a) (hf : ∀ j, j < K → rf j = a j) {M : Nat → Int64} (h : MMs (fun t => (a t).toInt64) M) {r j : Nat} (hr : r ≤ 3) (hj : j < 100) : f_X0_meanTimesPower (nI r) (nI j) M (nI K) rf = some (mj (fun t => (a t).toInt64) r j) := by
  unfold f_X0_meanTimesPower
  rw [k0, x_mtpL hk hf h hr hj (r + 1) 200 0 0 (by omega) (by omega)]
  rfl
theorem m_mwL {a Mr : Nat → Int32} (hm : ∀ j, j < 7 → Mr j = a j) {r j : Nat} (hr : r ≤ 3) (hj : r + j < 7) {P : Nat → Int64} (hP : ∀ c, c ≤ r → P c = co (fun t => (a t).toInt64) r c) : ∀ (m fu c : Nat) (s : Int64), c + m = r + 1 → m < fu → f_X7_meanWith_L5 fu (nI r) (nI j) s (nI c) Mr P = some (mnp (fun t => (a t).toInt64) r j m c s) := by
  intro m
  induction m with
  | zero =>
    intro fu c s hc hfu
    obtain ⟨f, rfl⟩ : ∃ f, fu = f + 1 := ⟨fu - 1, by omega⟩
    rw [f_X7_meanWith_L5, if_pos (nI_lt (by omega) (by omega))]
    rfl
  | succ m ih =>
    intro fu c s hc hfu
    obtain ⟨f, rfl⟩ : ∃ f, fu = f + 1 := ⟨fu - 1, by omega⟩
    rw [f_X7_meanWith_L5, if_neg (nI_nlt (by omega) (by omega)), gif (by omega) (by omega), nI_add, gif (by omega) (by omega), nI_cl (by omega), nI_cl (by omega), hP c (by omega), hm _ (by omega), k1, nI_add, ih f _ _ (by omega) (by omega)]
    rfl
theorem m_mw {a Mr : Nat → Int32} (hm : ∀ j, j < 7 → Mr j = a j) {r j : Nat} (hr : r ≤ 3) (hj : r + j < 7) {P : Nat → Int64} (hP : ∀ c, c ≤ r → P c = co (fun t => (a t).toInt64) r c) : f_X7_meanWith (nI r) (nI j) Mr P = some (mj (fun t => (a t).toInt64) r j) := by
  unfold f_X7_meanWith
  rw [k0, m_mwL hm hr hj hP (r + 1) 200 0 0 (by omega) (by omega)]
  rfl
def restU (F : Nat → Int64) : Nat → Nat → Option Nat
  | 0, _ => none
  | m + 1, j => if F j = 0 then restU F m (j + 1) else some j
theorem restU_snoc (F : Nat → Int64) : ∀ t j, restU F (t + 1) j = match restU F t j with | some x => some x | none => if F (j + t) = 0 then none else some (j + t) := by
  intro t
  induction t with
  | zero => intro j; rw [restU]; rfl
  | succ t ih =>
    intro j
    rw [restU, ih (j + 1), restU]
    by_cases h : F j = 0
    · rw [if_pos h, if_pos h, show j + 1 + t = j + (t + 1) by omega]
    · rw [if_neg h, if_neg h]
def orNo (o : Option Nat) : Int32 := match o with | none => -1 | some t => nI t
theorem x_restL {K : Nat} {a rf : Nat → Int32} (hk : okRow K a) (hf : ∀ j, j < K → rf j = a j) {M : Nat → Int64} (h : MMs (fun t => (a t).toInt64) M) {r : Nat} (hr : r ≤ 3) (hrK : r + 1 ≤ K) : ∀ (m fu j : Nat), j + m = K - r → m < fu → f_X6_findRest_L4 fu (nI r) (nI j) (nI K) rf M = some (orNo (restU (mj (fun t => (a t).toInt64) r) m j)) := by
  have hK7 := hk.2.1
  intro m
  induction m with
  | zero =>
    intro fu j hj hfu
    obtain ⟨f, rfl⟩ : ∃ f, fu = f + 1 := ⟨fu - 1, by omega⟩
    rw [f_X6_findRest_L4, f_X3_size, Option.bind_some, k1, pk_sub (by omega), pk_sub (by omega), if_pos (nI_lt (by omega) (by omega))]
    rfl
  | succ m ih =>
    intro fu j hj hfu
    obtain ⟨f, rfl⟩ : ∃ f, fu = f + 1 := ⟨fu - 1, by omega⟩
    rw [f_X6_findRest_L4, f_X3_size, Option.bind_some, k1, pk_sub (by omega), pk_sub (by omega), if_neg (nI_nlt (by omega) (by omega)), x_mtp hk hf h hr (by omega), Option.bind_some, restU]
    by_cases q : mj (fun t => (a t).toInt64) r j = 0
    · rw [if_pos q, if_pos q, nI_add, ih f (j + 1) (by omega) (by omega)]
    · rw [if_neg q, if_neg q]; rfl
theorem H40 : ((0 : Int32) < 0 ∨ 4 ≤ 0) = False := eq_false (by decide)
theorem H41 : ((1 : Int32) < 0 ∨ 4 ≤ 1) = False := eq_false (by decide)
theorem H42 : ((2 : Int32) < 0 ∨ 4 ≤ 2) = False := eq_false (by decide)
theorem H43 : ((3 : Int32) < 0 ∨ 4 ≤ 3) = False := eq_false (by decide)
theorem H87 : ((7 : Int32) < 0 ∨ 8 ≤ 7) = False := eq_false (by decide)
theorem cl0 : (0 : Int32).toNatClampNeg = 0 := rfl
theorem cl1 : (1 : Int32).toNatClampNeg = 1 := rfl
theorem cl2 : (2 : Int32).toNatClampNeg = 2 := rfl
theorem cl3 : (3 : Int32).toNatClampNeg = 3 := rfl
theorem cl7 : (7 : Int32).toNatClampNeg = 7 := rfl
def restV (o : Option Nat) (f V : Nat → Int32) : Prop := match o with | none => ∀ i, V i = f i | some j => V 0 = 0 ∧ V 1 = f 1 ∧ V 2 = 1 ∧ V 3 = nI j
theorem m_restL {K : Nat} {a Mr : Nat → Int32} (hK7 : K ≤ 7) (hm : ∀ j, j < 7 → Mr j = a j) {r : Nat} (hr : r ≤ 3) {P : Nat → Int64} (hP : ∀ c, c ≤ r → P c = co (fun t => (a t).toInt64) r c) {d : Int64} (hd : d = 0) : ∀ (t fu : Nat) (Mv : Nat → Int32), 2 * r + t < K → t < fu → ∃ V, f_X7_judge_L156 fu (nI r) d (nI (r + t)) Mr P Mv = some V ∧ restV (restU (mj (fun t => (a t).toInt64) r) t (r + 1)) Mv V := by
  intro t
  induction t with
  | zero =>
    intro fu Mv ht hfu
    obtain ⟨f, rfl⟩ : ∃ f, fu = f + 1 := ⟨fu - 1, by omega⟩
    rw [f_X7_judge_L156, if_pos (nI_le (by omega) (by omega))]
    exact ⟨Mv, rfl, fun i => rfl⟩
  | succ t ih =>
    intro fu Mv ht hfu
    obtain ⟨f, rfl⟩ : ∃ f, fu = f + 1 := ⟨fu - 1, by omega⟩
    rw [f_X7_judge_L156, if_neg (nI_ge (by omega) (by omega)), if_pos hd, m_mw hm hr (by omega) hP, Option.bind_some, show r + (t + 1) = r + t + 1 by omega, nI_m1, restU_snoc, show r + 1 + t = r + t + 1 by omega]
    by_cases q : mj (fun t => (a t).toInt64) r (r + t + 1) = 0
    · obtain ⟨V, h1, h2⟩ := ih f Mv (by omega) (by omega)
      rw [if_pos q, if_pos q]
      refine ⟨V, h1, ?_⟩
      cases hq : restU (mj (fun t => (a t).toInt64) r) t (r + 1) with
      | none => rw [hq] at h2; exact h2
      | some x => rw [hq] at h2; exact h2
    · rw [if_neg q, if_neg q]
      simp only [cl0, cl2, cl3, H40, H42, H43, if_false]
      obtain ⟨V, h1, h2⟩ := ih f (upd (upd (upd Mv 0 (0 : Int32)) 2 (1 : Int32)) 3 (nI (r + t + 1))) (by omega) (by omega)
      refine ⟨V, h1, ?_⟩
      cases hq : restU (mj (fun t => (a t).toInt64) r) t (r + 1) with
      | none =>
        rw [hq] at h2
        refine ⟨?_, ?_, ?_, ?_⟩
        · rw [h2 0, upd_n (by omega), upd_n (by omega), upd_s]
        · rw [h2 1, upd_n (by omega), upd_n (by omega), upd_n (by omega)]
        · rw [h2 2, upd_n (by omega), upd_s]
        · rw [h2 3, upd_s]
      | some x =>
        rw [hq] at h2
        obtain ⟨w0, w1, w2, w3⟩ := h2
        exact ⟨w0, by rw [w1, upd_n (by omega), upd_n (by omega), upd_n (by omega)], w2, w3⟩
def rk (K : Nat) (A : Nat → Int64) : Nat → Nat → Nat
  | 0, r => r
  | m + 1, r => if K ≤ 2 * r then r else if dt A (r + 1) ≤ 0 then r else rk K A m (r + 1)
theorem rk_le (K : Nat) (A : Nat → Int64) : ∀ m r, r + m = 4 → rk K A m r ≤ 4 := by
  intro m
  induction m with
  | zero => intro r h; rw [rk]; omega
  | succ m ih =>
    intro r h
    rw [rk]
    by_cases q : K ≤ 2 * r
    · rw [if_pos q]; omega
    · rw [if_neg q]
      by_cases q2 : dt A (r + 1) ≤ 0
      · rw [if_pos q2]; omega
      · rw [if_neg q2]; exact ih (r + 1) (by omega)
def isV (V : Nat → Int32) (x y z : Int32) : Prop := V 0 = x ∧ V 2 = y ∧ V 3 = z
def resV (K : Nat) (A : Nat → Int64) (r : Nat) (V : Nat → Int32) : Prop := V 1 = nI r ∧ if 3 < r ∨ K ≤ 2 * r then isV V 2 (-1000000) (-1000000) else if 0 ≤ dt A (r + 1) then (if restU (mj A r) (K - 1 - 2 * r) (r + 1) = none then isV V 1 (-1000000) (-1000000) else isV V 0 1 (orNo (restU (mj A r) (K - 1 - 2 * r) (r + 1)))) else isV V 0 0 (-1000000)
theorem isV_eq {V W : Nat → Int32} {x y z : Int32} (h : isV V x y z) (h' : isV W x y z) : V 0 = W 0 ∧ V 2 = W 2 ∧ V 3 = W 3 := ⟨h.1.trans h'.1.symm, h.2.1.trans h'.2.1.symm, h.2.2.trans h'.2.2.symm⟩
theorem resV_eq {K : Nat} {A : Nat → Int64} {r : Nat} {V W : Nat → Int32} (h : resV K A r V) (h' : resV K A r W) : ∀ i, i < 4 → V i = W i := by
  obtain ⟨h1, h2⟩ := h
  obtain ⟨g1, g2⟩ := h'
  have key : V 0 = W 0 ∧ V 2 = W 2 ∧ V 3 = W 3 := by
    by_cases q1 : 3 < r ∨ K ≤ 2 * r
    · rw [if_pos q1] at h2 g2; exact isV_eq h2 g2
    · rw [if_neg q1] at h2 g2
      by_cases q2 : 0 ≤ dt A (r + 1)
      · rw [if_pos q2] at h2 g2
        by_cases q3 : restU (mj A r) (K - 1 - 2 * r) (r + 1) = none
        · rw [if_pos q3] at h2 g2; exact isV_eq h2 g2
        · rw [if_neg q3] at h2 g2; exact isV_eq h2 g2
      · rw [if_neg q2] at h2 g2; exact isV_eq h2 g2
  intro i hi
  rcases (by omega : i = 0 ∨ i = 1 ∨ i = 2 ∨ i = 3) with rfl | rfl | rfl | rfl
  · exact key.1
  · rw [h1, g1]
  · exact key.2.1
  · exact key.2.2
theorem x_find (x1 x2 x3 x4 : Int32) (fi : Nat → Int32) : ∃ V, f_X6_find x1 x2 x3 x4 fi = some V ∧ V 1 = x2 ∧ isV V x1 x3 x4 := by
  refine ⟨upd (upd (upd (upd fi 0 x1) 1 x2) 2 x3) 3 x4, rfl, ?_, ?_, ?_, ?_⟩
  · rw [upd_n (by omega), upd_n (by omega), upd_s]
  · rw [upd_n (by omega), upd_n (by omega), upd_n (by omega), upd_s]
  · rw [upd_n (by omega), upd_s]
  · rw [upd_s]
theorem x_j14 {K : Nat} (hK7 : K ≤ 7) {A M : Nat → Int64} (h : MMs A M) : ∀ (m fu r : Nat), r + m = 4 → m < fu → f_X6_judge_L14 fu (nI r) (nI K) M = some (nI (rk K A m r)) := by
  intro m
  induction m with
  | zero =>
    intro fu r hr hfu
    obtain ⟨f, rfl⟩ : ∃ f, fu = f + 1 := ⟨fu - 1, by omega⟩
    rw [f_X6_judge_L14, k3, if_pos (nI_lt (by omega) (by omega))]
    rfl
  | succ m ih =>
    intro fu r hr hfu
    obtain ⟨f, rfl⟩ : ∃ f, fu = f + 1 := ⟨fu - 1, by omega⟩
    rw [f_X6_judge_L14, k3, if_neg (nI_nlt (by omega) (by omega)), f_X3_size, Option.bind_some, k2, pk_mul, rk]
    by_cases q : K ≤ 2 * r
    · rw [if_pos q, if_pos (nI_le q (by omega))]
    · rw [if_neg q, if_neg (nI_ge (by omega) (by omega)), k1, nI_add, x_det h (by omega), Option.bind_some]
      by_cases q2 : dt A (r + 1) ≤ 0
      · rw [if_pos q2, if_pos q2]
      · rw [if_neg q2, if_neg q2, ih f (r + 1) (by omega) (by omega)]
theorem orNo_n {F : Nat → Int64} : ∀ (m j : Nat), j + m < 100 → (orNo (restU F m j) = -1 ↔ restU F m j = none) := by
  intro m j hj
  have bnd : ∀ m j x, restU F m j = some x → x < j + m := by
    intro m
    induction m with
    | zero => intro j x h; rw [restU] at h; exact absurd h (by simp)
    | succ m ih =>
      intro j x h
      rw [restU] at h
      by_cases q : F j = 0
      · rw [if_pos q] at h; have := ih (j + 1) x h; omega
      · rw [if_neg q] at h; have : j = x := Option.some.inj h
        omega
  cases hq : restU F m j with
  | none => exact ⟨fun _ => rfl, fun _ => rfl⟩
  | some x =>
    have hx := bnd m j x hq
    constructor
    · intro e
      exfalso
      have h1 : nI x = -1 := e
      have : ¬ nI x < 0 := nI_pos (by omega)
      rw [h1] at this
      exact this (by decide)
    · intro e; exact absurd e (by simp)
theorem x_judge {K : Nat} {a rf : Nat → Int32} (hk : okRow K a) (hf : ∀ j, j < K → rf j = a j) (mm : Nat → Int64) (fi : Nat → Int32) : ∃ M V, f_X6_judge (nI K) rf mm fi = some (nI K, M, V) ∧ MMs (fun t => (a t).toInt64) M ∧ resV K (fun t => (a t).toInt64) (rk K (fun t => (a t).toInt64) 4 0) V := by
  have hK7 := hk.2.1
  obtain ⟨M, e1, e2⟩ := x_fill0 hk hf mm
  have e3 : f_X6_judge_L14 200 (0 : Int32) (nI K) M = some (nI (rk K (fun t => (a t).toInt64) 4 0)) := x_j14 hK7 e2 4 200 0 (by omega) (by omega)
  have hr4 := rk_le K (fun t => (a t).toInt64) 4 0 (by omega)
  have xr := fun (r : Nat) (hr : r ≤ 3) (hrK : r + 1 ≤ K) => x_restL hk hf e2 hr hrK
  generalize rk K (fun t => (a t).toInt64) 4 0 = r at *
  have hA : (fun t => (a t).toInt64) = (fun t => (a t).toInt64) := rfl
  unfold f_X6_judge
  rw [e1, Option.bind_some]
  dsimp only
  rw [e3, Option.bind_some]
  by_cases q1 : 3 < r
  · obtain ⟨V, v1, v2, v3⟩ := x_find 2 (nI r) (-1000000) (-1000000) fi
    refine ⟨M, V, ?_, e2, v2, ?_⟩
    · rw [k3, if_pos (nI_lt q1 (by omega)), v1]; rfl
    · rw [if_pos (Or.inl q1)]; exact v3
  · rw [k3, if_neg (nI_nlt (by omega) (by omega)), f_X3_size, Option.bind_some]
    by_cases q2 : 2 * r < K
    · have n1 : ¬ (3 < r ∨ K ≤ 2 * r) := by omega
      rw [show (2 : Int32) * nI r = nI (2 * r) from by rw [k2, pk_mul], if_pos (nI_lt q2 (by omega)), show nI r + (1 : Int32) = nI (r + 1) from by rw [k1, nI_add], x_det e2 (by omega), Option.bind_some]
      by_cases q3 : 0 ≤ dt (fun t => (a t).toInt64) (r + 1)
      · rw [if_pos q3]
        unfold f_X6_findRest
        rw [show nI r + (1 : Int32) = nI (r + 1) from by rw [k1, nI_add], xr r (by omega) (by omega) (K - 1 - 2 * r) 200 (r + 1) (by omega) (by omega), Option.bind_some]
        by_cases q4 : restU (mj (fun t => (a t).toInt64) r) (K - 1 - 2 * r) (r + 1) = none
        · obtain ⟨V, v1, v2, v3⟩ := x_find 1 (nI r) (-1000000) (-1000000) fi
          refine ⟨M, V, ?_, e2, v2, ?_⟩
          · rw [if_pos ((orNo_n _ _ (by omega)).mpr q4), v1]; rfl
          · rw [if_neg n1, if_pos q3, if_pos q4]; exact v3
        · obtain ⟨V, v1, v2, v3⟩ := x_find 0 (nI r) 1 (orNo (restU (mj (fun t => (a t).toInt64) r) (K - 1 - 2 * r) (r + 1))) fi
          refine ⟨M, V, ?_, e2, v2, ?_⟩
          · rw [if_neg (fun z => q4 ((orNo_n _ _ (by omega)).mp z)), v1]; rfl
          · rw [if_neg n1, if_pos q3, if_neg q4]; exact v3
      · obtain ⟨V, v1, v2, v3⟩ := x_find 0 (nI r) 0 (-1000000) fi
        refine ⟨M, V, ?_, e2, v2, ?_⟩
        · rw [if_neg q3, v1]; rfl
        · rw [if_neg n1, if_neg q3]; exact v3
    · obtain ⟨V, v1, v2, v3⟩ := x_find 2 (nI r) (-1000000) (-1000000) fi
      refine ⟨M, V, ?_, e2, v2, ?_⟩
      · rw [show (2 : Int32) * nI r = nI (2 * r) from by rw [k2, pk_mul], if_neg (nI_nlt (by omega) (by omega)), v1]; rfl
      · rw [if_pos (Or.inr (by omega))]; exact v3
theorem m_j30 {K : Nat} {a Mr : Nat → Int32} (hk : okRow K a) (hm : ∀ j, j < 7 → Mr j = a j) (hm7 : Mr 7 = nI K) : ∀ (m fu r : Nat) (MB : Int64) (T P : Nat → Int64) (Mv : Nat → Int32), r + m = 4 → m + 1 < fu → Mv 1 = nI r → isV Mv 2 (-1000000) (-1000000) → ∃ MB' T' P' V, f_X7_judge_L30 fu MB Mr T P Mv = some (MB', T', P', V) ∧ resV K (fun t => (a t).toInt64) (rk K (fun t => (a t).toInt64) m r) V := by
  have hK7 := hk.2.1
  intro m
  induction m with
  | zero =>
    intro fu r MB T P Mv hr hfu h1 hv
    obtain ⟨f, rfl⟩ : ∃ f, fu = f + 1 := ⟨fu - 1, by omega⟩
    refine ⟨MB, T, P, Mv, ?_, h1, ?_⟩
    · rw [f_X7_judge_L30]
      simp only [cl0, cl1, H40, H41, if_false]
      rw [if_pos hv.1, h1, k3, if_pos (nI_lt (by omega) (by omega))]
    · rw [if_pos (Or.inl (by rw [rk]; omega))]; exact hv
  | succ m ih =>
    intro fu r MB T P Mv hr hfu h1 hv
    obtain ⟨f, rfl⟩ : ∃ f, fu = f + 2 := ⟨fu - 2, by omega⟩
    rw [f_X7_judge_L30]
    simp only [cl0, cl1, cl2, cl7, H40, H41, H42, H87, if_false]
    rw [if_pos hv.1, h1, hm7, k3, if_neg (nI_nlt (by omega) (by omega)), show (2 : Int32) * nI r = nI (2 * r) from by rw [k2, pk_mul], rk]
    by_cases q1 : K ≤ 2 * r
    · rw [if_pos (nI_le q1 (by omega)), if_pos q1]
      exact ⟨MB, T, P, Mv, rfl, h1, by rw [if_pos (Or.inr q1)]; exact hv⟩
    · have n1 : ¬ (3 < r ∨ K ≤ 2 * r) := by omega
      obtain ⟨T1, e1⟩ := m_det00 hk hm (n := r + 1) (by omega) (by omega) T
      have g1 : nI r + (1 : Int32) = nI (r + 1) := by rw [k1, nI_add]
      rw [if_neg (nI_ge (by omega) (by omega)), if_neg q1, g1, e1, Option.bind_some]
      dsimp only
      by_cases q2 : dt (fun t => (a t).toInt64) (r + 1) ≤ 0
      · rw [if_pos q2, if_pos q2]
        obtain ⟨T2, P2, e2, e3⟩ := m_makePoly hk hm (n := r) (by omega) (by omega) T1 P
        rw [e2, Option.bind_some, Option.bind_some, show nI K - (1 : Int32) - nI r = nI (r + (K - 1 - 2 * r)) from by rw [k1, pk_sub (by omega), pk_sub (by omega)]; congr 1; omega]
        dsimp only
        by_cases q3 : 0 ≤ dt (fun t => (a t).toInt64) (r + 1)
        · have d0 : dt (fun t => (a t).toInt64) (r + 1) = 0 := Int64.le_antisymm q2 q3
          rw [if_pos q3, if_pos q3]
          obtain ⟨V, w1, w2⟩ := m_restL hK7 hm (r := r) (by omega) e3 d0 (K - 1 - 2 * r) 200 (upd (upd Mv 0 (1 : Int32)) 2 (-1000000 : Int32)) (by omega) (by omega)
          rw [w1, Option.bind_some]
          have hV : resV K (fun t => (a t).toInt64) r V := by
            cases hq : restU (mj (fun t => (a t).toInt64) r) (K - 1 - 2 * r) (r + 1) with
            | none =>
              rw [hq] at w2
              refine ⟨by rw [w2 1, upd_n (by omega), upd_n (by omega), h1], ?_⟩
              rw [if_neg n1, if_pos q3, if_pos hq]
              exact ⟨by rw [w2 0, upd_n (by omega), upd_s], by rw [w2 2, upd_s], by rw [w2 3, upd_n (by omega), upd_n (by omega), hv.2.2]⟩
            | some x =>
              rw [hq] at w2
              obtain ⟨u0, u1, u2, u3⟩ := w2
              refine ⟨by rw [u1, upd_n (by omega), upd_n (by omega), h1], ?_⟩
              rw [if_neg n1, if_pos q3, hq, if_neg (by simp)]
              exact ⟨u0, u2, u3⟩
          have hne : ¬ V 0 = 2 := by
            intro z
            have := hV.2
            rw [if_neg n1, if_pos q3] at this
            by_cases q4 : restU (mj (fun t => (a t).toInt64) r) (K - 1 - 2 * r) (r + 1) = none
            · rw [if_pos q4] at this; have := this.1; rw [z] at this; exact absurd this (by decide)
            · rw [if_neg q4] at this; have := this.1; rw [z] at this; exact absurd this (by decide)
          refine ⟨dt (fun t => (a t).toInt64) r, T2, P2, V, ?_, hV⟩
          rw [f_X7_judge_L30]
          simp only [cl0, H40, if_false]
          rw [if_neg hne]
        · rw [if_neg q3, if_neg q3, Option.bind_some]
          dsimp only
          have d0 : ¬ dt (fun t => (a t).toInt64) (r + 1) = 0 := fun z => q3 (by rw [z]; decide)
          have w1 : f_X7_judge_L156 200 (nI r) (dt (fun t => (a t).toInt64) (r + 1)) (nI (r + (K - 1 - 2 * r))) Mr P2 (upd (upd Mv 0 (0 : Int32)) 2 (0 : Int32)) = some (upd (upd Mv 0 (0 : Int32)) 2 (0 : Int32)) := by
            rw [f_X7_judge_L156, if_neg d0, ite_self]
          rw [w1, Option.bind_some]
          have e0 : upd (upd Mv 0 (0 : Int32)) 2 (0 : Int32) 0 = 0 := by rw [upd_n (by omega), upd_s]
          refine ⟨dt (fun t => (a t).toInt64) r, T2, P2, upd (upd Mv 0 (0 : Int32)) 2 (0 : Int32), ?_, by rw [upd_n (by omega), upd_n (by omega), h1], ?_⟩
          · rw [f_X7_judge_L30]
            simp only [cl0, H40, if_false]
            rw [e0, if_neg (by decide)]
          · rw [if_neg n1, if_neg q3]
            exact ⟨e0, by rw [upd_s], by rw [upd_n (by omega), upd_n (by omega), hv.2.2]⟩
      · rw [if_neg q2, if_neg q2]
        exact ih (f + 1) (r + 1) MB T1 P _ (by omega) (by omega) (by rw [upd_s]) ⟨by rw [upd_n (by omega), hv.1], by rw [upd_n (by omega), hv.2.1], by rw [upd_n (by omega), hv.2.2]⟩
theorem m_judge {K : Nat} {a Mr : Nat → Int32} (hk : okRow K a) (hm : ∀ j, j < 7 → Mr j = a j) (hm7 : Mr 7 = nI K) (MB : Int64) (T P : Nat → Int64) (Mv : Nat → Int32) : ∃ MB' T' P' V, f_X7_judge MB Mr T P Mv = some (MB', T', P', V) ∧ resV K (fun t => (a t).toInt64) (rk K (fun t => (a t).toInt64) 4 0) V := by
  unfold f_X7_judge
  simp only [cl0, cl1, cl2, cl3, H40, H41, H42, H43, if_false]
  obtain ⟨MB', T', P', V, h1, h2⟩ := m_j30 hk hm hm7 4 200 0 MB T P (upd (upd (upd (upd Mv 0 (2 : Int32)) 1 (0 : Int32)) 2 (-1000000 : Int32)) 3 (-1000000 : Int32)) (by omega) (by omega) (by rw [upd_n (by omega), upd_n (by omega), upd_s]; rfl) ⟨by rw [upd_n (by omega), upd_n (by omega), upd_n (by omega), upd_s], by rw [upd_n (by omega), upd_s], by rw [upd_s]⟩
  refine ⟨MB', T', P', V, ?_, h2⟩
  rw [h1]; rfl
theorem tally_eq {kb kn kf : Int32} {K d L : Nat} {Mr Mf : Nat → Int32} (c1 : kb = Mf 0) (c2 : kn = Mf 1) (c3 : kf = Mf 2) (hm7 : Mr 7 = nI K) {j : Nat} (hj : j ≤ 5) : ∃ v, f_X6_tally (nI j) kb kn kf (nI K) (nI d) (nI L) = some v ∧ f_X7_toldOf (nI j) (nI d) (nI L) Mr Mf = some v := by
  rcases (by omega : j = 0 ∨ j = 1 ∨ j = 2 ∨ j = 3 ∨ j = 4 ∨ j = 5) with rfl | rfl | rfl | rfl | rfl | rfl
  · exact ⟨kb, rfl, by rw [c1]; rfl⟩
  · exact ⟨kn, rfl, by rw [c2]; rfl⟩
  · exact ⟨kf, rfl, by rw [c3]; rfl⟩
  · exact ⟨nI L, rfl, rfl⟩
  · exact ⟨nI K, rfl, by rw [← hm7]; rfl⟩
  · exact ⟨nI d, rfl, rfl⟩
theorem dg6 {kb kn kf : Int32} {K d L : Nat} {Mr Mf : Nat → Int32} (c1 : kb = Mf 0) (c2 : kn = Mf 1) (c3 : kf = Mf 2) (hm7 : Mr 7 = nI K) : ∀ (m fu j : Nat) (h : Int64), j + m = 6 → m < fu → ∃ v, f_X6_digest_L6 fu h (nI j) kb kn kf (nI K) (nI d) (nI L) = some v ∧ f_X7_digest_L6 fu h (nI j) (nI d) (nI L) Mr Mf = some v := by
  intro m
  induction m with
  | zero =>
    intro fu j h hj hfu
    obtain ⟨f, rfl⟩ : ∃ f, fu = f + 1 := ⟨fu - 1, by omega⟩
    refine ⟨h, ?_, ?_⟩
    · rw [f_X6_digest_L6, k5, if_pos (nI_lt (by omega) (by omega))]
    · rw [f_X7_digest_L6, k6, if_pos (nI_le (by omega) (by omega))]
  | succ m ih =>
    intro fu j h hj hfu
    obtain ⟨f, rfl⟩ : ∃ f, fu = f + 1 := ⟨fu - 1, by omega⟩
    obtain ⟨v, v1, v2⟩ := tally_eq (d := d) (L := L) c1 c2 c3 hm7 (j := j) (by omega)
    obtain ⟨w, w1, w2⟩ := ih f (j + 1) ((31 : Int64) * h + v.toInt64) (by omega) (by omega)
    refine ⟨w, ?_, ?_⟩
    · rw [f_X6_digest_L6, k5, if_neg (nI_nlt (by omega) (by omega)), v1, Option.bind_some, k1, nI_add, w1]
    · rw [f_X7_digest_L6, k6, if_neg (nI_ge (by omega) (by omega)), v2, Option.bind_some, k1, nI_add, w2]
theorem dg32 {K : Nat} {a rf Mr : Nat → Int32} (hk : okRow K a) (hf : ∀ j, j < K → rf j = a j) (hm : ∀ j, j < 7 → Mr j = a j) (hm7 : Mr 7 = nI K) : ∀ (m fu j : Nat) (h : Int64), j + m = K → m < fu → ∃ v, f_X6_digest_L32 fu h (nI j) (nI K) rf = some v ∧ f_X7_digest_L33 fu h (nI j) Mr = some v := by
  have hK7 := hk.2.1
  intro m
  induction m with
  | zero =>
    intro fu j h hj hfu
    obtain ⟨f, rfl⟩ : ∃ f, fu = f + 1 := ⟨fu - 1, by omega⟩
    refine ⟨h, ?_, ?_⟩
    · rw [f_X6_digest_L32, f_X3_size, Option.bind_some, if_pos (nI_le (by omega) (by omega))]
    · rw [f_X7_digest_L33]
      simp only [cl7, H87, if_false, hm7]
      rw [if_pos (nI_le (by omega) (by omega))]
  | succ m ih =>
    intro fu j h hj hfu
    obtain ⟨f, rfl⟩ : ∃ f, fu = f + 1 := ⟨fu - 1, by omega⟩
    obtain ⟨w, w1, w2⟩ := ih f (j + 1) ((31 : Int64) * h + (a j).toInt64) (by omega) (by omega)
    refine ⟨w, ?_, ?_⟩
    · rw [f_X6_digest_L32, f_X3_size, Option.bind_some, if_neg (nI_ge (by omega) (by omega)), x_at hk hf (by omega), Option.bind_some, k1, nI_add, w1]
    · rw [f_X7_digest_L33]
      simp only [cl7, H87, if_false, hm7]
      rw [if_neg (nI_ge (by omega) (by omega)), gif (by omega) (by omega), nI_cl (by omega), hm j (by omega), k1, nI_add, w2]
theorem dg71 {V W : Nat → Int32} (hV : ∀ i, i < 4 → V i = W i) : ∀ (m fu j : Nat) (h : Int64), j + m = 4 → m < fu → ∃ v, f_X6_digest_L71 fu h (nI j) V = some v ∧ f_X7_digest_L70 fu h (nI j) W = some v := by
  intro m
  induction m with
  | zero =>
    intro fu j h hj hfu
    obtain ⟨f, rfl⟩ : ∃ f, fu = f + 1 := ⟨fu - 1, by omega⟩
    refine ⟨h, ?_, ?_⟩
    · rw [f_X6_digest_L71, k4, if_pos (nI_le (by omega) (by omega))]
    · rw [f_X7_digest_L70, k4, if_pos (nI_le (by omega) (by omega))]
  | succ m ih =>
    intro fu j h hj hfu
    obtain ⟨f, rfl⟩ : ∃ f, fu = f + 1 := ⟨fu - 1, by omega⟩
    obtain ⟨w, w1, w2⟩ := ih f (j + 1) ((31 : Int64) * h + (V j).toInt64) (by omega) (by omega)
    refine ⟨w, ?_, ?_⟩
    · rw [f_X6_digest_L71, k4, if_neg (nI_ge (by omega) (by omega)), gif (by omega) (by omega), nI_cl (by omega), k1, nI_add, w1]
    · rw [f_X7_digest_L70, k4, if_neg (nI_ge (by omega) (by omega)), gif (by omega) (by omega), nI_cl (by omega), k1, nI_add, ← hV j (by omega), w2]
theorem dg102 {K : Nat} {a Mr : Nat → Int32} (hk : okRow K a) (hm : ∀ j, j < 7 → Mr j = a j) (hm7 : Mr 7 = nI K) {M : Nat → Int64} (hM : MMs (fun t => (a t).toInt64) M) : ∀ (m fu j : Nat) (h : Int64) (T : Nat → Int64), j + m = 5 → m < fu → ∃ v T', f_X6_digest_L102 fu h (nI j) (nI K) M = some v ∧ f_X7_digest_L97 fu h (nI j) Mr T = some (v, T') := by
  have hK7 := hk.2.1
  intro m
  induction m with
  | zero =>
    intro fu j h T hj hfu
    obtain ⟨f, rfl⟩ : ∃ f, fu = f + 1 := ⟨fu - 1, by omega⟩
    refine ⟨h, T, ?_, ?_⟩
    · rw [f_X6_digest_L102, k4, if_pos (nI_lt (by omega) (by omega))]
    · rw [f_X7_digest_L97, k5, if_pos (nI_le (by omega) (by omega))]
  | succ m ih =>
    intro fu j h T hj hfu
    obtain ⟨f, rfl⟩ : ∃ f, fu = f + 1 := ⟨fu - 1, by omega⟩
    have t1 : f_X3_hasTable (0 : Int32) (nI j) (nI K) = some (decide (j = 0 ∨ 0 + 2 * (j - 1) < K)) := x_table hK7 (s := 0) (by omega) (by omega)
    have t2 : f_X7_isThere (0 : Int32) (nI j) Mr = some (decide (j = 0 ∨ 0 + 2 * (j - 1) < K)) := m_there hK7 hm7 (s := 0) (by omega) (by omega)
    rw [f_X6_digest_L102, f_X7_digest_L97, k4, if_neg (nI_nlt (by omega) (by omega)), k5, if_neg (nI_ge (by omega) (by omega)), t1, t2, Option.bind_some, Option.bind_some, k1, nI_add]
    by_cases q : j = 0 ∨ 0 + 2 * (j - 1) < K
    · obtain ⟨T1, e1⟩ := m_det00 hk hm (n := j) (by omega) (by omega) T
      obtain ⟨w, T', w1, w2⟩ := ih f (j + 1) ((31 : Int64) * h + dt (fun t => (a t).toInt64) j) T1 (by omega) (by omega)
      rw [decide_eq_true q, if_neg bI_tne, if_neg bI_tne, x_det hM (by omega), e1, Option.bind_some, Option.bind_some]
      exact ⟨w, T', w1, w2⟩
    · obtain ⟨w, T', w1, w2⟩ := ih f (j + 1) h T (by omega) (by omega)
      rw [decide_eq_false q, if_pos bI_fe, if_pos bI_fe]
      exact ⟨w, T', w1, w2⟩
theorem dgP {K : Nat} {a Mr : Nat → Int32} (hk : okRow K a) (hm : ∀ j, j < 7 → Mr j = a j) {M : Nat → Int64} (hM : MMs (fun t => (a t).toInt64) M) {n : Nat} (hn : n ≤ 3) (hP : hasP K (fun t => (a t).toInt64) n = true) : ∀ (m fu c : Nat) (h MB : Int64) (T P : Nat → Int64), c + m = n → m < fu → ∃ v MB' T' P', f_X6_digestPolynomial_L6 fu (nI n) h (nI c) M = some v ∧ f_X7_digest_L151 fu h (nI n) (bI true) (nI c) MB Mr T P = some (v, MB', T', P') := by
  intro m
  induction m with
  | zero =>
    intro fu j h MB T P hj hfu
    obtain ⟨f, rfl⟩ : ∃ f, fu = f + 1 := ⟨fu - 1, by omega⟩
    refine ⟨h, MB, T, P, ?_, ?_⟩
    · rw [f_X6_digestPolynomial_L6, if_pos (nI_le (by omega) (by omega))]
    · rw [f_X7_digest_L151, if_pos (nI_le (by omega) (by omega))]
  | succ m ih =>
    intro fu c h MB T P hj hfu
    obtain ⟨f, rfl⟩ : ∃ f, fu = f + 1 := ⟨fu - 1, by omega⟩
    obtain ⟨T1, P1, e1, e2⟩ := m_makePoly hk hm hn (hasP_K hP) T P
    obtain ⟨v, v1, v2⟩ := part_eq (co (fun t => (a t).toInt64) n c) (dt (fun t => (a t).toInt64) n) 0 (hasP_ne hP)
    obtain ⟨u, u1, u2⟩ := part_eq (co (fun t => (a t).toInt64) n c) (dt (fun t => (a t).toInt64) n) 1 (hasP_ne hP)
    obtain ⟨w, MB', T', P', w1, w2⟩ := ih f (c + 1) ((31 : Int64) * ((31 : Int64) * h + v) + u) (dt (fun t => (a t).toInt64) n) T1 P1 (by omega) (by omega)
    have g1 : nI c + (1 : Int32) = nI (c + 1) := by rw [k1, nI_add]
    refine ⟨w, MB', T', P', ?_, ?_⟩
    · rw [f_X6_digestPolynomial_L6, if_neg (nI_ge (by omega) (by omega)), x_coef hM hn (by omega), Option.bind_some, x_det hM (by omega), Option.bind_some, v1, Option.bind_some, Option.bind_some, Option.bind_some, u1, Option.bind_some, g1, w1]
    · rw [f_X7_digest_L151, if_neg (nI_ge (by omega) (by omega)), if_neg bI_tne, e1, Option.bind_some, gif (by omega) (by omega), nI_cl (by omega)]
      dsimp only
      rw [e2 c (by omega), v2, Option.bind_some, if_neg (show ¬ (nI c < 0 ∨ 4 ≤ c) from fun z => z.elim (nI_pos (by omega)) (fun z => by omega)), u2, Option.bind_some, g1, w2]
theorem dg142 {K : Nat} {a Mr : Nat → Int32} (hk : okRow K a) (hm : ∀ j, j < 7 → Mr j = a j) (hm7 : Mr 7 = nI K) {M : Nat → Int64} (hM : MMs (fun t => (a t).toInt64) M) : ∀ (m fu j : Nat) (h MB : Int64) (T P : Nat → Int64), j + m = 4 → 1 ≤ j → m < fu → ∃ v MB' T' P', f_X6_digest_L142 fu h (nI j) (nI K) M = some v ∧ f_X7_digest_L136 fu h (nI j) MB Mr T P = some (v, MB', T', P') := by
  have hK7 := hk.2.1
  intro m
  induction m with
  | zero =>
    intro fu j h MB T P hj hj1 hfu
    obtain ⟨f, rfl⟩ : ∃ f, fu = f + 1 := ⟨fu - 1, by omega⟩
    refine ⟨h, MB, T, P, ?_, ?_⟩
    · rw [f_X6_digest_L142, k3, if_pos (nI_lt (by omega) (by omega))]
    · rw [f_X7_digest_L136, k4, if_pos (nI_le (by omega) (by omega))]
  | succ m ih =>
    intro fu j h MB T P hj hj1 hfu
    obtain ⟨f, rfl⟩ : ∃ f, fu = f + 1 := ⟨fu - 1, by omega⟩
    obtain ⟨T1, e1⟩ := m_isPoly hk hm hm7 (n := j) (by omega) T
    have g1 : nI j + (1 : Int32) = nI (j + 1) := by rw [k1, nI_add]
    rw [f_X6_digest_L142, f_X7_digest_L136, k3, if_neg (nI_nlt (by omega) (by omega)), k4, if_neg (nI_ge (by omega) (by omega)), x_hasP hK7 hM (by omega), e1, Option.bind_some, Option.bind_some, g1]
    dsimp only
    cases hP : hasP K (fun t => (a t).toInt64) j with
    | false =>
      obtain ⟨w, MB', T', P', w1, w2⟩ := ih f (j + 1) h MB T1 P (by omega) (by omega) (by omega)
      have e2 : f_X7_digest_L151 200 h (nI j) (bI false) (0 : Int32) MB Mr T1 P = some (h, MB, T1, P) := by
        rw [f_X7_digest_L151, if_pos bI_fe, ite_self]
      rw [if_pos bI_fe, e2, Option.bind_some]
      exact ⟨w, MB', T', P', w1, w2⟩
    | true =>
      obtain ⟨u, MB1, T2, P2, u1, u2⟩ := dgP hk hm hM (by omega) hP j 200 0 h MB T1 P (by omega) (by omega)
      have u1' : f_X6_digestPolynomial h (nI j) M = some u := by
        unfold f_X6_digestPolynomial
        rw [k0, u1]; rfl
      have u2' : f_X7_digest_L151 200 h (nI j) (bI true) (0 : Int32) MB Mr T1 P = some (u, MB1, T2, P2) := u2
      obtain ⟨w, MB', T', P', w1, w2⟩ := ih f (j + 1) u MB1 T2 P2 (by omega) (by omega) (by omega)
      rw [if_neg bI_tne, u1', u2', Option.bind_some, Option.bind_some]
      exact ⟨w, MB', T', P', w1, w2⟩
set_option maxHeartbeats 4000000 in
set_option maxRecDepth 100000 in
theorem op_verdict (x1 : Int32) (kb : Int32) (kn : Int32) (kf : Int32) (rK : Int32) (rf : Nat → Int32) (vo : Int32) (vd : Int32) (vs : Nat → Int32) (tl : Int32) (tb : Nat → Int32) (Ms : Int32) (Mb : Int32) (Mr : Nat → Int32) (Mp : Nat → Int32) (Mf : Nat → Int32) (Mt : Nat → Int32) (mc : Int32) (mm : Nat → Int64) (fi : Nat → Int32) (MB : Int64) (MT : Nat → Int64) (MP : Nat → Int64) (Mv : Nat → Int32) (hrel : Rel kb kn kf rK rf vo vd vs tl tb Ms Mb Mr Mp Mf Mt) : ∃ rx rm, f_X6_verdict x1 kb kn kf rK rf mc mm fi = some rx ∧ f_X7_verdict x1 MB Mr Mf MT MP Mv = some rm ∧ rx.1 = rm.1 ∧ Rel rx.2.1 rx.2.2.1 rx.2.2.2.1 rK rf vo vd vs tl tb Ms Mb Mr Mp rm.2.2.1 Mt := by
  have hrel0 := hrel
  obtain ⟨⟨K, a, hk, rfl, hf, hm, hm7⟩, hc, hs, ht⟩ := hrel
  by_cases P1 : x1 < (0 : Int32) ∨ (3 : Int32) < x1
  · exact ⟨_, _, by unfold f_X6_verdict; simp only [x_out, Option.bind_some, bI_dec, x_bad]; rw [if_neg (nn P1)], by unfold f_X7_verdict; simp only [in03, Option.bind_some, bI_decn, m_bad]; rw [if_pos P1], rfl, rel_bad hrel0⟩
  obtain ⟨n, _, hn3, rfl⟩ := inn (a := 0) (b := 3) (by omega) (by omega) P1
  obtain ⟨M, V, e1, e2, e3⟩ := x_judge hk hf mm fi
  obtain ⟨MB', T', P', W, e4, e5⟩ := m_judge hk hm hm7 MB MT MP Mv
  have hVW := resV_eq e3 e5 n (by omega)
  exact ⟨_, _, by unfold f_X6_verdict; simp only [x_out, Option.bind_some, bI_dec, x_bad, e1]; rw [if_pos P1, gif (by omega) (by omega), nI_cl (by omega)], by unfold f_X7_verdict; simp only [in03, Option.bind_some, bI_decn, m_bad, e4]; rw [if_neg P1, gif (by omega) (by omega), nI_cl (by omega)], hVW, hrel0⟩
set_option maxHeartbeats 4000000 in
set_option maxRecDepth 100000 in
theorem op_digest  (kb : Int32) (kn : Int32) (kf : Int32) (rK : Int32) (rf : Nat → Int32) (vo : Int32) (vd : Int32) (vs : Nat → Int32) (tl : Int32) (tb : Nat → Int32) (Ms : Int32) (Mb : Int32) (Mr : Nat → Int32) (Mp : Nat → Int32) (Mf : Nat → Int32) (Mt : Nat → Int32) (mm : Nat → Int64) (fi : Nat → Int32) (MB : Int64) (MT : Nat → Int64) (MP : Nat → Int64) (Mv : Nat → Int32) (hrel : Rel kb kn kf rK rf vo vd vs tl tb Ms Mb Mr Mp Mf Mt) : ∃ rx rm, f_X6_digest kb kn kf rK rf mm vd tl fi = some rx ∧ f_X7_digest Ms Mb MB Mr Mf MT MP Mv = some rm ∧ rx.1 = rm.1 ∧ Rel kb kn kf rK rf vo vd vs tl tb Ms Mb Mr Mp Mf Mt := by
  have hrel0 := hrel
  obtain ⟨⟨K, a, hk, rfl, hf, hm, hm7⟩, ⟨c1, c2, c3⟩, ⟨d, o, SK, sa, hd6, ho6, rfl, rfl, rfl, hst⟩, L, hL, rfl, rfl, ht⟩ := hrel
  obtain ⟨v1, s1, s2⟩ := dg6 (d := d) (L := L) c1 c2 c3 hm7 6 200 0 2357 (by omega) (by omega)
  obtain ⟨v2, s3, s4⟩ := dg32 hk hf hm hm7 K 200 0 v1 (by omega) (by have := hk.2.1; omega)
  obtain ⟨M, V, e1, e2, e3⟩ := x_judge hk hf mm fi
  obtain ⟨MB1, T1, P1, W, e4, e5⟩ := m_judge hk hm hm7 MB MT MP Mv
  obtain ⟨v3, s5, s6⟩ := dg71 (resV_eq e3 e5) 4 200 0 v2 (by omega) (by omega)
  obtain ⟨v4, T2, s7, s8⟩ := dg102 hk hm hm7 e2 5 200 0 v3 T1 (by omega) (by omega)
  obtain ⟨v5, MB2, T3, P3, s9, s10⟩ := dg142 hk hm hm7 e2 3 200 1 v4 MB1 T2 P1 (by omega) (by omega) (by omega)
  refine ⟨(v5, nI K, M, V), (v5, MB2, T3, P3, W), ?_, ?_, rfl, hrel0⟩
  · unfold f_X6_digest
    rw [k0, k1, s1, Option.bind_some, s3, Option.bind_some, e1, Option.bind_some]
    dsimp only
    rw [s5, Option.bind_some, s7, Option.bind_some, s9, Option.bind_some]
  · unfold f_X7_digest
    rw [k0, k1, s2, Option.bind_some, s4, Option.bind_some, e4, Option.bind_some]
    dsimp only
    rw [s6, Option.bind_some, s8, Option.bind_some]
    dsimp only
    rw [s10, Option.bind_some]
