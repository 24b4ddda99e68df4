/-! the text is read: both readers side by side -/
def okL (c : Int32) : Prop := c = 107 ∨ c = 108 ∨ c = 109 ∨ c = 112 ∨ c = 115 ∨ c = 118 ∨ c = 119
def mxN (c : Int32) : Nat := if c = 109 then 7 else if c = 112 then 2 else if c = 108 then 0 else 1
def mnN (c : Int32) : Nat := if c = 109 then 1 else mxN c
theorem mxN_le (c : Int32) : mxN c ≤ 7 := by
  unfold mxN
  by_cases h1 : c = 109
  · rw [if_pos h1]; omega
  · rw [if_neg h1]
    by_cases h2 : c = 112
    · rw [if_pos h2]; omega
    · rw [if_neg h2]
      by_cases h3 : c = 108
      · rw [if_pos h3]; omega
      · rw [if_neg h3]; omega
theorem mnN_le (c : Int32) : mnN c ≤ 7 := by
  unfold mnN
  by_cases h1 : c = 109
  · rw [if_pos h1]; omega
  · rw [if_neg h1]; exact mxN_le c
theorem x_most {c : Int32} (h : okL c) : f_X2_mostNumbers c = some (nI (mxN c)) := by
  rcases h with rfl | rfl | rfl | rfl | rfl | rfl | rfl <;> decide +kernel
theorem x_most_no {c : Int32} (h : ¬ okL c) : f_X2_mostNumbers c = some (-1) := by
  unfold okL at h
  simp only [not_or] at h
  unfold f_X2_mostNumbers
  rw [if_neg h.1, if_neg h.2.1, if_neg h.2.2.1, if_neg h.2.2.2.1, if_neg h.2.2.2.2.1, if_neg h.2.2.2.2.2.1, if_neg h.2.2.2.2.2.2]
theorem m_most (c : Int32) : f_X7_mostNumbers c = some (nI (mxN c)) := by
  unfold f_X7_mostNumbers mxN
  by_cases h1 : c = 109
  · rw [if_pos h1, if_pos h1]; rfl
  · rw [if_neg h1, if_neg h1]
    by_cases h2 : c = 112
    · rw [if_pos h2, if_pos h2]; rfl
    · rw [if_neg h2, if_neg h2]
      by_cases h3 : c = 108
      · rw [if_pos h3, if_pos h3]; rfl
      · rw [if_neg h3, if_neg h3]; rfl
theorem x_least {c : Int32} (h : okL c) : f_X2_leastNumbers c = some (nI (mnN c)) := by
  unfold f_X2_leastNumbers mnN
  by_cases h1 : c = 109
  · rw [if_pos h1, if_pos h1]; rfl
  · rw [if_neg h1, if_neg h1, x_most h]; rfl
theorem m_least (c : Int32) : f_X7_leastNumbers c = some (nI (mnN c)) := by
  unfold f_X7_leastNumbers mnN
  by_cases h1 : c = 109
  · rw [if_pos h1, if_pos h1]; rfl
  · rw [if_neg h1, if_neg h1, m_most]; rfl
theorem m_let {c : Int32} (h : okL c) : f_X7_isLetter c = some true := by
  rcases h with rfl | rfl | rfl | rfl | rfl | rfl | rfl <;> decide +kernel
theorem m_let_no {c : Int32} (h : ¬ okL c) : f_X7_isLetter c = some false := by
  unfold okL at h
  simp only [not_or] at h
  unfold f_X7_isLetter
  rw [if_neg h.2.2.1, if_neg h.2.2.2.1, if_neg h.2.2.2.2.2.1, if_neg h.2.2.2.2.1, if_neg h.2.2.2.2.2.2, if_neg h.1, if_neg h.2.1]
theorem okL_ne {c : Int32} (h : okL c) : ¬ c = 0 ∧ ¬ c = 32 ∧ 57 < c := by
  rcases h with rfl | rfl | rfl | rfl | rfl | rfl | rfl <;> decide +kernel
theorem okL_0 : ¬ okL 0 := by
  intro h; exact (okL_ne h).1 rfl
theorem okL_fig {c : Int32} (h : ¬ (c < 48 ∨ 57 < c)) : ¬ okL c := fun q => h (Or.inr (okL_ne q).2.2)
theorem fig_ne {c : Int32} (h : ¬ (c < 48 ∨ 57 < c)) : ¬ c = 32 := fun q => h (Or.inl (by rw [q]; decide))
theorem gif2 {α : Type} {n N : Nat} {x : Option α} (h : n < N) (hN : N < 2 ^ 31) : (if nI n < 0 ∨ N ≤ n then none else x) = x := if_neg (fun q => q.elim (nI_pos (by omega)) (fun q => by omega))
theorem x_given {q t s : Nat} {es : Nat → Int32} (hq : q < 50) (he : es q = nI s) (hs : s ≤ t) : f_X2_given (nI q) (nI t) es = some (nI (t - s)) := by
  unfold f_X2_given
  rw [k50, if_pos (nI_lt hq (by omega)), gif (by omega) (by omega), nI_cl (by omega), he, pk_sub hs]
theorem x_close0 (et : Int32) (em : Bool) (ez : Int32) (en : Nat → Int32) : f_X2_closeNumber et em 0 ez en = some (et, false, 0, 0, en) := by
  unfold f_X2_closeNumber
  rw [if_pos (by decide)]
  rfl
theorem x_close {t f : Nat} (ht : t < 100) (h1 : 1 ≤ f) (h2 : f < 100) (em : Bool) (ez : Int32) (en : Nat → Int32) : f_X2_closeNumber (nI t) em (nI f) ez en = some (nI (t + 1), false, 0, 0, upd en t (if em = true then -ez else ez)) := by
  unfold f_X2_closeNumber
  rw [if_neg (nI_nle h1 (by omega)), k100, if_neg (nI_ge ht (by omega))]
  cases em
  · rw [if_pos (by decide), gif (by omega) (by omega), nI_cl (by omega), k1, nI_add]
    rfl
  · rw [if_neg (by decide), gif (by omega) (by omega), nI_cl (by omega), k1, nI_add]
    rfl
section ACC
variable {c eo et ed ef ez : Int32} {em : Bool} {ek es en : Nat → Int32}
theorem x_acc_fig (h : ¬ (c < 48 ∨ 57 < c)) : f_X2_accept c eo et ed em ef ez ek es en = (f_X2_acceptFigure (c - 48) eo et ed ef ez es).bind fun q29 => some (q29.1, eo, et, ed, em, q29.2.1, q29.2.2, ek, es, en) := by
  unfold f_X2_accept
  rw [if_neg (fun q => h (Or.inl q)), if_neg (fun q => h (Or.inr q))]
theorem x_acc_w (h : c < 48 ∨ 57 < c) : f_X2_accept c eo et ed true 0 ez ek es en = some (false, eo, et, ed, true, 0, ez, ek, es, en) := by
  unfold f_X2_accept
  by_cases h1 : c < 48
  · rw [if_pos h1, if_neg bI_tne, if_pos rfl]
  · rw [if_neg h1, if_pos (h.resolve_left h1), if_neg bI_tne, if_pos rfl]
theorem x_acc_n (h : c < 48 ∨ 57 < c) (hw : em = false ∨ ¬ ef = 0) : f_X2_accept c eo et ed em ef ez ek es en = if c = (32 : Int32) then ((f_X2_closeNumber et em ef ez en).bind fun q7 => some (true, eo, q7.1, ed, q7.2.1, q7.2.2.1, q7.2.2.2.1, ek, es, q7.2.2.2.2)) else (if ed = 0 then ((f_X2_openOrder c eo et ed ek es).bind fun q6 => some (q6.1, eo, et, q6.2.1, em, ef, ez, q6.2.2.1, q6.2.2.2, en)) else (if c = (59 : Int32) then ((f_X2_closeNumber et em ef ez en).bind fun q4 => (f_X2_closeOrder eo q4.1 ed es).bind fun q5 => some (q5.1, q5.2.1, q4.1, q5.2.2.1, q4.2.1, q4.2.2.1, q4.2.2.2.1, ek, q5.2.2.2, q4.2.2.2.2)) else (if c = (45 : Int32) then ((f_X2_closeNumber et em ef ez en).bind fun q1 => (f_X2_given eo q1.1 es).bind fun q2 => (f_X2_mostNumbers ed).bind fun q3 => if q3 ≤ q2 then (some (false, eo, q1.1, ed, true, q1.2.2.1, q1.2.2.2.1, ek, es, q1.2.2.2.2)) else (some (true, eo, q1.1, ed, true, q1.2.2.1, q1.2.2.2.1, ek, es, q1.2.2.2.2))) else (some (false, eo, et, ed, em, ef, ez, ek, es, en))))) := by
  unfold f_X2_accept
  by_cases h1 : c < 48
  · rw [if_pos h1]
    cases em
    · rw [if_pos bI_f]
    · rw [if_neg bI_tne, if_neg (hw.resolve_left (by decide))]
  · rw [if_neg h1, if_pos (h.resolve_left h1)]
    cases em
    · rw [if_pos bI_f]
    · rw [if_neg bI_tne, if_neg (hw.resolve_left (by decide))]
end ACC
section RB
variable {c Mg MF MA ML : Int32} {MW MI : Bool} {Ml Mo Mn : Nat → Int32} {q : Nat}
theorem m_rb_blank (hq : q < 100) : f_X7_readByte 32 (nI q) 0 Mg MF MW MI MA Ml Mo Mn = some (true, nI q, 0, 0, 0, MW, MI, MA, upd Ml q 32, upd Mo q MA, Mn) := by
  unfold f_X7_readByte
  rw [if_pos rfl, if_pos rfl, gif (by omega) (by omega), gif (by omega) (by omega), if_pos rfl, nI_cl (by omega)]
theorem m_rb_open (hq : q < 100) (h : okL c) : f_X7_readByte c (nI q) 0 Mg MF MW MI MA Ml Mo Mn = some (true, nI q, c, 0, 0, MW, MI, MA, upd Ml q c, upd Mo q MA, Mn) := by
  have h2 := (okL_ne h).2.1
  unfold f_X7_readByte
  rw [if_pos rfl, if_neg h2, gif (by omega) (by omega), gif (by omega) (by omega), if_neg h2, m_let h, Option.bind_some, if_neg bI_tne, nI_cl (by omega)]
theorem m_rb_no (hq : q < 100) (h2 : ¬ c = 32) (h : ¬ okL c) : f_X7_readByte c (nI q) 0 Mg MF MW MI MA Ml Mo Mn = some (false, nI q, c, 0, 0, MW, MI, MA, upd Ml q c, upd Mo q MA, Mn) := by
  unfold f_X7_readByte
  rw [if_pos rfl, if_neg h2, gif (by omega) (by omega), gif (by omega) (by omega), if_neg h2, m_let_no h, Option.bind_some, if_pos bI_f, nI_cl (by omega)]
theorem m_rb_w {Mq : Int32} (hL : ¬ ML = 0) (h : c < 48 ∨ 57 < c) : f_X7_readByte c Mq ML Mg MF true MI MA Ml Mo Mn = some (false, Mq, ML, Mg, MF, true, MI, MA, Ml, Mo, Mn) := by
  unfold f_X7_readByte
  rw [if_neg hL, m_inb (a := 48) (b := 57) (by decide) (by decide), Option.bind_some, if_pos (by rw [bI_decn]; exact h), if_neg bI_tne]
theorem m_rb_n {Mq : Int32} (hL : ¬ ML = 0) (h : c < 48 ∨ 57 < c) : f_X7_readByte c Mq ML Mg MF false MI MA Ml Mo Mn = (if c = (32 : Int32) then (some (true, Mq, ML, Mg, (0 : Int32), false, MI, MA, Ml, Mo, Mn)) else (if c = (45 : Int32) then ((f_X7_beginNumber true ML Mg MF MI MA Mn).bind fun q3 => some (q3.1, Mq, ML, q3.2.1, q3.2.2.1, q3.1, q3.2.2.2.1, q3.2.2.2.2.1, Ml, Mo, q3.2.2.2.2.2)) else (if c = (59 : Int32) then ((f_X7_leastNumbers ML).bind fun q2 => if q2 ≤ Mg then (if (Mq + (1 : Int32)) < 0 ∨ 101 ≤ (Mq + (1 : Int32)).toNatClampNeg then none else some (true, (Mq + (1 : Int32)), (0 : Int32), Mg, MF, false, MI, MA, Ml, (upd Mo (Mq + (1 : Int32)).toNatClampNeg MA), Mn)) else (some (false, Mq, ML, Mg, MF, false, MI, MA, Ml, Mo, Mn))) else (some (false, Mq, ML, Mg, MF, false, MI, MA, Ml, Mo, Mn))))) := by
  unfold f_X7_readByte
  rw [if_neg hL, m_inb (a := 48) (b := 57) (by decide) (by decide), Option.bind_some, if_pos (by rw [bI_decn]; exact h), if_pos bI_f]
theorem m_begin {t g : Nat} (b : Bool) (ht : t < 100) (hg : g < mxN ML) : f_X7_beginNumber b ML (nI g) MF MI (nI t) Mn = some (true, nI (g + 1), 0, b, nI (t + 1), upd Mn t 0) := by
  have h7 := mxN_le ML
  unfold f_X7_beginNumber
  rw [m_most, Option.bind_some, if_neg (by rw [nI_eq (by omega) (by omega)]; omega), gif (by omega) (by omega), nI_cl (by omega), k1, nI_add, nI_add]
theorem m_begin_no {g : Nat} (b : Bool) (hg : g = mxN ML) : f_X7_beginNumber b ML (nI g) MF MI MA Mn = some (false, nI g, MF, MI, MA, Mn) := by
  unfold f_X7_beginNumber
  rw [m_most, Option.bind_some, if_pos (by rw [hg])]
/-- a figure behind what is open -/
theorem m_rb_more {Mq : Int32} {t f : Nat} (hL : ¬ ML = 0) (h : ¬ (c < 48 ∨ 57 < c)) (ht : t < 100) (hf : f < 3) : f_X7_readByte c Mq ML Mg (nI f) (decide (f = 0)) MI (nI (t + 1)) Ml Mo Mn = some (true, Mq, ML, Mg, nI (f + 1), false, MI, nI (t + 1), Ml, Mo, upd Mn t (10 * Mn t + (if MI = true then 48 - c else c - 48))) := by
  unfold f_X7_readByte
  rw [if_neg hL, m_inb (a := 48) (b := 57) (by decide) (by decide), Option.bind_some, if_neg (by rw [bI_decn]; exact h), k1, pk_sub (a := t + 1) (b := 1) (by omega), Nat.add_sub_cancel]
  by_cases h0 : f = 0
  · subst h0
    rw [show decide ((0 : Nat) = 0) = true from rfl, if_neg bI_tne, gif (by omega) (by omega), nI_add, nI_cl (by omega)]
    cases MI
    · rw [if_pos bI_f, gif2 (by omega) (by omega)]; rfl
    · rw [if_neg bI_tne, gif2 (by omega) (by omega)]; rfl
  · rw [show decide (f = 0) = false from decide_eq_false h0, if_pos bI_f, if_neg (nI_nle (by omega) (by omega)), k3, if_neg (nI_ge hf (by omega)), gif (by omega) (by omega), nI_add, nI_cl (by omega)]
    cases MI
    · rw [if_pos bI_f, gif2 (by omega) (by omega)]; rfl
    · rw [if_neg bI_tne, gif2 (by omega) (by omega)]; rfl
theorem m_rb_4 {Mq : Int32} (hL : ¬ ML = 0) (h : ¬ (c < 48 ∨ 57 < c)) : f_X7_readByte c Mq ML Mg (nI 3) false MI MA Ml Mo Mn = some (false, Mq, ML, Mg, nI 3, false, MI, MA, Ml, Mo, Mn) := by
  unfold f_X7_readByte
  rw [if_neg hL, m_inb (a := 48) (b := 57) (by decide) (by decide), Option.bind_some, if_neg (by rw [bI_decn]; exact h), if_pos bI_f, if_neg (by decide), if_pos (by decide)]
theorem m_rb_first {Mq : Int32} {t g : Nat} (hL : ¬ ML = 0) (h : ¬ (c < 48 ∨ 57 < c)) (ht : t < 100) (hg : g < mxN ML) : f_X7_readByte c Mq ML (nI g) 0 false MI (nI t) Ml Mo Mn = some (true, Mq, ML, nI (g + 1), nI 1, false, false, nI (t + 1), Ml, Mo, upd (upd Mn t 0) t (10 * 0 + (c - 48))) := by
  unfold f_X7_readByte
  rw [if_neg hL, m_inb (a := 48) (b := 57) (by decide) (by decide), Option.bind_some, if_neg (by rw [bI_decn]; exact h), if_pos bI_f, if_pos (by decide), m_begin false ht hg, Option.bind_some, if_neg bI_tne]
  show (if nI (t + 1) - 1 < 0 ∨ 100 ≤ (nI (t + 1) - 1).toNatClampNeg then none else _) = _
  rw [k1, pk_sub (a := t + 1) (b := 1) (by omega), Nat.add_sub_cancel, gif (by omega) (by omega), if_pos bI_f, gif (by omega) (by omega), nI_cl (by omega)]
  dsimp only
  rw [upd_s]
  rfl
theorem m_rb_full {Mq : Int32} {g : Nat} (hL : ¬ ML = 0) (h : ¬ (c < 48 ∨ 57 < c)) (hg : g = mxN ML) : f_X7_readByte c Mq ML (nI g) 0 false MI MA Ml Mo Mn = some (false, Mq, ML, nI g, 0, false, MI, MA, Ml, Mo, Mn) := by
  unfold f_X7_readByte
  rw [if_neg hL, m_inb (a := 48) (b := 57) (by decide) (by decide), Option.bind_some, if_neg (by rw [bI_decn]; exact h), if_pos bI_f, if_pos (by decide), m_begin_no false hg, Option.bind_some, if_pos bI_f]
end RB
def SimC (q t : Nat) (S : Nat → Nat) (ek es en Ml Mo Mn : Nat → Int32) : Prop :=
  S q ≤ t ∧ es q = nI (S q) ∧ (∀ j, j < t → en j = Mn j) ∧ ∀ i, i < q → ek i = Ml i ∧ okL (Ml i) ∧ es i = nI (S i) ∧ Mo i = nI (S i) ∧ es (i + 1) = nI (S (i + 1)) ∧ Mo (i + 1) = nI (S (i + 1)) ∧ S i + mnN (Ml i) ≤ S (i + 1) ∧ S (i + 1) ≤ S i + mxN (Ml i) ∧ S (i + 1) ≤ t
theorem simc_cg {q t : Nat} {S : Nat → Nat} {ek es en Ml Mo Mn ek' es' Ml' Mo' : Nat → Int32} (h : SimC q t S ek es en Ml Mo Mn) (h1 : ∀ i, i < q → ek' i = ek i) (h2 : ∀ i, i ≤ q → es' i = es i) (h3 : ∀ i, i < q → Ml' i = Ml i) (h4 : ∀ i, i < q → Mo' i = Mo i) (h5 : Mo' q = nI (S q)) : SimC q t S ek' es' en Ml' Mo' Mn := by
  obtain ⟨a1, a2, a3, a4⟩ := h
  refine ⟨a1, by rw [h2 q (by omega), a2], a3, fun i hi => ?_⟩
  obtain ⟨b1, b2, b3, b4, b5, b6, b7, b8, b9⟩ := a4 i hi
  rw [h1 i hi, h2 i (by omega), h2 (i + 1) (by omega), h3 i hi, h4 i hi]
  refine ⟨b1, b2, b3, b4, b5, ?_, b7, b8, b9⟩
  by_cases e : i + 1 = q
  · rw [e, h5]
  · rw [h4 (i + 1) (by omega), b6]
theorem simc_num {q t : Nat} {S : Nat → Nat} {ek es en Ml Mo Mn Mn' : Nat → Int32} (h : SimC q t S ek es en Ml Mo Mn) (h1 : ∀ j, j < t → Mn' j = Mn j) : SimC q t S ek es en Ml Mo Mn' := by
  obtain ⟨a1, a2, a3, a4⟩ := h
  exact ⟨a1, a2, fun j hj => by rw [h1 j hj, a3 j hj], a4⟩
theorem simc_more {q t : Nat} {S : Nat → Nat} {ek es en Ml Mo Mn : Nat → Int32} (h : SimC q t S ek es en Ml Mo Mn) {x : Int32} (h1 : Mn t = x) : SimC q (t + 1) S ek es (upd en t x) Ml Mo Mn := by
  obtain ⟨a1, a2, a3, a4⟩ := h
  refine ⟨by omega, a2, fun j hj => ?_, fun i hi => ?_⟩
  · by_cases e : j = t
    · subst e; rw [upd_s, h1]
    · rw [upd_n e, a3 j (by omega)]
  · obtain ⟨b1, b2, b3, b4, b5, b6, b7, b8, b9⟩ := a4 i hi
    exact ⟨b1, b2, b3, b4, b5, b6, b7, b8, by omega⟩
theorem simc_es0 {q t : Nat} {S : Nat → Nat} {ek es en Ml Mo Mn : Nat → Int32} (h : SimC q t S ek es en Ml Mo Mn) (h0 : S 0 = 0) : es 0 = 0 := by
  obtain ⟨a1, a2, a3, a4⟩ := h
  rcases Nat.eq_zero_or_pos q with e | e
  · subst e; rw [a2, h0]; rfl
  · rw [(a4 0 e).2.2.1, h0]; rfl
theorem simc_end {q t : Nat} {S : Nat → Nat} {ek es en Ml Mo Mn : Nat → Int32} {ed : Int32} (h : SimC q t S ek es en Ml Mo Mn) (hL : okL ed) (e1 : ek q = ed) (e2 : Ml q = ed) (e3 : Mo q = nI (S q)) (h1 : S q + mnN ed ≤ t) (h2 : t ≤ S q + mxN ed) : SimC (q + 1) t (fun i => if i = q + 1 then t else S i) ek (upd es (q + 1) (nI t)) en Ml (upd Mo (q + 1) (nI t)) Mn := by
  obtain ⟨a1, a2, a3, a4⟩ := h
  refine ⟨by dsimp only; rw [if_pos rfl]; omega, by dsimp only; rw [upd_s, if_pos rfl], a3, fun i hi => ?_⟩
  dsimp only
  by_cases e : i = q
  · subst e
    rw [upd_n (by omega), upd_n (by omega), upd_s, upd_s, if_neg (by omega), if_pos rfl, e2]
    exact ⟨e1, hL, a2, e3, rfl, rfl, h1, h2, by omega⟩
  · obtain ⟨b1, b2, b3, b4, b5, b6, b7, b8, b9⟩ := a4 i (by omega)
    rw [upd_n (by omega), upd_n (by omega), upd_n (by omega), upd_n (by omega), if_neg (by omega), if_neg (by omega)]
    exact ⟨b1, b2, b3, b4, b5, b6, b7, b8, b9⟩
/-- what both readers hold alike ahead of the byte at k -/
def Sim (k : Nat) (eo et ed : Int32) (em : Bool) (ef ez : Int32) (ek es en : Nat → Int32) (Mq ML Mg MF : Int32) (MW MI : Bool) (MA : Int32) (Ml Mo Mn : Nat → Int32) : Prop :=
  ∃ q t S, eo = nI q ∧ Mq = nI q ∧ et = nI t ∧ t ≤ k ∧ ML = ed ∧ SimC q t S ek es en Ml Mo Mn ∧ S 0 = 0 ∧
    ((ed = 0 ∧ 2 * q ≤ k ∧ em = false ∧ ef = 0 ∧ ez = 0 ∧ MW = false ∧ MA = nI t ∧ S q = t)
      ∨ (okL ed ∧ 2 * q + 1 ≤ k ∧ ek q = ed ∧ Ml q = ed ∧ Mo q = nI (S q) ∧
          ((em = false ∧ ef = 0 ∧ ez = 0 ∧ MW = false ∧ MF = 0 ∧ MA = nI t ∧ Mg = nI (t - S q) ∧ t ≤ S q + mxN ed)
            ∨ ∃ f, f ≤ 3 ∧ (f = 0 → em = true) ∧ ef = nI f ∧ MF = nI f ∧ MW = decide (f = 0) ∧ MI = em ∧ MA = nI (t + 1) ∧ t + 1 ≤ k ∧ Mg = nI (t + 1 - S q) ∧ t + 1 ≤ S q + mxN ed ∧ Mn t = (if em = true then -ez else ez))))
def StepOK (k : Nat) (X : Option (Bool × Int32 × Int32 × Int32 × Bool × Int32 × Int32 × (Nat → Int32) × (Nat → Int32) × (Nat → Int32))) (M : Option (Bool × Int32 × Int32 × Int32 × Int32 × Bool × Bool × Int32 × (Nat → Int32) × (Nat → Int32) × (Nat → Int32))) : Prop :=
  ∃ rx rm, X = some rx ∧ M = some rm ∧ rx.2.2.2.2.2.2.2.2.1 0 = 0 ∧ ((rx.1 = false ∧ rm.1 = false) ∨ (rx.1 = true ∧ rm.1 = true ∧ Sim (k + 1) rx.2.1 rx.2.2.1 rx.2.2.2.1 rx.2.2.2.2.1 rx.2.2.2.2.2.1 rx.2.2.2.2.2.2.1 rx.2.2.2.2.2.2.2.1 rx.2.2.2.2.2.2.2.2.1 rx.2.2.2.2.2.2.2.2.2 rm.2.1 rm.2.2.1 rm.2.2.2.1 rm.2.2.2.2.1 rm.2.2.2.2.2.1 rm.2.2.2.2.2.2.1 rm.2.2.2.2.2.2.2.1 rm.2.2.2.2.2.2.2.2.1 rm.2.2.2.2.2.2.2.2.2.1 rm.2.2.2.2.2.2.2.2.2.2))
theorem sim_non {k q t : Nat} (hk : k < 100) {S : Nat → Nat} {c et ed ef ez MF : Int32} {em MI : Bool} {ek es en en' Ml Mo Mn : Nat → Int32} (hc : c < 48 ∨ 57 < c) (hw : em = false ∨ ¬ ef = 0) (hcl : f_X2_closeNumber et em ef ez en = some (nI t, false, 0, 0, en')) (ht : t ≤ k) (hC : SimC q t S ek es en' Ml Mo Mn) (hS0 : S 0 = 0) (hL : okL ed) (h2q : 2 * q + 1 ≤ k) (e1 : ek q = ed) (e2 : Ml q = ed) (e3 : Mo q = nI (S q)) (hmx : t ≤ S q + mxN ed) :
    StepOK k (f_X2_accept c (nI q) et ed em ef ez ek es en) (f_X7_readByte c (nI q) ed (nI (t - S q)) MF false MI (nI t) Ml Mo Mn) := by
  have hed := (okL_ne hL).1
  have hes := simc_es0 hC hS0
  have hSt := hC.1
  have hm7 := mxN_le ed
  have hn7 := mnN_le ed
  rw [x_acc_n hc hw, m_rb_n hed hc]
  by_cases c32 : c = 32
  · rw [if_pos c32, if_pos c32, hcl, Option.bind_some]
    exact ⟨_, _, rfl, rfl, hes, Or.inr ⟨rfl, rfl, q, t, S, rfl, rfl, rfl, by omega, rfl, hC, hS0, Or.inr ⟨hL, by omega, e1, e2, e3, Or.inl ⟨rfl, rfl, rfl, rfl, rfl, rfl, rfl, hmx⟩⟩⟩⟩
  · rw [if_neg c32, if_neg c32, if_neg hed]
    by_cases c45 : c = 45
    · rw [if_neg (by rw [c45]; decide), if_pos c45, if_pos c45, hcl, Option.bind_some, x_given (by omega) hC.2.1 hSt, Option.bind_some, x_most hL, Option.bind_some]
      by_cases hg : t - S q < mxN ed
      · have hmx1 : t + 1 ≤ S q + mxN ed := by omega
        rw [if_neg (nI_ge hg (by omega)), m_begin true (by omega) hg, Option.bind_some]
        refine ⟨_, _, rfl, rfl, hes, Or.inr ⟨rfl, rfl, q, t, S, rfl, rfl, rfl, by omega, rfl, simc_num hC (fun j hj => upd_n (by omega)), hS0, Or.inr ⟨hL, by omega, e1, e2, e3, Or.inr ⟨0, by omega, fun _ => rfl, rfl, rfl, rfl, rfl, rfl, by omega, ?_, hmx1, ?_⟩⟩⟩⟩
        · show nI (t - S q + 1) = nI (t + 1 - S q)
          congr 1; omega
        · show upd Mn t 0 t = (if true = true then -(0 : Int32) else 0)
          rw [upd_s]; decide
      · rw [if_pos (nI_le (by omega) (by omega)), m_begin_no true (by omega), Option.bind_some]
        exact ⟨_, _, rfl, rfl, hes, Or.inl ⟨rfl, rfl⟩⟩
    · rw [if_neg c45, if_neg c45]
      by_cases c59 : c = 59
      · rw [if_pos c59, if_pos c59, hcl, Option.bind_some, m_least, Option.bind_some]
        have hco : f_X2_closeOrder (nI q) (nI t) ed es = if t - S q < mnN ed then some (false, nI q, ed, es) else some (true, nI (q + 1), 0, upd es (q + 1) (nI t)) := by
          unfold f_X2_closeOrder
          rw [x_given (by omega) hC.2.1 hSt, Option.bind_some, x_least hL, Option.bind_some]
          by_cases hg : t - S q < mnN ed
          · rw [if_pos (nI_lt hg (by omega)), if_pos hg]
          · rw [if_neg (nI_nlt (by omega) (by omega)), if_neg hg, k50, if_pos (nI_lt (by omega) (by omega)), k1, nI_add, gif (by omega) (by omega), nI_cl (by omega)]
        show StepOK k ((f_X2_closeOrder (nI q) (nI t) ed es).bind fun q5 => some (q5.1, q5.2.1, nI t, q5.2.2.1, false, 0, 0, ek, q5.2.2.2, en')) _
        rw [hco]
        by_cases hg : t - S q < mnN ed
        · rw [if_pos hg, Option.bind_some, if_neg (nI_ge hg (by omega))]
          exact ⟨_, _, rfl, rfl, hes, Or.inl ⟨rfl, rfl⟩⟩
        · rw [if_neg hg, Option.bind_some, if_pos (nI_le (by omega) (by omega)), k1, nI_add, gif (by omega) (by omega), nI_cl (by omega)]
          have hC2 := simc_end hC hL e1 e2 e3 (by omega) hmx
          have hS2 : (fun i => if i = q + 1 then t else S i) 0 = 0 := by
            show (if 0 = q + 1 then t else S 0) = 0
            rw [if_neg (by omega), hS0]
          exact ⟨_, _, rfl, rfl, simc_es0 hC2 hS2, Or.inr ⟨rfl, rfl, q + 1, t, _, rfl, rfl, rfl, by omega, rfl, hC2, hS2, Or.inl ⟨rfl, by omega, rfl, rfl, rfl, rfl, rfl, if_pos rfl⟩⟩⟩
      · rw [if_neg c59, if_neg c59]
        exact ⟨_, _, rfl, rfl, hes, Or.inl ⟨rfl, rfl⟩⟩
theorem fig_eq (em : Bool) (ez c : Int32) : 10 * (if em = true then -ez else ez) + (if em = true then 48 - c else c - 48) = if em = true then -(ez * 10 + (c - 48)) else ez * 10 + (c - 48) := by
  cases em
  · rw [if_neg (by decide), if_neg (by decide), if_neg (by decide), Int32.mul_comm]
  · rw [if_pos rfl, if_pos rfl, if_pos rfl]
    rw [Int32.neg_add, Int32.mul_comm 10, Int32.neg_mul, Int32.sub_eq_add_neg (-(ez * 10)), Int32.neg_sub]
set_option maxHeartbeats 1000000 in
theorem sim_step {k : Nat} (hk : k < 100) (c : Int32) {eo et ed ef ez Mq ML Mg MF MA : Int32} {em MW MI : Bool} {ek es en Ml Mo Mn : Nat → Int32} (h : Sim k eo et ed em ef ez ek es en Mq ML Mg MF MW MI MA Ml Mo Mn) :
    StepOK k (f_X2_accept c eo et ed em ef ez ek es en) (f_X7_readByte c Mq ML Mg MF MW MI MA Ml Mo Mn) := by
  obtain ⟨q, t, S, rfl, rfl, rfl, htk, rfl, hC, hS0, hd⟩ := h
  have hes := simc_es0 hC hS0
  have hSt := hC.1
  rcases hd with ⟨rfl, h2q, rfl, rfl, rfl, rfl, rfl, hSq⟩ | ⟨hL, h2q, e1, e2, e3, hd⟩
  · by_cases hc : c < 48 ∨ 57 < c
    · rw [x_acc_n hc (Or.inl rfl)]
      by_cases c32 : c = 32
      · subst c32
        rw [if_pos rfl, x_close0, Option.bind_some, m_rb_blank (by omega)]
        exact ⟨_, _, rfl, rfl, hes, Or.inr ⟨rfl, rfl, q, t, S, rfl, rfl, rfl, by omega, rfl, simc_cg hC (fun _ _ => rfl) (fun _ _ => rfl) (fun i hi => upd_n (by omega)) (fun i hi => upd_n (by omega)) (by show upd Mo q (nI t) q = _; rw [upd_s, hSq]), hS0, Or.inl ⟨rfl, by omega, rfl, rfl, rfl, rfl, rfl, hSq⟩⟩⟩
      · rw [if_neg c32, if_pos rfl]
        unfold f_X2_openOrder
        by_cases hl : okL c
        · have hm7 := mxN_le c
          rw [x_most hl, Option.bind_some, if_neg (nI_pos (by omega)), k50, if_pos (nI_lt (by omega) (by omega)), gif (by omega) (by omega), gif (by omega) (by omega), nI_cl (by omega), Option.bind_some, m_rb_open (by omega) hl]
          have hC2 : SimC q t S (upd ek q c) (upd es q (nI t)) en (upd Ml q c) (upd Mo q (nI t)) Mn := simc_cg hC (fun i hi => upd_n (by omega)) (fun i hi => by
            by_cases e : i = q
            · subst e; rw [upd_s, hC.2.1, hSq]
            · exact upd_n e) (fun i hi => upd_n (by omega)) (fun i hi => upd_n (by omega)) (by rw [upd_s, hSq])
          refine ⟨_, _, rfl, rfl, simc_es0 hC2 hS0, Or.inr ⟨rfl, rfl, q, t, S, rfl, rfl, rfl, by omega, rfl, hC2, hS0, Or.inr ⟨hl, by omega, upd_s _ _ _, upd_s _ _ _, ?_, Or.inl ⟨rfl, rfl, rfl, rfl, rfl, rfl, ?_, by omega⟩⟩⟩⟩
          · show upd Mo q (nI t) q = _
            rw [upd_s, hSq]
          · show (0 : Int32) = nI (t - S q)
            rw [hSq, Nat.sub_self]; rfl
        · rw [x_most_no hl, Option.bind_some, if_pos (by decide), Option.bind_some, m_rb_no (by omega) c32 hl]
          exact ⟨_, _, rfl, rfl, hes, Or.inl ⟨rfl, rfl⟩⟩
    · rw [x_acc_fig hc, m_rb_no (by omega) (fig_ne hc) (okL_fig hc)]
      unfold f_X2_acceptFigure
      rw [if_neg (by decide), x_given (by omega) hC.2.1 hSt, Option.bind_some, x_most_no okL_0, Option.bind_some, hSq, Nat.sub_self, if_neg (by decide), Option.bind_some]
      exact ⟨_, _, rfl, rfl, hes, Or.inl ⟨rfl, rfl⟩⟩
  · have hed := (okL_ne hL).1
    have hm7 := mxN_le ML
    rcases hd with ⟨rfl, rfl, rfl, rfl, rfl, rfl, rfl, hmx⟩ | ⟨f, hf3, hf0, rfl, rfl, rfl, rfl, rfl, htk1, rfl, hmx, hMn⟩
    · by_cases hc : c < 48 ∨ 57 < c
      · exact sim_non hk hc (Or.inl rfl) (x_close0 _ _ _ _) htk hC hS0 hL h2q e1 e2 e3 hmx
      · rw [x_acc_fig hc]
        unfold f_X2_acceptFigure
        rw [if_neg (by decide), x_given (by omega) hC.2.1 hSt, Option.bind_some, x_most hL, Option.bind_some]
        by_cases hg : t - S q < mxN ML
        · have hmx1 : t + 1 ≤ S q + mxN ML := by omega
          rw [if_pos (nI_lt hg (by omega)), Option.bind_some, m_rb_first hed hc (by omega) hg]
          refine ⟨_, _, rfl, rfl, hes, Or.inr ⟨rfl, rfl, q, t, S, rfl, rfl, rfl, by omega, rfl, simc_num hC (fun j hj => ?_), hS0, Or.inr ⟨hL, by omega, e1, e2, e3, Or.inr ⟨1, by omega, fun h => absurd h (by decide), rfl, rfl, rfl, rfl, rfl, by omega, ?_, hmx1, ?_⟩⟩⟩⟩
          · show upd (upd Mn t 0) t _ j = _
            rw [upd_n (by omega), upd_n (by omega)]
          · show nI (t - S q + 1) = nI (t + 1 - S q)
            congr 1; omega
          · show upd (upd Mn t 0) t (10 * 0 + (c - 48)) t = (if false = true then -(0 * 10 + (c - 48)) else 0 * 10 + (c - 48))
            rw [upd_s, if_neg (by decide), Int32.mul_comm]
        · rw [if_neg (nI_nlt (by omega) (by omega)), Option.bind_some, m_rb_full hed hc (by omega)]
          exact ⟨_, _, rfl, rfl, hes, Or.inl ⟨rfl, rfl⟩⟩
    · by_cases hc : c < 48 ∨ 57 < c
      · by_cases h0 : f = 0
        · subst h0
          obtain rfl := hf0 rfl
          rw [show decide ((0 : Nat) = 0) = true from rfl, m_rb_w hed hc, show nI 0 = 0 from rfl, x_acc_w hc]
          exact ⟨_, _, rfl, rfl, hes, Or.inl ⟨rfl, rfl⟩⟩
        · rw [show decide (f = 0) = false from decide_eq_false h0]
          exact sim_non hk hc (Or.inr (nI_ne0 (by omega) (by omega))) (x_close (by omega) (by omega) (by omega) _ _ _) htk1 (simc_more hC hMn) hS0 hL h2q e1 e2 e3 hmx
      · rw [x_acc_fig hc]
        unfold f_X2_acceptFigure
        by_cases h3 : f = 3
        · subst h3
          rw [if_pos (by decide), Option.bind_some, show decide ((3 : Nat) = 0) = false from rfl, m_rb_4 hed hc]
          exact ⟨_, _, rfl, rfl, hes, Or.inl ⟨rfl, rfl⟩⟩
        · rw [k3, if_neg (nI_ge (by omega) (by omega)), x_given (by omega) hC.2.1 hSt, Option.bind_some, x_most hL, Option.bind_some, if_pos (nI_lt (by omega) (by omega)), Option.bind_some, m_rb_more hed hc (by omega) (by omega), k1, nI_add]
          refine ⟨_, _, rfl, rfl, hes, Or.inr ⟨rfl, rfl, q, t, S, rfl, rfl, rfl, by omega, rfl, simc_num hC (fun j hj => upd_n (by omega)), hS0, Or.inr ⟨hL, by omega, e1, e2, e3, Or.inr ⟨f + 1, by omega, fun h => absurd h (by omega), rfl, rfl, (decide_eq_false (by omega)).symm, rfl, rfl, by omega, rfl, by omega, ?_⟩⟩⟩⟩
          show upd Mn t _ t = _
          rw [upd_s, hMn]
          exact fig_eq _ _ _
