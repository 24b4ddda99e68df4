/-! what both sides hold alike between calls -/
def okRow (K : Nat) (a : Nat → Int32) : Prop := 1 ≤ K ∧ K ≤ 7 ∧ (∀ j, j < K → -500 ≤ (a j).toInt ∧ (a j).toInt ≤ 500) ∧ ∀ j, K ≤ j → a j = 0
def RelRow (K : Nat) (a : Nat → Int32) (rK : Int32) (rf : Nat → Int32) (Mr : Nat → Int32) : Prop := okRow K a ∧ rK = nI K ∧ (∀ j, j < K → rf j = a j) ∧ (∀ j, j < 7 → Mr j = a j) ∧ Mr 7 = nI K
def RelSt (d o : Nat) (SK : Nat → Nat) (sa : Nat → Nat → Int32) (vo vd : Int32) (vs : Nat → Int32) (Ms : Int32) (Mp : Nat → Int32) : Prop := d ≤ 6 ∧ o < 6 ∧ vd = nI d ∧ vo = nI o ∧ Ms = nI d ∧ ∀ i, i < d → okRow (SK i) (sa i) ∧ vs ((o + i) % 6 * 8) = nI (SK i) ∧ (∀ j, j < 7 → vs ((o + i) % 6 * 8 + 1 + j) = sa i j) ∧ (∀ j, j < 7 → Mp (8 * i + j) = sa i j) ∧ Mp (8 * i + 7) = nI (SK i)
def RelTx (L : Nat) (tl : Int32) (tb : Nat → Int32) (Mb : Int32) (Mt : Nat → Int32) : Prop := L ≤ 100 ∧ tl = nI L ∧ Mb = nI L ∧ ∀ j, j < L → tb j = Mt j ∧ 0 ≤ (Mt j).toInt ∧ (Mt j).toInt ≤ 127
def Rel (kb kn kf rK : Int32) (rf : Nat → Int32) (vo vd : Int32) (vs : Nat → Int32) (tl : Int32) (tb : Nat → Int32) (Ms Mb : Int32) (Mr Mp Mf Mt : Nat → Int32) : Prop :=
  (∃ K a, RelRow K a rK rf Mr) ∧ (kb = Mf 0 ∧ kn = Mf 1 ∧ kf = Mf 2) ∧ (∃ d o SK sa, RelSt d o SK sa vo vd vs Ms Mp) ∧ ∃ L, RelTx L tl tb Mb Mt
