def rdK (k L : Nat) (lo : Int32) (h : Nat) : Nat := bif inB lo h then whl k L / 2 else whl k L
theorem lt_subI {a c k : Nat} (ha : a < 2 ^ 30) (hc : c < 2 ^ 30) (hk : k < 2 ^ 30) : ¬ (nI c - nI a < nI k) ↔ a + k ≤ c := by
  rw [Int32.lt_iff_toInt_lt, sub_toInt hc ha, nI_toInt (by omega)]
  omega
theorem isH_mk {h : Int32} {n : Nat} (h1 : ¬ h < 0) (h2 : ¬ nI n ≤ h) : isH h n = true := decide_eq_true ⟨by rw [nI_0]; exact Int32.not_lt.mp h1, Int32.not_le.mp h2⟩
theorem isH_no1 {h : Int32} {n : Nat} (h1 : h < 0) : isH h n = false := decide_eq_false (fun q => absurd h1 (Int32.not_lt.mpr (by have := q.1; rw [nI_0] at this; exact this)))
theorem isH_no2 {h : Int32} {n : Nat} (h2 : nI n ≤ h) : isH h n = false := decide_eq_false (fun q => absurd q.2 (Int32.not_lt.mpr h2))
theorem inR_mk {w : Int32} {m : Nat} (h1 : ¬ w < 0) (h2 : w ≤ nI m) : inR w m = true := decide_eq_true ⟨by rw [nI_0]; exact Int32.not_lt.mp h1, h2⟩
theorem inR_no1 {w : Int32} {m : Nat} (h1 : w < 0) : inR w m = false := decide_eq_false (fun q => absurd h1 (Int32.not_lt.mpr (by have := q.1; rw [nI_0] at this; exact this)))
theorem inR_no2 {w : Int32} {m : Nat} (h2 : ¬ w ≤ nI m) : inR w m = false := decide_eq_false (fun q => h2 q.2)
