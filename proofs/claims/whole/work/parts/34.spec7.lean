def rdK (k L : Nat) (lo : Int32) (h : Nat) : Nat := bif inB lo h then whl k L / 2 else whl k L
theorem lt_subI {a c k : Nat} (ha : a < 2 ^ 30) (hc : c < 2 ^ 30) (hk : k < 2 ^ 30) : ¬ (nI c - nI a < nI k) ↔ a + k ≤ c := by
  rw [Int32.lt_iff_toInt_lt, sub_toInt hc ha, nI_toInt (by omega)]
  omega
theorem isH_mk {h : Int32} {n : Nat} (h1 : ¬ h < 0) (h2 : ¬ nI n ≤ h) : isH h n = true := decide_eq_true ⟨by rw [nI_0]; exact Int32.not_lt.mp h1, Int32.not_le.mp h2⟩
theorem isH_no1 {h : Int32} {n : Nat} (h1 : h < 0) : isH h n = false := decide_eq_false (fun q => absurd h1 (Int32.not_lt.mpr (by have := q.1; rw [nI_0] at this; exact this)))
theorem isH_no2 {h : Int32} {n : Nat} (h2 : nI n ≤ h) : isH h n = false := decide_eq_false (fun q => absurd q.2 (Int32.not_lt.mpr h2))
theorem inR_mk {w : Int32} {m : Nat} (h1 : ¬ w < 0) (h2 : w ≤ nI m) : inR w m = true := decide_eq_true ⟨by rw [nI_0]; exact Int32.not_lt.mp h1, h2⟩
theorem inR_no1 {w : Int32} {m : Nat} (h1 : w < 0) : inR w m = false := decide_eq_false (fun q => absurd h1 (Int32.not_lt.mpr (by have := q.1; rw [nI_0] at this; exact this)))
theorem inR_no2 {w : Int32} {m : Nat} (h2 : ¬ w ≤ nI m) : inR w m = false := decide_eq_false (fun q => h2 q.2)
theorem mr_c16 : ∀ x, x < 128 → ((nI x).toUInt32 % 65536).toInt32 = nI x := by decide +kernel
theorem okC_mk {c : Int32} (h1 : ¬ c < nI 32) (h2 : c ≤ nI 126) : okC c = true := decide_eq_true ⟨Int32.not_lt.mp h1, h2⟩
theorem okC_no1 {c : Int32} (h1 : c < nI 32) : okC c = false := decide_eq_false (fun q => absurd h1 (Int32.not_lt.mpr q.1))
theorem okC_no2 {c : Int32} (h2 : ¬ c ≤ nI 126) : okC c = false := decide_eq_false (fun q => h2 q.2)
theorem inK_mk {c : Int32} (h1 : ¬ c < nI 1) (h2 : c ≤ nI 150) : inK c = true := decide_eq_true ⟨Int32.not_lt.mp h1, h2⟩
theorem inK_no1 {c : Int32} (h1 : c < nI 1) : inK c = false := decide_eq_false (fun q => absurd h1 (Int32.not_lt.mpr q.1))
theorem inK_no2 {c : Int32} (h2 : ¬ c ≤ nI 150) : inK c = false := decide_eq_false (fun q => h2 q.2)
theorem sc_of {n kp : Nat} {kd ln : Nat → Nat} {lo : Int32} {ord f : Nat → Nat} (hc : CamOk kd ln lo ord n f) : ctB (sourB kd kp f) n = scF n kp kd ln lo ord := ctB_cong (fun k hk => sourB_cong (hc.1 k hk))
theorem hc_of {n : Nat} {kd ln : Nat → Nat} {lo : Int32} {ord f : Nat → Nat} (hc : CamOk kd ln lo ord n f) : ctB (hearB n kd f) n = hcF n kd ln lo ord := ctB_cong (fun k hk => hearB_cong hk hc.1)
theorem wr_of {n kp : Nat} {kd ln : Nat → Nat} {lo : Int32} {ord f : Nat → Nat} (hc : CamOk kd ln lo ord n f) : ctB (sourB kd kp f) n + ctB (hearB n kd f) n = wrg n kp kd ln lo ord := by
  rw [sc_of hc, hc_of hc]
  rfl
theorem wrg_cong {n kp : Nat} {kd len len' : Nat → Nat} {lo : Int32} {ord : Nat → Nat} (hp : PermOn n ord) (e : ∀ j, j < n → len j = len' j) : wrg n kp kd len lo ord = wrg n kp kd len' lo ord := by
  unfold wrg
  rw [scF_cong hp e, hcF_cong hp e]
theorem up_mix {f g : Nat → Nat} {h x j : Nat} (hj : j < 6) : va_up (mixF 6 f g) h x j = va_up f h x j := by
  unfold va_up
  split
  · rfl
  · exact mixF_in hj
theorem mostF_hit {n kp : Nat} {kd len : Nat → Nat} {lo : Int32} {ord : Nat → Nat} {h L : Nat} (h0 : 0 < L) (q : wrg n kp kd (va_up len h L) lo ord ≤ wrg n kp kd (va_up len h 0) lo ord) : mostF n kp kd len lo ord h L = L := by
  obtain ⟨x, rfl⟩ : ∃ x, L = x + 1 := ⟨L - 1, by omega⟩
  show (if wrg n kp kd (va_up len h (x + 1)) lo ord ≤ _ then _ else _) = _
  rw [if_pos q]
theorem mostF_down {n kp : Nat} {kd len : Nat → Nat} {lo : Int32} {ord : Nat → Nat} {h L : Nat} (h0 : 0 < L) (q : ¬ wrg n kp kd (va_up len h L) lo ord ≤ wrg n kp kd (va_up len h 0) lo ord) : mostF n kp kd len lo ord h L = mostF n kp kd len lo ord h (L - 1) := by
  obtain ⟨x, rfl⟩ : ∃ x, L = x + 1 := ⟨L - 1, by omega⟩
  rw [Nat.add_sub_cancel]
  show (if wrg n kp kd (va_up len h (x + 1)) lo ord ≤ _ then _ else _) = _
  rw [if_neg q]
theorem allB_false {p : Nat → Bool} {k : Nat} (h : p k = false) : ∀ m, k < m → allB p m = false
  | 0, q => absurd q (Nat.not_lt_zero _)
  | m + 1, q => by
    show (allB p m && p m) = false
    by_cases e : k = m
    · rw [← e, h, Bool.and_false]
    · rw [allB_false h m (by omega)]
      rfl
theorem posS {n : Nat} {ord : Nat → Nat} {j k p1 p2 : Nat} (hp : PermOn n ord) (h1 : p1 < n) (e1 : ord p1 = j) (h2 : p2 < n) (e2 : ord p2 = k) : swF ord p1 p2 = va_up (va_up ord p1 k) p2 j := by
  unfold swF
  rw [e1, e2]
