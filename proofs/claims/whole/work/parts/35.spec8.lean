/-! rows of rows, the most of two -/
def upR (lf : Nat → Nat → Nat) (K m x : Nat) : Nat → Nat → Nat := fun i => if i = K then va_up (lf K) m x else lf i
theorem upR_at (lf : Nat → Nat → Nat) (K m x : Nat) : upR lf K m x K = va_up (lf K) m x := by unfold upR; rw [if_pos rfl]
theorem upR_ne {lf : Nat → Nat → Nat} {K m x i : Nat} (h : i ≠ K) : upR lf K m x i = lf i := by unfold upR; rw [if_neg h]
theorem upR_z {lf : Nat → Nat → Nat} {h j K : Nat} (hZ : ∀ i z, (i < h ∨ (i = h ∧ z < j)) → z < 151 → lf i z = 0) (e : h = K) : ∀ i z, (i < h ∨ (i = h ∧ z < j + 1)) → z < 151 → upR lf K j 0 i z = 0 := by
  subst e
  intro i z q1 q2
  by_cases q : i = h
  · subst q
    rw [upR_at]
    by_cases w : z = j
    · subst w; exact up_at _ _ _
    · rw [up_ne w]; exact hZ i z (by omega) q2
  · rw [upR_ne q]; exact hZ i z (by omega) q2
def mxN (x z : Nat) : Nat := if x < z then z else x
theorem mr_max {x z : Nat} (hx : x < 2 ^ 31) (hz : z < 2 ^ 31) : (if nI x < nI z then nI z else nI x) = nI (mxN x z) := by
  unfold mxN
  by_cases q : x < z
  · rw [if_pos ((nI_ltI hx hz).mpr q), if_pos q]
  · rw [if_neg (fun w => q ((nI_ltI hx hz).mp w)), if_neg q]
/-- one set more is told: behind k houses -/
def AddI (cw : Nat → Nat) (lf : Nat → Nat → Nat) (wo : Nat → Nat) (k : Nat) (lf9 : Nat → Nat → Nat) (wo9 : Nat → Nat) : Prop :=
  (∀ i, i < k → lf9 i = va_up (lf i) (cw i) (lf i (cw i) + 1) ∧ wo9 i = mxN (wo i) (lf i (cw i) + 1)) ∧ ∀ i, k ≤ i → lf9 i = lf i ∧ wo9 i = wo i
theorem AddI_0 (cw : Nat → Nat) (lf : Nat → Nat → Nat) (wo : Nat → Nat) : AddI cw lf wo 0 lf wo := ⟨fun _ h => absurd h (Nat.not_lt_zero _), fun _ _ => ⟨rfl, rfl⟩⟩
theorem AddI_s {cw : Nat → Nat} {lf lf9 : Nat → Nat → Nat} {wo wo9 : Nat → Nat} {k K : Nat} (h : AddI cw lf wo k lf9 wo9) (e : k = K) : AddI cw lf wo (k + 1) (upR lf9 K (cw k) (lf9 K (cw k) + 1)) (va_up wo9 k (mxN (wo9 k) (lf9 K (cw k) + 1))) := by
  subst e
  have h2 := h.2 k (Nat.le_refl k)
  refine ⟨fun i hi => ?_, fun i hi => ?_⟩
  · by_cases q : i = k
    · subst q
      rw [upR_at, up_at, h2.1, h2.2]
      exact ⟨rfl, rfl⟩
    · rw [upR_ne q, up_ne q]
      exact h.1 i (by omega)
  · rw [upR_ne (by omega), up_ne (by omega)]
    exact h.2 i (by omega)
theorem amF_cong {w w' : Nat → Nat} : ∀ {k : Nat}, (∀ i, i ≤ k → w i = w' i) → amF w k = amF w' k
  | 0, _ => rfl
  | k + 1, h => by
    have e := amF_cong (k := k) (fun i hi => h i (by omega))
    have hl := amF_le w' k
    show (if w (k + 1) < w (amF w k) then k + 1 else amF w k) = (if w' (k + 1) < w' (amF w' k) then k + 1 else amF w' k)
    rw [e, h (k + 1) (Nat.le_refl _), h (amF w' k) (by omega)]
theorem amF_t {w : Nat → Nat} {k : Nat} (h0 : 0 < k) (h : w k < w (amF w (k - 1))) : amF w k = k := by
  obtain ⟨j, rfl⟩ : ∃ j, k = j + 1 := ⟨k - 1, by omega⟩
  rw [Nat.add_sub_cancel] at h
  show (if w (j + 1) < w (amF w j) then _ else _) = _
  rw [if_pos h]
theorem amF_f {w : Nat → Nat} {k : Nat} (h0 : 0 < k) (h : ¬ w k < w (amF w (k - 1))) : amF w k = amF w (k - 1) := by
  obtain ⟨j, rfl⟩ : ∃ j, k = j + 1 := ⟨k - 1, by omega⟩
  rw [Nat.add_sub_cancel] at h ⊢
  show (if w (j + 1) < w (amF w j) then _ else _) = _
  rw [if_neg h]
/-- the sets ahead of k, as the tally holds them -/
def TlI (n : Nat) (kd len ord : Nat → Nat) (kn : Nat) (kh km : Nat → Nat) (k : Nat) (lf : Nat → Nat → Nat) (wo : Nat → Nat) : Prop :=
  ∀ i, i < n → (∀ j, j < 151 → lf i j = wsL (okS n kd len ord kn kh km) (fun st => camF kd len (nI st) ord n i) k j) ∧ wo i = wsW (okS n kd len ord kn kh km) (fun st => camF kd len (nI st) ord n i) k
theorem TlI_no {n : Nat} {kd len ord : Nat → Nat} {kn : Nat} {kh km : Nat → Nat} {k : Nat} {lf : Nat → Nat → Nat} {wo : Nat → Nat} (h : TlI n kd len ord kn kh km k lf wo) (q : okS n kd len ord kn kh km k = false) : TlI n kd len ord kn kh km (k + 1) lf wo := by
  intro i hi
  rw [wsL_f q, wsW_f q]
  exact h i hi
theorem TlI_yes {n : Nat} {kd len ord : Nat → Nat} {kn : Nat} {kh km : Nat → Nat} {k : Nat} {lf lf' : Nat → Nat → Nat} {wo wo' cw : Nat → Nat} (h : TlI n kd len ord kn kh km k lf wo) (q : okS n kd len ord kn kh km k = true) (hc : CamOk kd len (nI k) ord n cw) (ha : AddI cw lf wo n lf' wo') : TlI n kd len ord kn kh km (k + 1) lf' wo' := by
  intro i hi
  obtain ⟨h1, h2⟩ := h i hi
  obtain ⟨a1, a2⟩ := ha.1 i hi
  have e := hc.1 i hi
  have hb : cw i < 151 := by have := hc.2 i; omega
  rw [wsL_t q, wsW_t q, a1, a2]
  refine ⟨fun j hj => ?_, ?_⟩
  · show va_up (lf i) (cw i) (lf i (cw i) + 1) j = va_up _ (camF kd len (nI k) ord n i) _ j
    rw [h1 (cw i) hb, ← e]
    unfold va_up
    split
    · rfl
    · exact h1 j hj
  · show mxN (wo i) (lf i (cw i) + 1) = _
    rw [h1 (cw i) hb, h2, ← e]
    rfl
theorem inD_mk {c : Int32} (h1 : ¬ c < nI 1) (h2 : ¬ nI 60 < c) : inD c = true := decide_eq_true ⟨Int32.not_lt.mp h1, Int32.not_lt.mp h2⟩
theorem inD_no1 {c : Int32} (h1 : c < nI 1) : inD c = false := decide_eq_false (fun q => absurd h1 (Int32.not_lt.mpr q.1))
theorem inD_no2 {c : Int32} (h2 : nI 60 < c) : inD c = false := decide_eq_false (fun q => absurd h2 (Int32.not_lt.mpr q.2))
theorem inT_mk {c : Int32} (h1 : ¬ c < nI 10) (h2 : c ≤ nI 15) : inT c = true := decide_eq_true ⟨Int32.not_lt.mp h1, h2⟩
theorem inT_no1 {c : Int32} (h1 : c < nI 10) : inT c = false := decide_eq_false (fun q => absurd h1 (Int32.not_lt.mpr q.1))
theorem inT_no2 {c : Int32} (h2 : ¬ c ≤ nI 15) : inT c = false := decide_eq_false (fun q => h2 q.2)
theorem bnf {x : Bool} (h : ¬ x = false) : x = true := by cases x <;> first | rfl | exact absurd rfl h
