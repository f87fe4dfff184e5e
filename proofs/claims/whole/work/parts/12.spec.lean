/-! pure words for what the round is -/
def bitL (lo : Int32) (h : Nat) : Int32 := (lo >>> (nI h &&& 31)) &&& nI 1
def inB (lo : Int32) (h : Nat) : Bool := decide (bitL lo h = nI 1)
def whl (k L : Nat) : Nat := if k = 1 then 2 * L else if k = 2 then L + 3 else if k = 3 then (L + 1) / 2 else if k = 4 then 2 * L + 2 else L
def rdm (kd len : Nat → Nat) (lo : Int32) (h : Nat) : Nat := bif inB lo h then whl (kd h) (len h) / 2 else whl (kd h) (len h)
def tmF (kd len : Nat → Nat) (lo : Int32) (ord : Nat → Nat) : Nat → Nat
  | 0 => 0
  | k + 1 => tmF kd len lo ord k + (1 + rdm kd len lo (ord k))
def gof (kd len : Nat → Nat) (lo : Int32) (ord f : Nat → Nat) : Nat → (Nat → Nat)
  | 0 => f
  | k + 1 => va_up (gof kd len lo ord f k) (ord k) (tmF kd len lo ord (k + 1))
def camF (kd len : Nat → Nat) (lo : Int32) (ord : Nat → Nat) (n : Nat) : Nat → Nat := gof kd len lo ord (fun _ => 0) n
def tkF (k : Nat) : Nat := if k = 2 then 2 else 4
def sourB (kd : Nat → Nat) (kp : Nat) (cm : Nat → Nat) (h : Nat) : Bool := decide (tkF (kd h) * kp < cm h)
def ahdB (n : Nat) (cm : Nat → Nat) (o h : Nat) : Bool := decide (o < n ∧ cm o + 6 ≤ cm h)
def hearB (n : Nat) (kd cm : Nat → Nat) (h : Nat) : Bool := decide (kd h ≠ 2) && ((decide (0 < h) && ahdB n cm (h - 1) h) || ahdB n cm (h + 1) h)
def ctB (p : Nat → Bool) : Nat → Nat
  | 0 => 0
  | k + 1 => ctB p k + (bif p k then 1 else 0)
def PermOn (n : Nat) (ord : Nat → Nat) : Prop := (∀ k, k < n → ord k < n) ∧ ∀ i j, i < n → j < n → ord i = ord j → i = j
def CamOk (kd len : Nat → Nat) (lo : Int32) (ord : Nat → Nat) (n : Nat) (f : Nat → Nat) : Prop := (∀ h, h < n → f h = camF kd len lo ord n h) ∧ ∀ j, f j ≤ 126
theorem whl_le {k L : Nat} (h : L ≤ 9) : whl k L ≤ 20 := by
  unfold whl
  split
  · omega
  · split
    · omega
    · split
      · omega
      · split <;> omega
theorem rdm_le {kd len : Nat → Nat} {lo : Int32} {h : Nat} (hl : ∀ j, len j ≤ 9) : rdm kd len lo h ≤ 20 := by
  have := whl_le (k := kd h) (hl h)
  unfold rdm
  cases inB lo h
  · exact this
  · show whl (kd h) (len h) / 2 ≤ 20
    omega
theorem tmF_le {kd len : Nat → Nat} {lo : Int32} {ord : Nat → Nat} (hl : ∀ j, len j ≤ 9) : ∀ k, tmF kd len lo ord k ≤ 21 * k
  | 0 => Nat.le_refl _
  | k + 1 => by
    have h1 := tmF_le (kd := kd) (lo := lo) (ord := ord) hl k
    have h2 := rdm_le (kd := kd) (lo := lo) (h := ord k) hl
    show tmF kd len lo ord k + (1 + rdm kd len lo (ord k)) ≤ 21 * (k + 1)
    omega
theorem gof_le {kd len : Nat → Nat} {lo : Int32} {ord f : Nat → Nat} (hl : ∀ j, len j ≤ 9) (hf : ∀ j, f j ≤ 126) : ∀ k, k ≤ 6 → ∀ j, gof kd len lo ord f k j ≤ 126
  | 0, _, j => hf j
  | k + 1, hk, j => by
    have h1 := gof_le (kd := kd) (lo := lo) (ord := ord) hl hf k (by omega) j
    have h2 := tmF_le (kd := kd) (lo := lo) (ord := ord) hl (k + 1)
    show va_up (gof kd len lo ord f k) (ord k) (tmF kd len lo ord (k + 1)) j ≤ 126
    unfold va_up
    split
    · omega
    · exact h1
theorem gof_at {kd len : Nat → Nat} {lo : Int32} {ord f : Nat → Nat} {n : Nat} (hp : PermOn n ord) : ∀ K, K ≤ n → ∀ k, k < K → gof kd len lo ord f K (ord k) = tmF kd len lo ord (k + 1)
  | 0, _, k, h => absurd h (Nat.not_lt_zero k)
  | K + 1, hK, k, h => by
    show va_up (gof kd len lo ord f K) (ord K) (tmF kd len lo ord (K + 1)) (ord k) = _
    unfold va_up
    by_cases e : k = K
    · subst e
      rw [if_pos rfl]
    · rw [if_neg (fun q => e (hp.2 k K (by omega) (by omega) q))]
      exact gof_at hp K (by omega) k (by omega)
theorem fb_holes : ∀ (m n : Nat) (f : Nat → Nat), (∀ i, i < n → f i < m) → (∀ i j, i < j → j < n → f i ≠ f j) → n ≤ m
  | 0, n, f, h, _ => by
    rcases Nat.eq_zero_or_pos n with q | q
    · omega
    · exact absurd (h 0 q) (Nat.not_lt_zero _)
  | m + 1, n, f, h, hd => by
    by_cases hx : ∃ i, i < n ∧ f i = m
    · obtain ⟨i, hi, hfi⟩ := hx
      have key := fb_holes m (n - 1) (fun k => if k < i then f k else f (k + 1)) (fun k hk => by
        show (if k < i then f k else f (k + 1)) < m
        split
        · rename_i q
          have h1 := h k (by omega)
          have h2 := hd k i q hi
          omega
        · rename_i q
          have h1 := h (k + 1) (by omega)
          have h2 := hd i (k + 1) (by omega) (by omega)
          omega) (fun a b hab hb => by
        show (if a < i then f a else f (a + 1)) ≠ (if b < i then f b else f (b + 1))
        split <;> split
        · exact hd a b hab (by omega)
        · exact hd a (b + 1) (by omega) (by omega)
        · omega
        · exact hd (a + 1) (b + 1) (by omega) (by omega))
      omega
    · have key := fb_holes m n f (fun k hk => by
        have h1 := h k hk
        have h2 : f k ≠ m := fun q => hx ⟨k, hk, q⟩
        omega) hd
      omega
theorem PermOn.onto {n : Nat} {ord : Nat → Nat} (hp : PermOn n ord) {h : Nat} (hh : h < n) : ∃ k, k < n ∧ ord k = h := by
  rcases Classical.em (∃ k, k < n ∧ ord k = h) with q | q
  · exact q
  · exfalso
    have key := fb_holes (n - 1) n (fun k => if ord k < h then ord k else ord k - 1) (fun k hk => by
      show (if ord k < h then ord k else ord k - 1) < n - 1
      have h1 := hp.1 k hk
      have h2 : ord k ≠ h := fun z => q ⟨k, hk, z⟩
      split <;> omega) (fun i j hij hj => by
      show (if ord i < h then ord i else ord i - 1) ≠ (if ord j < h then ord j else ord j - 1)
      have h1 : ord i ≠ ord j := fun z => absurd (hp.2 i j (by omega) hj z) (by omega)
      have h2 : ord i ≠ h := fun z => q ⟨i, by omega, z⟩
      have h3 : ord j ≠ h := fun z => q ⟨j, hj, z⟩
      split <;> split <;> omega)
    omega
theorem gof_cam {kd len : Nat → Nat} {lo : Int32} {ord f : Nat → Nat} {n : Nat} (hp : PermOn n ord) (hn : n ≤ 6) (hl : ∀ j, len j ≤ 9) (hf : ∀ j, f j ≤ 126) : CamOk kd len lo ord n (gof kd len lo ord f n) := by
  refine ⟨fun h hh => ?_, gof_le hl hf n hn⟩
  obtain ⟨k, hk, rfl⟩ := hp.onto hh
  unfold camF
  rw [gof_at hp n (Nat.le_refl n) k hk, gof_at hp n (Nat.le_refl n) k hk]
theorem sourB_cong {kd : Nat → Nat} {kp : Nat} {cm cm' : Nat → Nat} {h : Nat} (e : cm h = cm' h) : sourB kd kp cm h = sourB kd kp cm' h := by unfold sourB; rw [e]
theorem ahdB_cong {n : Nat} {cm cm' : Nat → Nat} {o h : Nat} (hh : h < n) (e : ∀ j, j < n → cm j = cm' j) : ahdB n cm o h = ahdB n cm' o h := by
  unfold ahdB
  rw [e h hh]
  by_cases q : o < n
  · rw [e o q]
  · simp [q]
theorem hearB_cong {n : Nat} {kd cm cm' : Nat → Nat} {h : Nat} (hh : h < n) (e : ∀ j, j < n → cm j = cm' j) : hearB n kd cm h = hearB n kd cm' h := by
  unfold hearB
  rw [ahdB_cong hh e, ahdB_cong hh e]
theorem ctB_cong {p q : Nat → Bool} : ∀ {n : Nat}, (∀ k, k < n → p k = q k) → ctB p n = ctB q n
  | 0, _ => rfl
  | n + 1, h => by
    show ctB p n + (bif p n then 1 else 0) = ctB q n + (bif q n then 1 else 0)
    rw [ctB_cong (fun k hk => h k (by omega)), h n (by omega)]
theorem ctB_le (p : Nat → Bool) : ∀ n, ctB p n ≤ n
  | 0 => Nat.le_refl _
  | n + 1 => by
    have h := ctB_le p n
    show ctB p n + (bif p n then 1 else 0) ≤ n + 1
    cases p n
    · show ctB p n + 0 ≤ n + 1
      omega
    · show ctB p n + 1 ≤ n + 1
      omega
theorem ctB_t {p : Nat → Bool} {n : Nat} (h : p n = true) : ctB p (n + 1) = ctB p n + 1 := by show ctB p n + (bif p n then 1 else 0) = _; rw [h]; rfl
theorem ctB_f {p : Nat → Bool} {n : Nat} (h : p n = false) : ctB p (n + 1) = ctB p n := by show ctB p n + (bif p n then 1 else 0) = _; rw [h]; rfl
/-- a number that names a house -/
def isH (h : Int32) (n : Nat) : Bool := decide (nI 0 ≤ h ∧ h < nI n)
theorem isH_nat {j n : Nat} (hj : j < 2 ^ 31) (hn : n < 2 ^ 31) : isH (nI j) n = decide (j < n) := by
  unfold isH
  have h1 : nI 0 ≤ nI j := by rw [nI_leI (by decide) hj]; omega
  simp [h1, nI_ltI hj hn]
theorem isH_of {h : Int32} {n : Nat} (hn : n < 2 ^ 31) (e : isH h n = true) : ∃ j : Nat, j < n ∧ h = nI j := by
  unfold isH at e
  have e := of_decide_eq_true e
  obtain ⟨j, hj, rfl⟩ := nI_of (x := h) (fun q => by
    have h0 : nI 0 ≤ h := e.1
    rw [nI_0] at h0
    exact absurd q (Int32.not_lt.mpr h0))
  exact ⟨j, (nI_ltI hj hn).mp e.2, rfl⟩
theorem sub_toInt {a c : Nat} (ha : a < 2 ^ 30) (hc : c < 2 ^ 30) : (nI a - nI c).toInt = (a : Int) - c := pk_sub_toInt ha hc
theorem le_subI {a c k : Nat} (ha : a < 2 ^ 30) (hc : c < 2 ^ 30) (hk : k < 2 ^ 30) : nI a ≤ nI c - nI k ↔ a + k ≤ c := by
  rw [Int32.le_iff_toInt_le, sub_toInt hc hk, nI_toInt (by omega)]
  omega
theorem isH_within {h : Int32} {n : Nat} (hn : n < 2 ^ 30) : decide (nI 0 ≤ h ∧ h ≤ nI n - nI 1) = isH h n := by
  unfold isH
  have e : h ≤ nI n - nI 1 ↔ h < nI n := by
    rw [Int32.le_iff_toInt_le, Int32.lt_iff_toInt_lt, sub_toInt hn (by decide), nI_toInt (by omega)]
    omega
  simp only [e]
theorem isH_neg1 {n : Nat} : isH (nI 0 - nI 1) n = false := by
  unfold isH
  exact decide_eq_false (fun q => absurd q.1 (by decide))
theorem tkF2 {k : Nat} (h : k = 2) : tkF k = 2 := by unfold tkF; rw [if_pos h]
theorem tkF4 {k : Nat} (h : ¬ k = 2) : tkF k = 4 := by unfold tkF; rw [if_neg h]
def ahI (n : Nat) (cm : Nat → Nat) (o : Int32) (h : Nat) : Bool := isH o n && decide (cm o.toNatClampNeg + 6 ≤ cm h)
theorem ahI_nat {n : Nat} {cm : Nat → Nat} {o h : Nat} (ho : o < 2 ^ 31) (hn : n < 2 ^ 31) : ahI n cm (nI o) h = ahdB n cm o h := by
  unfold ahI ahdB
  rw [isH_nat ho hn, nI_clamp ho]
  by_cases q : o < n <;> simp [q]
theorem ahI_pred {n : Nat} {cm : Nat → Nat} {h : Nat} (hh : h < 2 ^ 31) (hn : n < 2 ^ 31) : ahI n cm (nI h - nI 1) h = (decide (0 < h) && ahdB n cm (h - 1) h) := by
  rcases Nat.eq_zero_or_pos h with q | q
  · subst q
    unfold ahI
    rw [isH_neg1]
    rfl
  · rw [pk_sub (by omega), ahI_nat (by omega) hn]
    simp [q]
def scF (n kp : Nat) (kd len : Nat → Nat) (lo : Int32) (ord : Nat → Nat) : Nat := ctB (sourB kd kp (camF kd len lo ord n)) n
def hcF (n : Nat) (kd len : Nat → Nat) (lo : Int32) (ord : Nat → Nat) : Nat := ctB (hearB n kd (camF kd len lo ord n)) n
def wrg (n kp : Nat) (kd len : Nat → Nat) (lo : Int32) (ord : Nat → Nat) : Nat := scF n kp kd len lo ord + hcF n kd len lo ord
theorem wrg_le {n kp : Nat} {kd len : Nat → Nat} {lo : Int32} {ord : Nat → Nat} : wrg n kp kd len lo ord ≤ n + n := Nat.add_le_add (ctB_le _ n) (ctB_le _ n)
theorem pl_keep {kk k : Nat} {x z : Int32} (h : kk ≠ k) : (if kk < k then x else z) = if kk < k + 1 then x else z := by
  by_cases q : kk < k
  · rw [if_pos q, if_pos (by omega)]
  · rw [if_neg q, if_neg (by omega)]
