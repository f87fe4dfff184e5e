/-! what the calls tell, in pure words -/
theorem up_le {f : Nat → Nat} {h x B : Nat} (hf : ∀ j, f j ≤ B) (hx : x ≤ B) : ∀ j, va_up f h x j ≤ B := by
  intro j
  unfold va_up
  split
  · exact hx
  · exact hf j
theorem up_self (f : Nat → Nat) (h : Nat) : va_up f h (f h) = f := by
  funext j
  unfold va_up
  split
  · rename_i q; rw [q]
  · rfl
theorem up_at (f : Nat → Nat) (h x : Nat) : va_up f h x h = x := by unfold va_up; rw [if_pos rfl]
theorem up_ne {f : Nat → Nat} {h x j : Nat} (q : j ≠ h) : va_up f h x j = f j := by unfold va_up; rw [if_neg q]
/-- the first m places by g, the others as they were -/
def mixF (m : Nat) (g f : Nat → Nat) : Nat → Nat := fun j => if j < m then g j else f j
theorem mixF_0 (g f : Nat → Nat) : mixF 0 g f = f := by funext j; unfold mixF; rw [if_neg (Nat.not_lt_zero _)]
theorem mixF_s (m : Nat) (g f : Nat → Nat) : va_up (mixF m g f) m (g m) = mixF (m + 1) g f := by
  funext j
  unfold va_up mixF
  by_cases q : j = m
  · subst q; rw [if_pos rfl, if_pos (by omega)]
  · rw [if_neg q]
    by_cases z : j < m
    · rw [if_pos z, if_pos (by omega)]
    · rw [if_neg z, if_neg (by omega)]
theorem mixF_in {m : Nat} {g f : Nat → Nat} {j : Nat} (h : j < m) : mixF m g f j = g j := by unfold mixF; rw [if_pos h]
theorem mixF_out {m : Nat} {g f : Nat → Nat} {j : Nat} (h : ¬ j < m) : mixF m g f j = f j := by unfold mixF; rw [if_neg h]
theorem mixF_le {m : Nat} {g f : Nat → Nat} {B : Nat} (hg : ∀ j, j < m → g j ≤ B) (hf : ∀ j, f j ≤ B) : ∀ j, mixF m g f j ≤ B := by
  intro j
  unfold mixF
  split
  · rename_i q; exact hg j q
  · exact hf j
def posF (ord : Nat → Nat) (h : Nat) : Nat → Nat
  | 0 => 0
  | k + 1 => if ord k = h then k else posF ord h k
theorem posF_to {n : Nat} {ord : Nat → Nat} {h kk : Nat} (hp : PermOn n ord) (hkk : kk < n) (hh : ord kk = h) : ∀ m, kk < m → m ≤ n → posF ord h m = kk
  | 0, q, _ => absurd q (Nat.not_lt_zero _)
  | m + 1, q, z => by
    show (if ord m = h then m else posF ord h m) = kk
    by_cases e : ord m = h
    · rw [if_pos e]
      exact hp.2 m kk (by omega) hkk (by rw [e, hh])
    · rw [if_neg e]
      have hne : kk ≠ m := fun w => e (by rw [← w]; exact hh)
      exact posF_to hp hkk hh m (by omega) (by omega)
theorem posF_eq {n : Nat} {ord : Nat → Nat} {h kk : Nat} (hp : PermOn n ord) (hkk : kk < n) (hh : ord kk = h) : posF ord h n = kk := posF_to hp hkk hh n hkk (Nat.le_refl n)
theorem posF_at {n : Nat} {ord : Nat → Nat} {h : Nat} (hp : PermOn n ord) (hh : h < n) : posF ord h n < n ∧ ord (posF ord h n) = h := by
  obtain ⟨k, hk, e⟩ := hp.onto hh
  rw [posF_eq hp hk e]
  exact ⟨hk, e⟩
def mostF (n kp : Nat) (kd len : Nat → Nat) (lo : Int32) (ord : Nat → Nat) (h : Nat) : Nat → Nat
  | 0 => 0
  | L + 1 => if wrg n kp kd (va_up len h (L + 1)) lo ord ≤ wrg n kp kd (va_up len h 0) lo ord then L + 1 else mostF n kp kd len lo ord h L
/-- what about() tells of a house -/
def hvF (n kp : Nat) (kd len : Nat → Nat) (lo : Int32) (ord : Nat → Nat) (h w : Nat) : Int32 :=
  if w = 0 then nI (kd h) else if w = 1 then nI (len h) else if w = 2 then bitL lo h else if w = 3 then nI (rdm kd len lo h)
  else if w = 4 then nI (posF ord h n) else if w = 5 then nI (camF kd len lo ord n h) else if w = 6 then bI (sourB kd kp (camF kd len lo ord n) h)
  else if w = 7 then bI (hearB n kd (camF kd len lo ord n) h) else nI (mostF n kp kd len lo ord h 9)
def inR (w : Int32) (m : Nat) : Bool := decide (nI 0 ≤ w ∧ w ≤ nI m)
theorem inR_of {w : Int32} {m : Nat} (hm : m < 2 ^ 31) (e : inR w m = true) : ∃ k : Nat, k ≤ m ∧ w = nI k := by
  unfold inR at e
  have e := of_decide_eq_true e
  obtain ⟨j, hj, rfl⟩ := nI_of (x := w) (fun q => by
    have h0 : nI 0 ≤ w := e.1
    rw [nI_0] at h0
    exact absurd q (Int32.not_lt.mpr h0))
  exact ⟨j, (nI_leI hj hm).mp e.2, rfl⟩
theorem inR_nat {k m : Nat} (hk : k < 2 ^ 31) (hm : m < 2 ^ 31) : inR (nI k) m = decide (k ≤ m) := by
  unfold inR
  have h1 : nI 0 ≤ nI k := by rw [nI_leI (by decide) hk]; omega
  simp [h1, nI_leI hk hm]
def rAbout (n kp : Nat) (kd len : Nat → Nat) (lo : Int32) (ord : Nat → Nat) (h w : Int32) : Int32 := bif isH h n then (bif inR w 8 then hvF n kp kd len lo ord h.toNatClampNeg w.toNatClampNeg else -102) else -101
def asOk (d k : Nat) : Bool := decide (k = 0 ∨ d = k ∨ (k = 1 ∧ d = 4))
def rAs (n : Nat) (kd : Nat → Nat) (h k : Int32) : Int32 := bif isH h n then (bif inR k 4 then (bif asOk (kd h.toNatClampNeg) k.toNatClampNeg then h else -1) else -102) else -101
def rLetters (n : Nat) (len : Nat → Nat) (h k : Int32) : Int32 := bif isH h n then (bif inR k 9 then nI (len h.toNatClampNeg) else -102) else -101
def sLetters (n : Nat) (len : Nat → Nat) (h k : Int32) : Nat → Nat := bif isH h n then (bif inR k 9 then va_up len h.toNatClampNeg k.toNatClampNeg else len) else len
def rLeave (n : Nat) (lo h : Int32) : Int32 := bif isH h n then bitL lo h.toNatClampNeg else -101
def sLeave (n : Nat) (lo h : Int32) (o : Bool) : Int32 := bif isH h n then (bif o then lo ||| (nI 1 <<< (h &&& 31)) else lo &&& ((nI 1 <<< (h &&& 31)) ^^^ -1)) else lo
def rSwap (n : Nat) (ord : Nat → Nat) (g h : Int32) : Int32 := bif (isH g n && isH h n) then nI (posF ord g.toNatClampNeg n) else -101
def sSwap (n : Nat) (ord : Nat → Nat) (g h : Int32) : Nat → Nat := bif (isH g n && isH h n) then va_up (va_up ord (posF ord g.toNatClampNeg n) h.toNatClampNeg) (posF ord h.toNatClampNeg n) g.toNatClampNeg else ord
def okC (code : Int32) : Bool := decide (nI 32 ≤ code ∧ code ≤ nI 126)
theorem okC_of {c : Int32} (e : okC c = true) : ∃ k : Nat, 32 ≤ k ∧ k ≤ 126 ∧ c = nI k := by
  unfold okC at e
  have e := of_decide_eq_true e
  obtain ⟨j, hj, rfl⟩ := nI_of (x := c) (fun q => by
    have h0 : nI 32 ≤ c := e.1
    have h1 : (nI 32 : Int32) < 0 := Int32.lt_of_le_of_lt h0 q
    exact absurd h1 (by decide))
  exact ⟨j, (nI_leI (by decide) hj).mp e.1, (nI_leI hj (by decide)).mp e.2, rfl⟩
def rLetter (pl : Nat) (c : Int32) : Int32 := bif okC c then (if pl = 21 then -104 else nI (pl + 1)) else -102
def plLetter (pl : Nat) (c : Int32) : Nat := bif okC c then (if pl = 21 then pl else pl + 1) else pl
def pgLetter (pl : Nat) (pg : Nat → Nat) (c : Int32) : Nat → Nat := bif okC c then (if pl = 21 then pg else va_up pg pl c.toNatClampNeg) else pg
/-- a day: letters behind it -/
def dayG (kd len : Nat → Nat) : Nat → Nat := fun j => if kd j = 3 then len j / 2 else 0
theorem dayG_t {kd len : Nat → Nat} {k : Nat} (h : kd k = 3) : dayG kd len k = len k / 2 := by unfold dayG; rw [if_pos h]
theorem dayG_f {kd len : Nat → Nat} {k : Nat} (h : ¬ kd k = 3) : dayG kd len k = 0 := by unfold dayG; rw [if_neg h]
def dayL (n : Nat) (kd len : Nat → Nat) : Nat → Nat := mixF n (dayG kd len) len
