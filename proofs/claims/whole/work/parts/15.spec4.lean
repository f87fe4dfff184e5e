/-! rows for weeks, counts, images -/
theorem fb_andL (a b : Nat) : lN a &&& lN b = lN (a &&& b) := by
  apply Int64.toBitVec_inj.1
  show BitVec.ofNat 64 a &&& BitVec.ofNat 64 b = BitVec.ofNat 64 (a &&& b)
  apply BitVec.eq_of_getLsbD_eq
  intro i hi
  simp [hi]
theorem fb_maskL (n k : Nat) : lN n &&& lN (2 ^ k - 1) = lN (n % 2 ^ k) := by rw [fb_andL, Nat.and_two_pow_sub_one_eq_mod]
theorem mr_and31 (x : Nat) : lN x &&& (2147483647 : Int64) = lN (x % 2147483648) := fb_maskL x 31
theorem mr_b8 : ∀ x, x < 128 → (nI x).toInt8.toInt32 = nI x := by decide +kernel
theorem mr_rem {a b : Nat} (ha : a < 2 ^ 63) (h0 : 0 < b) (hb : b < 2 ^ 63) : lN a - lN a / lN b * lN b = lN (a % b) := pk_lRem ha h0 hb
theorem mix_back {ln len sl : Nat → Nat} (h : ∀ j, ¬ j < 6 → ln j = len j) : mixF 6 (mixF 6 len sl) ln = len := by
  funext j
  by_cases q : j < 6
  · rw [mixF_in q, mixF_in q]
  · rw [mixF_out q, h j q]
theorem mix_back2 {f g o : Nat → Nat} (h : ∀ j, ¬ j < 6 → g j = f j) : mixF 6 (mixF 6 f o) g = f := mix_back h
theorem inR_out {w : Int32} {m : Nat} (hm : m < 2 ^ 31) (h : inR w m = false) : w.toInt < 0 ∨ (m : Int) < w.toInt := by
  unfold inR at h
  have h := of_decide_eq_false h
  rw [Int32.le_iff_toInt_le, Int32.le_iff_toInt_le, nI_toInt (by decide), nI_toInt hm] at h
  omega
def rsB (ik : Bool) (kr rn : Nat) : Bool := ik && decide (kr = rn)
