def GI (i : Nat) (rn : Nat) (n : Nat) (kp : Nat) (kn : Nat) (ak : Nat) (pl : Nat) (im : Bool) (ik : Bool) (kr : Nat) (kn2 : Nat) (kd : Nat → Nat) (len : Nat → Nat) (ord : Nat → Nat) (kh : Nat → Nat) (km : Nat → Nat) (pg : Nat → Nat) (len2 : Nat → Nat) (ord2 : Nat → Nat) (kh2 : Nat → Nat) (km2 : Nat → Nat) : Prop := n ≤ 6 ∧ (n = 0 ∨ 2 ≤ n) ∧ PermOn n ord ∧ (∀ j, len j ≤ 9) ∧ (∀ j, kd j ≤ 4) ∧ kp ≤ 9 ∧ kn ≤ 6 ∧ (∀ j, j < kn → kh j < n) ∧ (∀ j, km j ≤ 150) ∧ pl ≤ 21 ∧ (∀ j, pg j < 128) ∧ ak ≤ 30 ∧ rn ≤ i ∧ kr ≤ rn ∧ im = rsB ik kr rn ∧ (∀ j, len2 j ≤ 9) ∧ (∀ j, km2 j ≤ 150) ∧ kn2 ≤ 6 ∧ (im = true → PermOn n ord2 ∧ ∀ j, j < kn2 → kh2 j < n)
theorem gup_le {f : Nat → Nat} {B k v : Nat} (hf : ∀ j, f j ≤ B) (hv : v ≤ B) : ∀ j, va_up f k v j ≤ B := by
  intro j
  unfold va_up
  split
  · exact hv
  · exact hf j
theorem perm_mix {n : Nat} {f g : Nat → Nat} (hn : n ≤ 6) (h : PermOn n f) : PermOn n (mixF 6 f g) := h.eq (fun k hk => (mixF_in (Nat.lt_of_lt_of_le hk hn)).symm)
theorem mix6_le {f g : Nat → Nat} {B : Nat} (hf : ∀ j, f j ≤ B) (hg : ∀ j, g j ≤ B) : ∀ j, mixF 6 f g j ≤ B := mixF_le (fun j _ => hf j) hg
theorem gi_next {i rn n kp kn ak pl kr kn2 : Nat} {im ik : Bool} {kd len ord kh km pg len2 ord2 kh2 km2 : Nat → Nat}  (h : GI i rn n kp kn ak pl im ik kr kn2 kd len ord kh km pg len2 ord2 kh2 km2) : GI (i + 4) rn n kp kn ak pl im ik kr kn2 kd len ord kh km pg len2 ord2 kh2 km2 := by
  obtain ⟨hn, hn2, hord, hlen, hkd, hkp, hkn, hkh, hkm, hpl, hpg, hak, hrn, hkr, him, hlen2, hkm2, hkn2, hord2⟩ := h
  exact ⟨hn, hn2, hord, hlen, hkd, hkp, hkn, hkh, hkm, hpl, hpg, hak, Nat.le_trans hrn (Nat.le_add_right _ _), hkr, him, hlen2, hkm2, hkn2, hord2⟩
theorem gi_letter {i rn n kp kn ak pl kr kn2 : Nat} {im ik : Bool} {kd len ord kh km pg len2 ord2 kh2 km2 : Nat → Nat} (w : Int32) (h : GI i rn n kp kn ak pl im ik kr kn2 kd len ord kh km pg len2 ord2 kh2 km2) : GI (i + 4) rn n kp kn ak (plLetter pl w) im ik kr kn2 kd len ord kh km (pgLetter pl pg w) len2 ord2 kh2 km2 := by
  obtain ⟨hn, hn2, hord, hlen, hkd, hkp, hkn, hkh, hkm, hpl, hpg, hak, hrn, hkr, him, hlen2, hkm2, hkn2, hord2⟩ := h
  unfold plLetter pgLetter
  cases e : okC w
  · exact ⟨hn, hn2, hord, hlen, hkd, hkp, hkn, hkh, hkm, hpl, hpg, hak, Nat.le_trans hrn (Nat.le_add_right _ _), hkr, him, hlen2, hkm2, hkn2, hord2⟩
  · obtain ⟨k, hk1, hk2, rfl⟩ := okC_of e
    by_cases q : pl = 21
    · rw [if_pos q]; rw [show (bif true then pl else pl) = pl from rfl]; rw [if_pos q]; exact ⟨hn, hn2, hord, hlen, hkd, hkp, hkn, hkh, hkm, hpl, hpg, hak, Nat.le_trans hrn (Nat.le_add_right _ _), hkr, him, hlen2, hkm2, hkn2, hord2⟩
    · rw [if_neg q, if_neg q]
      exact ⟨hn, hn2, hord, hlen, hkd, hkp, hkn, hkh, hkm, by show pl + 1 ≤ 21; omega, fun j => by show va_up pg pl (nI k).toNatClampNeg j < 128; rw [nI_clamp (by omega)]; exact Nat.lt_of_le_of_lt (gup_le (B := 127) (fun j => Nat.le_of_lt_succ (hpg j)) (by omega) j) (by decide), hak, Nat.le_trans hrn (Nat.le_add_right _ _), hkr, him, hlen2, hkm2, hkn2, hord2⟩
theorem gi_blank {i rn n kp kn ak pl kr kn2 : Nat} {im ik : Bool} {kd len ord kh km pg len2 ord2 kh2 km2 : Nat → Nat}  (h : GI i rn n kp kn ak pl im ik kr kn2 kd len ord kh km pg len2 ord2 kh2 km2) : GI (i + 4) rn n kp kn ak (0) im ik kr kn2 kd len ord kh km pg len2 ord2 kh2 km2 := by
  obtain ⟨hn, hn2, hord, hlen, hkd, hkp, hkn, hkh, hkm, hpl, hpg, hak, hrn, hkr, him, hlen2, hkm2, hkn2, hord2⟩ := h
  exact ⟨hn, hn2, hord, hlen, hkd, hkp, hkn, hkh, hkm, Nat.zero_le _, hpg, hak, Nat.le_trans hrn (Nat.le_add_right _ _), hkr, him, hlen2, hkm2, hkn2, hord2⟩
theorem gi_round {i rn n kp kn ak pl kr kn2 : Nat} {im ik : Bool} {kd len ord kh km pg len2 ord2 kh2 km2 : Nat → Nat}  (h : GI i rn n kp kn ak pl im ik kr kn2 kd len ord kh km pg len2 ord2 kh2 km2) : GI (i + 4) (bif whlB pg pl then rn + 1 else rn) (bif whlB pg pl then pl / 3 else n) (bif whlB pg pl then pg (pl - 1) - 48 else kp) (bif whlB pg pl then 0 else kn) ak (bif whlB pg pl then 0 else pl) (bif whlB pg pl then false else im) ik kr kn2 (bif whlB pg pl then mixF (pl / 3) (kdG pg) kd else kd) (bif whlB pg pl then mixF (pl / 3) (lnG pg) len else len) (bif whlB pg pl then mixF (pl / 3) (fun j => j) ord else ord) kh km pg len2 ord2 kh2 km2 := by
  obtain ⟨hn, hn2, hord, hlen, hkd, hkp, hkn, hkh, hkm, hpl, hpg, hak, hrn, hkr, him, hlen2, hkm2, hkn2, hord2⟩ := h
  cases e : whlB pg pl
  · exact ⟨hn, hn2, hord, hlen, hkd, hkp, hkn, hkh, hkm, hpl, hpg, hak, Nat.le_trans hrn (Nat.le_add_right _ _), hkr, him, hlen2, hkm2, hkn2, hord2⟩
  · obtain ⟨w1, w2, w3, w4, w5⟩ := PgW_whl e
    have w6 := of_decide_eq_true w5
    have w7 : pl - 1 = 3 * (pl / 3) := by omega
    refine ⟨w3, Or.inr w2, (show PermOn (pl / 3) (mixF (pl / 3) (fun j => j) ord) from (id_perm _).eq (fun k hk => (mixF_in (g := fun j => j) (f := ord) hk).symm)), mixF_le (fun j hj => ?_) hlen, mixF_le (fun j _ => kdN_le _) hkd, ?_, Nat.zero_le _, fun j hj => absurd hj (Nat.not_lt_zero _), hkm, Nat.zero_le _, hpg, hak, ?_, ?_, ?_, hlen2, hkm2, hkn2, fun q => by cases q⟩
    · have w8 := of_decide_eq_true (w4 j hj).2
      show pg (3 * j + 1) - 48 ≤ 9
      omega
    · show pg (pl - 1) - 48 ≤ 9
      rw [w7]
      omega
    · show rn + 1 ≤ i + 4
      omega
    · show kr ≤ rn + 1
      omega
    · show false = rsB ik kr (rn + 1)
      unfold rsB
      rw [decide_eq_false (by omega), Bool.and_false]
theorem gi_letters {i rn n kp kn ak pl kr kn2 : Nat} {im ik : Bool} {kd len ord kh km pg len2 ord2 kh2 km2 : Nat → Nat} (g w : Int32) (h : GI i rn n kp kn ak pl im ik kr kn2 kd len ord kh km pg len2 ord2 kh2 km2) : GI (i + 4) rn n kp kn ak pl im ik kr kn2 kd (sLetters n len g w) ord kh km pg len2 ord2 kh2 km2 := by
  obtain ⟨hn, hn2, hord, hlen, hkd, hkp, hkn, hkh, hkm, hpl, hpg, hak, hrn, hkr, him, hlen2, hkm2, hkn2, hord2⟩ := h
  unfold sLetters
  cases e : isH g n
  · exact ⟨hn, hn2, hord, hlen, hkd, hkp, hkn, hkh, hkm, hpl, hpg, hak, Nat.le_trans hrn (Nat.le_add_right _ _), hkr, him, hlen2, hkm2, hkn2, hord2⟩
  · cases e2 : inR w 9
    · exact ⟨hn, hn2, hord, hlen, hkd, hkp, hkn, hkh, hkm, hpl, hpg, hak, Nat.le_trans hrn (Nat.le_add_right _ _), hkr, him, hlen2, hkm2, hkn2, hord2⟩
    · obtain ⟨k, hk, rfl⟩ := inR_of (by decide) e2
      exact ⟨hn, hn2, hord, by show ∀ j, va_up len g.toNatClampNeg (nI k).toNatClampNeg j ≤ 9; rw [nI_clamp (by omega)]; exact gup_le hlen hk, hkd, hkp, hkn, hkh, hkm, hpl, hpg, hak, Nat.le_trans hrn (Nat.le_add_right _ _), hkr, him, hlen2, hkm2, hkn2, hord2⟩
theorem gi_swap {i rn n kp kn ak pl kr kn2 : Nat} {im ik : Bool} {kd len ord kh km pg len2 ord2 kh2 km2 : Nat → Nat} (g w : Int32) (h : GI i rn n kp kn ak pl im ik kr kn2 kd len ord kh km pg len2 ord2 kh2 km2) : GI (i + 4) rn n kp kn ak pl im ik kr kn2 kd len (sSwap n ord g w) kh km pg len2 ord2 kh2 km2 := by
  obtain ⟨hn, hn2, hord, hlen, hkd, hkp, hkn, hkh, hkm, hpl, hpg, hak, hrn, hkr, him, hlen2, hkm2, hkn2, hord2⟩ := h
  unfold sSwap
  cases e : (isH g n && isH w n)
  · exact ⟨hn, hn2, hord, hlen, hkd, hkp, hkn, hkh, hkm, hpl, hpg, hak, Nat.le_trans hrn (Nat.le_add_right _ _), hkr, him, hlen2, hkm2, hkn2, hord2⟩
  · obtain ⟨e1, e2⟩ := (Bool.and_eq_true _ _).mp e
    obtain ⟨j1, hj1, rfl⟩ := isH_of (by omega) e1
    obtain ⟨j2, hj2, rfl⟩ := isH_of (by omega) e2
    obtain ⟨p1, q1⟩ := posF_at hord hj1
    obtain ⟨p2, q2⟩ := posF_at hord hj2
    exact ⟨hn, hn2, by show PermOn n (va_up (va_up ord _ _) _ _); rw [nI_clamp (by omega), nI_clamp (by omega), ← posS hord p1 q1 p2 q2]; exact swF_perm hord p1 p2, hlen, hkd, hkp, hkn, hkh, hkm, hpl, hpg, hak, Nat.le_trans hrn (Nat.le_add_right _ _), hkr, him, hlen2, hkm2, hkn2, hord2⟩
theorem gi_day {i rn n kp kn ak pl kr kn2 : Nat} {im ik : Bool} {kd len ord kh km pg len2 ord2 kh2 km2 : Nat → Nat}  (h : GI i rn n kp kn ak pl im ik kr kn2 kd len ord kh km pg len2 ord2 kh2 km2) : GI (i + 4) rn n kp kn ak pl im ik kr kn2 kd (bif decide (n = 0) then len else dayL n kd len) ord kh km pg len2 ord2 kh2 km2 := by
  obtain ⟨hn, hn2, hord, hlen, hkd, hkp, hkn, hkh, hkm, hpl, hpg, hak, hrn, hkr, him, hlen2, hkm2, hkn2, hord2⟩ := h
  cases e : decide (n = 0)
  · exact ⟨hn, hn2, hord, mixF_le (fun j _ => by have := hlen j; unfold dayG; split <;> omega) hlen, hkd, hkp, hkn, hkh, hkm, hpl, hpg, hak, Nat.le_trans hrn (Nat.le_add_right _ _), hkr, him, hlen2, hkm2, hkn2, hord2⟩
  · exact ⟨hn, hn2, hord, hlen, hkd, hkp, hkn, hkh, hkm, hpl, hpg, hak, Nat.le_trans hrn (Nat.le_add_right _ _), hkr, him, hlen2, hkm2, hkn2, hord2⟩
theorem gi_best {i rn n kp kn ak pl kr kn2 : Nat} {im ik : Bool} {kd len ord kh km pg len2 ord2 kh2 km2 : Nat → Nat} (w : Int32) (h : GI i rn n kp kn ak pl im ik kr kn2 kd len ord kh km pg len2 ord2 kh2 km2) : GI (i + 4) rn n kp kn (sBest n ak w) pl im ik kr kn2 kd len ord kh km pg len2 ord2 kh2 km2 := by
  obtain ⟨hn, hn2, hord, hlen, hkd, hkp, hkn, hkh, hkm, hpl, hpg, hak, hrn, hkr, him, hlen2, hkm2, hkn2, hord2⟩ := h
  unfold sBest
  cases e : okW w
  · exact ⟨hn, hn2, hord, hlen, hkd, hkp, hkn, hkh, hkm, hpl, hpg, hak, Nat.le_trans hrn (Nat.le_add_right _ _), hkr, him, hlen2, hkm2, hkn2, hord2⟩
  · by_cases q : n = 0 ∨ ak = 30
    · rw [if_pos q]
      exact ⟨hn, hn2, hord, hlen, hkd, hkp, hkn, hkh, hkm, hpl, hpg, hak, Nat.le_trans hrn (Nat.le_add_right _ _), hkr, him, hlen2, hkm2, hkn2, hord2⟩
    · rw [if_neg q]
      exact ⟨hn, hn2, hord, hlen, hkd, hkp, hkn, hkh, hkm, hpl, hpg, by show ak + 1 ≤ 30; have : ¬ ak = 30 := fun z => q (Or.inr z); omega, Nat.le_trans hrn (Nat.le_add_right _ _), hkr, him, hlen2, hkm2, hkn2, hord2⟩
theorem gi_known {i rn n kp kn ak pl kr kn2 : Nat} {im ik : Bool} {kd len ord kh km pg len2 ord2 kh2 km2 : Nat → Nat} (g w : Int32) (h : GI i rn n kp kn ak pl im ik kr kn2 kd len ord kh km pg len2 ord2 kh2 km2) : GI (i + 4) rn n kp (sKn n kn g w) ak pl im ik kr kn2 kd len ord (sKh n kn kh g w) (sKm n kn km g w) pg len2 ord2 kh2 km2 := by
  obtain ⟨hn, hn2, hord, hlen, hkd, hkp, hkn, hkh, hkm, hpl, hpg, hak, hrn, hkr, him, hlen2, hkm2, hkn2, hord2⟩ := h
  unfold sKn sKh sKm
  cases e : accK n kn g w
  · exact ⟨hn, hn2, hord, hlen, hkd, hkp, hkn, hkh, hkm, hpl, hpg, hak, Nat.le_trans hrn (Nat.le_add_right _ _), hkr, him, hlen2, hkm2, hkn2, hord2⟩
  · unfold accK at e
    obtain ⟨e1, e2⟩ := (Bool.and_eq_true _ _).mp e
    obtain ⟨e3, e4⟩ := (Bool.and_eq_true _ _).mp e2
    have e5 := of_decide_eq_true e4
    obtain ⟨j1, hj1, rfl⟩ := isH_of (by omega) e1
    obtain ⟨j2, hj2, hj3, rfl⟩ := inK_of e3
    refine ⟨hn, hn2, hord, hlen, hkd, hkp, ?_, ?_, ?_, hpl, hpg, hak, Nat.le_trans hrn (Nat.le_add_right _ _), hkr, him, hlen2, hkm2, hkn2, hord2⟩
    · show kn + 1 ≤ 6
      omega
    · intro j hj
      have hj : j < kn + 1 := hj
      show va_up kh kn (nI j1).toNatClampNeg j < n
      rw [nI_clamp (by omega)]
      by_cases q : j = kn
      · rw [show va_up kh kn j1 j = j1 from if_pos q]; exact hj1
      · rw [va_up_ne _ _ q]; exact hkh j (by omega)
    · show ∀ j, va_up km kn (nI j2).toNatClampNeg j ≤ 150
      rw [nI_clamp (by omega)]
      exact gup_le hkm (by omega)
theorem gi_forget {i rn n kp kn ak pl kr kn2 : Nat} {im ik : Bool} {kd len ord kh km pg len2 ord2 kh2 km2 : Nat → Nat}  (h : GI i rn n kp kn ak pl im ik kr kn2 kd len ord kh km pg len2 ord2 kh2 km2) : GI (i + 4) rn n kp (0) ak pl im ik kr kn2 kd len ord kh km pg len2 ord2 kh2 km2 := by
  obtain ⟨hn, hn2, hord, hlen, hkd, hkp, hkn, hkh, hkm, hpl, hpg, hak, hrn, hkr, him, hlen2, hkm2, hkn2, hord2⟩ := h
  exact ⟨hn, hn2, hord, hlen, hkd, hkp, Nat.zero_le _, fun j hj => absurd hj (Nat.not_lt_zero _), hkm, hpl, hpg, hak, Nat.le_trans hrn (Nat.le_add_right _ _), hkr, him, hlen2, hkm2, hkn2, hord2⟩
theorem gi_image {i rn n kp kn ak pl kr kn2 : Nat} {im ik : Bool} {kd len ord kh km pg len2 ord2 kh2 km2 : Nat → Nat}  (h : GI i rn n kp kn ak pl im ik kr kn2 kd len ord kh km pg len2 ord2 kh2 km2) : GI (i + 4) rn n kp kn ak pl (bif decide (n = 0) then im else true) (bif decide (n = 0) then ik else true) (bif decide (n = 0) then kr else rn) (bif decide (n = 0) then kn2 else kn) kd len ord kh km pg (bif decide (n = 0) then len2 else mixF 6 len len2) (bif decide (n = 0) then ord2 else mixF 6 ord ord2) (bif decide (n = 0) then kh2 else mixF 6 kh kh2) (bif decide (n = 0) then km2 else mixF 6 km km2) := by
  obtain ⟨hn, hn2, hord, hlen, hkd, hkp, hkn, hkh, hkm, hpl, hpg, hak, hrn, hkr, him, hlen2, hkm2, hkn2, hord2⟩ := h
  cases e : decide (n = 0)
  · exact ⟨hn, hn2, hord, hlen, hkd, hkp, hkn, hkh, hkm, hpl, hpg, hak, Nat.le_trans hrn (Nat.le_add_right _ _), Nat.le_refl rn, by show true = rsB true rn rn; unfold rsB; rw [decide_eq_true rfl]; rfl, mix6_le hlen hlen2, mix6_le hkm hkm2, hkn, fun _ => ⟨perm_mix hn hord, fun j hj => by have hj : j < kn := hj; show mixF 6 kh kh2 j < n; rw [mixF_in (by omega)]; exact hkh j hj⟩⟩
  · exact ⟨hn, hn2, hord, hlen, hkd, hkp, hkn, hkh, hkm, hpl, hpg, hak, Nat.le_trans hrn (Nat.le_add_right _ _), hkr, him, hlen2, hkm2, hkn2, hord2⟩
theorem gi_restore {i rn n kp kn ak pl kr kn2 : Nat} {im ik : Bool} {kd len ord kh km pg len2 ord2 kh2 km2 : Nat → Nat}  (h : GI i rn n kp kn ak pl im ik kr kn2 kd len ord kh km pg len2 ord2 kh2 km2) : GI (i + 4) rn n kp (bif im then kn2 else kn) ak pl im ik kr kn2 kd (bif im then mixF 6 len2 len else len) (bif im then mixF 6 ord2 ord else ord) (bif im then mixF 6 kh2 kh else kh) (bif im then mixF 6 km2 km else km) pg len2 ord2 kh2 km2 := by
  obtain ⟨hn, hn2, hord, hlen, hkd, hkp, hkn, hkh, hkm, hpl, hpg, hak, hrn, hkr, him, hlen2, hkm2, hkn2, hord2⟩ := h
  cases im with
  | false => exact ⟨hn, hn2, hord, hlen, hkd, hkp, hkn, hkh, hkm, hpl, hpg, hak, Nat.le_trans hrn (Nat.le_add_right _ _), hkr, him, hlen2, hkm2, hkn2, hord2⟩
  | true =>
    obtain ⟨q1, q2⟩ := hord2 rfl
    exact ⟨hn, hn2, perm_mix hn q1, mix6_le hlen2 hlen, hkd, hkp, hkn2, fun j hj => by have hj : j < kn2 := hj; show mixF 6 kh2 kh j < n; rw [mixF_in (by omega)]; exact q2 j hj, mix6_le hkm2 hkm, hpl, hpg, hak, Nat.le_trans hrn (Nat.le_add_right _ _), hkr, him, hlen2, hkm2, hkn2, hord2⟩
theorem gi_zero : GI 0 0 0 0 0 0 0 false false 0 0 (fun _ => 0) (fun _ => 0) (fun _ => 0) (fun _ => 0) (fun _ => 0) (fun _ => 0) (fun _ => 0) (fun _ => 0) (fun _ => 0) (fun _ => 0) := by
  refine ⟨by decide, Or.inl rfl, ⟨fun k hk => absurd hk (Nat.not_lt_zero _), fun i j hi => absurd hi (Nat.not_lt_zero _)⟩, fun _ => Nat.zero_le _, fun _ => Nat.zero_le _, by decide, by decide, fun j hj => absurd hj (Nat.not_lt_zero _), fun _ => Nat.zero_le _, by decide, fun _ => Nat.zero_lt_succ _, by decide, by decide, by decide, rfl, fun _ => Nat.zero_le _, fun _ => Nat.zero_le _, by decide, fun q => by cases q⟩
