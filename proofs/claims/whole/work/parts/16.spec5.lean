/-! the page -/
def dgB (c : Nat) : Bool := decide (48 ≤ c ∧ c ≤ 57)
def dkB (c : Nat) : Bool := decide (49 ≤ c ∧ c ≤ 57)
def kdB (c : Nat) : Bool := decide (c = 104 ∨ c = 115 ∨ c = 97 ∨ c = 98 ∨ c = 119)
def mkB (hs c : Nat) : Bool := decide ((c = 44 ∧ hs < 6) ∨ (c = 59 ∧ 2 ≤ hs))
def ftB (k c : Nat) (cl : Bool) : Bool := if k % 3 = 0 then (bif cl then dkB c else kdB c) else if k % 3 = 1 then (dgB c && !cl) else mkB (k / 3 + 1) c
def ffR (pg : Nat → Nat) (cl : Bool) : Nat → Nat → Nat
  | 0, k => k
  | d + 1, k => bif ftB k (pg k) cl then ffR pg (cl || decide (pg k = 59)) d (k + 1) else k
def ffF (pg : Nat → Nat) (pl : Nat) : Nat := ffR pg false pl 0
def whlB (pg : Nat → Nat) (pl : Nat) : Bool := decide (2 ≤ pl ∧ pg (pl - 2) = 59 ∧ ffF pg pl = pl)
theorem ffR_ok {pg : Nat → Nat} {cl : Bool} {d k : Nat} (h : ftB k (pg k) cl = true) : ffR pg cl (d + 1) k = ffR pg (cl || decide (pg k = 59)) d (k + 1) := by show (bif ftB k (pg k) cl then _ else _) = _; rw [h]; rfl
theorem ffR_no {pg : Nat → Nat} {cl : Bool} {d k : Nat} (h : ftB k (pg k) cl = false) : ffR pg cl (d + 1) k = k := by show (bif ftB k (pg k) cl then _ else _) = _; rw [h]; rfl
theorem ffR_le {pg : Nat → Nat} : ∀ (d : Nat) (cl : Bool) (k : Nat), ffR pg cl d k ≤ k + d
  | 0, _, _ => Nat.le_refl _
  | d + 1, cl, k => by
    show (bif ftB k (pg k) cl then ffR pg (cl || decide (pg k = 59)) d (k + 1) else k) ≤ k + (d + 1)
    have h := ffR_le (pg := pg) d (cl || decide (pg k = 59)) (k + 1)
    cases ftB k (pg k) cl
    · show k ≤ _
      omega
    · show ffR pg (cl || decide (pg k = 59)) d (k + 1) ≤ _
      omega
theorem ft0 {m c : Nat} {cl : Bool} : ftB (3 * m) c cl = (bif cl then dkB c else kdB c) := by unfold ftB; rw [if_pos (by omega)]
theorem ft1 {m c : Nat} {cl : Bool} : ftB (3 * m + 1) c cl = (dgB c && !cl) := by unfold ftB; rw [if_neg (by omega), if_pos (by omega)]
theorem ft2 {m c : Nat} {cl : Bool} : ftB (3 * m + 2) c cl = mkB (m + 1) c := by unfold ftB; rw [if_neg (by omega), if_neg (by omega), show (3 * m + 2) / 3 = m by omega]
theorem kdB_59 {c : Nat} (h : kdB c = true) : decide (c = 59) = false := decide_eq_false (by have := of_decide_eq_true h; omega)
theorem dgB_59 {c : Nat} (h : dgB c = true) : decide (c = 59) = false := decide_eq_false (by have := of_decide_eq_true h; omega)
/-- what stands ahead of house m is as it must be -/
def PgI (pg : Nat → Nat) (pl m : Nat) : Prop := (∀ i, i < m → kdB (pg (3 * i)) = true ∧ dgB (pg (3 * i + 1)) = true ∧ pg (3 * i + 2) = 44) ∧ 3 * m ≤ pl ∧ ffF pg pl = ffR pg false (pl - 3 * m) (3 * m)
theorem PgI_0 (pg : Nat → Nat) (pl : Nat) : PgI pg pl 0 := ⟨fun i h => absurd h (Nat.not_lt_zero i), Nat.zero_le _, rfl⟩
theorem whl_lt {pg : Nat → Nat} {pl k : Nat} (h : ffF pg pl = k) (hk : k < pl) : whlB pg pl = false := decide_eq_false (fun q => by omega)
theorem Pg_a {pg : Nat → Nat} {pl m : Nat} (h : PgI pg pl m) (e : 3 * m = pl) : ffF pg pl = 3 * m ∧ whlB pg pl = false := by
  obtain ⟨h1, h2, h3⟩ := h
  refine ⟨by rw [h3, show pl - 3 * m = 0 by omega]; rfl, decide_eq_false (fun q => ?_)⟩
  obtain ⟨i, rfl⟩ : ∃ i, m = i + 1 := ⟨m - 1, by omega⟩
  have h4 := of_decide_eq_true (h1 i (by omega)).2.1
  have h5 := q.2.1
  rw [show pl - 2 = 3 * i + 1 by omega] at h5
  omega
theorem Pg_b {pg : Nat → Nat} {pl m : Nat} (h : PgI pg pl m) (e : 3 * m < pl) (k : kdB (pg (3 * m)) = false) : ffF pg pl = 3 * m ∧ whlB pg pl = false := by
  have h3 : ffF pg pl = 3 * m := by
    rw [h.2.2, show pl - 3 * m = (pl - 3 * m - 1) + 1 by omega, ffR_no (by rw [ft0]; exact k)]
  exact ⟨h3, whl_lt h3 e⟩
theorem Pg_1 {pg : Nat → Nat} {pl m : Nat} (h : PgI pg pl m) (e : 3 * m < pl) (k : kdB (pg (3 * m)) = true) : ffF pg pl = ffR pg false (pl - (3 * m + 1)) (3 * m + 1) := by
  rw [h.2.2, show pl - 3 * m = (pl - (3 * m + 1)) + 1 by omega, ffR_ok (by rw [ft0]; exact k), kdB_59 k]
  rfl
theorem Pg_c1 {pg : Nat → Nat} {pl m : Nat} (h : PgI pg pl m) (k : kdB (pg (3 * m)) = true) (e : 3 * m + 1 = pl) : ffF pg pl = 3 * m + 1 ∧ whlB pg pl = false := by
  refine ⟨by rw [Pg_1 h (by omega) k, show pl - (3 * m + 1) = 0 by omega]; rfl, decide_eq_false (fun q => ?_)⟩
  obtain ⟨i, rfl⟩ : ∃ i, m = i + 1 := ⟨m - 1, by omega⟩
  have h4 := (h.1 i (by omega)).2.2
  have h5 := q.2.1
  rw [show pl - 2 = 3 * i + 2 by omega] at h5
  omega
theorem Pg_c2 {pg : Nat → Nat} {pl m : Nat} (h : PgI pg pl m) (k : kdB (pg (3 * m)) = true) (e : 3 * m + 1 < pl) (g : dgB (pg (3 * m + 1)) = false) : ffF pg pl = 3 * m + 1 ∧ whlB pg pl = false := by
  have h3 : ffF pg pl = 3 * m + 1 := by
    rw [Pg_1 h (by omega) k, show pl - (3 * m + 1) = (pl - (3 * m + 1) - 1) + 1 by omega, ffR_no (by rw [ft1, g]; rfl)]
  exact ⟨h3, whl_lt h3 e⟩
theorem Pg_2 {pg : Nat → Nat} {pl m : Nat} (h : PgI pg pl m) (k : kdB (pg (3 * m)) = true) (e : 3 * m + 1 < pl) (g : dgB (pg (3 * m + 1)) = true) : ffF pg pl = ffR pg false (pl - (3 * m + 2)) (3 * m + 2) := by
  rw [Pg_1 h (by omega) k, show pl - (3 * m + 1) = (pl - (3 * m + 2)) + 1 by omega, ffR_ok (by rw [ft1, g]; rfl), dgB_59 g]
  rfl
theorem Pg_e1 {pg : Nat → Nat} {pl m : Nat} (h : PgI pg pl m) (k : kdB (pg (3 * m)) = true) (g : dgB (pg (3 * m + 1)) = true) (e : 3 * m + 2 = pl) : ffF pg pl = 3 * m + 2 ∧ whlB pg pl = false := by
  refine ⟨by rw [Pg_2 h k (by omega) g, show pl - (3 * m + 2) = 0 by omega]; rfl, decide_eq_false (fun q => ?_)⟩
  have h4 := of_decide_eq_true k
  have h5 := q.2.1
  rw [show pl - 2 = 3 * m by omega] at h5
  omega
theorem Pg_e2 {pg : Nat → Nat} {pl m : Nat} (h : PgI pg pl m) (k : kdB (pg (3 * m)) = true) (g : dgB (pg (3 * m + 1)) = true) (e : 3 * m + 2 < pl) (q : mkB (m + 1) (pg (3 * m + 2)) = false) : ffF pg pl = 3 * m + 2 ∧ whlB pg pl = false := by
  have h3 : ffF pg pl = 3 * m + 2 := by
    rw [Pg_2 h k (by omega) g, show pl - (3 * m + 2) = (pl - (3 * m + 2) - 1) + 1 by omega, ffR_no (by rw [ft2]; exact q)]
  exact ⟨h3, whl_lt h3 e⟩
theorem Pg_n {pg : Nat → Nat} {pl m : Nat} (h : PgI pg pl m) (k : kdB (pg (3 * m)) = true) (g : dgB (pg (3 * m + 1)) = true) (e : 3 * m + 2 < pl) (q : pg (3 * m + 2) = 44) (hm : m + 1 < 6) : PgI pg pl (m + 1) := by
  refine ⟨fun i hi => ?_, by omega, ?_⟩
  · by_cases z : i = m
    · subst z; exact ⟨k, g, q⟩
    · exact h.1 i (by omega)
  · rw [Pg_2 h k (by omega) g, show pl - (3 * m + 2) = (pl - 3 * (m + 1)) + 1 by omega, ffR_ok (by rw [ft2]; exact decide_eq_true (Or.inl ⟨q, hm⟩)), decide_eq_false (by omega)]
    rfl
theorem Pg_3 {pg : Nat → Nat} {pl m : Nat} (h : PgI pg pl m) (k : kdB (pg (3 * m)) = true) (g : dgB (pg (3 * m + 1)) = true) (e : 3 * m + 2 < pl) (q : pg (3 * m + 2) = 59) (hm : 2 ≤ m + 1) : ffF pg pl = ffR pg true (pl - (3 * (m + 1))) (3 * (m + 1)) := by
  rw [Pg_2 h k (by omega) g, show pl - (3 * m + 2) = (pl - 3 * (m + 1)) + 1 by omega, ffR_ok (by rw [ft2]; exact decide_eq_true (Or.inr ⟨q, hm⟩)), decide_eq_true q]
  rfl
theorem Pg_d1 {pg : Nat → Nat} {pl m : Nat} (h : PgI pg pl m) (k : kdB (pg (3 * m)) = true) (g : dgB (pg (3 * m + 1)) = true) (q : pg (3 * m + 2) = 59) (hm : 2 ≤ m + 1) (e : 3 * m + 3 = pl) : ffF pg pl = 3 * m + 3 ∧ whlB pg pl = false := by
  refine ⟨by rw [Pg_3 h k g (by omega) q hm, show pl - 3 * (m + 1) = 0 by omega]; show 3 * (m + 1) = _; omega, decide_eq_false (fun z => ?_)⟩
  have h4 := of_decide_eq_true g
  have h5 := z.2.1
  rw [show pl - 2 = 3 * m + 1 by omega] at h5
  omega
theorem Pg_d2 {pg : Nat → Nat} {pl m : Nat} (h : PgI pg pl m) (k : kdB (pg (3 * m)) = true) (g : dgB (pg (3 * m + 1)) = true) (q : pg (3 * m + 2) = 59) (hm : 2 ≤ m + 1) (e : 3 * m + 3 < pl) (z : dkB (pg (3 * m + 3)) = false) : ffF pg pl = 3 * m + 3 ∧ whlB pg pl = false := by
  have h3 : ffF pg pl = 3 * m + 3 := by
    rw [Pg_3 h k g (by omega) q hm, show pl - 3 * (m + 1) = (pl - 3 * (m + 1) - 1) + 1 by omega, ffR_no (by rw [ft0]; exact z)]
    omega
  exact ⟨h3, whl_lt h3 e⟩
theorem dkB_59 {c : Nat} (h : dkB c = true) : decide (c = 59) = false := decide_eq_false (by have := of_decide_eq_true h; omega)
theorem Pg_4 {pg : Nat → Nat} {pl m : Nat} (h : PgI pg pl m) (k : kdB (pg (3 * m)) = true) (g : dgB (pg (3 * m + 1)) = true) (q : pg (3 * m + 2) = 59) (hm : 2 ≤ m + 1) (e : 3 * m + 3 < pl) (z : dkB (pg (3 * m + 3)) = true) : ffF pg pl = ffR pg true (pl - (3 * m + 4)) (3 * m + 4) := by
  rw [Pg_3 h k g (by omega) q hm, show pl - 3 * (m + 1) = (pl - (3 * m + 4)) + 1 by omega, ffR_ok (by rw [ft0]; exact z)]
  rfl
theorem Pg_d3 {pg : Nat → Nat} {pl m : Nat} (h : PgI pg pl m) (k : kdB (pg (3 * m)) = true) (g : dgB (pg (3 * m + 1)) = true) (q : pg (3 * m + 2) = 59) (hm : 2 ≤ m + 1) (z : dkB (pg (3 * m + 3)) = true) (e : 3 * m + 4 = pl) : ffF pg pl = 3 * m + 4 ∧ whlB pg pl = true := by
  have h3 : ffF pg pl = 3 * m + 4 := by
    rw [Pg_4 h k g q hm (by omega) z, show pl - (3 * m + 4) = 0 by omega]; rfl
  refine ⟨h3, decide_eq_true ⟨by omega, ?_, by omega⟩⟩
  rw [show pl - 2 = 3 * m + 2 by omega]
  exact q
theorem Pg_d4 {pg : Nat → Nat} {pl m : Nat} (h : PgI pg pl m) (k : kdB (pg (3 * m)) = true) (g : dgB (pg (3 * m + 1)) = true) (q : pg (3 * m + 2) = 59) (hm : 2 ≤ m + 1) (z : dkB (pg (3 * m + 3)) = true) (e : 3 * m + 4 < pl) : ffF pg pl = 3 * m + 4 ∧ whlB pg pl = false := by
  have h3 : ffF pg pl = 3 * m + 4 := by
    rw [Pg_4 h k g q hm (by omega) z, show pl - (3 * m + 4) = (pl - (3 * m + 4) - 1) + 1 by omega, ffR_no (by rw [show 3 * m + 4 = 3 * (m + 1) + 1 by omega, ft1, Bool.not_true, Bool.and_false])]
  exact ⟨h3, whl_lt h3 e⟩
/-- a page that is a round: how many houses, and what its signs are -/
def PgW (pg : Nat → Nat) (pl m : Nat) : Prop := pl = 3 * m + 1 ∧ 2 ≤ m ∧ m ≤ 6 ∧ (∀ h, h < m → kdB (pg (3 * h)) = true ∧ dgB (pg (3 * h + 1)) = true) ∧ dkB (pg (3 * m)) = true
theorem PgW_step {pg : Nat → Nat} {pl m : Nat} (hw : whlB pg pl = true) (hm : m ≤ 5) (h : PgI pg pl m) : (∃ M, PgW pg pl M) ∨ (m + 1 < 6 ∧ PgI pg pl (m + 1)) := by
  rcases Nat.lt_or_ge (3 * m) pl with q | q
  · rcases hk : kdB (pg (3 * m)) with _ | _
    · exact absurd hw (by rw [(Pg_b h q hk).2]; decide)
    · rcases Nat.lt_or_ge (3 * m + 1) pl with q1 | q1
      · rcases hg : dgB (pg (3 * m + 1)) with _ | _
        · exact absurd hw (by rw [(Pg_c2 h hk q1 hg).2]; decide)
        · rcases Nat.lt_or_ge (3 * m + 2) pl with q2 | q2
          · rcases hq : mkB (m + 1) (pg (3 * m + 2)) with _ | _
            · exact absurd hw (by rw [(Pg_e2 h hk hg q2 hq).2]; decide)
            · rcases of_decide_eq_true hq with hq2 | hq2
              · exact Or.inr ⟨hq2.2, Pg_n h hk hg q2 hq2.1 hq2.2⟩
              · rcases Nat.lt_or_ge (3 * m + 3) pl with q3 | q3
                · rcases hz : dkB (pg (3 * m + 3)) with _ | _
                  · exact absurd hw (by rw [(Pg_d2 h hk hg hq2.1 hq2.2 q3 hz).2]; decide)
                  · rcases Nat.lt_or_ge (3 * m + 4) pl with q4 | q4
                    · exact absurd hw (by rw [(Pg_d4 h hk hg hq2.1 hq2.2 hz q4).2]; decide)
                    · refine Or.inl ⟨m + 1, by omega, hq2.2, by omega, fun i hi => ?_, hz⟩
                      by_cases z : i = m
                      · subst z; exact ⟨hk, hg⟩
                      · exact ⟨(h.1 i (by omega)).1, (h.1 i (by omega)).2.1⟩
                · exact absurd hw (by rw [(Pg_d1 h hk hg hq2.1 hq2.2 (by omega)).2]; decide)
          · exact absurd hw (by rw [(Pg_e1 h hk hg (by omega)).2]; decide)
      · exact absurd hw (by rw [(Pg_c1 h hk (by omega)).2]; decide)
  · exact absurd hw (by rw [(Pg_a h (by have := h.2.1; omega)).2]; decide)
theorem PgW_of {pg : Nat → Nat} {pl : Nat} (hw : whlB pg pl = true) : ∀ d m, m + d = 5 → PgI pg pl m → ∃ M, PgW pg pl M := by
  intro d
  induction d with
  | zero =>
    intro m hm h
    rcases PgW_step hw (by omega) h with q | q
    · exact q
    · omega
  | succ d ih =>
    intro m hm h
    rcases PgW_step hw (by omega) h with q | q
    · exact q
    · exact ih (m + 1) (by omega) q.2
theorem PgW_whl {pg : Nat → Nat} {pl : Nat} (hw : whlB pg pl = true) : PgW pg pl (pl / 3) := by
  obtain ⟨M, hM⟩ := PgW_of hw 5 0 rfl (PgI_0 pg pl)
  have e : pl / 3 = M := by have := hM.1; omega
  rw [e]; exact hM
/-! kinds by their letters, figures -/
def kdN (c : Nat) : Nat := if c = 97 then 2 else if c = 98 then 3 else if c = 115 then 1 else if c = 119 then 4 else 0
def kbF (c : Nat) : Int32 := bif kdB c then nI (kdN c) else -1
theorem kdN_le (c : Nat) : kdN c ≤ 4 := by unfold kdN; split <;> (try split) <;> (try split) <;> (try split) <;> omega
theorem kbF_no {c : Nat} (h : kbF c = -1) : kdB c = false := by
  rcases q : kdB c with _ | _
  · rfl
  · exfalso
    unfold kbF at h
    rw [q] at h
    have h2 : nI (kdN c) = -1 := h
    have h3 := mr_gez (kdN c) (by have := kdN_le c; omega)
    rw [h2] at h3
    exact absurd (h3.mpr (Nat.zero_le _)) (by decide)
theorem kbF_yes {c : Nat} (h : ¬ kbF c = -1) : kdB c = true := by
  rcases q : kdB c with _ | _
  · exact absurd (by unfold kbF; rw [q]; rfl) h
  · rfl
def fgI (pg : Nat → Nat) (pl k : Nat) : Int32 := if k < pl then nI (pg k) - nI 48 else -1
theorem fg_in {pg : Nat → Nat} {pl k lo : Nat} (hp : pg k < 128) (hlo : lo < 10) : decide (nI lo ≤ fgI pg pl k ∧ fgI pg pl k ≤ nI 9) = (decide (k < pl) && decide (48 + lo ≤ pg k ∧ pg k ≤ 57)) := by
  unfold fgI
  by_cases q : k < pl
  · rw [if_pos q, decide_eq_true q, Bool.true_and]
    have e : (nI lo ≤ nI (pg k) - nI 48 ∧ nI (pg k) - nI 48 ≤ nI 9) ↔ (48 + lo ≤ pg k ∧ pg k ≤ 57) := by
      rw [Int32.le_iff_toInt_le, Int32.le_iff_toInt_le, sub_toInt (by omega) (by decide), nI_toInt (by omega), nI_toInt (by decide)]
      omega
    simp only [e]
  · rw [if_neg q, decide_eq_false q, Bool.false_and]
    refine decide_eq_false (fun z => ?_)
    have h1 := z.1
    rw [Int32.le_iff_toInt_le, nI_toInt (by omega)] at h1
    have h2 : (-1 : Int32).toInt = -1 := by decide
    omega
theorem fg09 {pg : Nat → Nat} {pl k : Nat} (hp : pg k < 128) : decide (nI 0 ≤ fgI pg pl k ∧ fgI pg pl k ≤ nI 9) = (decide (k < pl) && dgB (pg k)) := fg_in (lo := 0) hp (by decide)
theorem fg19 {pg : Nat → Nat} {pl k : Nat} (hp : pg k < 128) : decide (nI 1 ≤ fgI pg pl k ∧ fgI pg pl k ≤ nI 9) = (decide (k < pl) && dkB (pg k)) := fg_in (lo := 1) hp (by decide)
