/-! what is known, sets, whom to ask, weeks, counts, the number of all -/
def inK (m : Int32) : Bool := decide (nI 1 ≤ m ∧ m ≤ nI 150)
theorem inK_of {m : Int32} (e : inK m = true) : ∃ k : Nat, 1 ≤ k ∧ k ≤ 150 ∧ m = nI k := by
  unfold inK at e
  have e := of_decide_eq_true e
  obtain ⟨j, hj, rfl⟩ := nI_of (x := m) (fun q => by
    have h0 : nI 1 ≤ m := e.1
    have h1 : (nI 1 : Int32) < 0 := Int32.lt_of_le_of_lt h0 q
    exact absurd h1 (by decide))
  exact ⟨j, (nI_leI (by decide) hj).mp e.1, (nI_leI hj (by decide)).mp e.2, rfl⟩
def rKnown (n kn : Nat) (h m : Int32) : Int32 := bif isH h n then (bif inK m then (if kn = 6 then -104 else nI (kn + 1)) else -102) else -101
def accK (n kn : Nat) (h m : Int32) : Bool := isH h n && (inK m && decide (¬ kn = 6))
def sKn (n kn : Nat) (h m : Int32) : Nat := bif accK n kn h m then kn + 1 else kn
def sKh (n kn : Nat) (kh : Nat → Nat) (h m : Int32) : Nat → Nat := bif accK n kn h m then va_up kh kn h.toNatClampNeg else kh
def sKm (n kn : Nat) (km : Nat → Nat) (h m : Int32) : Nat → Nat := bif accK n kn h m then va_up km kn m.toNatClampNeg else km
def allB (p : Nat → Bool) : Nat → Bool
  | 0 => true
  | k + 1 => allB p k && p k
def knP (n : Nat) (kd len ord kh km : Nat → Nat) (sx : Int32) (i : Nat) : Bool := decide (camF kd len sx ord n (kh i) = km i)
def knB (n : Nat) (kd len ord : Nat → Nat) (kn : Nat) (kh km : Nat → Nat) (sx : Int32) : Bool := allB (knP n kd len ord kh km sx) kn
def lsF (p : Nat → Bool) : Nat → Nat → Int32
  | _, 0 => -1
  | k, d + 1 => bif p k then nI k else lsF p (k + 1) d
def ctF (p : Nat → Bool) : Nat → Nat → Nat
  | _, 0 => 0
  | k, d + 1 => ctF p (k + 1) d + (bif p k then 1 else 0)
theorem ctF_B (p : Nat → Bool) : ∀ d k, ctB p k + ctF p k d = ctB p (k + d)
  | 0, _ => rfl
  | d + 1, k => by
    have h := ctF_B p d (k + 1)
    rw [show k + (d + 1) = k + 1 + d by omega, ← h]
    show ctB p k + (ctF p (k + 1) d + (bif p k then 1 else 0)) = (ctB p k + (bif p k then 1 else 0)) + ctF p (k + 1) d
    omega
theorem ctF_0 (p : Nat → Bool) (d : Nat) : ctF p 0 d = ctB p d := by
  have h := ctF_B p d 0
  rw [Nat.zero_add] at h
  rw [← h]
  show _ = 0 + _
  omega
theorem ctF_le (p : Nat → Bool) : ∀ d k, ctF p k d ≤ d
  | 0, _ => Nat.le_refl _
  | d + 1, k => by
    have h := ctF_le p d (k + 1)
    show ctF p (k + 1) d + (bif p k then 1 else 0) ≤ d + 1
    cases p k
    · show _ + 0 ≤ _
      omega
    · show _ + 1 ≤ _
      omega
theorem ctF_t {p : Nat → Bool} {k d : Nat} (h : p k = true) : ctF p k (d + 1) = ctF p (k + 1) d + 1 := by show _ + (bif p k then 1 else 0) = _; rw [h]; rfl
theorem ctF_f {p : Nat → Bool} {k d : Nat} (h : p k = false) : ctF p k (d + 1) = ctF p (k + 1) d := by show _ + (bif p k then 1 else 0) = _; rw [h]; rfl
theorem lsF_t {p : Nat → Bool} {k d : Nat} (h : p k = true) : lsF p k (d + 1) = nI k := by show (bif p k then nI k else _) = _; rw [h]; rfl
theorem lsF_f {p : Nat → Bool} {k d : Nat} (h : p k = false) : lsF p k (d + 1) = lsF p (k + 1) d := by show (bif p k then nI k else _) = _; rw [h]; rfl
theorem shl1 : ∀ n, n ≤ 6 → nI 1 <<< (nI n &&& 31) = nI (2 ^ n) := by decide +kernel
theorem pow_le6 : ∀ n, n ≤ 6 → 2 ^ n ≤ 64 := by decide +kernel
theorem pow_pos6 (n : Nat) : 0 < 2 ^ n := Nat.pow_pos (by decide)
/-- the sets that can have been -/
def okS (n : Nat) (kd len ord : Nat → Nat) (kn : Nat) (kh km : Nat → Nat) (st : Nat) : Bool := knB n kd len ord kn kh km (nI st)
def stsF (n : Nat) (kd len ord : Nat → Nat) (kn : Nat) (kh km : Nat → Nat) (w : Nat) : Int32 := if w = 0 then nI (ctB (okS n kd len ord kn kh km) (2 ^ n)) else lsF (okS n kd len ord kn kh km) 0 (2 ^ n)
def rSets (n : Nat) (kd len ord : Nat → Nat) (kn : Nat) (kh km : Nat → Nat) (w : Int32) : Int32 := bif inR w 1 then (if n = 0 then -103 else stsF n kd len ord kn kh km w.toNatClampNeg) else -102
/-- how many are left by an answer, and at worst -/
def wsL (p : Nat → Bool) (c : Nat → Nat) : Nat → (Nat → Nat)
  | 0 => fun _ => 0
  | k + 1 => bif p k then va_up (wsL p c k) (c k) (wsL p c k (c k) + 1) else wsL p c k
def wsW (p : Nat → Bool) (c : Nat → Nat) : Nat → Nat
  | 0 => 0
  | k + 1 => bif p k then (if wsW p c k < wsL p c k (c k) + 1 then wsL p c k (c k) + 1 else wsW p c k) else wsW p c k
theorem wsL_le (p : Nat → Bool) (c : Nat → Nat) : ∀ k m, wsL p c k m ≤ k
  | 0, _ => Nat.le_refl _
  | k + 1, m => by
    have h := wsL_le p c k m
    have h2 := wsL_le p c k (c k)
    show (bif p k then va_up (wsL p c k) (c k) (wsL p c k (c k) + 1) else wsL p c k) m ≤ k + 1
    cases p k
    · show wsL p c k m ≤ k + 1
      omega
    · show va_up (wsL p c k) (c k) (wsL p c k (c k) + 1) m ≤ k + 1
      unfold va_up
      split <;> omega
theorem wsW_le (p : Nat → Bool) (c : Nat → Nat) : ∀ k, wsW p c k ≤ k
  | 0 => Nat.le_refl _
  | k + 1 => by
    have h := wsW_le p c k
    have h2 := wsL_le p c k (c k)
    show (bif p k then (if wsW p c k < wsL p c k (c k) + 1 then wsL p c k (c k) + 1 else wsW p c k) else wsW p c k) ≤ k + 1
    cases p k
    · show wsW p c k ≤ k + 1
      omega
    · show (if wsW p c k < wsL p c k (c k) + 1 then wsL p c k (c k) + 1 else wsW p c k) ≤ k + 1
      split <;> omega
theorem wsL_t {p : Nat → Bool} {c : Nat → Nat} {k : Nat} (h : p k = true) : wsL p c (k + 1) = va_up (wsL p c k) (c k) (wsL p c k (c k) + 1) := by show (bif p k then _ else _) = _; rw [h]; rfl
theorem wsL_f {p : Nat → Bool} {c : Nat → Nat} {k : Nat} (h : p k = false) : wsL p c (k + 1) = wsL p c k := by show (bif p k then _ else _) = _; rw [h]; rfl
theorem wsW_t {p : Nat → Bool} {c : Nat → Nat} {k : Nat} (h : p k = true) : wsW p c (k + 1) = if wsW p c k < wsL p c k (c k) + 1 then wsL p c k (c k) + 1 else wsW p c k := by show (bif p k then _ else _) = _; rw [h]; rfl
theorem wsW_f {p : Nat → Bool} {c : Nat → Nat} {k : Nat} (h : p k = false) : wsW p c (k + 1) = wsW p c k := by show (bif p k then _ else _) = _; rw [h]; rfl
/-- the worst of a house -/
def wstF (n : Nat) (kd len ord : Nat → Nat) (kn : Nat) (kh km : Nat → Nat) (h : Nat) : Nat := wsW (okS n kd len ord kn kh km) (fun st => camF kd len (nI st) ord n h) (2 ^ n)
theorem wstF_le {n : Nat} {kd len ord : Nat → Nat} {kn : Nat} {kh km : Nat → Nat} {h : Nat} (hn : n ≤ 6) : wstF n kd len ord kn kh km h ≤ 64 := Nat.le_trans (wsW_le _ _ _) (pow_le6 n hn)
def amF (w : Nat → Nat) : Nat → Nat
  | 0 => 0
  | k + 1 => if w (k + 1) < w (amF w k) then k + 1 else amF w k
theorem amF_le (w : Nat → Nat) : ∀ k, amF w k ≤ k
  | 0 => Nat.le_refl _
  | k + 1 => by
    have h := amF_le w k
    show (if w (k + 1) < w (amF w k) then k + 1 else amF w k) ≤ k + 1
    split <;> omega
def askF (n : Nat) (kd len ord : Nat → Nat) (kn : Nat) (kh km : Nat → Nat) : Int32 := if ctB (okS n kd len ord kn kh km) (2 ^ n) = 0 then -1 else nI (amF (wstF n kd len ord kn kh km) (n - 1))
/-- the loop that looks for the least worst, at its head -/
def AskI (c : Nat) (w : Nat → Nat) (k : Nat) (x : Int32) (t : Nat) : Prop := (c = 0 → x = -1 ∧ t = 0) ∧ (c ≠ 0 → (k = 0 → x = -1 ∧ t = 268435456) ∧ (0 < k → x = nI (amF w (k - 1)) ∧ t = w (amF w (k - 1))))
theorem AskI_lt {c : Nat} {w : Nat → Nat} {k : Nat} {x : Int32} {t : Nat} (hw : ∀ h, w h ≤ 64) (h : AskI c w k x t) : t < 2 ^ 31 := by
  by_cases q : c = 0
  · rw [(h.1 q).2]; decide
  · rcases Nat.eq_zero_or_pos k with z | z
    · rw [((h.2 q).1 z).2]; decide
    · rw [((h.2 q).2 z).2]
      have := hw (amF w (k - 1))
      omega
theorem AskI_yes {c : Nat} {w : Nat → Nat} {k : Nat} {x : Int32} {t : Nat} (h : AskI c w k x t) (q : w k < t) : AskI c w (k + 1) (nI k) (w k) := by
  refine ⟨fun e => absurd q (by rw [(h.1 e).2]; exact Nat.not_lt_zero _), fun e => ⟨fun z => by omega, fun _ => ?_⟩⟩
  rw [Nat.add_sub_cancel]
  rcases Nat.eq_zero_or_pos k with z | z
  · subst z
    exact ⟨rfl, rfl⟩
  · obtain ⟨j, rfl⟩ : ∃ j, k = j + 1 := ⟨k - 1, by omega⟩
    have h2 := (h.2 e).2 z
    rw [Nat.add_sub_cancel] at h2
    have : amF w (j + 1) = j + 1 := by
      show (if w (j + 1) < w (amF w j) then j + 1 else amF w j) = j + 1
      rw [if_pos (by omega)]
    rw [this]
    exact ⟨rfl, rfl⟩
theorem AskI_no {c : Nat} {w : Nat → Nat} {k : Nat} {x : Int32} {t : Nat} (hw : ∀ h, w h ≤ 64) (h : AskI c w k x t) (q : ¬ w k < t) : AskI c w (k + 1) x t := by
  refine ⟨h.1, fun e => ⟨fun z => by omega, fun _ => ?_⟩⟩
  rw [Nat.add_sub_cancel]
  rcases Nat.eq_zero_or_pos k with z | z
  · have h2 := (h.2 e).1 z
    have := hw k
    omega
  · obtain ⟨j, rfl⟩ : ∃ j, k = j + 1 := ⟨k - 1, by omega⟩
    have h2 := (h.2 e).2 z
    rw [Nat.add_sub_cancel] at h2
    have : amF w (j + 1) = amF w j := by
      show (if w (j + 1) < w (amF w j) then j + 1 else amF w j) = amF w j
      rw [if_neg (by omega)]
    rw [this]
    exact h2
theorem AskI_end {n : Nat} {kd len ord : Nat → Nat} {kn : Nat} {kh km : Nat → Nat} {x : Int32} {t : Nat} (hn : 0 < n) (h : AskI (ctB (okS n kd len ord kn kh km) (2 ^ n)) (wstF n kd len ord kn kh km) n x t) : x = askF n kd len ord kn kh km := by
  unfold askF
  by_cases q : ctB (okS n kd len ord kn kh km) (2 ^ n) = 0
  · rw [if_pos q]; exact (h.1 q).1
  · rw [if_neg q]; exact ((h.2 q).2 hn).1
/-! weeks -/
def drF (x : Nat) : Nat := (1103515245 * x + 12345) % 2147483648
def dgF (s : Nat) : Nat := s / 65536 % 10
def itD : Nat → Nat → Nat
  | 0, x => x
  | k + 1, x => drF (itD k x)
def rowD (x : Nat) : Nat → Nat := fun h => dgF (itD (h + 1) x)
theorem drF_lt (x : Nat) : drF x < 2147483648 := Nat.mod_lt _ (by decide)
theorem dgF_le (s : Nat) : dgF s ≤ 9 := by
  have h : s / 65536 % 10 < 10 := Nat.mod_lt _ (by decide)
  show s / 65536 % 10 ≤ 9
  omega
theorem itD_lt {x : Nat} (hx : x < 2147483648) : ∀ k, itD k x < 2147483648
  | 0 => hx
  | k + 1 => drF_lt _
def sdF (n x : Nat) : Nat → Nat
  | 0 => x
  | k + 1 => itD n (sdF n x k)
theorem sdF_lt {n x : Nat} (hx : x < 2147483648) : ∀ k, sdF n x k < 2147483648
  | 0 => hx
  | k + 1 => itD_lt (sdF_lt hx k) n
def ssF (n kp : Nat) (kd : Nat → Nat) (lo : Int32) (ord : Nat → Nat) (x : Nat) : Nat → Nat
  | 0 => 0
  | k + 1 => ssF n kp kd lo ord x k + scF n kp kd (rowD (sdF n x k)) lo ord
def hsF (n : Nat) (kd : Nat → Nat) (lo : Int32) (ord : Nat → Nat) (x : Nat) : Nat → Nat
  | 0 => 0
  | k + 1 => hsF n kd lo ord x k + hcF n kd (rowD (sdF n x k)) lo ord
def wkF (n kp : Nat) (kd : Nat → Nat) (lo : Int32) (ord : Nat → Nat) (d x w : Nat) : Int32 := if w = 0 then nI (ssF n kp kd lo ord x d) else if w = 1 then nI (hsF n kd lo ord x d) else nI (sdF n x d)
def inD (d : Int32) : Bool := decide (nI 1 ≤ d ∧ d ≤ nI 60)
theorem inD_of {m : Int32} (e : inD m = true) : ∃ k : Nat, 1 ≤ k ∧ k ≤ 60 ∧ m = nI k := by
  unfold inD at e
  have e := of_decide_eq_true e
  obtain ⟨j, hj, rfl⟩ := nI_of (x := m) (fun q => by
    have h0 : nI 1 ≤ m := e.1
    have h1 : (nI 1 : Int32) < 0 := Int32.lt_of_le_of_lt h0 q
    exact absurd h1 (by decide))
  exact ⟨j, (nI_leI (by decide) hj).mp e.1, (nI_leI hj (by decide)).mp e.2, rfl⟩
def rWeeks (n kp : Nat) (kd : Nat → Nat) (lo : Int32) (ord : Nat → Nat) (d x w : Int32) : Int32 := bif (inD d && (decide (¬ x < 0) && inR w 2)) then (if n = 0 then -103 else wkF n kp kd lo ord d.toNatClampNeg x.toNatClampNeg w.toNatClampNeg) else -102
/-! only what is among the houses counts -/
theorem rdm_cong {kd len len' : Nat → Nat} {lo : Int32} {h : Nat} (e : len h = len' h) : rdm kd len lo h = rdm kd len' lo h := by unfold rdm; rw [e]
theorem tmF_cong {kd len len' : Nat → Nat} {lo : Int32} {ord : Nat → Nat} : ∀ {k : Nat}, (∀ i, i < k → len (ord i) = len' (ord i)) → tmF kd len lo ord k = tmF kd len' lo ord k
  | 0, _ => rfl
  | k + 1, h => by
    show tmF kd len lo ord k + (1 + rdm kd len lo (ord k)) = tmF kd len' lo ord k + (1 + rdm kd len' lo (ord k))
    rw [tmF_cong (fun i hi => h i (by omega)), rdm_cong (h k (by omega))]
theorem camF_cong {n : Nat} {kd len len' : Nat → Nat} {lo : Int32} {ord : Nat → Nat} (hp : PermOn n ord) (e : ∀ j, j < n → len j = len' j) : ∀ h, h < n → camF kd len lo ord n h = camF kd len' lo ord n h := by
  intro h hh
  obtain ⟨k, hk, rfl⟩ := hp.onto hh
  unfold camF
  rw [gof_at hp n (Nat.le_refl n) k hk, gof_at hp n (Nat.le_refl n) k hk, tmF_cong (fun i hi => e _ (hp.1 i (by omega)))]
theorem scF_cong {n kp : Nat} {kd len len' : Nat → Nat} {lo : Int32} {ord : Nat → Nat} (hp : PermOn n ord) (e : ∀ j, j < n → len j = len' j) : scF n kp kd len lo ord = scF n kp kd len' lo ord := ctB_cong (fun k hk => sourB_cong (camF_cong hp e k hk))
theorem hcF_cong {n : Nat} {kd len len' : Nat → Nat} {lo : Int32} {ord : Nat → Nat} (hp : PermOn n ord) (e : ∀ j, j < n → len j = len' j) : hcF n kd len lo ord = hcF n kd len' lo ord := ctB_cong (fun k hk => hearB_cong hk (camF_cong hp e))
/-! a sum by another order -/
def smF (f : Nat → Nat) : Nat → Nat
  | 0 => 0
  | k + 1 => smF f k + f k
theorem smF_add (f g : Nat → Nat) : ∀ n, smF (fun k => f k + g k) n = smF f n + smF g n
  | 0 => rfl
  | n + 1 => by
    have h := smF_add f g n
    show smF (fun k => f k + g k) n + (f n + g n) = (smF f n + f n) + (smF g n + g n)
    omega
theorem smF_cong {f g : Nat → Nat} : ∀ {n : Nat}, (∀ k, k < n → f k = g k) → smF f n = smF g n
  | 0, _ => rfl
  | n + 1, h => by
    show smF f n + f n = smF g n + g n
    rw [smF_cong (fun k hk => h k (by omega)), h n (by omega)]
theorem smF_zero {f : Nat → Nat} : ∀ {n : Nat}, (∀ k, k < n → f k = 0) → smF f n = 0
  | 0, _ => rfl
  | n + 1, h => by
    show smF f n + f n = 0
    rw [smF_zero (fun k hk => h k (by omega)), h n (by omega)]
theorem smF_one {f : Nat → Nat} {i : Nat} : ∀ {n : Nat}, i < n → (∀ k, k < n → k ≠ i → f k = 0) → smF f n = f i
  | 0, h, _ => absurd h (Nat.not_lt_zero _)
  | n + 1, h, hz => by
    show smF f n + f n = f i
    by_cases q : i = n
    · subst q
      rw [smF_zero (fun k hk => hz k (by omega) (by omega)), Nat.zero_add]
    · rw [smF_one (by omega) (fun k hk hki => hz k (by omega) hki), hz n (by omega) (fun z => q z.symm), Nat.add_zero]
theorem smF_swap (f : Nat → Nat → Nat) (m : Nat) : ∀ n, smF (fun i => smF (fun j => f i j) m) n = smF (fun j => smF (fun i => f i j) n) m
  | 0 => (smF_zero (fun _ _ => rfl)).symm
  | n + 1 => by
    show smF (fun i => smF (fun j => f i j) m) n + smF (fun j => f n j) m = _
    rw [smF_swap f m n, ← smF_add]
    exact smF_cong (fun _ _ => rfl)
theorem smF_perm {n : Nat} {ord : Nat → Nat} (hp : PermOn n ord) (f : Nat → Nat) : smF (fun k => f (ord k)) n = smF f n := by
  have h1 : smF (fun k => f (ord k)) n = smF (fun k => smF (fun h => if ord k = h then f h else 0) n) n := smF_cong (fun k hk => by
    rw [smF_one (i := ord k) (hp.1 k hk) (fun j _ hj => if_neg (fun q => hj q.symm)), if_pos rfl])
  have h2 : smF f n = smF (fun h => smF (fun k => if ord k = h then f h else 0) n) n := smF_cong (fun h hh => by
    obtain ⟨k, hk, e⟩ := hp.onto hh
    rw [smF_one (i := k) hk (fun j hj hjk => if_neg (fun q => hjk (hp.2 j k hj hk (by rw [q, e])))), if_pos e])
  rw [h1, h2, smF_swap]
theorem tmF_sum (kd len : Nat → Nat) (lo : Int32) (ord : Nat → Nat) : ∀ k, tmF kd len lo ord k = smF (fun i => 1 + rdm kd len lo (ord i)) k
  | 0 => rfl
  | k + 1 => by
    show tmF kd len lo ord k + (1 + rdm kd len lo (ord k)) = smF (fun i => 1 + rdm kd len lo (ord i)) k + (1 + rdm kd len lo (ord k))
    rw [tmF_sum kd len lo ord k]
theorem tmF_way {n : Nat} {kd len : Nat → Nat} {lo : Int32} {ord : Nat → Nat} (hp : PermOn n ord) : tmF kd len lo ord n = smF (fun h => 1 + rdm kd len lo h) n := by
  rw [tmF_sum]
  exact smF_perm hp (fun h => 1 + rdm kd len lo h)
/-! counts, the number of all -/
def cvF (n kp : Nat) (kd len : Nat → Nat) (lo : Int32) (ord : Nat → Nat) (dy so he : Int32) (kn pl rn ak w : Nat) : Int32 :=
  if w = 0 then nI n else if w = 1 then nI kp else if w = 2 then dy else if w = 3 then so else if w = 4 then he else if w = 5 then nI (scF n kp kd len lo ord) else if w = 6 then nI (hcF n kd len lo ord)
  else if w = 7 then nI (tmF kd len lo ord n) else if w = 8 then nI kn else if w = 9 then nI pl else if w = 10 then nI rn else nI ak
def rCount (n kp : Nat) (kd len : Nat → Nat) (lo : Int32) (ord : Nat → Nat) (dy so he : Int32) (kn pl rn ak : Nat) (w : Int32) : Int32 := bif inR w 11 then cvF n kp kd len lo ord dy so he kn pl rn ak w.toNatClampNeg else -102
def mxL (h v : Int64) : Int64 := 31 * h + v
def fdL (f : Nat → Int32) (h : Int64) : Nat → Int64
  | 0 => h
  | k + 1 => mxL (fdL f h k) (f k).toInt64
def fdH (g : Nat → Nat → Int32) (h : Int64) : Nat → Int64
  | 0 => h
  | e + 1 => fdL (g e) (fdH g h e) 9
def dgS (n : Nat) (kd len ord : Nat → Nat) (kn : Nat) (kh km : Nat → Nat) (h : Int64) : Int64 := if n = 0 then h else mxL (mxL (mxL h (stsF n kd len ord kn kh km 0).toInt64) (stsF n kd len ord kn kh km 1).toInt64) (askF n kd len ord kn kh km).toInt64
def rDigest (n kp : Nat) (kd len : Nat → Nat) (lo : Int32) (ord : Nat → Nat) (dy so he : Int32) (kn : Nat) (kh km : Nat → Nat) (pl rn ak : Nat) (pg : Nat → Nat) : Int64 :=
  fdL (cvF n kp kd len lo ord dy so he kn pl rn ak) (fdL (fun k => nI (pg k)) (dgS n kd len ord kn kh km (fdH (hvF n kp kd len lo ord) 1087 n)) pl) 12
