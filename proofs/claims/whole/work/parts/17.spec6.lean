/-! orders, one behind the other by numbers -/
def swF (o : Nat → Nat) (i j : Nat) : Nat → Nat := va_up (va_up o i (o j)) j (o i)
def dnF (o : Nat → Nat) : Nat → Nat
  | 0 => 0
  | t + 1 => if o (t + 1) < o t then dnF o t else t + 1
def enF (o : Nat → Nat) (k : Nat) : Nat → Nat
  | 0 => 0
  | e + 1 => if o (e + 1) < o k then enF o k e else e + 1
def rvF : Nat → (Nat → Nat) → Nat → Nat → (Nat → Nat)
  | 0, o, _, _ => o
  | d + 1, o, i, j => if i < j then rvF d (swF o i j) (i + 1) (j - 1) else o
def nxO (n : Nat) (o : Nat → Nat) : Nat → Nat := if dnF o (n - 1) = 0 then o else rvF n (swF o (dnF o (n - 1) - 1) (enF o (dnF o (n - 1) - 1) (n - 1))) (dnF o (n - 1)) (n - 1)
theorem dnF_le (o : Nat → Nat) : ∀ t, dnF o t ≤ t
  | 0 => Nat.le_refl _
  | t + 1 => by
    have h := dnF_le o t
    show (if o (t + 1) < o t then dnF o t else t + 1) ≤ t + 1
    split <;> omega
theorem dnF_asc {o : Nat → Nat} : ∀ {t}, dnF o t ≠ 0 → ¬ o (dnF o t) < o (dnF o t - 1)
  | 0, h => absurd rfl h
  | t + 1, h => by
    by_cases q : o (t + 1) < o t
    · have e : dnF o (t + 1) = dnF o t := by show (if o (t + 1) < o t then _ else _) = _; rw [if_pos q]
      rw [e] at h ⊢
      exact dnF_asc h
    · have e : dnF o (t + 1) = t + 1 := by show (if o (t + 1) < o t then _ else _) = _; rw [if_neg q]
      rw [e, Nat.add_sub_cancel]
      exact q
theorem enF_le (o : Nat → Nat) (k : Nat) : ∀ e, enF o k e ≤ e
  | 0 => Nat.le_refl _
  | e + 1 => by
    have h := enF_le o k e
    show (if o (e + 1) < o k then enF o k e else e + 1) ≤ e + 1
    split <;> omega
theorem swF_perm {n : Nat} {o : Nat → Nat} {i j : Nat} (h : PermOn n o) (hi : i < n) (hj : j < n) : PermOn n (swF o i j) := by
  have at' : ∀ k, swF o i j k = if k = j then o i else if k = i then o j else o k := fun k => by unfold swF va_up; rfl
  refine ⟨fun k hk => ?_, fun a c ha hc e => ?_⟩
  · rw [at']
    split
    · exact h.1 i hi
    · split
      · exact h.1 j hj
      · exact h.1 k hk
  · rw [at', at'] at e
    by_cases a1 : a = j
    · rw [if_pos a1] at e
      by_cases c1 : c = j
      · omega
      · rw [if_neg c1] at e
        by_cases c2 : c = i
        · rw [if_pos c2] at e; have := h.2 i j hi hj e; omega
        · rw [if_neg c2] at e; have := h.2 i c hi hc e; omega
    · rw [if_neg a1] at e
      by_cases a2 : a = i
      · rw [if_pos a2] at e
        by_cases c1 : c = j
        · rw [if_pos c1] at e; have := h.2 j i hj hi e; omega
        · rw [if_neg c1] at e
          by_cases c2 : c = i
          · omega
          · rw [if_neg c2] at e; have := h.2 j c hj hc e; omega
      · rw [if_neg a2] at e
        by_cases c1 : c = j
        · rw [if_pos c1] at e; have := h.2 a i ha hi e; omega
        · rw [if_neg c1] at e
          by_cases c2 : c = i
          · rw [if_pos c2] at e; have := h.2 a j ha hj e; omega
          · rw [if_neg c2] at e; exact h.2 a c ha hc e
theorem rvF_perm {n : Nat} : ∀ (d : Nat) (o : Nat → Nat) (i j : Nat), PermOn n o → j < n → PermOn n (rvF d o i j)
  | 0, _, _, _, h, _ => h
  | d + 1, o, i, j, h, hj => by
    show PermOn n (if i < j then rvF d (swF o i j) (i + 1) (j - 1) else o)
    split
    · rename_i q
      exact rvF_perm d _ _ _ (swF_perm h (by omega) hj) (by omega)
    · exact h
theorem nxO_perm {n : Nat} {o : Nat → Nat} (h : PermOn n o) (hn : 2 ≤ n) : PermOn n (nxO n o) := by
  unfold nxO
  split
  · exact h
  · have h1 := dnF_le o (n - 1)
    have h2 := enF_le o (dnF o (n - 1) - 1) (n - 1)
    exact rvF_perm _ _ _ _ (swF_perm h (by omega) (by omega)) (by omega)
/-! the same, where two rows agree on the houses -/
def EqOn (n : Nat) (o o' : Nat → Nat) : Prop := ∀ j, j < n → o j = o' j
theorem dnF_eq {n : Nat} {o o' : Nat → Nat} (h : EqOn n o o') : ∀ t, t < n → dnF o t = dnF o' t
  | 0, _ => rfl
  | t + 1, ht => by
    show (if o (t + 1) < o t then dnF o t else t + 1) = (if o' (t + 1) < o' t then dnF o' t else t + 1)
    rw [h (t + 1) ht, h t (by omega), dnF_eq h t (by omega)]
theorem enF_eq {n : Nat} {o o' : Nat → Nat} {k : Nat} (h : EqOn n o o') (hk : k < n) : ∀ t, t < n → enF o k t = enF o' k t
  | 0, _ => rfl
  | t + 1, ht => by
    show (if o (t + 1) < o k then enF o k t else t + 1) = (if o' (t + 1) < o' k then enF o' k t else t + 1)
    rw [h (t + 1) ht, h k hk, enF_eq h hk t (by omega)]
theorem swF_eq {n : Nat} {o o' : Nat → Nat} {i j : Nat} (h : EqOn n o o') (hi : i < n) (hj : j < n) : EqOn n (swF o i j) (swF o' i j) := by
  intro k hk
  unfold swF va_up
  rw [h i hi, h j hj, h k hk]
theorem rvF_eq {n : Nat} : ∀ (d : Nat) {o o' : Nat → Nat} {i j : Nat}, EqOn n o o' → j < n → EqOn n (rvF d o i j) (rvF d o' i j)
  | 0, _, _, _, _, h, _ => h
  | d + 1, o, o', i, j, h, hj => by
    show EqOn n (if i < j then rvF d (swF o i j) (i + 1) (j - 1) else o) (if i < j then rvF d (swF o' i j) (i + 1) (j - 1) else o')
    by_cases q : i < j
    · rw [if_pos q, if_pos q]
      exact rvF_eq d (swF_eq h (by omega) hj) (by omega)
    · rw [if_neg q, if_neg q]
      exact h
theorem nxO_eq {n : Nat} {o o' : Nat → Nat} (h : EqOn n o o') (hn : 2 ≤ n) : EqOn n (nxO n o) (nxO n o') := by
  unfold nxO
  have e := dnF_eq h (n - 1) (by omega)
  rw [e]
  split
  · exact h
  · have h1 := dnF_le o' (n - 1)
    have h2 := enF_le o' (dnF o' (n - 1) - 1) (n - 1)
    rw [enF_eq h (by omega) (n - 1) (by omega)]
    exact rvF_eq _ (swF_eq h (by omega) (by omega)) (by omega)
/-! orders as lists, so that they can be counted through -/
def fnL (L : List Nat) : Nat → Nat := fun j => L.getD j 0
def stL (n : Nat) (L : List Nat) : List Nat := (List.range n).map (nxO n (fnL L))
def ndL (n : Nat) (L : List Nat) : Bool := decide (dnF (fnL L) (n - 1) = 0)
theorem stL_eq {n : Nat} {L : List Nat} : EqOn n (nxO n (fnL L)) (fnL (stL n L)) := by
  intro j hj
  show _ = ((List.range n).map (nxO n (fnL L))).getD j 0
  rw [List.getD_eq_getElem?_getD, List.getElem?_map, List.getElem?_range hj]
  rfl
def runB (n : Nat) : Nat → List Nat → Bool
  | 0, _ => false
  | f + 1, L => ndL n L || runB n f (stL n L)
theorem run2 : runB 2 720 [0, 1] = true := by decide +kernel
theorem run3 : runB 3 720 [0, 1, 2] = true := by decide +kernel
theorem run4 : runB 4 720 [0, 1, 2, 3] = true := by decide +kernel
theorem run5 : runB 5 720 [0, 1, 2, 3, 4] = true := by decide +kernel
theorem run6 : runB 6 720 [0, 1, 2, 3, 4, 5] = true := by decide +kernel
theorem runAll {n : Nat} (h1 : 2 ≤ n) (h2 : n ≤ 6) : runB n 720 (List.range n) = true := by
  rcases (show n = 2 ∨ n = 3 ∨ n = 4 ∨ n = 5 ∨ n = 6 by omega) with rfl | rfl | rfl | rfl | rfl
  · exact run2
  · exact run3
  · exact run4
  · exact run5
  · exact run6
theorem fn_range {n : Nat} : EqOn n (fun j => j) (fnL (List.range n)) := by
  intro j hj
  show j = (List.range n).getD j 0
  rw [List.getD_eq_getElem?_getD, List.getElem?_range hj]
  rfl
theorem id_perm (n : Nat) : PermOn n (fun j => j) := ⟨fun _ h => h, fun _ _ _ _ h => h⟩
theorem PermOn.eq {n : Nat} {o o' : Nat → Nat} (h : PermOn n o) (e : EqOn n o o') : PermOn n o' := ⟨fun k hk => by rw [← e k hk]; exact h.1 k hk, fun i j hi hj z => h.2 i j hi hj (by rw [e i hi, e j hj]; exact z)⟩
/-- what goes wrong in an order, by what it is on the houses -/
theorem tmF_eqO {kd len : Nat → Nat} {lo : Int32} {n : Nat} {o o' : Nat → Nat} (h : EqOn n o o') : ∀ k, k ≤ n → tmF kd len lo o k = tmF kd len lo o' k
  | 0, _ => rfl
  | k + 1, hk => by
    show tmF kd len lo o k + (1 + rdm kd len lo (o k)) = tmF kd len lo o' k + (1 + rdm kd len lo (o' k))
    rw [tmF_eqO h k (by omega), h k (by omega)]
theorem camF_eqO {kd len : Nat → Nat} {lo : Int32} {n : Nat} {o o' : Nat → Nat} (hp : PermOn n o) (h : EqOn n o o') : ∀ j, j < n → camF kd len lo o n j = camF kd len lo o' n j := by
  intro j hj
  obtain ⟨k, hk, rfl⟩ := hp.onto hj
  unfold camF
  rw [gof_at hp n (Nat.le_refl n) k hk, h k hk, gof_at (hp.eq h) n (Nat.le_refl n) k hk, tmF_eqO h (k + 1) (by omega)]
theorem wrg_eqO {n kp : Nat} {kd len : Nat → Nat} {lo : Int32} {o o' : Nat → Nat} (hp : PermOn n o) (h : EqOn n o o') : wrg n kp kd len lo o = wrg n kp kd len lo o' := by
  have e := camF_eqO (kd := kd) (len := len) (lo := lo) hp h
  unfold wrg scF hcF
  rw [ctB_cong (fun k hk => sourB_cong (e k hk)), ctB_cong (fun k hk => hearB_cong hk e)]
/-- through all orders from L on: how few, and where first -/
def bsF (n kp : Nat) (kd len : Nat → Nat) (lo : Int32) : Nat → List Nat → Nat × List Nat → Nat × List Nat
  | 0, _, q => q
  | f + 1, L, q => if ndL n L = true then (if wrg n kp kd len lo (fnL L) < q.1 then (wrg n kp kd len lo (fnL L), L) else q) else bsF n kp kd len lo f (stL n L) (if wrg n kp kd len lo (fnL L) < q.1 then (wrg n kp kd len lo (fnL L), L) else q)
def bstF (n kp : Nat) (kd len : Nat → Nat) (lo : Int32) : Nat × List Nat := bsF n kp kd len lo 720 (List.range n) (13, [])
theorem bsF_far {n kp : Nat} {kd len : Nat → Nat} {lo : Int32} {q q' : Nat × List Nat} (f : Nat) (L : List Nat) (h : wrg n kp kd len lo (fnL L) < q.1) (h' : wrg n kp kd len lo (fnL L) < q'.1) : bsF n kp kd len lo (f + 1) L q = bsF n kp kd len lo (f + 1) L q' := by
  show (if ndL n L = true then _ else _) = (if ndL n L = true then _ else _)
  rw [if_pos h, if_pos h']
/-- the search, at the head of its loop -/
def BstI (n kp : Nat) (kd len : Nat → Nat) (lo : Int32) (mo : Bool) (f : Nat) (o : Nat → Nat) (L : List Nat) (few : Nat) (bo : Nat → Nat) (Lb : List Nat) : Prop :=
  (mo = true → runB n f L = true ∧ EqOn n o (fnL L) ∧ bsF n kp kd len lo f L (few, Lb) = bstF n kp kd len lo) ∧ (mo = false → (few, Lb) = bstF n kp kd len lo ∧ few ≤ 12) ∧ (few ≤ 12 → EqOn n bo (fnL Lb))
theorem BstI_0 {n kp : Nat} {kd len : Nat → Nat} {lo : Int32} {o bo : Nat → Nat} {far : Nat} (hn : 2 ≤ n) (hn6 : n ≤ 6) (hf : 12 < far) (ho : EqOn n o (fun j => j)) : BstI n kp kd len lo true 720 o (List.range n) far bo [] := by
  refine ⟨fun _ => ⟨runAll hn hn6, fun j hj => (ho j hj).trans (fn_range j hj), ?_⟩, fun h => absurd h (by decide), fun h => by omega⟩
  have hw : wrg n kp kd len lo (fnL (List.range n)) ≤ n + n := wrg_le
  exact bsF_far 719 _ (show _ < far by omega) (show _ < 13 by omega)
theorem BstI_step {n kp : Nat} {kd len : Nat → Nat} {lo : Int32} {f : Nat} {o bo : Nat → Nat} {L Lb : List Nat} {few : Nat} (hn : 2 ≤ n) (hn6 : n ≤ 6) (hp : PermOn n o) (h : BstI n kp kd len lo true (f + 1) o L few bo Lb) {few' : Nat} {bo' : Nat → Nat} {Lb' : List Nat}
    (hq : (few', Lb') = if wrg n kp kd len lo (fnL L) < few then (wrg n kp kd len lo (fnL L), L) else (few, Lb)) (hb : few' ≤ 12 → EqOn n bo' (fnL Lb')) : BstI n kp kd len lo (decide (¬ dnF o (n - 1) = 0)) f (nxO n o) (stL n L) few' bo' Lb' := by
  obtain ⟨h1, h2, h3⟩ := h.1 rfl
  have e : dnF o (n - 1) = dnF (fnL L) (n - 1) := dnF_eq h2 (n - 1) (by omega)
  have hr : (ndL n L || runB n f (stL n L)) = true := h1
  have hs : (if ndL n L = true then (if wrg n kp kd len lo (fnL L) < few then (wrg n kp kd len lo (fnL L), L) else (few, Lb)) else bsF n kp kd len lo f (stL n L) (if wrg n kp kd len lo (fnL L) < few then (wrg n kp kd len lo (fnL L), L) else (few, Lb))) = bstF n kp kd len lo := h3
  rw [← hq] at hs
  refine ⟨fun z => ?_, fun z => ?_, hb⟩
  · have z := of_decide_eq_true z
    have hnd : ndL n L = false := decide_eq_false (fun q => z (e.trans q))
    rw [hnd, Bool.false_or] at hr
    rw [hnd, if_neg (by decide)] at hs
    exact ⟨hr, fun j hj => (nxO_eq h2 hn j hj).trans (stL_eq j hj), hs⟩
  · have z := of_decide_eq_false z
    have z : dnF o (n - 1) = 0 := Classical.not_not.mp z
    have hnd : ndL n L = true := decide_eq_true (e.symm.trans z)
    rw [hnd, if_pos rfl] at hs
    have hw : wrg n kp kd len lo (fnL L) ≤ n + n := wrg_le
    refine ⟨hs, ?_⟩
    have hq1 : few' = (if wrg n kp kd len lo (fnL L) < few then (wrg n kp kd len lo (fnL L), L) else (few, Lb)).1 := by rw [← hq]
    split at hq1
    · omega
    · rename_i q
      omega
/-- what best() tells -/
def bvF (n kp : Nat) (kd len : Nat → Nat) (lo : Int32) (w : Nat) : Int32 := if w = 0 then nI (bstF n kp kd len lo).1 else if w - 10 < n then nI (fnL (bstF n kp kd len lo).2 (w - 10)) else -1
def inT (w : Int32) : Bool := decide (nI 10 ≤ w ∧ w ≤ nI 15)
theorem inT_of {m : Int32} (e : inT m = true) : ∃ k : Nat, 10 ≤ k ∧ k ≤ 15 ∧ m = nI k := by
  unfold inT at e
  have e := of_decide_eq_true e
  obtain ⟨j, hj, rfl⟩ := nI_of (x := m) (fun q => by
    have h0 : nI 10 ≤ m := e.1
    have h1 : (nI 10 : Int32) < 0 := Int32.lt_of_le_of_lt h0 q
    exact absurd h1 (by decide))
  exact ⟨j, (nI_leI (by decide) hj).mp e.1, (nI_leI hj (by decide)).mp e.2, rfl⟩
def okW (w : Int32) : Bool := decide (w = 0) || inT w
def rBest (n kp : Nat) (kd len : Nat → Nat) (lo : Int32) (ak : Nat) (w : Int32) : Int32 := bif okW w then (if n = 0 ∨ ak = 30 then -103 else bvF n kp kd len lo w.toNatClampNeg) else -102
def sBest (n ak : Nat) (w : Int32) : Nat := bif okW w then (if n = 0 ∨ ak = 30 then ak else ak + 1) else ak
theorem rvF_end {o : Nat → Nat} {i j : Nat} (h : ¬ i < j) : ∀ d, rvF d o i j = o
  | 0 => rfl
  | d + 1 => by show (if i < j then _ else o) = o; rw [if_neg h]
theorem rvF_go {o : Nat → Nat} {i j d : Nat} (h : i < j) : rvF (d + 1) o i j = rvF d (swF o i j) (i + 1) (j - 1) := by show (if i < j then _ else o) = _; rw [if_pos h]
theorem swF_out {o : Nat → Nat} {i j k n : Nat} (hi : i < n) (hj : j < n) (hk : ¬ k < n) : swF o i j k = o k := by
  unfold swF va_up
  rw [if_neg (by omega), if_neg (by omega)]
theorem rvF_out {n k : Nat} (hk : ¬ k < n) : ∀ (d : Nat) (o : Nat → Nat) (i j : Nat), j < n → rvF d o i j k = o k
  | 0, _, _, _, _ => rfl
  | d + 1, o, i, j, hj => by
    show (if i < j then rvF d (swF o i j) (i + 1) (j - 1) else o) k = o k
    split
    · rename_i q
      rw [rvF_out hk d _ _ _ (by omega), swF_out (by omega) hj hk]
    · rfl
theorem nxO_out {n k : Nat} {o : Nat → Nat} (hn : 2 ≤ n) (hk : ¬ k < n) : nxO n o k = o k := by
  unfold nxO
  split
  · rfl
  · have h1 := dnF_le o (n - 1)
    have h2 := enF_le o (dnF o (n - 1) - 1) (n - 1)
    rw [rvF_out hk _ _ _ _ (by omega), swF_out (by omega) (by omega) hk]
theorem dnF_hit {o : Nat → Nat} {q : Nat} (h : ¬ o (q + 1) < o q) : dnF o (q + 1) = q + 1 := by show (if o (q + 1) < o q then _ else _) = _; rw [if_neg h]
theorem dnF_down {o : Nat → Nat} {q : Nat} (h : o (q + 1) < o q) : dnF o (q + 1) = dnF o q := by show (if o (q + 1) < o q then _ else _) = _; rw [if_pos h]
theorem enF_hit {o : Nat → Nat} {k e : Nat} (h0 : 0 < e) (h : ¬ o e < o k) : enF o k e = e := by
  obtain ⟨x, rfl⟩ : ∃ x, e = x + 1 := ⟨e - 1, by omega⟩
  show (if o (x + 1) < o k then _ else _) = _
  rw [if_neg h]
theorem enF_down {o : Nat → Nat} {k e : Nat} (h0 : 0 < e) (h : o e < o k) : enF o k e = enF o k (e - 1) := by
  obtain ⟨x, rfl⟩ : ∃ x, e = x + 1 := ⟨e - 1, by omega⟩
  rw [Nat.add_sub_cancel]
  show (if o (x + 1) < o k then _ else _) = _
  rw [if_pos h]
theorem nxO_of {n : Nat} {o : Nat → Nat} {q e : Nat} (h1 : dnF o (n - 1) = q + 1) (h2 : enF o q (n - 1) = e) : nxO n o = rvF n (swF o q e) (q + 1) (n - 1) := by
  unfold nxO
  rw [h1, if_neg (by omega), Nat.add_sub_cancel, h2]
theorem runB_pos {n f : Nat} {L : List Nat} (h : runB n f L = true) : ∃ g, f = g + 1 := by
  cases f with
  | zero => exact absurd h (by unfold runB; decide)
  | succ g => exact ⟨g, rfl⟩
def kdG (pg : Nat → Nat) : Nat → Nat := fun j => kdN (pg (3 * j))
def lnG (pg : Nat → Nat) : Nat → Nat := fun j => pg (3 * j + 1) - 48
