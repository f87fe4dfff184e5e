theorem LI.next {dC : Nat → ClassId} {dI : Nat → Nat → Nat} {y : Nat → ClassId} {a b : Nat → Nat} {i : Nat} {H : Heap} (hI : LI dC dI y a b i H) : LI dC dI y a b (i + 4) H := by
  obtain ⟨rn, n, lo, kp, dy, so, he, kn, ak, pl, lo2, dy2, so2, he2, kn2, kd, len, ord, kh, km, pg, len2, ord2, kh2, km2, im, ma, cw, tl, tO, bO, lf, wo, iw, nm, sd, ik, kr, dgv, cm, sav, bo, cb, sl, hG, hr⟩ := hI
  exact ⟨rn, n, lo, kp, dy, so, he, kn, ak, pl, lo2, dy2, so2, he2, kn2, kd, len, ord, kh, km, pg, len2, ord2, kh2, km2, im, ma, cw, tl, tO, bO, lf, wo, iw, nm, sd, ik, kr, dgv, cm, sav, bo, cb, sl, gi_next hG, hr⟩
set_option maxHeartbeats 4000000 in
set_option maxRecDepth 100000 in
theorem law_loop (l : Launch) {p : Program} {e : Env} {s : State} {m : MethodId} {args : Array Value} {below : List Frame} {meth : Method} {c : Code} {Q : State → Prop} {bs L : Nat} {xs : Nat → Int32} {xK xV : Nat → Nat} {dC : Nat → ClassId} {dI : Nat → Nat → Nat} {y : Nat → ClassId} {a b : Nat → Nat} (hx : p.tables.exec = Jvm.exec) (hb : c.code = cL_law) (hml : c.maxLocals = 4) (hown : s.vm.findClass RL = some m.cls) (hts : ∀ w ∈ wsL_law, w.before args s = true) (hX : va_X bs L xs s s.heap) (hbl : bs < s.heap.size) (hF : LF s xK xV dC dI y a b) (hL : L ≤ 256) (hL4 : 4 ≤ L) (kE : ∀ (H : Heap) (locs : List Loc) (ls : Array Slot), va_S (lA s) s.heap H locs → W p l e room_1 s m args below meth c H locs 50 1348 Q (F0 m 601 ls [])) : ∀ (d i : Nat) (H : Heap) (locs : List Loc) (ls : Array Slot), L ≤ i + 4 * d → i ≤ L → va_S (lA s) s.heap H locs → lv_has ls 4 [(3, .int (nI i)), (2, .ref (b 0)), (1, .ref (a 0)), (0, .ref bs)] → LI dC dI y a b i H → W p l e room_1 s m args below meth c H locs 50 1348 Q (F0 m 18 ls []) := by
  have hbA : ¬ lA s bs := fun q => absurd hbl (Nat.not_lt.mpr q)
  intro d
  induction d with
  | zero =>
    intro i H locs ls hd hiL hS hl hI
    refine lv_iload_n hx hb dL_law_18 rfl (lv_at hl 0 rfl) ?_
    refine lv_aload_n hx hb dL_law_19 rfl (lv_at hl 3 rfl) ?_
    refine va_slen hx hb hX hbl hbA hS dL_law_20 ?_
    refine n_top (y := nI L) rfl ?_
    refine lv_iconst (v := nI 4) hx hb dL_law_21 (by decide) ?_
    refine n_isub hx hb hL4 dL_law_22 ?_
    refine n_icmp_gt hx hb dL_law_23 rfl (by omega) (by omega) (fun _ => kE H locs ls hS) (fun hgt => ?_)
    exact absurd (show L - 4 < i by omega) hgt
  | succ d ih =>
    intro i H locs ls hd hiL hS hl hI
    refine lv_iload_n hx hb dL_law_18 rfl (lv_at hl 0 rfl) ?_
    refine lv_aload_n hx hb dL_law_19 rfl (lv_at hl 3 rfl) ?_
    refine va_slen hx hb hX hbl hbA hS dL_law_20 ?_
    refine n_top (y := nI L) rfl ?_
    refine lv_iconst (v := nI 4) hx hb dL_law_21 (by decide) ?_
    refine n_isub hx hb hL4 dL_law_22 ?_
    refine n_icmp_gt hx hb dL_law_23 rfl (by omega) (by omega) (fun _ => kE H locs ls hS) (fun hgt => ?_)
    have hi : i + 4 ≤ L := by omega
    refine lv_aload_n hx hb dL_law_26 rfl (lv_at hl 3 rfl) ?_
    refine lv_iload_n hx hb dL_law_27 rfl (lv_at hl 0 rfl) ?_
    refine l_sld hx hb hX hbl hbA hS (by omega) hL dL_law_28 ?_
    refine lv_bipush (v := nI 31) hx hb dL_law_29 (by decide) ?_
    refine lv_iand hx hb dL_law_31 ?_
    obtain ⟨j, hj, ej⟩ := pk_andE (xs i) (m := nI 31) 5 (by decide)
    refine n_top ej ?_
    have kont : ∀ (H1 : Heap) (locs1 : List Loc), LI dC dI y a b (i + 4) H1 → va_S (lA s) s.heap H1 locs1 → W p l e room_1 s m args below meth c H1 locs1 50 1348 Q (F0 m 595 ls []) := fun H1 locs1 hI1 hS1 => by
      refine lv_iinc (v := nI (i + 4)) (lv' := [(3, .int (nI (i + 4))), (2, .ref (b 0)), (1, .ref (a 0)), (0, .ref bs)]) hx hb dL_law_595 hl (k := 0) rfl (mr_inc4 _) (by decide) rfl (fun ls hl => ?_)
      refine lv_goto hx hb dL_law_598 rfl ?_
      exact ih (i + 4) H1 locs1 ls (by omega) (by omega) hS1 hl hI1
    rcases (show j = 0 ∨ j = 1 ∨ j = 2 ∨ j = 3 ∨ j = 4 ∨ j = 5 ∨ j = 6 ∨ j = 7 ∨ j = 8 ∨ j = 9 ∨ j = 10 ∨ j = 11 ∨ j = 12 ∨ j = 13 ∨ j = 14 ∨ j = 15 ∨ j = 16 ∨ j = 17 ∨ j = 18 ∨ j = 19 ∨ 20 ≤ j by omega) with rfl | rfl | rfl | rfl | rfl | rfl | rfl | rfl | rfl | rfl | rfl | rfl | rfl | rfl | rfl | rfl | rfl | rfl | rfl | rfl | hj2
    · refine lv_tableIn (off := 96) (tgt := 128) hx hb dL_law_32 (by decide) (by decide) (by decide +kernel) rfl ?_
      exact law_letter l hx hb hml hown hts hX hbl hF hL hi hS hl hI kont
    · refine lv_tableIn (off := 119) (tgt := 151) hx hb dL_law_32 (by decide) (by decide) (by decide +kernel) rfl ?_
      exact law_blank l hx hb hml hown hts hX hbl hF hL hi hS hl hI kont
    · refine lv_tableIn (off := 132) (tgt := 164) hx hb dL_law_32 (by decide) (by decide) (by decide +kernel) rfl ?_
      exact law_fault l hx hb hml hown hts hX hbl hF hL hi hS hl hI kont
    · refine lv_tableIn (off := 145) (tgt := 177) hx hb dL_law_32 (by decide) (by decide) (by decide +kernel) rfl ?_
      exact law_round l hx hb hml hown hts hX hbl hF hL hi hS hl hI kont
    · refine lv_tableIn (off := 158) (tgt := 190) hx hb dL_law_32 (by decide) (by decide) (by decide +kernel) rfl ?_
      exact law_about l hx hb hml hown hts hX hbl hF hL hi hS hl hI kont
    · refine lv_tableIn (off := 191) (tgt := 223) hx hb dL_law_32 (by decide) (by decide) (by decide +kernel) rfl ?_
      exact law_as l hx hb hml hown hts hX hbl hF hL hi hS hl hI kont
    · refine lv_tableIn (off := 224) (tgt := 256) hx hb dL_law_32 (by decide) (by decide) (by decide +kernel) rfl ?_
      exact law_letters l hx hb hml hown hts hX hbl hF hL hi hS hl hI kont
    · refine lv_tableIn (off := 257) (tgt := 289) hx hb dL_law_32 (by decide) (by decide) (by decide +kernel) rfl ?_
      exact law_leave l hx hb hml hown hts hX hbl hF hL hi hS hl hI kont
    · refine lv_tableIn (off := 306) (tgt := 338) hx hb dL_law_32 (by decide) (by decide) (by decide +kernel) rfl ?_
      exact law_swap l hx hb hml hown hts hX hbl hF hL hi hS hl hI kont
    · refine lv_tableIn (off := 339) (tgt := 371) hx hb dL_law_32 (by decide) (by decide) (by decide +kernel) rfl ?_
      exact law_day l hx hb hml hown hts hX hbl hF hL hi hS hl hI kont
    · refine lv_tableIn (off := 352) (tgt := 384) hx hb dL_law_32 (by decide) (by decide) (by decide +kernel) rfl ?_
      exact law_best l hx hb hml hown hts hX hbl hF hL hi hS hl hI kont
    · refine lv_tableIn (off := 375) (tgt := 407) hx hb dL_law_32 (by decide) (by decide) (by decide +kernel) rfl ?_
      exact law_known l hx hb hml hown hts hX hbl hF hL hi hS hl hI kont
    · refine lv_tableIn (off := 408) (tgt := 440) hx hb dL_law_32 (by decide) (by decide) (by decide +kernel) rfl ?_
      exact law_forget l hx hb hml hown hts hX hbl hF hL hi hS hl hI kont
    · refine lv_tableIn (off := 421) (tgt := 453) hx hb dL_law_32 (by decide) (by decide) (by decide +kernel) rfl ?_
      exact law_sets l hx hb hml hown hts hX hbl hF hL hi hS hl hI kont
    · refine lv_tableIn (off := 444) (tgt := 476) hx hb dL_law_32 (by decide) (by decide) (by decide +kernel) rfl ?_
      exact law_ask l hx hb hml hown hts hX hbl hF hL hi hS hl hI kont
    · refine lv_tableIn (off := 457) (tgt := 489) hx hb dL_law_32 (by decide) (by decide) (by decide +kernel) rfl ?_
      exact law_weeks l hx hb hml hown hts hX hbl hF hL hi hS hl hI kont
    · refine lv_tableIn (off := 500) (tgt := 532) hx hb dL_law_32 (by decide) (by decide) (by decide +kernel) rfl ?_
      exact law_image l hx hb hml hown hts hX hbl hF hL hi hS hl hI kont
    · refine lv_tableIn (off := 513) (tgt := 545) hx hb dL_law_32 (by decide) (by decide) (by decide +kernel) rfl ?_
      exact law_restore l hx hb hml hown hts hX hbl hF hL hi hS hl hI kont
    · refine lv_tableIn (off := 526) (tgt := 558) hx hb dL_law_32 (by decide) (by decide) (by decide +kernel) rfl ?_
      exact law_count l hx hb hml hown hts hX hbl hF hL hi hS hl hI kont
    · refine lv_tableIn (off := 549) (tgt := 581) hx hb dL_law_32 (by decide) (by decide) (by decide +kernel) rfl ?_
      exact law_digest l hx hb hml hown hts hX hbl hF hL hi hS hl hI kont
    · refine lv_tableOut (tgt := 595) hx hb dL_law_32 (Or.inr (by rw [nI_toInt (by omega)]; omega)) rfl ?_
      exact kont H locs hI.next hS
theorem ent_at {ws : va_W} {l : List Nat} (hm : ws.map (fun q => q.1) = l) {k v : Nat} (h : l[k]? = some v) : ∃ q, ws[k]? = some q ∧ q.1 = v := by
  rw [← hm, List.getElem?_map] at h
  cases e : ws[k]? with
  | none => rw [e] at h; cases h
  | some q => rw [e] at h; exact ⟨q, rfl, Option.some.inj h⟩
theorem two_of {A : Nat → Prop} {X Y : va_W} {a b : Nat → Nat} {N M : Nat} (hX : X.map (fun q => q.1) = (List.range N).map a) (hY : Y.map (fun q => q.1) = (List.range M).map b) (hD : va_D A (X ++ Y)) : ad_ok (sA a N) a N ∧ ad_ok (sA b M) b M ∧ (∀ q, sA a N q → A q) ∧ (∀ q, sA b M q → A q) ∧ ∀ i j, i < N → j < M → ¬ a i = b j := by
  have hm : (X ++ Y).map (fun q => q.1) = (List.range N).map a ++ (List.range M).map b := by rw [List.map_append, hX, hY]
  have h1 : ∀ i, i < N → ∃ q, (X ++ Y)[i]? = some q ∧ q.1 = a i := fun i hi => ent_at hm (by rw [List.getElem?_append_left (by simpa using hi), List.getElem?_map, List.getElem?_range hi]; rfl)
  have h2 : ∀ j, j < M → ∃ q, (X ++ Y)[N + j]? = some q ∧ q.1 = b j := fun j hj => ent_at hm (by rw [List.getElem?_append_right (by simp), List.length_map, List.length_range, Nat.add_sub_cancel_left, List.getElem?_map, List.getElem?_range hj]; rfl)
  refine ⟨⟨fun i j hi hj e => ?_, fun i hi => ⟨i, hi, rfl⟩⟩, ⟨fun i j hi hj e => ?_, fun i hi => ⟨i, hi, rfl⟩⟩, fun q z => ?_, fun q z => ?_, fun i j hi hj e => ?_⟩
  · obtain ⟨p, e1, e2⟩ := h1 i hi
    obtain ⟨q, e3, e4⟩ := h1 j hj
    exact hD.1 i j p q e1 e3 (e2.trans (e.trans e4.symm))
  · obtain ⟨p, e1, e2⟩ := h2 i hi
    obtain ⟨q, e3, e4⟩ := h2 j hj
    have := hD.1 _ _ p q e1 e3 (e2.trans (e.trans e4.symm))
    omega
  · obtain ⟨i, hi, rfl⟩ := z
    obtain ⟨p, e1, e2⟩ := h1 i hi
    rw [← e2]; exact hD.2 _ _ e1
  · obtain ⟨i, hi, rfl⟩ := z
    obtain ⟨p, e1, e2⟩ := h2 i hi
    rw [← e2]; exact hD.2 _ _ e1
  · obtain ⟨p, e1, e2⟩ := h1 i hi
    obtain ⟨q, e3, e4⟩ := h2 j hj
    have := hD.1 _ _ p q e1 e3 (e2.trans (e.trans e4.symm))
    omega
theorem P_left {D : va_G} {cl : List vw_C} {X Y : va_W} {H : Heap} (h : va_P D cl (X ++ Y) H) : va_P D cl X H := fun k q hk => h k q (by rw [List.getElem?_append_left (List.getElem?_eq_some_iff.mp hk).1]; exact hk)
theorem P_right {D : va_G} {cl : List vw_C} {X Y : va_W} {H : Heap} (h : va_P D cl (X ++ Y) H) : va_P D cl Y H := fun k q hk => h (X.length + k) q (by rw [ap_at]; exact hk)
