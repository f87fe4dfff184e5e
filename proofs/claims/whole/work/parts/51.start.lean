abbrev lA (s : State) : Nat → Prop := fun q => s.heap.size ≤ q
def sA (a : Nat → Nat) (N : Nat) : Nat → Prop := fun q => ∃ i, i < N ∧ q = a i
theorem EV.narrow {xK xV : Nat → Nat} {A B : Nat → Prop} {U : State} (h : EV xK xV A U) (hAB : ∀ q, B q → A q) : EV xK xV B U := ⟨h.1, h.2.1, h.2.2.1, h.2.2.2.1, vk_S.narrow h.2.2.2.2.1 hAB, va_Z.narrow h.2.2.2.2.2 hAB⟩
set_option maxRecDepth 20000 in
theorem law_K {s : State} {args : Array Value} (hts : ∀ w ∈ lw_tbl, w.before args s = true) : ∃ (dC : Nat → ClassId) (dI : Nat → Nat → Nat) (y : Nat → ClassId), va_K (dC, dI) vwCl (TY y) s := by
  obtain ⟨c0, i0, k0⟩ := u_known hts inX0 (hts (.instantiable RX0 0) (List.mem_of_getElem? (i := 105) (by decide +kernel)))
  obtain ⟨c1, i1, k1⟩ := u_known hts inX1 (hts (.instantiable RX1 0) (List.mem_of_getElem? (i := 112) (by decide +kernel)))
  obtain ⟨c2, i2, k2⟩ := u_known hts inX2 (hts (.instantiable RX2 9) (List.mem_of_getElem? (i := 158) (by decide +kernel)))
  obtain ⟨c3, i3, k3⟩ := u_known hts inX3 (hts (.instantiable RX3 0) (List.mem_of_getElem? (i := 91) (by decide +kernel)))
  obtain ⟨c4, i4, k4⟩ := u_known hts inX4 (hts (.instantiable RX4 2) (List.mem_of_getElem? (i := 69) (by decide +kernel)))
  obtain ⟨c5, i5, k5⟩ := u_known hts inX5 (hts (.instantiable RX5 0) (List.mem_of_getElem? (i := 98) (by decide +kernel)))
  obtain ⟨c6, i6, k6⟩ := u_known hts inX6 (hts (.instantiable RX6 8) (List.mem_of_getElem? (i := 85) (by decide +kernel)))
  obtain ⟨c7, i7, k7⟩ := u_known hts inX7 (hts (.instantiable RX7 2) (List.mem_of_getElem? (i := 220) (by decide +kernel)))
  obtain ⟨c8, i8, k8⟩ := u_known hts inX8 (hts (.instantiable RX8 3) (List.mem_of_getElem? (i := 202) (by decide +kernel)))
  obtain ⟨c9, i9, k9⟩ := u_known hts inX9 (hts (.instantiable RX9 0) (List.mem_of_getElem? (i := 119) (by decide +kernel)))
  obtain ⟨c10, i10, k10⟩ := u_known hts inX10 (hts (.instantiable RX10 12) (List.mem_of_getElem? (i := 61) (by decide +kernel)))
  obtain ⟨c11, i11, k11⟩ := u_known hts inX11 (hts (.instantiable RX11 36) (List.mem_of_getElem? (i := 694) (by decide +kernel)))
  obtain ⟨y0, kA0, cp0, f01, f02, f03⟩ := Cond.arrayClass_spec (hts (.arrayClass .int) (List.mem_of_getElem? (i := 200) (by decide +kernel)))
  obtain ⟨y1, kA1, cp1, f11, f12, f13⟩ := Cond.arrayClass_spec (hts (.arrayClass .byte) (List.mem_of_getElem? (i := 384) (by decide +kernel)))
  obtain ⟨y2, kA2, cp2, f21, f22, f23⟩ := Cond.arrayClass_spec (hts (.arrayClass .char) (List.mem_of_getElem? (i := 83) (by decide +kernel)))
  obtain ⟨cp3, y3, kA3, f31, f30, f32, f33, f34⟩ := Cond.arrayOver_spec (hts (.arrayOver (.object "MilkRound$House")) (List.mem_of_getElem? (i := 125) (by decide +kernel)))
  obtain ⟨cp4, y4, kA4, f41, f42, f43, f44⟩ := Cond.arrayOver_specA (hts (.arrayOver (.array .int)) (List.mem_of_getElem? (i := 226) (by decide +kernel)))
  refine ⟨fun k => match k with | 0 => c0 | 1 => c1 | 2 => c2 | 3 => c3 | 4 => c4 | 5 => c5 | 6 => c6 | 7 => c7 | 8 => c8 | 9 => c9 | 10 => c10 | _ => c11, fun k => match k with | 0 => i0 | 1 => i1 | 2 => i2 | 3 => i3 | 4 => i4 | 5 => i5 | 6 => i6 | 7 => i7 | 8 => i8 | 9 => i9 | 10 => i10 | _ => i11, fun k => match k with | 0 => y0 | 1 => y1 | 2 => y2 | 3 => y3 | _ => y4, fun c q hq => ?_, fun k q hk => ?_⟩
  · rcases (show c = 0 ∨ c = 1 ∨ c = 2 ∨ c = 3 ∨ c = 4 ∨ c = 5 ∨ c = 6 ∨ c = 7 ∨ c = 8 ∨ c = 9 ∨ c = 10 ∨ c = 11 ∨ 12 ≤ c by omega) with rfl | rfl | rfl | rfl | rfl | rfl | rfl | rfl | rfl | rfl | rfl | rfl | h
    · cases hq; exact k0
    · cases hq; exact k1
    · cases hq; exact k2
    · cases hq; exact k3
    · cases hq; exact k4
    · cases hq; exact k5
    · cases hq; exact k6
    · cases hq; exact k7
    · cases hq; exact k8
    · cases hq; exact k9
    · cases hq; exact k10
    · cases hq; exact k11
    · rw [List.getElem?_eq_none (show vwCl.length ≤ c from h)] at hq; cases hq
  · rcases (show k = 0 ∨ k = 1 ∨ k = 2 ∨ k = 3 ∨ k = 4 ∨ 5 ≤ k by omega) with rfl | rfl | rfl | rfl | rfl | h
    · cases hk; exact ⟨fun n z => ⟨fun k h => (by cases h), kA0, f02, cp0, f03⟩, f01⟩
    · cases hk; exact ⟨fun n z => ⟨fun k h => (by cases h), kA1, f12, cp1, f13⟩, f11⟩
    · cases hk; exact ⟨fun n z => ⟨fun k h => (by cases h), kA2, f22, cp2, f23⟩, f21⟩
    · cases hk; exact ⟨fun n z => ⟨fun k h => (by cases h), kA3, f32, cp3, f33⟩, kA3, cp3, f32, f33, f31, f34⟩
    · cases hk; exact ⟨fun n z => ⟨fun k h => (by cases h), kA4, f42, cp4, f43⟩, f44⟩
    · rw [List.getElem?_eq_none (show 5 ≤ k from h)] at hk; cases hk
set_option maxRecDepth 20000 in
theorem law_EC {s : State} {args : Array Value} (hts : ∀ w ∈ lw_tbl, w.before args s = true) : EC (lA s) s := ⟨fun _ h => h, ⟨va_Nw.of rfl (hts (.methodLinkNest RX9 1 yX5_init "MilkRound") (List.mem_of_getElem? (i := 123) (by decide +kernel))), va_Nw.of rfl (hts (.methodLinkNest RX6 9 yX3_init "MilkRound") (List.mem_of_getElem? (i := 92) (by decide +kernel))), va_Nw.of rfl (hts (.methodLinkNest RX6 18 yX5_init "MilkRound") (List.mem_of_getElem? (i := 99) (by decide +kernel))), va_Nw.of rfl (hts (.methodLinkNest RX6 24 yX0_init "MilkRound") (List.mem_of_getElem? (i := 106) (by decide +kernel))), va_Nw.of rfl (hts (.methodLinkNest RX6 30 yX1_init "MilkRound") (List.mem_of_getElem? (i := 113) (by decide +kernel))), va_Nw.of rfl (hts (.methodLinkNest RX6 36 yX9_init "MilkRound") (List.mem_of_getElem? (i := 120) (by decide +kernel))), va_Nw.of rfl (hts (.methodLinkNest RX5 1 yX3_init "MilkRound") (List.mem_of_getElem? (i := 102) (by decide +kernel))), va_Nw.of rfl (hts (.methodLinkNest RX1 1 yX3_init "MilkRound") (List.mem_of_getElem? (i := 116) (by decide +kernel))), va_Nw.of rfl (hts (.methodLinkNest RX0 1 yX3_init "MilkRound") (List.mem_of_getElem? (i := 109) (by decide +kernel))), va_Nw.of rfl (hts (.methodLinkNest RX10 9 yX4_init "MilkRound") (List.mem_of_getElem? (i := 70) (by decide +kernel))), va_Nw.of rfl (hts (.methodLinkNest RX10 18 yX6_init "MilkRound") (List.mem_of_getElem? (i := 86) (by decide +kernel))), va_Nw.of rfl (hts (.methodLinkNest RX10 25 yX2_init "MilkRound") (List.mem_of_getElem? (i := 159) (by decide +kernel))), va_Nw.of rfl (hts (.methodLinkNest RX10 54 yX7_init "MilkRound") (List.mem_of_getElem? (i := 221) (by decide +kernel)))⟩, va_AO.of (hts (.arrayOver (.object "MilkRound$House")) (List.mem_of_getElem? (i := 125) (by decide +kernel))), (hts (.arrayOver (.array .int)) (List.mem_of_getElem? (i := 226) (by decide +kernel)))⟩
set_option maxRecDepth 20000 in
theorem law_EV {s : State} {args : Array Value} (hts : ∀ w ∈ lw_tbl, w.before args s = true) (hg : (Jvm.Cond.and given_1 narrow_1).before args s = true) : ∃ xK xV : Nat → Nat, EV xK xV (lA s) s := by
  have hs := flat_of_before _ hg
  have hA : ∀ a : Nat, a < s.heap.size → ¬ lA s a := fun a h q => absurd h (Nat.not_lt.mpr q)
  have hel : ∀ j, j < 5 → (Cond.eq (.elem (.field (.string RX4 27) "java/lang/String" "value" "[B") (.int (Int32.ofNat j))) (.int (([104, 115, 97, 98, 119] : List Int32).getD j 0))).before args s = true := by
    intro j hj
    rcases (show j = 0 ∨ j = 1 ∨ j = 2 ∨ j = 3 ∨ j = 4 by omega) with rfl | rfl | rfl | rfl | rfl
    · exact hs (.eq (.elem (.field (.string RX4 27) "java/lang/String" "value" "[B") (.int 0)) (.int 104)) (by decide +kernel)
    · exact hs (.eq (.elem (.field (.string RX4 27) "java/lang/String" "value" "[B") (.int 1)) (.int 115)) (by decide +kernel)
    · exact hs (.eq (.elem (.field (.string RX4 27) "java/lang/String" "value" "[B") (.int 2)) (.int 97)) (by decide +kernel)
    · exact hs (.eq (.elem (.field (.string RX4 27) "java/lang/String" "value" "[B") (.int 3)) (.int 98)) (by decide +kernel)
    · exact hs (.eq (.elem (.field (.string RX4 27) "java/lang/String" "value" "[B") (.int 4)) (.int 119)) (by decide +kernel)
  obtain ⟨xK, xV, h1, h2⟩ := vk_Sof (args := args) (s := s) (N := 1) (tm := fun _ => (.string RX4 27)) (len := [5]) (byt := [[104, 115, 97, 98, 119]]) (A := lA s) (fun i hi => by have h0 : i = 0 := Nat.lt_one_iff.mp hi; subst h0; decide) (fun i hi => hs (.exactly (.string RX4 27) "java/lang/String") (by decide +kernel)) (fun i hi => hs (.eq (.field (.string RX4 27) "java/lang/String" "coder" "B") (.int 0)) (by decide +kernel)) (fun i hi => hs (.arrayOf (.field (.string RX4 27) "java/lang/String" "value" "[B") .byte) (by decide +kernel)) (fun i hi => by have h0 : i = 0 := Nat.lt_one_iff.mp hi; subst h0; exact hs (.eq (.length (.field (.string RX4 27) "java/lang/String" "value" "[B")) (.int 5)) (by decide +kernel)) (fun i hi j hj => by have h0 : i = 0 := Nat.lt_one_iff.mp hi; subst h0; exact hel j hj) (fun i j hi hj hij => absurd (show i = j by omega) hij) hA
  refine ⟨xK, xV, va_Nw.of rfl (hts (.methodLinkNest RX6 71 yX10_bitOf "MilkRound") (List.mem_of_getElem? (i := 465) (by decide +kernel))), ⟨va_Nw.of rfl (hts (.castable RX5 RX3) (List.mem_of_getElem? (i := 1014) (by decide +kernel))), va_Nw.of rfl (hts (.castable RX0 RX3) (List.mem_of_getElem? (i := 1015) (by decide +kernel))), va_Nw.of rfl (hts (.castable RX1 RX3) (List.mem_of_getElem? (i := 1016) (by decide +kernel))), va_Nw.of rfl (hts (.castable RX9 RX3) (List.mem_of_getElem? (i := 1017) (by decide +kernel))), va_Nw.of rfl (hts (.castable RX9 RX5) (List.mem_of_getElem? (i := 1013) (by decide +kernel)))⟩, ⟨va_Nc.of (hs (.not (.castable RX3 RX5)) (by decide +kernel)), va_Nc.of (hs (.not (.castable RX3 RX0)) (by decide +kernel)), va_Nc.of (hs (.not (.castable RX3 RX1)) (by decide +kernel)), va_Nc.of (hs (.not (.castable RX3 RX9)) (by decide +kernel)), va_Nc.of (hs (.not (.castable RX5 RX0)) (by decide +kernel)), va_Nc.of (hs (.not (.castable RX5 RX1)) (by decide +kernel)), va_Nc.of (hs (.not (.castable RX5 RX9)) (by decide +kernel)), va_Nc.of (hs (.not (.castable RX0 RX5)) (by decide +kernel)), va_Nc.of (hs (.not (.castable RX0 RX1)) (by decide +kernel)), va_Nc.of (hs (.not (.castable RX0 RX9)) (by decide +kernel)), va_Nc.of (hs (.not (.castable RX1 RX5)) (by decide +kernel)), va_Nc.of (hs (.not (.castable RX1 RX0)) (by decide +kernel)), va_Nc.of (hs (.not (.castable RX1 RX9)) (by decide +kernel)), va_Nc.of (hs (.not (.castable RX9 RX0)) (by decide +kernel)), va_Nc.of (hs (.not (.castable RX9 RX1)) (by decide +kernel))⟩, vk_R.of (hts (.stringRef RX4 27 "hsabw") (List.mem_of_getElem? (i := 294) (by decide +kernel))) (h2 0 (by decide)), h1, va_Zof (hts (.laysStatic "java/lang/String" "COMPACT_STRINGS" "Z") (List.mem_of_getElem? (i := 308) (by decide +kernel))) (hts (.initialized "java/lang/String") (List.mem_of_getElem? (i := 53) (by decide +kernel))) (va_eqt (hs (.eq (.static "java/lang/String" "COMPACT_STRINGS" "Z") (.int 1)) (by decide +kernel))) hA⟩
