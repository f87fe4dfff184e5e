set_option maxHeartbeats 4000000 in
set_option maxRecDepth 100000 in
theorem k_X11_kindBy (l : Launch) (dC : Nat → ClassId) (dI : Nat → Nat → Nat) (y : Nat → ClassId) (A : Nat → Prop) (ws : va_W) (Nv : State → Prop) (c0 : Nat) (hc : c0 < 128) : Met l yX11_kindBy wsX11_kindBy ({ frames := 0, cells := 0, slots := 0, locals := 0 } : Room) (c_P (dC, dI) vwCl (TY y) Nv ws [.int (nI (c0))]) (va_Qi (fun (r : Int32) (u : Unit) => r = kbF c0) (c_B (dC, dI) vwCl (TY y) (fun (u : Unit) => ws)) A) 0 0 A := by
  refine Met.ofW (cc := cX11_kindBy) (maxL := 1) (ret := (some .int)) (by decide) rfl ?_
  intro p e s m args below meth c s₁ BB hml hv
  obtain ⟨rfl, hP, hK, hE⟩ := hv
  have hx := BB.exec
  have hb := BB.bytes
  have hr := BB.returns
  have hts := atoms_spec (ws := wsX11_kindBy) BB.pre
  have hown : s.vm.findClass RX11 = some m.cls := findClass_of_methodNamed BB.named
  have hlocks := BB.notSynchronized
  have hS : va_S A s.heap s.heap [] := va_S.rf
  have hl := lv_entry ([.int (nI (c0))]) (n := 1) (Nat.le_of_ble_eq_true rfl)
  rw [lg_entry_eq]
  generalize (lg_sl ([.int (nI (c0))]) ++ List.replicate (1 - (lg_sl ([.int (nI (c0))])).length) Slot.unset).toArray = ls at hl ⊢
  have hl : lv_has ls 1 [(0, .int (nI (c0)))] := hl
  refine lv_iload_n hx hb dX11_kindBy_0 rfl (lv_at hl 0 rfl) ?_
  rcases (show c0 = 97 ∨ c0 = 98 ∨ c0 = 104 ∨ c0 = 115 ∨ c0 = 119 ∨ (c0 ≠ 97 ∧ c0 ≠ 98 ∧ c0 ≠ 104 ∧ c0 ≠ 115 ∧ c0 ≠ 119) by omega) with k_1 | k_1 | k_1 | k_1 | k_1 | k_1
  · refine n_top (y := nI 97) (by rw [k_1]) ?_
    refine lv_lookup (off := 55) (tgt := 56) hx hb dX11_kindBy_1 (by decide) (by decide) (by decide) ?_
    refine lv_iconst (v := nI (2)) hx hb dX11_kindBy_56 (by decide) ?_
    exact c_iret hx hb hr hlocks hK hS () hP (by rw [k_1]; rfl) dX11_kindBy_57
  · refine n_top (y := nI 98) (by rw [k_1]) ?_
    refine lv_lookup (off := 57) (tgt := 58) hx hb dX11_kindBy_1 (by decide) (by decide) (by decide) ?_
    refine lv_iconst (v := nI (3)) hx hb dX11_kindBy_58 (by decide) ?_
    exact c_iret hx hb hr hlocks hK hS () hP (by rw [k_1]; rfl) dX11_kindBy_59
  · refine n_top (y := nI 104) (by rw [k_1]) ?_
    refine lv_lookup (off := 51) (tgt := 52) hx hb dX11_kindBy_1 (by decide) (by decide) (by decide) ?_
    refine lv_iconst (v := nI (0)) hx hb dX11_kindBy_52 (by decide) ?_
    exact c_iret hx hb hr hlocks hK hS () hP (by rw [k_1]; rfl) dX11_kindBy_53
  · refine n_top (y := nI 115) (by rw [k_1]) ?_
    refine lv_lookup (off := 53) (tgt := 54) hx hb dX11_kindBy_1 (by decide) (by decide) (by decide) ?_
    refine lv_iconst (v := nI (1)) hx hb dX11_kindBy_54 (by decide) ?_
    exact c_iret hx hb hr hlocks hK hS () hP (by rw [k_1]; rfl) dX11_kindBy_55
  · refine n_top (y := nI 119) (by rw [k_1]) ?_
    refine lv_lookup (off := 59) (tgt := 60) hx hb dX11_kindBy_1 (by decide) (by decide) (by decide) ?_
    refine lv_iconst (v := nI (4)) hx hb dX11_kindBy_60 (by decide) ?_
    exact c_iret hx hb hr hlocks hK hS () hP (by rw [k_1]; rfl) dX11_kindBy_61
  · refine lv_lookup (off := 61) (tgt := 62) hx hb dX11_kindBy_1 (by decide) (by show Op.lookupswitch.offset [(97, 55), (98, 57), (104, 51), (115, 53), (119, 59)] 61 _ = _; rw [lv_osw (k := nI 97) (fun h9 => absurd ((nI_eq (by omega) (by decide)).mp h9) (by omega)) (by decide), lv_osw (k := nI 98) (fun h9 => absurd ((nI_eq (by omega) (by decide)).mp h9) (by omega)) (by decide), lv_osw (k := nI 104) (fun h9 => absurd ((nI_eq (by omega) (by decide)).mp h9) (by omega)) (by decide), lv_osw (k := nI 115) (fun h9 => absurd ((nI_eq (by omega) (by decide)).mp h9) (by omega)) (by decide), lv_osw (k := nI 119) (fun h9 => absurd ((nI_eq (by omega) (by decide)).mp h9) (by omega)) (by decide)]; rfl) (by decide) ?_
    refine lv_iconst (v := (-1)) hx hb dX11_kindBy_62 (by decide) ?_
    exact c_iret hx hb hr hlocks hK hS () hP (by rw [kbF, show kdB c0 = false from decide_eq_false (by omega)]; rfl) dX11_kindBy_63
theorem in_X11_figure_X11 : ∀ w ∈ wsX110, w ∈ wsX11_figure := fun w h => List.mem_cons_of_mem _ (List.mem_append_right _ h)
set_option maxHeartbeats 4000000 in
set_option maxRecDepth 100000 in
theorem k_X11_figure (l : Launch) (dC : Nat → ClassId) (dI : Nat → Nat → Nat) (y : Nat → ClassId) (A : Nat → Prop) (b : Nat → Nat) (hA0 : ad_ok A b 16) (rn : Nat) (n : Nat) (lo : Int32) (kp : Nat) (dy : Int32) (so : Int32) (he : Int32) (kn : Nat) (ak : Nat) (pl : Nat) (iw : Bool) (nm : Nat) (sd : Int64) (ik : Bool) (kr : Nat) (lo2 : Int32) (dy2 : Int32) (so2 : Int32) (he2 : Int32) (kn2 : Nat) (dgv : Int64) (kd : Nat → Nat) (len : Nat → Nat) (ord : Nat → Nat) (kh : Nat → Nat) (km : Nat → Nat) (pg : Nat → Nat) (cm : Nat → Nat) (sav : Nat → Nat) (bo : Nat → Nat) (cb : Nat → Nat) (sl : Nat → Nat) (len2 : Nat → Nat) (ord2 : Nat → Nat) (kh2 : Nat → Nat) (km2 : Nat → Nat) (k : Nat) (hk : k < 2 ^ 30) (hpl : pl ≤ 21) (hpg : ∀ j, pg j < 128) : Met l yX11_figure wsX11_figure ({ frames := 0, cells := 0, slots := 0, locals := 0 } : Room) (c_P (dC, dI) vwCl (TY y) (fun _ => True) (DW y b rn n lo kp dy so he kn ak pl iw nm sd ik kr lo2 dy2 so2 he2 kn2 dgv kd len ord kh km pg cm sav bo cb sl len2 ord2 kh2 km2) [.ref (b 0), .int (nI (k))]) (va_Qi (fun (r : Int32) (u : Unit) => r = fgI pg pl k) (c_B (dC, dI) vwCl (TY y) (fun (u : Unit) => (DW y b rn n lo kp dy so he kn ak pl iw nm sd ik kr lo2 dy2 so2 he2 kn2 dgv kd len ord kh km pg cm sav bo cb sl len2 ord2 kh2 km2))) A) 0 0 A := by
  refine Met.ofW (cc := cX11_figure) (maxL := 2) (ret := (some .int)) (by decide) rfl ?_
  intro p e s m args below meth c s₁ BB hml hv
  obtain ⟨rfl, hP, hK, hE⟩ := hv
  have hx := BB.exec
  have hb := BB.bytes
  have hr := BB.returns
  have hts := atoms_spec (ws := wsX11_figure) BB.pre
  have hown : s.vm.findClass RX11 = some m.cls := findClass_of_methodNamed BB.named
  have hlocks := BB.notSynchronized
  have hS : va_S A s.heap s.heap [] := va_S.rf
  have hl := lv_entry ([.ref (b 0), .int (nI (k))]) (n := 2) (Nat.le_of_ble_eq_true rfl)
  rw [lg_entry_eq]
  generalize (lg_sl ([.ref (b 0), .int (nI (k))]) ++ List.replicate (2 - (lg_sl ([.ref (b 0), .int (nI (k))])).length) Slot.unset).toArray = ls at hl ⊢
  have hl : lv_has ls 2 [(0, .ref (b 0)), (1, .int (nI (k)))] := hl
  refine lv_iload_n hx hb dX11_figure_0 rfl (lv_at hl 1 rfl) ?_
  refine lv_aload_n hx hb dX11_figure_1 rfl (lv_at hl 0 rfl) ?_
  refine va_get (D := (dC, dI)) (ci := 11) (C := RX11) (T := TX11) (N := 36) hx hb hts in_X11_figure_X11 hown hK hP 0 rfl rfl 14 (by decide) (hts (.fieldLink RX11 60 "MilkRoundModel" "pageLength" "I") (List.mem_of_getElem? (i := 1) rfl)) (fun _ h9 => h9) rfl dX11_figure_2 ?_
  refine n_icmp_ge (tgt := 20) hx hb dX11_figure_5 (by decide) (by omega) (by omega) (fun c_5 => ?_) (fun c_5 => ?_)
  · refine lv_iconst (v := (-1)) hx hb dX11_figure_20 (by decide) ?_
    exact c_iret hx hb hr hlocks hK hS () hP (by rw [fgI, if_neg (by omega)]) dX11_figure_21
  · refine lv_aload_n hx hb dX11_figure_8 rfl (lv_at hl 0 rfl) ?_
    refine va_get (D := (dC, dI)) (ci := 11) (C := RX11) (T := TX11) (N := 36) hx hb hts in_X11_figure_X11 hown hK hP 0 rfl rfl 15 (by decide) (hts (.fieldLink RX11 25 "MilkRoundModel" "page" "[B") (List.mem_of_getElem? (i := 2) rfl)) (fun _ h9 => h9) rfl dX11_figure_9 ?_
    refine lv_iload_n hx hb dX11_figure_12 rfl (lv_at hl 1 rfl) ?_
    refine n_bald hx hb hK hP 6 1 rfl rfl (by omega) (by decide) dX11_figure_13 ?_
    have hb_13 := hpg k
    refine lv_bipush (v := nI (48)) hx hb dX11_figure_14 (by decide) ?_
    refine lv_isub hx hb dX11_figure_16 ?_
    refine lv_goto (tgt := 21) hx hb dX11_figure_17 (by decide) ?_
    exact c_iret hx hb hr hlocks hK hS () hP (by rw [fgI, if_pos (by omega)]) dX11_figure_21
theorem in_X11_read_X11 : ∀ w ∈ wsX110, w ∈ wsX11_read := fun w h => List.mem_cons_of_mem _ (List.mem_append_right _ h)
set_option maxHeartbeats 4000000 in
set_option maxRecDepth 100000 in
theorem k_X11_read (l : Launch) (dC : Nat → ClassId) (dI : Nat → Nat → Nat) (y : Nat → ClassId) (A : Nat → Prop) (b : Nat → Nat) (hA0 : ad_ok A b 16) (rn : Nat) (n : Nat) (lo : Int32) (kp : Nat) (dy : Int32) (so : Int32) (he : Int32) (kn : Nat) (ak : Nat) (pl : Nat) (iw : Bool) (nm : Nat) (sd : Int64) (ik : Bool) (kr : Nat) (lo2 : Int32) (dy2 : Int32) (so2 : Int32) (he2 : Int32) (kn2 : Nat) (dgv : Int64) (kd : Nat → Nat) (len : Nat → Nat) (ord : Nat → Nat) (kh : Nat → Nat) (km : Nat → Nat) (pg : Nat → Nat) (cm : Nat → Nat) (sav : Nat → Nat) (bo : Nat → Nat) (cb : Nat → Nat) (sl : Nat → Nat) (len2 : Nat → Nat) (ord2 : Nat → Nat) (kh2 : Nat → Nat) (km2 : Nat → Nat) (hpl : pl ≤ 21) (hpg : ∀ j, pg j < 128) : Met l yX11_read wsX11_read ({ frames := 1, cells := 0, slots := 0, locals := 22 } : Room) (c_P (dC, dI) vwCl (TY y) (fun _ => True) (DW y b rn n lo kp dy so he kn ak pl iw nm sd ik kr lo2 dy2 so2 he2 kn2 dgv kd len ord kh km pg cm sav bo cb sl len2 ord2 kh2 km2) [.ref (b 0)]) (va_Qi (fun (r : Int32) (u : Bool × Nat) => r = nI (ffF pg pl) ∧ u.1 = whlB pg pl ∧ (u.1 = true → u.2 = pl / 3)) (c_B (dC, dI) vwCl (TY y) (fun (u : Bool × Nat) => (DW y b rn n lo kp dy so he kn ak pl u.1 u.2 sd ik kr lo2 dy2 so2 he2 kn2 dgv kd len ord kh km pg cm sav bo cb sl len2 ord2 kh2 km2))) A) 0 0 A := by
  refine Met.ofW (cc := cX11_read) (maxL := 2) (ret := (some .int)) (by decide) rfl ?_
  intro p e s m args below meth c s₁ BB hml hv
  obtain ⟨rfl, hP, hK, hE⟩ := hv
  have hx := BB.exec
  have hb := BB.bytes
  have hr := BB.returns
  have hts := atoms_spec (ws := wsX11_read) BB.pre
  have hown : s.vm.findClass RX11 = some m.cls := findClass_of_methodNamed BB.named
  have hlocks := BB.notSynchronized
  have hS : va_S A s.heap s.heap [] := va_S.rf
  have hl := lv_entry ([.ref (b 0)]) (n := 2) (Nat.le_of_ble_eq_true rfl)
  rw [lg_entry_eq]
  generalize (lg_sl ([.ref (b 0)]) ++ List.replicate (2 - (lg_sl ([.ref (b 0)])).length) Slot.unset).toArray = ls at hl ⊢
  have hl : lv_has ls 2 [(0, .ref (b 0))] := hl
  refine lv_aload_n hx hb dX11_read_0 rfl (lv_at hl 0 rfl) ?_
  refine lv_iconst (v := nI (0)) hx hb dX11_read_1 (by decide) ?_
  refine va_put (D := (dC, dI)) (ci := 11) (ty := tyX11 16) (C := RX11) (T := TX11) (N := 36) hx hb hts in_X11_read_X11 tyX11 tyX11_ok nmX11 hown hK hP (ad_D hA0 rfl) hS 0 rfl rfl 16 (by decide) (hts (.fieldLink RX11 64 "MilkRoundModel" "isWhole" "Z") (List.mem_of_getElem? (i := 1) rfl)) (fun _ h9 => h9) rfl (tyX11_ok 16 (by decide)) rfl rfl (Nat.le_of_ble_eq_true rfl) dX11_read_2 (fun H locs hP _ hS => ?_)
  have hP : va_P (dC, dI) vwCl (DW y b rn n lo kp dy so he kn ak pl false nm sd ik kr lo2 dy2 so2 he2 kn2 dgv kd len ord kh km pg cm sav bo cb sl len2 ord2 kh2 km2) H := hP
  refine lv_aload_n hx hb dX11_read_5 rfl (lv_at hl 0 rfl) ?_
  refine lv_iconst (v := nI (0)) hx hb dX11_read_6 (by decide) ?_
  refine va_put (D := (dC, dI)) (ci := 11) (ty := tyX11 17) (C := RX11) (T := TX11) (N := 36) hx hb hts in_X11_read_X11 tyX11 tyX11_ok nmX11 hown hK hP (ad_D hA0 rfl) hS 0 rfl rfl 17 (by decide) (hts (.fieldLink RX11 68 "MilkRoundModel" "newMany" "I") (List.mem_of_getElem? (i := 2) rfl)) (fun _ h9 => h9) rfl (tyX11_ok 17 (by decide)) rfl rfl (Nat.le_of_ble_eq_true rfl) dX11_read_7 (fun H locs hP _ hS => ?_)
  have hP : va_P (dC, dI) vwCl (DW y b rn n lo kp dy so he kn ak pl false 0 sd ik kr lo2 dy2 so2 he2 kn2 dgv kd len ord kh km pg cm sav bo cb sl len2 ord2 kh2 km2) H := hP
  refine lv_iconst (v := nI (0)) hx hb dX11_read_10 (by decide) ?_
  refine lv_istore_n (lv' := [(1, .int (nI (0))), (0, .ref (b 0))]) hx hb dX11_read_11 rfl hl (by decide) rfl (fun ls hl => ?_)
  have loop_12 : ∀ (dd_12 : Nat) (mh : Nat) (hm : mh < 6) (hI : PgI pg pl mh), 6 - mh < dd_12 → ∀ (H : Heap) (locs : List Loc) (ls : Array Slot), va_P (dC, dI) vwCl (DW y b rn n lo kp dy so he kn ak pl false mh sd ik kr lo2 dy2 so2 he2 kn2 dgv kd len ord kh km pg cm sav bo cb sl len2 ord2 kh2 km2) H → va_S A s.heap H locs → lv_has ls 2 [(1, .int (nI (3 * mh))), (0, .ref (b 0))] → W p l e (headSpec wsX11_read ({ frames := 1, cells := 0, slots := 0, locals := 22 } : Room)).room s m [.ref (b 0)].toArray below meth c H locs 0 0 (MQ below (va_Qi (fun (r : Int32) (u : Bool × Nat) => r = nI (ffF pg pl) ∧ u.1 = whlB pg pl ∧ (u.1 = true → u.2 = pl / 3)) (c_B (dC, dI) vwCl (TY y) (fun (u : Bool × Nat) => (DW y b rn n lo kp dy so he kn ak pl u.1 u.2 sd ik kr lo2 dy2 so2 he2 kn2 dgv kd len ord kh km pg cm sav bo cb sl len2 ord2 kh2 km2))) A) [.ref (b 0)].toArray s 0 0 A) (F0 m 12 ls []) := by
    intro dd_12
    induction dd_12 with
    | zero => intro mh hm hI hd; exact absurd hd (Nat.not_lt_zero _)
    | succ dd_12 ih_12 =>
      intro mh hm hI hd_12 H locs ls hP hS hl
      refine lv_aload_n hx hb dX11_read_12 rfl (lv_at hl 1 rfl) ?_
      refine va_get (D := (dC, dI)) (ci := 11) (C := RX11) (T := TX11) (N := 36) hx hb hts in_X11_read_X11 hown hK hP 0 rfl rfl 17 (by decide) (hts (.fieldLink RX11 68 "MilkRoundModel" "newMany" "I") (List.mem_of_getElem? (i := 2) rfl)) (fun _ h9 => h9) rfl dX11_read_13 ?_
      refine lv_bipush (v := nI (6)) hx hb dX11_read_16 (by decide) ?_
      refine n_icmp_ge (tgt := 201) hx hb dX11_read_18 (by decide) (by omega) (by omega) (fun c_18 => ?_) (fun c_18 => ?_)
      · exact absurd c_18 (by omega)
      · have h3 := hI.2.1
        refine lv_iload_n hx hb dX11_read_21 rfl (lv_at hl 0 rfl) ?_
        refine lv_aload_n hx hb dX11_read_22 rfl (lv_at hl 1 rfl) ?_
        refine va_get (D := (dC, dI)) (ci := 11) (C := RX11) (T := TX11) (N := 36) hx hb hts in_X11_read_X11 hown hK hP 0 rfl rfl 14 (by decide) (hts (.fieldLink RX11 60 "MilkRoundModel" "pageLength" "I") (List.mem_of_getElem? (i := 3) rfl)) (fun _ h9 => h9) rfl dX11_read_23 ?_
        refine n_icmp_eq (tgt := 42) hx hb dX11_read_26 (by decide) (by omega) (by omega) (fun c_26 => ?_) (fun c_26 => ?_)
        · refine lv_iload_n hx hb dX11_read_42 rfl (lv_at hl 0 rfl) ?_
          have z9 : ffF pg pl = 3 * mh ∧ whlB pg pl = false := Pg_a hI c_26
          exact c_iret hx hb hr hlocks hK hS (false, mh) hP ⟨congrArg nI z9.1.symm, z9.2.symm, fun q => Bool.noConfusion q⟩ dX11_read_43
        · refine lv_aload_n hx hb dX11_read_29 rfl (lv_at hl 1 rfl) ?_
          refine va_get (D := (dC, dI)) (ci := 11) (C := RX11) (T := TX11) (N := 36) hx hb hts in_X11_read_X11 hown hK hP 0 rfl rfl 15 (by decide) (hts (.fieldLink RX11 25 "MilkRoundModel" "page" "[B") (List.mem_of_getElem? (i := 4) rfl)) (fun _ h9 => h9) rfl dX11_read_30 ?_
          refine lv_iload_n hx hb dX11_read_33 rfl (lv_at hl 0 rfl) ?_
          refine n_bald hx hb hK hP 6 1 rfl rfl (by omega) (by decide) dX11_read_34 ?_
          have hb_34 := hpg (3 * mh)
          refine c_calli (va_runS (As := [.int (nI (pg (3 * mh)))]) (rest := []) ⟨hx, hb, hml, hown, hts⟩ (k_X11_kindBy l dC dI y A (DW y b rn n lo kp dy so he kn ak pl false mh sd ik kr lo2 dy2 so2 he2 kn2 dgv kd len ord kh km pg cm sav bo cb sl len2 ord2 kh2 km2) (fun _ => True) (pg (3 * mh)) (hpg _)) (va_cwS 1 hts gX11_read_X11_kindBy rfl rfl rfl (by decide +kernel) ⟨Nat.le_of_ble_eq_true rfl, Nat.le_of_ble_eq_true rfl⟩) (c_preS (c_N0 A) hK hE hS hP) rfl rfl hl.1 rfl (lv_room (Nat.le_of_ble_eq_true rfl)) dX11_read_35 ⟨Nat.le_refl _, Nat.le_refl _⟩) hS (fun r_35 u_35 H locs hw_35 hP hS => ?_)
          obtain rfl := hw_35
          refine lv_iconst (v := (-1)) hx hb dX11_read_38 (by decide) ?_
          refine lv_icmp_ne (tgt := 44) hx hb dX11_read_39 (by decide) (fun c_39 => ?_) (fun c_39 => ?_)
          · refine lv_aload_n hx hb dX11_read_44 rfl (lv_at hl 1 rfl) ?_
            refine lv_iload_n hx hb dX11_read_45 rfl (lv_at hl 0 rfl) ?_
            refine lv_iconst (v := nI (1)) hx hb dX11_read_46 (by decide) ?_
            refine n_iadd hx hb dX11_read_47 ?_
            refine c_calli (va_runV (As := [.int (nI ((3 * mh) + (1)))]) (rest := []) ⟨hx, hb, hml, hown, hts⟩ (k_X11_figure l dC dI y A b hA0 rn n lo kp dy so he kn ak pl false mh sd ik kr lo2 dy2 so2 he2 kn2 dgv kd len ord kh km pg cm sav bo cb sl len2 ord2 kh2 km2 (3 * mh + 1) (by omega) hpl hpg) (cwV 1 hts gX11_read_X11_figure rfl rfl rfl (by decide +kernel) ⟨Nat.le_of_ble_eq_true rfl, Nat.le_of_ble_eq_true rfl⟩) (c_preV (c_N0 A) hK hE hS hP (va_recv hK hP (ci := 11) (q0 := 0) rfl rfl)) rfl rfl hl.1 rfl (lv_room (Nat.le_of_ble_eq_true rfl)) dX11_read_48 ⟨Nat.le_refl _, Nat.le_refl _⟩) hS (fun r_48 u_48 H locs hw_48 hP hS => ?_)
            obtain rfl := hw_48
            refine lv_iconst (v := nI (0)) hx hb dX11_read_51 (by decide) ?_
            refine lv_bipush (v := nI (9)) hx hb dX11_read_52 (by decide) ?_
            refine c_calli (va_runS (As := [.int (fgI pg pl (3 * mh + 1)), .int (nI (0)), .int (nI (9))]) (rest := []) ⟨hx, hb, hml, hown, hts⟩ (k_X11_within l dC dI y A (DW y b rn n lo kp dy so he kn ak pl false mh sd ik kr lo2 dy2 so2 he2 kn2 dgv kd len ord kh km pg cm sav bo cb sl len2 ord2 kh2 km2) (fun _ => True) (fgI pg pl (3 * mh + 1)) (nI (0)) (nI (9)) ) (va_cwS 3 hts gX11_read_X11_within rfl rfl rfl (by decide +kernel) ⟨Nat.le_of_ble_eq_true rfl, Nat.le_of_ble_eq_true rfl⟩) (c_preS (c_N0 A) hK hE hS hP) rfl rfl hl.1 rfl (lv_room (Nat.le_of_ble_eq_true rfl)) dX11_read_54 ⟨Nat.le_refl _, Nat.le_refl _⟩) hS (fun r_54 u_54 H locs hw_54 hP hS => ?_)
            obtain rfl := hw_54
            refine n_top (y := bI (decide (3 * mh + 1 < pl) && dgB (pg (3 * mh + 1)))) (congrArg bI (fg09 (hpg _))) ?_
            refine n_bif_ne (tgt := 64) hx hb dX11_read_57 (by decide) (fun c_57 => ?_) (fun c_57 => ?_)
            · have hg57 := c_57
              rw [Bool.and_eq_true] at hg57
              have hq1 := of_decide_eq_true hg57.1
              have hg := hg57.2
              refine lv_aload_n hx hb dX11_read_64 rfl (lv_at hl 1 rfl) ?_
              refine lv_dup hx hb dX11_read_65 rfl ?_
              refine va_get (D := (dC, dI)) (ci := 11) (C := RX11) (T := TX11) (N := 36) hx hb hts in_X11_read_X11 hown hK hP 0 rfl rfl 17 (by decide) (hts (.fieldLink RX11 68 "MilkRoundModel" "newMany" "I") (List.mem_of_getElem? (i := 2) rfl)) (fun _ h9 => h9) rfl dX11_read_66 ?_
              refine lv_iconst (v := nI (1)) hx hb dX11_read_69 (by decide) ?_
              refine n_iadd hx hb dX11_read_70 ?_
              refine va_put (D := (dC, dI)) (ci := 11) (ty := tyX11 17) (C := RX11) (T := TX11) (N := 36) hx hb hts in_X11_read_X11 tyX11 tyX11_ok nmX11 hown hK hP (ad_D hA0 rfl) hS 0 rfl rfl 17 (by decide) (hts (.fieldLink RX11 68 "MilkRoundModel" "newMany" "I") (List.mem_of_getElem? (i := 2) rfl)) (fun _ h9 => h9) rfl (tyX11_ok 17 (by decide)) rfl rfl (Nat.le_of_ble_eq_true rfl) dX11_read_71 (fun H locs hP _ hS => ?_)
              have hP : va_P (dC, dI) vwCl (DW y b rn n lo kp dy so he kn ak pl false (mh + 1) sd ik kr lo2 dy2 so2 he2 kn2 dgv kd len ord kh km pg cm sav bo cb sl len2 ord2 kh2 km2) H := hP
              refine lv_iinc (v := nI (3 * mh + 2)) (lv' := [(1, .int (nI (3 * mh + 2))), (0, .ref (b 0))]) hx hb dX11_read_74 hl (k := 0) rfl (mr_inc2 _) (by decide) rfl (fun ls hl => ?_)
              refine lv_iload_n hx hb dX11_read_77 rfl (lv_at hl 0 rfl) ?_
              refine lv_aload_n hx hb dX11_read_78 rfl (lv_at hl 1 rfl) ?_
              refine va_get (D := (dC, dI)) (ci := 11) (C := RX11) (T := TX11) (N := 36) hx hb hts in_X11_read_X11 hown hK hP 0 rfl rfl 14 (by decide) (hts (.fieldLink RX11 60 "MilkRoundModel" "pageLength" "I") (List.mem_of_getElem? (i := 3) rfl)) (fun _ h9 => h9) rfl dX11_read_79 ?_
              refine n_icmp_ge (tgt := 165) hx hb dX11_read_82 (by decide) (by omega) (by omega) (fun c_82 => ?_) (fun c_82 => ?_)
              · refine lv_iload_n hx hb dX11_read_165 rfl (lv_at hl 0 rfl) ?_
                refine lv_aload_n hx hb dX11_read_166 rfl (lv_at hl 1 rfl) ?_
                refine va_get (D := (dC, dI)) (ci := 11) (C := RX11) (T := TX11) (N := 36) hx hb hts in_X11_read_X11 hown hK hP 0 rfl rfl 14 (by decide) (hts (.fieldLink RX11 60 "MilkRoundModel" "pageLength" "I") (List.mem_of_getElem? (i := 3) rfl)) (fun _ h9 => h9) rfl dX11_read_167 ?_
                refine n_icmp_eq (tgt := 193) hx hb dX11_read_170 (by decide) (by omega) (by omega) (fun c_170 => ?_) (fun c_170 => ?_)
                · refine lv_iload_n hx hb dX11_read_193 rfl (lv_at hl 0 rfl) ?_
                  have z9 : ffF pg pl = 3 * mh + 2 ∧ whlB pg pl = false := Pg_e1 hI (kbF_yes c_39) hg (by omega)
                  exact c_iret hx hb hr hlocks hK hS (false, mh + 1) hP ⟨congrArg nI z9.1.symm, z9.2.symm, fun q => Bool.noConfusion q⟩ dX11_read_194
                · exact absurd c_170 (by omega)
              · refine lv_aload_n hx hb dX11_read_85 rfl (lv_at hl 1 rfl) ?_
                refine va_get (D := (dC, dI)) (ci := 11) (C := RX11) (T := TX11) (N := 36) hx hb hts in_X11_read_X11 hown hK hP 0 rfl rfl 15 (by decide) (hts (.fieldLink RX11 25 "MilkRoundModel" "page" "[B") (List.mem_of_getElem? (i := 4) rfl)) (fun _ h9 => h9) rfl dX11_read_86 ?_
                refine lv_iload_n hx hb dX11_read_89 rfl (lv_at hl 0 rfl) ?_
                refine n_bald hx hb hK hP 6 1 rfl rfl (by omega) (by decide) dX11_read_90 ?_
                have hb_90 := hpg (3 * mh + 2)
                refine lv_bipush (v := nI (59)) hx hb dX11_read_91 (by decide) ?_
                refine n_icmp_ne (tgt := 165) hx hb dX11_read_93 (by decide) (by omega) (by omega) (fun c_93 => ?_) (fun c_93 => ?_)
                · refine lv_iload_n hx hb dX11_read_165 rfl (lv_at hl 0 rfl) ?_
                  refine lv_aload_n hx hb dX11_read_166 rfl (lv_at hl 1 rfl) ?_
                  refine va_get (D := (dC, dI)) (ci := 11) (C := RX11) (T := TX11) (N := 36) hx hb hts in_X11_read_X11 hown hK hP 0 rfl rfl 14 (by decide) (hts (.fieldLink RX11 60 "MilkRoundModel" "pageLength" "I") (List.mem_of_getElem? (i := 3) rfl)) (fun _ h9 => h9) rfl dX11_read_167 ?_
                  refine n_icmp_eq (tgt := 193) hx hb dX11_read_170 (by decide) (by omega) (by omega) (fun c_170 => ?_) (fun c_170 => ?_)
                  · exact absurd c_170 (by omega)
                  · refine lv_aload_n hx hb dX11_read_173 rfl (lv_at hl 1 rfl) ?_
                    refine va_get (D := (dC, dI)) (ci := 11) (C := RX11) (T := TX11) (N := 36) hx hb hts in_X11_read_X11 hown hK hP 0 rfl rfl 17 (by decide) (hts (.fieldLink RX11 68 "MilkRoundModel" "newMany" "I") (List.mem_of_getElem? (i := 2) rfl)) (fun _ h9 => h9) rfl dX11_read_174 ?_
                    refine lv_bipush (v := nI (6)) hx hb dX11_read_177 (by decide) ?_
                    refine n_icmp_eq (tgt := 193) hx hb dX11_read_179 (by decide) (by omega) (by omega) (fun c_179 => ?_) (fun c_179 => ?_)
                    · refine lv_iload_n hx hb dX11_read_193 rfl (lv_at hl 0 rfl) ?_
                      have z9 : ffF pg pl = 3 * mh + 2 ∧ whlB pg pl = false := Pg_e2 hI (kbF_yes c_39) hg (by omega) (decide_eq_false (by omega))
                      exact c_iret hx hb hr hlocks hK hS (false, mh + 1) hP ⟨congrArg nI z9.1.symm, z9.2.symm, fun q => Bool.noConfusion q⟩ dX11_read_194
                    · refine lv_aload_n hx hb dX11_read_182 rfl (lv_at hl 1 rfl) ?_
                      refine va_get (D := (dC, dI)) (ci := 11) (C := RX11) (T := TX11) (N := 36) hx hb hts in_X11_read_X11 hown hK hP 0 rfl rfl 15 (by decide) (hts (.fieldLink RX11 25 "MilkRoundModel" "page" "[B") (List.mem_of_getElem? (i := 4) rfl)) (fun _ h9 => h9) rfl dX11_read_183 ?_
                      refine lv_iload_n hx hb dX11_read_186 rfl (lv_at hl 0 rfl) ?_
                      refine n_bald hx hb hK hP 6 1 rfl rfl (by omega) (by decide) dX11_read_187 ?_
                      have hb_187 := hpg (3 * mh + 2)
                      refine lv_bipush (v := nI (44)) hx hb dX11_read_188 (by decide) ?_
                      refine n_icmp_eq (tgt := 195) hx hb dX11_read_190 (by decide) (by omega) (by omega) (fun c_190 => ?_) (fun c_190 => ?_)
                      · refine lv_iinc (v := nI (3 * mh + 2 + 1)) (lv' := [(1, .int (nI (3 * mh + 2 + 1))), (0, .ref (b 0))]) hx hb dX11_read_195 hl (k := 0) rfl (mr_inc _) (by decide) rfl (fun ls hl => ?_)
                        rw [show 3 * mh + 2 + 1 = 3 * (mh + 1) by omega] at hl
                        have hl : lv_has ls 2 [(1, .int (nI (3 * (mh + 1)))), (0, .ref (b 0))] := hl
                        refine lv_goto (tgt := 12) hx hb dX11_read_198 (by decide) ?_
                        exact ih_12 (mh + 1) (by omega) (Pg_n hI (kbF_yes c_39) hg (by omega) c_190 (by omega)) (by omega) _ _ _ hP hS (lv_sub hl [0, 1] rfl)
                      · refine lv_iload_n hx hb dX11_read_193 rfl (lv_at hl 0 rfl) ?_
                        have z9 : ffF pg pl = 3 * mh + 2 ∧ whlB pg pl = false := Pg_e2 hI (kbF_yes c_39) hg (by omega) (decide_eq_false (by omega))
                        exact c_iret hx hb hr hlocks hK hS (false, mh + 1) hP ⟨congrArg nI z9.1.symm, z9.2.symm, fun q => Bool.noConfusion q⟩ dX11_read_194
                · refine lv_aload_n hx hb dX11_read_96 rfl (lv_at hl 1 rfl) ?_
                  refine va_get (D := (dC, dI)) (ci := 11) (C := RX11) (T := TX11) (N := 36) hx hb hts in_X11_read_X11 hown hK hP 0 rfl rfl 17 (by decide) (hts (.fieldLink RX11 68 "MilkRoundModel" "newMany" "I") (List.mem_of_getElem? (i := 2) rfl)) (fun _ h9 => h9) rfl dX11_read_97 ?_
                  refine lv_iconst (v := nI (1)) hx hb dX11_read_100 (by decide) ?_
                  refine n_icmp_le (tgt := 165) hx hb dX11_read_101 (by decide) (by omega) (by omega) (fun c_101 => ?_) (fun c_101 => ?_)
                  · refine lv_iload_n hx hb dX11_read_165 rfl (lv_at hl 0 rfl) ?_
                    refine lv_aload_n hx hb dX11_read_166 rfl (lv_at hl 1 rfl) ?_
                    refine va_get (D := (dC, dI)) (ci := 11) (C := RX11) (T := TX11) (N := 36) hx hb hts in_X11_read_X11 hown hK hP 0 rfl rfl 14 (by decide) (hts (.fieldLink RX11 60 "MilkRoundModel" "pageLength" "I") (List.mem_of_getElem? (i := 3) rfl)) (fun _ h9 => h9) rfl dX11_read_167 ?_
                    refine n_icmp_eq (tgt := 193) hx hb dX11_read_170 (by decide) (by omega) (by omega) (fun c_170 => ?_) (fun c_170 => ?_)
                    · exact absurd c_170 (by omega)
                    · refine lv_aload_n hx hb dX11_read_173 rfl (lv_at hl 1 rfl) ?_
                      refine va_get (D := (dC, dI)) (ci := 11) (C := RX11) (T := TX11) (N := 36) hx hb hts in_X11_read_X11 hown hK hP 0 rfl rfl 17 (by decide) (hts (.fieldLink RX11 68 "MilkRoundModel" "newMany" "I") (List.mem_of_getElem? (i := 2) rfl)) (fun _ h9 => h9) rfl dX11_read_174 ?_
                      refine lv_bipush (v := nI (6)) hx hb dX11_read_177 (by decide) ?_
                      refine n_icmp_eq (tgt := 193) hx hb dX11_read_179 (by decide) (by omega) (by omega) (fun c_179 => ?_) (fun c_179 => ?_)
                      · exact absurd c_179 (by omega)
                      · refine lv_aload_n hx hb dX11_read_182 rfl (lv_at hl 1 rfl) ?_
                        refine va_get (D := (dC, dI)) (ci := 11) (C := RX11) (T := TX11) (N := 36) hx hb hts in_X11_read_X11 hown hK hP 0 rfl rfl 15 (by decide) (hts (.fieldLink RX11 25 "MilkRoundModel" "page" "[B") (List.mem_of_getElem? (i := 4) rfl)) (fun _ h9 => h9) rfl dX11_read_183 ?_
                        refine lv_iload_n hx hb dX11_read_186 rfl (lv_at hl 0 rfl) ?_
                        refine n_bald hx hb hK hP 6 1 rfl rfl (by omega) (by decide) dX11_read_187 ?_
                        have hb_187 := hpg (3 * mh + 2)
                        refine lv_bipush (v := nI (44)) hx hb dX11_read_188 (by decide) ?_
                        refine n_icmp_eq (tgt := 195) hx hb dX11_read_190 (by decide) (by omega) (by omega) (fun c_190 => ?_) (fun c_190 => ?_)
                        · exact absurd c_190 (by omega)
                        · refine lv_iload_n hx hb dX11_read_193 rfl (lv_at hl 0 rfl) ?_
                          have z9 : ffF pg pl = 3 * mh + 2 ∧ whlB pg pl = false := Pg_e2 hI (kbF_yes c_39) hg (by omega) (decide_eq_false (by omega))
                          exact c_iret hx hb hr hlocks hK hS (false, mh + 1) hP ⟨congrArg nI z9.1.symm, z9.2.symm, fun q => Bool.noConfusion q⟩ dX11_read_194
                  · refine lv_aload_n hx hb dX11_read_104 rfl (lv_at hl 1 rfl) ?_
                    refine lv_aload_n hx hb dX11_read_105 rfl (lv_at hl 1 rfl) ?_
                    refine lv_iload_n hx hb dX11_read_106 rfl (lv_at hl 0 rfl) ?_
                    refine lv_iconst (v := nI (1)) hx hb dX11_read_107 (by decide) ?_
                    refine n_iadd hx hb dX11_read_108 ?_
                    refine c_calli (va_runV (As := [.int (nI ((3 * mh + 2) + (1)))]) (rest := [.ref (b 0)]) ⟨hx, hb, hml, hown, hts⟩ (k_X11_figure l dC dI y A b hA0 rn n lo kp dy so he kn ak pl false (mh + 1) sd ik kr lo2 dy2 so2 he2 kn2 dgv kd len ord kh km pg cm sav bo cb sl len2 ord2 kh2 km2 (3 * mh + 3) (by omega) hpl hpg) (cwV 1 hts gX11_read_X11_figure rfl rfl rfl (by decide +kernel) ⟨Nat.le_of_ble_eq_true rfl, Nat.le_of_ble_eq_true rfl⟩) (c_preV (c_N0 A) hK hE hS hP (va_recv hK hP (ci := 11) (q0 := 0) rfl rfl)) rfl rfl hl.1 rfl (lv_room (Nat.le_of_ble_eq_true rfl)) dX11_read_109 ⟨Nat.le_refl _, Nat.le_refl _⟩) hS (fun r_109 u_109 H locs hw_109 hP hS => ?_)
                    obtain rfl := hw_109
                    refine lv_iconst (v := nI (1)) hx hb dX11_read_112 (by decide) ?_
                    refine lv_bipush (v := nI (9)) hx hb dX11_read_113 (by decide) ?_
                    refine c_calli (va_runS (As := [.int (fgI pg pl (3 * mh + 3)), .int (nI (1)), .int (nI (9))]) (rest := [.ref (b 0)]) ⟨hx, hb, hml, hown, hts⟩ (k_X11_within l dC dI y A (DW y b rn n lo kp dy so he kn ak pl false (mh + 1) sd ik kr lo2 dy2 so2 he2 kn2 dgv kd len ord kh km pg cm sav bo cb sl len2 ord2 kh2 km2) (fun _ => True) (fgI pg pl (3 * mh + 3)) (nI (1)) (nI (9)) ) (va_cwS 3 hts gX11_read_X11_within rfl rfl rfl (by decide +kernel) ⟨Nat.le_of_ble_eq_true rfl, Nat.le_of_ble_eq_true rfl⟩) (c_preS (c_N0 A) hK hE hS hP) rfl rfl hl.1 rfl (lv_room (Nat.le_of_ble_eq_true rfl)) dX11_read_115 ⟨Nat.le_refl _, Nat.le_refl _⟩) hS (fun r_115 u_115 H locs hw_115 hP hS => ?_)
                    obtain rfl := hw_115
                    refine n_top (y := bI (decide (3 * mh + 3 < pl) && dkB (pg (3 * mh + 3)))) (congrArg bI (fg19 (hpg _))) ?_
                    refine n_bif_eq (tgt := 135) hx hb dX11_read_118 (by decide) (fun c_118 => ?_) (fun c_118 => ?_)
                    · refine lv_iconst (v := nI (0)) hx hb dX11_read_135 (by decide) ?_
                      refine va_put (D := (dC, dI)) (ci := 11) (ty := tyX11 16) (C := RX11) (T := TX11) (N := 36) hx hb hts in_X11_read_X11 tyX11 tyX11_ok nmX11 hown hK hP (ad_D hA0 rfl) hS 0 rfl rfl 16 (by decide) (hts (.fieldLink RX11 64 "MilkRoundModel" "isWhole" "Z") (List.mem_of_getElem? (i := 1) rfl)) (fun _ h9 => h9) rfl (tyX11_ok 16 (by decide)) rfl rfl (Nat.le_of_ble_eq_true rfl) dX11_read_136 (fun H locs hP _ hS => ?_)
                      have hP : va_P (dC, dI) vwCl (DW y b rn n lo kp dy so he kn ak pl false (mh + 1) sd ik kr lo2 dy2 so2 he2 kn2 dgv kd len ord kh km pg cm sav bo cb sl len2 ord2 kh2 km2) H := hP
                      refine lv_aload_n hx hb dX11_read_139 rfl (lv_at hl 1 rfl) ?_
                      refine lv_iload_n hx hb dX11_read_140 rfl (lv_at hl 0 rfl) ?_
                      refine lv_iconst (v := nI (1)) hx hb dX11_read_141 (by decide) ?_
                      refine n_iadd hx hb dX11_read_142 ?_
                      refine c_calli (va_runV (As := [.int (nI ((3 * mh + 2) + (1)))]) (rest := []) ⟨hx, hb, hml, hown, hts⟩ (k_X11_figure l dC dI y A b hA0 rn n lo kp dy so he kn ak pl false (mh + 1) sd ik kr lo2 dy2 so2 he2 kn2 dgv kd len ord kh km pg cm sav bo cb sl len2 ord2 kh2 km2 (3 * mh + 3) (by omega) hpl hpg) (cwV 1 hts gX11_read_X11_figure rfl rfl rfl (by decide +kernel) ⟨Nat.le_of_ble_eq_true rfl, Nat.le_of_ble_eq_true rfl⟩) (c_preV (c_N0 A) hK hE hS hP (va_recv hK hP (ci := 11) (q0 := 0) rfl rfl)) rfl rfl hl.1 rfl (lv_room (Nat.le_of_ble_eq_true rfl)) dX11_read_143 ⟨Nat.le_refl _, Nat.le_refl _⟩) hS (fun r_143 u_143 H locs hw_143 hP hS => ?_)
                      obtain rfl := hw_143
                      refine lv_iconst (v := nI (1)) hx hb dX11_read_146 (by decide) ?_
                      refine lv_bipush (v := nI (9)) hx hb dX11_read_147 (by decide) ?_
                      refine c_calli (va_runS (As := [.int (fgI pg pl (3 * mh + 3)), .int (nI (1)), .int (nI (9))]) (rest := []) ⟨hx, hb, hml, hown, hts⟩ (k_X11_within l dC dI y A (DW y b rn n lo kp dy so he kn ak pl false (mh + 1) sd ik kr lo2 dy2 so2 he2 kn2 dgv kd len ord kh km pg cm sav bo cb sl len2 ord2 kh2 km2) (fun _ => True) (fgI pg pl (3 * mh + 3)) (nI (1)) (nI (9)) ) (va_cwS 3 hts gX11_read_X11_within rfl rfl rfl (by decide +kernel) ⟨Nat.le_of_ble_eq_true rfl, Nat.le_of_ble_eq_true rfl⟩) (c_preS (c_N0 A) hK hE hS hP) rfl rfl hl.1 rfl (lv_room (Nat.le_of_ble_eq_true rfl)) dX11_read_149 ⟨Nat.le_refl _, Nat.le_refl _⟩) hS (fun r_149 u_149 H locs hw_149 hP hS => ?_)
                      obtain rfl := hw_149
                      refine n_top (y := bI (decide (3 * mh + 3 < pl) && dkB (pg (3 * mh + 3)))) (congrArg bI (fg19 (hpg _))) ?_
                      refine n_bif_eq (tgt := 161) hx hb dX11_read_152 (by decide) (fun c_152 => ?_) (fun c_152 => ?_)
                      · refine lv_iload_n hx hb dX11_read_161 rfl (lv_at hl 0 rfl) ?_
                        refine lv_iconst (v := nI (1)) hx hb dX11_read_162 (by decide) ?_
                        refine n_iadd hx hb dX11_read_163 ?_
                        have z9 : ffF pg pl = 3 * mh + 3 ∧ whlB pg pl = false := by
                          rcases Nat.lt_or_ge (3 * mh + 3) pl with q1 | q1
                          · exact Pg_d2 hI (kbF_yes c_39) hg c_93 (by omega) q1 (by rw [decide_eq_true q1, Bool.true_and] at c_118; exact c_118)
                          · exact Pg_d1 hI (kbF_yes c_39) hg c_93 (by omega) (by omega)
                        exact c_iret hx hb hr hlocks hK hS (false, mh + 1) hP ⟨congrArg nI z9.1.symm, z9.2.symm, fun q => Bool.noConfusion q⟩ dX11_read_164
                      · exact absurd (c_118.symm.trans c_152) (by decide)
                    · refine lv_iload_n hx hb dX11_read_121 rfl (lv_at hl 0 rfl) ?_
                      refine lv_iconst (v := nI (2)) hx hb dX11_read_122 (by decide) ?_
                      refine n_iadd hx hb dX11_read_123 ?_
                      refine lv_aload_n hx hb dX11_read_124 rfl (lv_at hl 1 rfl) ?_
                      refine va_get (D := (dC, dI)) (ci := 11) (C := RX11) (T := TX11) (N := 36) hx hb hts in_X11_read_X11 hown hK hP 0 rfl rfl 14 (by decide) (hts (.fieldLink RX11 60 "MilkRoundModel" "pageLength" "I") (List.mem_of_getElem? (i := 3) rfl)) (fun _ h9 => h9) rfl dX11_read_125 ?_
                      refine n_icmp_ne (tgt := 135) hx hb dX11_read_128 (by decide) (by omega) (by omega) (fun c_128 => ?_) (fun c_128 => ?_)
                      · refine lv_iconst (v := nI (0)) hx hb dX11_read_135 (by decide) ?_
                        refine va_put (D := (dC, dI)) (ci := 11) (ty := tyX11 16) (C := RX11) (T := TX11) (N := 36) hx hb hts in_X11_read_X11 tyX11 tyX11_ok nmX11 hown hK hP (ad_D hA0 rfl) hS 0 rfl rfl 16 (by decide) (hts (.fieldLink RX11 64 "MilkRoundModel" "isWhole" "Z") (List.mem_of_getElem? (i := 1) rfl)) (fun _ h9 => h9) rfl (tyX11_ok 16 (by decide)) rfl rfl (Nat.le_of_ble_eq_true rfl) dX11_read_136 (fun H locs hP _ hS => ?_)
                        have hP : va_P (dC, dI) vwCl (DW y b rn n lo kp dy so he kn ak pl false (mh + 1) sd ik kr lo2 dy2 so2 he2 kn2 dgv kd len ord kh km pg cm sav bo cb sl len2 ord2 kh2 km2) H := hP
                        refine lv_aload_n hx hb dX11_read_139 rfl (lv_at hl 1 rfl) ?_
                        refine lv_iload_n hx hb dX11_read_140 rfl (lv_at hl 0 rfl) ?_
                        refine lv_iconst (v := nI (1)) hx hb dX11_read_141 (by decide) ?_
                        refine n_iadd hx hb dX11_read_142 ?_
                        refine c_calli (va_runV (As := [.int (nI ((3 * mh + 2) + (1)))]) (rest := []) ⟨hx, hb, hml, hown, hts⟩ (k_X11_figure l dC dI y A b hA0 rn n lo kp dy so he kn ak pl false (mh + 1) sd ik kr lo2 dy2 so2 he2 kn2 dgv kd len ord kh km pg cm sav bo cb sl len2 ord2 kh2 km2 (3 * mh + 3) (by omega) hpl hpg) (cwV 1 hts gX11_read_X11_figure rfl rfl rfl (by decide +kernel) ⟨Nat.le_of_ble_eq_true rfl, Nat.le_of_ble_eq_true rfl⟩) (c_preV (c_N0 A) hK hE hS hP (va_recv hK hP (ci := 11) (q0 := 0) rfl rfl)) rfl rfl hl.1 rfl (lv_room (Nat.le_of_ble_eq_true rfl)) dX11_read_143 ⟨Nat.le_refl _, Nat.le_refl _⟩) hS (fun r_143 u_143 H locs hw_143 hP hS => ?_)
                        obtain rfl := hw_143
                        refine lv_iconst (v := nI (1)) hx hb dX11_read_146 (by decide) ?_
                        refine lv_bipush (v := nI (9)) hx hb dX11_read_147 (by decide) ?_
                        refine c_calli (va_runS (As := [.int (fgI pg pl (3 * mh + 3)), .int (nI (1)), .int (nI (9))]) (rest := []) ⟨hx, hb, hml, hown, hts⟩ (k_X11_within l dC dI y A (DW y b rn n lo kp dy so he kn ak pl false (mh + 1) sd ik kr lo2 dy2 so2 he2 kn2 dgv kd len ord kh km pg cm sav bo cb sl len2 ord2 kh2 km2) (fun _ => True) (fgI pg pl (3 * mh + 3)) (nI (1)) (nI (9)) ) (va_cwS 3 hts gX11_read_X11_within rfl rfl rfl (by decide +kernel) ⟨Nat.le_of_ble_eq_true rfl, Nat.le_of_ble_eq_true rfl⟩) (c_preS (c_N0 A) hK hE hS hP) rfl rfl hl.1 rfl (lv_room (Nat.le_of_ble_eq_true rfl)) dX11_read_149 ⟨Nat.le_refl _, Nat.le_refl _⟩) hS (fun r_149 u_149 H locs hw_149 hP hS => ?_)
                        obtain rfl := hw_149
                        refine n_top (y := bI (decide (3 * mh + 3 < pl) && dkB (pg (3 * mh + 3)))) (congrArg bI (fg19 (hpg _))) ?_
                        refine n_bif_eq (tgt := 161) hx hb dX11_read_152 (by decide) (fun c_152 => ?_) (fun c_152 => ?_)
                        · exact absurd (c_118.symm.trans c_152) (by decide)
                        · refine lv_iload_n hx hb dX11_read_155 rfl (lv_at hl 0 rfl) ?_
                          refine lv_iconst (v := nI (2)) hx hb dX11_read_156 (by decide) ?_
                          refine n_iadd hx hb dX11_read_157 ?_
                          refine lv_goto (tgt := 164) hx hb dX11_read_158 (by decide) ?_
                          rw [Bool.and_eq_true] at c_118
                          have hz3 := of_decide_eq_true c_118.1
                          have z9 : ffF pg pl = 3 * mh + 4 ∧ whlB pg pl = false := Pg_d4 hI (kbF_yes c_39) hg c_93 (by omega) c_118.2 (by omega)
                          exact c_iret hx hb hr hlocks hK hS (false, mh + 1) hP ⟨congrArg nI z9.1.symm, z9.2.symm, fun q => Bool.noConfusion q⟩ dX11_read_164
                      · refine lv_iconst (v := nI (1)) hx hb dX11_read_131 (by decide) ?_
                        refine lv_goto (tgt := 136) hx hb dX11_read_132 (by decide) ?_
                        refine va_put (D := (dC, dI)) (ci := 11) (ty := tyX11 16) (C := RX11) (T := TX11) (N := 36) hx hb hts in_X11_read_X11 tyX11 tyX11_ok nmX11 hown hK hP (ad_D hA0 rfl) hS 0 rfl rfl 16 (by decide) (hts (.fieldLink RX11 64 "MilkRoundModel" "isWhole" "Z") (List.mem_of_getElem? (i := 1) rfl)) (fun _ h9 => h9) rfl (tyX11_ok 16 (by decide)) rfl rfl (Nat.le_of_ble_eq_true rfl) dX11_read_136 (fun H locs hP _ hS => ?_)
                        have hP : va_P (dC, dI) vwCl (DW y b rn n lo kp dy so he kn ak pl true (mh + 1) sd ik kr lo2 dy2 so2 he2 kn2 dgv kd len ord kh km pg cm sav bo cb sl len2 ord2 kh2 km2) H := hP
                        refine lv_aload_n hx hb dX11_read_139 rfl (lv_at hl 1 rfl) ?_
                        refine lv_iload_n hx hb dX11_read_140 rfl (lv_at hl 0 rfl) ?_
                        refine lv_iconst (v := nI (1)) hx hb dX11_read_141 (by decide) ?_
                        refine n_iadd hx hb dX11_read_142 ?_
                        refine c_calli (va_runV (As := [.int (nI ((3 * mh + 2) + (1)))]) (rest := []) ⟨hx, hb, hml, hown, hts⟩ (k_X11_figure l dC dI y A b hA0 rn n lo kp dy so he kn ak pl true (mh + 1) sd ik kr lo2 dy2 so2 he2 kn2 dgv kd len ord kh km pg cm sav bo cb sl len2 ord2 kh2 km2 (3 * mh + 3) (by omega) hpl hpg) (cwV 1 hts gX11_read_X11_figure rfl rfl rfl (by decide +kernel) ⟨Nat.le_of_ble_eq_true rfl, Nat.le_of_ble_eq_true rfl⟩) (c_preV (c_N0 A) hK hE hS hP (va_recv hK hP (ci := 11) (q0 := 0) rfl rfl)) rfl rfl hl.1 rfl (lv_room (Nat.le_of_ble_eq_true rfl)) dX11_read_143 ⟨Nat.le_refl _, Nat.le_refl _⟩) hS (fun r_143 u_143 H locs hw_143 hP hS => ?_)
                        obtain rfl := hw_143
                        refine lv_iconst (v := nI (1)) hx hb dX11_read_146 (by decide) ?_
                        refine lv_bipush (v := nI (9)) hx hb dX11_read_147 (by decide) ?_
                        refine c_calli (va_runS (As := [.int (fgI pg pl (3 * mh + 3)), .int (nI (1)), .int (nI (9))]) (rest := []) ⟨hx, hb, hml, hown, hts⟩ (k_X11_within l dC dI y A (DW y b rn n lo kp dy so he kn ak pl true (mh + 1) sd ik kr lo2 dy2 so2 he2 kn2 dgv kd len ord kh km pg cm sav bo cb sl len2 ord2 kh2 km2) (fun _ => True) (fgI pg pl (3 * mh + 3)) (nI (1)) (nI (9)) ) (va_cwS 3 hts gX11_read_X11_within rfl rfl rfl (by decide +kernel) ⟨Nat.le_of_ble_eq_true rfl, Nat.le_of_ble_eq_true rfl⟩) (c_preS (c_N0 A) hK hE hS hP) rfl rfl hl.1 rfl (lv_room (Nat.le_of_ble_eq_true rfl)) dX11_read_149 ⟨Nat.le_refl _, Nat.le_refl _⟩) hS (fun r_149 u_149 H locs hw_149 hP hS => ?_)
                        obtain rfl := hw_149
                        refine n_top (y := bI (decide (3 * mh + 3 < pl) && dkB (pg (3 * mh + 3)))) (congrArg bI (fg19 (hpg _))) ?_
                        refine n_bif_eq (tgt := 161) hx hb dX11_read_152 (by decide) (fun c_152 => ?_) (fun c_152 => ?_)
                        · exact absurd (c_118.symm.trans c_152) (by decide)
                        · refine lv_iload_n hx hb dX11_read_155 rfl (lv_at hl 0 rfl) ?_
                          refine lv_iconst (v := nI (2)) hx hb dX11_read_156 (by decide) ?_
                          refine n_iadd hx hb dX11_read_157 ?_
                          refine lv_goto (tgt := 164) hx hb dX11_read_158 (by decide) ?_
                          rw [Bool.and_eq_true] at c_118
                          have hz3 := of_decide_eq_true c_118.1
                          have z9 : ffF pg pl = 3 * mh + 4 ∧ whlB pg pl = true := Pg_d3 hI (kbF_yes c_39) hg c_93 (by omega) c_118.2 (by omega)
                          exact c_iret hx hb hr hlocks hK hS (true, mh + 1) hP ⟨congrArg nI z9.1.symm, z9.2.symm, fun _ => by show mh + 1 = pl / 3; omega⟩ dX11_read_164
            · refine lv_iload_n hx hb dX11_read_60 rfl (lv_at hl 0 rfl) ?_
              refine lv_iconst (v := nI (1)) hx hb dX11_read_61 (by decide) ?_
              refine n_iadd hx hb dX11_read_62 ?_
              have z9 : ffF pg pl = 3 * mh + 1 ∧ whlB pg pl = false := by
                rcases Nat.lt_or_ge (3 * mh + 1) pl with q1 | q1
                · exact Pg_c2 hI (kbF_yes c_39) q1 (by rw [decide_eq_true q1, Bool.true_and] at c_57; exact c_57)
                · exact Pg_c1 hI (kbF_yes c_39) (by omega)
              exact c_iret hx hb hr hlocks hK hS (false, mh) hP ⟨congrArg nI z9.1.symm, z9.2.symm, fun q => Bool.noConfusion q⟩ dX11_read_63
          · refine lv_iload_n hx hb dX11_read_42 rfl (lv_at hl 0 rfl) ?_
            have z9 : ffF pg pl = 3 * mh ∧ whlB pg pl = false := Pg_b hI (by omega) (kbF_no c_39)
            exact c_iret hx hb hr hlocks hK hS (false, mh) hP ⟨congrArg nI z9.1.symm, z9.2.symm, fun q => Bool.noConfusion q⟩ dX11_read_43
  exact loop_12 _ 0 (by decide) (PgI_0 pg pl) (Nat.lt_succ_self _) _ _ _ hP hS (lv_sub hl [0, 1] rfl)
set_option maxHeartbeats 4000000 in
set_option maxRecDepth 100000 in
theorem k_X11_fault (l : Launch) (dC : Nat → ClassId) (dI : Nat → Nat → Nat) (y : Nat → ClassId) (A : Nat → Prop) (b : Nat → Nat) (hA0 : ad_ok A b 16) (rn : Nat) (n : Nat) (lo : Int32) (kp : Nat) (dy : Int32) (so : Int32) (he : Int32) (kn : Nat) (ak : Nat) (pl : Nat) (iw : Bool) (nm : Nat) (sd : Int64) (ik : Bool) (kr : Nat) (lo2 : Int32) (dy2 : Int32) (so2 : Int32) (he2 : Int32) (kn2 : Nat) (dgv : Int64) (kd : Nat → Nat) (len : Nat → Nat) (ord : Nat → Nat) (kh : Nat → Nat) (km : Nat → Nat) (pg : Nat → Nat) (cm : Nat → Nat) (sav : Nat → Nat) (bo : Nat → Nat) (cb : Nat → Nat) (sl : Nat → Nat) (len2 : Nat → Nat) (ord2 : Nat → Nat) (kh2 : Nat → Nat) (km2 : Nat → Nat) (hpl : pl ≤ 21) (hpg : ∀ j, pg j < 128) : Met l yX11_fault wsX11_fault ({ frames := 2, cells := 0, slots := 0, locals := 43 } : Room) (c_P (dC, dI) vwCl (TY y) (fun _ => True) (DW y b rn n lo kp dy so he kn ak pl iw nm sd ik kr lo2 dy2 so2 he2 kn2 dgv kd len ord kh km pg cm sav bo cb sl len2 ord2 kh2 km2) [.ref (b 0)]) (va_Qi (fun (r : Int32) (u : Bool × Nat) => r = nI (ffF pg pl)) (c_B (dC, dI) vwCl (TY y) (fun (u : Bool × Nat) => (DW y b rn n lo kp dy so he kn ak pl u.1 u.2 sd ik kr lo2 dy2 so2 he2 kn2 dgv kd len ord kh km pg cm sav bo cb sl len2 ord2 kh2 km2))) A) 0 0 A := by
  refine Met.ofW (cc := cX11_fault) (maxL := 1) (ret := (some .int)) (by decide) rfl ?_
  intro p e s m args below meth c s₁ BB hml hv
  obtain ⟨rfl, hP, hK, hE⟩ := hv
  have hx := BB.exec
  have hb := BB.bytes
  have hr := BB.returns
  have hts := atoms_spec (ws := wsX11_fault) BB.pre
  have hown : s.vm.findClass RX11 = some m.cls := findClass_of_methodNamed BB.named
  have hlocks := BB.notSynchronized
  have hS : va_S A s.heap s.heap [] := va_S.rf
  have hl := lv_entry ([.ref (b 0)]) (n := 1) (Nat.le_of_ble_eq_true rfl)
  rw [lg_entry_eq]
  generalize (lg_sl ([.ref (b 0)]) ++ List.replicate (1 - (lg_sl ([.ref (b 0)])).length) Slot.unset).toArray = ls at hl ⊢
  have hl : lv_has ls 1 [(0, .ref (b 0))] := hl
  refine lv_aload_n hx hb dX11_fault_0 rfl (lv_at hl 0 rfl) ?_
  refine c_calli (va_runV (As := []) (rest := []) ⟨hx, hb, hml, hown, hts⟩ (k_X11_read l dC dI y A b hA0 rn n lo kp dy so he kn ak pl iw nm sd ik kr lo2 dy2 so2 he2 kn2 dgv kd len ord kh km pg cm sav bo cb sl len2 ord2 kh2 km2  hpl hpg) (cwV 0 hts gX11_fault_X11_read rfl rfl rfl (by decide +kernel) ⟨Nat.le_of_ble_eq_true rfl, Nat.le_of_ble_eq_true rfl⟩) (c_preV (c_N0 A) hK hE hS hP (va_recv hK hP (ci := 11) (q0 := 0) rfl rfl)) rfl rfl hl.1 rfl (lv_room (Nat.le_of_ble_eq_true rfl)) dX11_fault_1 ⟨Nat.le_refl _, Nat.le_refl _⟩) hS (fun r_1 u_1 H locs hw_1 hP hS => ?_)
  have hP : va_P (dC, dI) vwCl (DW y b rn n lo kp dy so he kn ak pl u_1.1 u_1.2 sd ik kr lo2 dy2 so2 he2 kn2 dgv kd len ord kh km pg cm sav bo cb sl len2 ord2 kh2 km2) H := hP
  obtain ⟨rfl, hw_1⟩ := hw_1
  exact c_iret hx hb hr hlocks hK hS u_1 hP rfl dX11_fault_4
theorem in_X11_round_X11 : ∀ w ∈ wsX110, w ∈ wsX11_round := fun w h => List.mem_cons_of_mem _ (List.mem_append_right _ h)
set_option maxHeartbeats 4000000 in
set_option maxRecDepth 100000 in
theorem k_X11_round (l : Launch) (dC : Nat → ClassId) (dI : Nat → Nat → Nat) (y : Nat → ClassId) (A : Nat → Prop) (b : Nat → Nat) (hA0 : ad_ok A b 16) (rn : Nat) (n : Nat) (lo : Int32) (kp : Nat) (dy : Int32) (so : Int32) (he : Int32) (kn : Nat) (ak : Nat) (pl : Nat) (iw : Bool) (nm : Nat) (sd : Int64) (ik : Bool) (kr : Nat) (lo2 : Int32) (dy2 : Int32) (so2 : Int32) (he2 : Int32) (kn2 : Nat) (dgv : Int64) (kd : Nat → Nat) (len : Nat → Nat) (ord : Nat → Nat) (kh : Nat → Nat) (km : Nat → Nat) (pg : Nat → Nat) (cm : Nat → Nat) (sav : Nat → Nat) (bo : Nat → Nat) (cb : Nat → Nat) (sl : Nat → Nat) (len2 : Nat → Nat) (ord2 : Nat → Nat) (kh2 : Nat → Nat) (km2 : Nat → Nat) (hpl : pl ≤ 21) (hpg : ∀ j, pg j < 128) : Met l yX11_round wsX11_round ({ frames := 2, cells := 0, slots := 0, locals := 43 } : Room) (c_P (dC, dI) vwCl (TY y) (fun _ => True) (DW y b rn n lo kp dy so he kn ak pl iw nm sd ik kr lo2 dy2 so2 he2 kn2 dgv kd len ord kh km pg cm sav bo cb sl len2 ord2 kh2 km2) [.ref (b 0)]) (va_Qi (fun (r : Int32) (u : Bool × Nat) => r = (bif whlB pg pl then nI (pl / 3) else -103)) (c_B (dC, dI) vwCl (TY y) (fun (u : Bool × Nat) => (DW y b (bif whlB pg pl then rn + 1 else rn) (bif whlB pg pl then pl / 3 else n) (bif whlB pg pl then nI 0 else lo) (bif whlB pg pl then pg (pl - 1) - 48 else kp) (bif whlB pg pl then nI 0 else dy) (bif whlB pg pl then nI 0 else so) (bif whlB pg pl then nI 0 else he) (bif whlB pg pl then 0 else kn) ak (bif whlB pg pl then 0 else pl) u.1 u.2 sd ik kr lo2 dy2 so2 he2 kn2 dgv (bif whlB pg pl then mixF (pl / 3) (kdG pg) kd else kd) (bif whlB pg pl then mixF (pl / 3) (lnG pg) len else len) (bif whlB pg pl then mixF (pl / 3) (fun j => j) ord else ord) kh km pg cm sav bo cb sl len2 ord2 kh2 km2))) A) 0 0 A := by
  refine Met.ofW (cc := cX11_round) (maxL := 3) (ret := (some .int)) (by decide) rfl ?_
  intro p e s m args below meth c s₁ BB hml hv
  obtain ⟨rfl, hP, hK, hE⟩ := hv
  have hx := BB.exec
  have hb := BB.bytes
  have hr := BB.returns
  have hts := atoms_spec (ws := wsX11_round) BB.pre
  have hown : s.vm.findClass RX11 = some m.cls := findClass_of_methodNamed BB.named
  have hlocks := BB.notSynchronized
  have hS : va_S A s.heap s.heap [] := va_S.rf
  have hl := lv_entry ([.ref (b 0)]) (n := 3) (Nat.le_of_ble_eq_true rfl)
  rw [lg_entry_eq]
  generalize (lg_sl ([.ref (b 0)]) ++ List.replicate (3 - (lg_sl ([.ref (b 0)])).length) Slot.unset).toArray = ls at hl ⊢
  have hl : lv_has ls 3 [(0, .ref (b 0))] := hl
  refine lv_aload_n hx hb dX11_round_0 rfl (lv_at hl 0 rfl) ?_
  refine c_calli (va_runV (As := []) (rest := []) ⟨hx, hb, hml, hown, hts⟩ (k_X11_read l dC dI y A b hA0 rn n lo kp dy so he kn ak pl iw nm sd ik kr lo2 dy2 so2 he2 kn2 dgv kd len ord kh km pg cm sav bo cb sl len2 ord2 kh2 km2  hpl hpg) (cwV 0 hts gX11_round_X11_read rfl rfl rfl (by decide +kernel) ⟨Nat.le_of_ble_eq_true rfl, Nat.le_of_ble_eq_true rfl⟩) (c_preV (c_N0 A) hK hE hS hP (va_recv hK hP (ci := 11) (q0 := 0) rfl rfl)) rfl rfl hl.1 rfl (lv_room (Nat.le_of_ble_eq_true rfl)) dX11_round_1 ⟨Nat.le_refl _, Nat.le_refl _⟩) hS (fun r_1 u_1 H locs hw_1 hP hS => ?_)
  have hP : va_P (dC, dI) vwCl (DW y b rn n lo kp dy so he kn ak pl u_1.1 u_1.2 sd ik kr lo2 dy2 so2 he2 kn2 dgv kd len ord kh km pg cm sav bo cb sl len2 ord2 kh2 km2) H := hP
  obtain ⟨rfl, hw_1⟩ := hw_1
  refine lv_istore_n (lv' := [(1, .int (nI (ffF pg pl))), (0, .ref (b 0))]) hx hb dX11_round_4 rfl hl (by decide) rfl (fun ls hl => ?_)
  refine lv_aload_n hx hb dX11_round_5 rfl (lv_at hl 1 rfl) ?_
  refine va_get (D := (dC, dI)) (ci := 11) (C := RX11) (T := TX11) (N := 36) hx hb hts in_X11_round_X11 hown hK hP 0 rfl rfl 16 (by decide) (hts (.fieldLink RX11 64 "MilkRoundModel" "isWhole" "Z") (List.mem_of_getElem? (i := 1) rfl)) (fun _ h9 => h9) rfl dX11_round_6 ?_
  refine n_bif_ne (tgt := 15) hx hb dX11_round_9 (by decide) (fun c_9 => ?_) (fun c_9 => ?_)
  · have hW : whlB pg pl = true := hw_1.1.symm.trans c_9
    obtain ⟨hp1, hp2, hp3, hp4, hp5⟩ := PgW_whl hW
    have hnm := hw_1.2 c_9
    refine lv_aload_n hx hb dX11_round_15 rfl (lv_at hl 1 rfl) ?_
    refine lv_aload_n hx hb dX11_round_16 rfl (lv_at hl 1 rfl) ?_
    refine va_get (D := (dC, dI)) (ci := 11) (C := RX11) (T := TX11) (N := 36) hx hb hts in_X11_round_X11 hown hK hP 0 rfl rfl 17 (by decide) (hts (.fieldLink RX11 68 "MilkRoundModel" "newMany" "I") (List.mem_of_getElem? (i := 2) rfl)) (fun _ h9 => h9) rfl dX11_round_17 ?_
    refine va_put (D := (dC, dI)) (ci := 11) (ty := tyX11 1) (C := RX11) (T := TX11) (N := 36) hx hb hts in_X11_round_X11 tyX11 tyX11_ok nmX11 hown hK hP (ad_D hA0 rfl) hS 0 rfl rfl 1 (by decide) (hts (.fieldLink RX11 82 "MilkRoundModel" "houses" "I") (List.mem_of_getElem? (i := 3) rfl)) (fun _ h9 => h9) rfl (tyX11_ok 1 (by decide)) rfl rfl (Nat.le_of_ble_eq_true rfl) dX11_round_20 (fun H locs hP _ hS => ?_)
    have hP : va_P (dC, dI) vwCl (DW y b rn u_1.2 lo kp dy so he kn ak pl u_1.1 u_1.2 sd ik kr lo2 dy2 so2 he2 kn2 dgv kd len ord kh km pg cm sav bo cb sl len2 ord2 kh2 km2) H := hP
    rw [hnm] at hP
    have hP : va_P (dC, dI) vwCl (DW y b rn (pl / 3) lo kp dy so he kn ak pl u_1.1 (pl / 3) sd ik kr lo2 dy2 so2 he2 kn2 dgv kd len ord kh km pg cm sav bo cb sl len2 ord2 kh2 km2) H := hP
    refine lv_iconst (v := nI (0)) hx hb dX11_round_23 (by decide) ?_
    refine lv_istore_n (lv' := [(2, .int (nI (0))), (1, .int (nI (ffF pg pl))), (0, .ref (b 0))]) hx hb dX11_round_24 rfl hl (by decide) rfl (fun ls hl => ?_)
    have loop_25 : ∀ (dd_25 : Nat) (h : Nat) (hh : h ≤ pl / 3), pl / 3 - h < dd_25 → ∀ (H : Heap) (locs : List Loc) (ls : Array Slot), va_P (dC, dI) vwCl (DW y b rn (pl / 3) lo kp dy so he kn ak pl u_1.1 (pl / 3) sd ik kr lo2 dy2 so2 he2 kn2 dgv (mixF h (kdG pg) kd) (mixF h (lnG pg) len) (mixF h (fun j => j) ord) kh km pg cm sav bo cb sl len2 ord2 kh2 km2) H → va_S A s.heap H locs → lv_has ls 3 [(2, .int (nI (h))), (1, .int (nI (ffF pg pl))), (0, .ref (b 0))] → W p l e (headSpec wsX11_round ({ frames := 2, cells := 0, slots := 0, locals := 43 } : Room)).room s m [.ref (b 0)].toArray below meth c H locs 0 0 (MQ below (va_Qi (fun (r : Int32) (u : Bool × Nat) => r = (bif whlB pg pl then nI (pl / 3) else -103)) (c_B (dC, dI) vwCl (TY y) (fun (u : Bool × Nat) => (DW y b (bif whlB pg pl then rn + 1 else rn) (bif whlB pg pl then pl / 3 else n) (bif whlB pg pl then nI 0 else lo) (bif whlB pg pl then pg (pl - 1) - 48 else kp) (bif whlB pg pl then nI 0 else dy) (bif whlB pg pl then nI 0 else so) (bif whlB pg pl then nI 0 else he) (bif whlB pg pl then 0 else kn) ak (bif whlB pg pl then 0 else pl) u.1 u.2 sd ik kr lo2 dy2 so2 he2 kn2 dgv (bif whlB pg pl then mixF (pl / 3) (kdG pg) kd else kd) (bif whlB pg pl then mixF (pl / 3) (lnG pg) len else len) (bif whlB pg pl then mixF (pl / 3) (fun j => j) ord else ord) kh km pg cm sav bo cb sl len2 ord2 kh2 km2))) A) [.ref (b 0)].toArray s 0 0 A) (F0 m 25 ls []) := by
      intro dd_25
      induction dd_25 with
      | zero => intro h hh hd; exact absurd hd (Nat.not_lt_zero _)
      | succ dd_25 ih_25 =>
        intro h hh hd_25 H locs ls hP hS hl
        refine lv_iload_n hx hb dX11_round_25 rfl (lv_at hl 0 rfl) ?_
        refine lv_aload_n hx hb dX11_round_26 rfl (lv_at hl 2 rfl) ?_
        refine va_get (D := (dC, dI)) (ci := 11) (C := RX11) (T := TX11) (N := 36) hx hb hts in_X11_round_X11 hown hK hP 0 rfl rfl 1 (by decide) (hts (.fieldLink RX11 82 "MilkRoundModel" "houses" "I") (List.mem_of_getElem? (i := 3) rfl)) (fun _ h9 => h9) rfl dX11_round_27 ?_
        refine n_icmp_ge (tgt := 82) hx hb dX11_round_30 (by decide) (by omega) (by omega) (fun c_30 => ?_) (fun c_30 => ?_)
        · have hff : ffF pg pl = pl := (of_decide_eq_true hW).2.2
          have hhn : h = pl / 3 := by omega
          rw [hff] at hl
          have hl : lv_has ls 3 [(2, .int (nI (h))), (1, .int (nI (pl))), (0, .ref (b 0))] := hl
          refine lv_aload_n hx hb dX11_round_82 rfl (lv_at hl 2 rfl) ?_
          refine lv_aload_n hx hb dX11_round_83 rfl (lv_at hl 2 rfl) ?_
          refine va_get (D := (dC, dI)) (ci := 11) (C := RX11) (T := TX11) (N := 36) hx hb hts in_X11_round_X11 hown hK hP 0 rfl rfl 15 (by decide) (hts (.fieldLink RX11 25 "MilkRoundModel" "page" "[B") (List.mem_of_getElem? (i := 5) rfl)) (fun _ h9 => h9) rfl dX11_round_84 ?_
          refine lv_iload_n hx hb dX11_round_87 rfl (lv_at hl 1 rfl) ?_
          refine lv_iconst (v := nI (1)) hx hb dX11_round_88 (by decide) ?_
          refine n_isub hx hb (by omega) dX11_round_89 ?_
          refine n_bald hx hb hK hP 6 1 rfl rfl (by omega) (by decide) dX11_round_90 ?_
          have hb_90 := hpg (pl - 1)
          refine lv_bipush (v := nI (48)) hx hb dX11_round_91 (by decide) ?_
          refine n_isub hx hb (by have q9 := of_decide_eq_true hp5; rw [show 3 * (pl / 3) = pl - 1 by omega] at q9; omega) dX11_round_93 ?_
          refine va_put (D := (dC, dI)) (ci := 11) (ty := tyX11 6) (C := RX11) (T := TX11) (N := 36) hx hb hts in_X11_round_X11 tyX11 tyX11_ok nmX11 hown hK hP (ad_D hA0 rfl) hS 0 rfl rfl 6 (by decide) (hts (.fieldLink RX11 85 "MilkRoundModel" "keep" "I") (List.mem_of_getElem? (i := 8) rfl)) (fun _ h9 => h9) rfl (tyX11_ok 6 (by decide)) rfl rfl (Nat.le_of_ble_eq_true rfl) dX11_round_94 (fun H locs hP _ hS => ?_)
          have hP : va_P (dC, dI) vwCl (DW y b rn (pl / 3) lo ((pg (pl - 1)) - (48)) dy so he kn ak pl u_1.1 (pl / 3) sd ik kr lo2 dy2 so2 he2 kn2 dgv (mixF h (kdG pg) kd) (mixF h (lnG pg) len) (mixF h (fun j => j) ord) kh km pg cm sav bo cb sl len2 ord2 kh2 km2) H := hP
          refine lv_aload_n hx hb dX11_round_97 rfl (lv_at hl 2 rfl) ?_
          refine lv_dup hx hb dX11_round_98 rfl ?_
          refine va_get (D := (dC, dI)) (ci := 11) (C := RX11) (T := TX11) (N := 36) hx hb hts in_X11_round_X11 hown hK hP 0 rfl rfl 0 (by decide) (hts (.fieldLink RX11 88 "MilkRoundModel" "rounds" "I") (List.mem_of_getElem? (i := 9) rfl)) (fun _ h9 => h9) rfl dX11_round_99 ?_
          refine lv_iconst (v := nI (1)) hx hb dX11_round_102 (by decide) ?_
          refine n_iadd hx hb dX11_round_103 ?_
          refine va_put (D := (dC, dI)) (ci := 11) (ty := tyX11 0) (C := RX11) (T := TX11) (N := 36) hx hb hts in_X11_round_X11 tyX11 tyX11_ok nmX11 hown hK hP (ad_D hA0 rfl) hS 0 rfl rfl 0 (by decide) (hts (.fieldLink RX11 88 "MilkRoundModel" "rounds" "I") (List.mem_of_getElem? (i := 9) rfl)) (fun _ h9 => h9) rfl (tyX11_ok 0 (by decide)) rfl rfl (Nat.le_of_ble_eq_true rfl) dX11_round_104 (fun H locs hP _ hS => ?_)
          have hP : va_P (dC, dI) vwCl (DW y b (rn + 1) (pl / 3) lo ((pg (pl - 1)) - (48)) dy so he kn ak pl u_1.1 (pl / 3) sd ik kr lo2 dy2 so2 he2 kn2 dgv (mixF h (kdG pg) kd) (mixF h (lnG pg) len) (mixF h (fun j => j) ord) kh km pg cm sav bo cb sl len2 ord2 kh2 km2) H := hP
          refine lv_aload_n hx hb dX11_round_107 rfl (lv_at hl 2 rfl) ?_
          refine lv_iconst (v := nI (0)) hx hb dX11_round_108 (by decide) ?_
          refine va_put (D := (dC, dI)) (ci := 11) (ty := tyX11 5) (C := RX11) (T := TX11) (N := 36) hx hb hts in_X11_round_X11 tyX11 tyX11_ok nmX11 hown hK hP (ad_D hA0 rfl) hS 0 rfl rfl 5 (by decide) (hts (.fieldLink RX11 91 "MilkRoundModel" "leftOut" "I") (List.mem_of_getElem? (i := 10) rfl)) (fun _ h9 => h9) rfl (tyX11_ok 5 (by decide)) rfl rfl (Nat.le_of_ble_eq_true rfl) dX11_round_109 (fun H locs hP _ hS => ?_)
          have hP : va_P (dC, dI) vwCl (DW y b (rn + 1) (pl / 3) (nI (0)) ((pg (pl - 1)) - (48)) dy so he kn ak pl u_1.1 (pl / 3) sd ik kr lo2 dy2 so2 he2 kn2 dgv (mixF h (kdG pg) kd) (mixF h (lnG pg) len) (mixF h (fun j => j) ord) kh km pg cm sav bo cb sl len2 ord2 kh2 km2) H := hP
          refine lv_aload_n hx hb dX11_round_112 rfl (lv_at hl 2 rfl) ?_
          refine lv_iconst (v := nI (0)) hx hb dX11_round_113 (by decide) ?_
          refine va_put (D := (dC, dI)) (ci := 11) (ty := tyX11 7) (C := RX11) (T := TX11) (N := 36) hx hb hts in_X11_round_X11 tyX11 tyX11_ok nmX11 hown hK hP (ad_D hA0 rfl) hS 0 rfl rfl 7 (by decide) (hts (.fieldLink RX11 94 "MilkRoundModel" "days" "I") (List.mem_of_getElem? (i := 11) rfl)) (fun _ h9 => h9) rfl (tyX11_ok 7 (by decide)) rfl rfl (Nat.le_of_ble_eq_true rfl) dX11_round_114 (fun H locs hP _ hS => ?_)
          have hP : va_P (dC, dI) vwCl (DW y b (rn + 1) (pl / 3) (nI (0)) ((pg (pl - 1)) - (48)) (nI (0)) so he kn ak pl u_1.1 (pl / 3) sd ik kr lo2 dy2 so2 he2 kn2 dgv (mixF h (kdG pg) kd) (mixF h (lnG pg) len) (mixF h (fun j => j) ord) kh km pg cm sav bo cb sl len2 ord2 kh2 km2) H := hP
          refine lv_aload_n hx hb dX11_round_117 rfl (lv_at hl 2 rfl) ?_
          refine lv_iconst (v := nI (0)) hx hb dX11_round_118 (by decide) ?_
          refine va_put (D := (dC, dI)) (ci := 11) (ty := tyX11 8) (C := RX11) (T := TX11) (N := 36) hx hb hts in_X11_round_X11 tyX11 tyX11_ok nmX11 hown hK hP (ad_D hA0 rfl) hS 0 rfl rfl 8 (by decide) (hts (.fieldLink RX11 97 "MilkRoundModel" "soured" "I") (List.mem_of_getElem? (i := 12) rfl)) (fun _ h9 => h9) rfl (tyX11_ok 8 (by decide)) rfl rfl (Nat.le_of_ble_eq_true rfl) dX11_round_119 (fun H locs hP _ hS => ?_)
          have hP : va_P (dC, dI) vwCl (DW y b (rn + 1) (pl / 3) (nI (0)) ((pg (pl - 1)) - (48)) (nI (0)) (nI (0)) he kn ak pl u_1.1 (pl / 3) sd ik kr lo2 dy2 so2 he2 kn2 dgv (mixF h (kdG pg) kd) (mixF h (lnG pg) len) (mixF h (fun j => j) ord) kh km pg cm sav bo cb sl len2 ord2 kh2 km2) H := hP
          refine lv_aload_n hx hb dX11_round_122 rfl (lv_at hl 2 rfl) ?_
          refine lv_iconst (v := nI (0)) hx hb dX11_round_123 (by decide) ?_
          refine va_put (D := (dC, dI)) (ci := 11) (ty := tyX11 9) (C := RX11) (T := TX11) (N := 36) hx hb hts in_X11_round_X11 tyX11 tyX11_ok nmX11 hown hK hP (ad_D hA0 rfl) hS 0 rfl rfl 9 (by decide) (hts (.fieldLink RX11 100 "MilkRoundModel" "overheard" "I") (List.mem_of_getElem? (i := 13) rfl)) (fun _ h9 => h9) rfl (tyX11_ok 9 (by decide)) rfl rfl (Nat.le_of_ble_eq_true rfl) dX11_round_124 (fun H locs hP _ hS => ?_)
          have hP : va_P (dC, dI) vwCl (DW y b (rn + 1) (pl / 3) (nI (0)) ((pg (pl - 1)) - (48)) (nI (0)) (nI (0)) (nI (0)) kn ak pl u_1.1 (pl / 3) sd ik kr lo2 dy2 so2 he2 kn2 dgv (mixF h (kdG pg) kd) (mixF h (lnG pg) len) (mixF h (fun j => j) ord) kh km pg cm sav bo cb sl len2 ord2 kh2 km2) H := hP
          refine lv_aload_n hx hb dX11_round_127 rfl (lv_at hl 2 rfl) ?_
          refine lv_iconst (v := nI (0)) hx hb dX11_round_128 (by decide) ?_
          refine va_put (D := (dC, dI)) (ci := 11) (ty := tyX11 10) (C := RX11) (T := TX11) (N := 36) hx hb hts in_X11_round_X11 tyX11 tyX11_ok nmX11 hown hK hP (ad_D hA0 rfl) hS 0 rfl rfl 10 (by decide) (hts (.fieldLink RX11 103 "MilkRoundModel" "known" "I") (List.mem_of_getElem? (i := 14) rfl)) (fun _ h9 => h9) rfl (tyX11_ok 10 (by decide)) rfl rfl (Nat.le_of_ble_eq_true rfl) dX11_round_129 (fun H locs hP _ hS => ?_)
          have hP : va_P (dC, dI) vwCl (DW y b (rn + 1) (pl / 3) (nI (0)) ((pg (pl - 1)) - (48)) (nI (0)) (nI (0)) (nI (0)) 0 ak pl u_1.1 (pl / 3) sd ik kr lo2 dy2 so2 he2 kn2 dgv (mixF h (kdG pg) kd) (mixF h (lnG pg) len) (mixF h (fun j => j) ord) kh km pg cm sav bo cb sl len2 ord2 kh2 km2) H := hP
          refine lv_aload_n hx hb dX11_round_132 rfl (lv_at hl 2 rfl) ?_
          refine lv_iconst (v := nI (0)) hx hb dX11_round_133 (by decide) ?_
          refine va_put (D := (dC, dI)) (ci := 11) (ty := tyX11 14) (C := RX11) (T := TX11) (N := 36) hx hb hts in_X11_round_X11 tyX11 tyX11_ok nmX11 hown hK hP (ad_D hA0 rfl) hS 0 rfl rfl 14 (by decide) (hts (.fieldLink RX11 60 "MilkRoundModel" "pageLength" "I") (List.mem_of_getElem? (i := 15) rfl)) (fun _ h9 => h9) rfl (tyX11_ok 14 (by decide)) rfl rfl (Nat.le_of_ble_eq_true rfl) dX11_round_134 (fun H locs hP _ hS => ?_)
          have hP : va_P (dC, dI) vwCl (DW y b (rn + 1) (pl / 3) (nI (0)) ((pg (pl - 1)) - (48)) (nI (0)) (nI (0)) (nI (0)) 0 ak 0 u_1.1 (pl / 3) sd ik kr lo2 dy2 so2 he2 kn2 dgv (mixF h (kdG pg) kd) (mixF h (lnG pg) len) (mixF h (fun j => j) ord) kh km pg cm sav bo cb sl len2 ord2 kh2 km2) H := hP
          refine lv_aload_n hx hb dX11_round_137 rfl (lv_at hl 2 rfl) ?_
          refine va_get (D := (dC, dI)) (ci := 11) (C := RX11) (T := TX11) (N := 36) hx hb hts in_X11_round_X11 hown hK hP 0 rfl rfl 1 (by decide) (hts (.fieldLink RX11 82 "MilkRoundModel" "houses" "I") (List.mem_of_getElem? (i := 3) rfl)) (fun _ h9 => h9) rfl dX11_round_138 ?_
          have hP : va_P (dC, dI) vwCl (DW y b (bif whlB pg pl then rn + 1 else rn) (bif whlB pg pl then pl / 3 else n) (bif whlB pg pl then nI 0 else lo) (bif whlB pg pl then pg (pl - 1) - 48 else kp) (bif whlB pg pl then nI 0 else dy) (bif whlB pg pl then nI 0 else so) (bif whlB pg pl then nI 0 else he) (bif whlB pg pl then 0 else kn) ak (bif whlB pg pl then 0 else pl) ((u_1.1, pl / 3).1) ((u_1.1, pl / 3).2) sd ik kr lo2 dy2 so2 he2 kn2 dgv (bif whlB pg pl then mixF (pl / 3) (kdG pg) kd else kd) (bif whlB pg pl then mixF (pl / 3) (lnG pg) len else len) (bif whlB pg pl then mixF (pl / 3) (fun j => j) ord else ord) kh km pg cm sav bo cb sl len2 ord2 kh2 km2) H := by
            rw [hhn] at hP
            rw [hW]
            exact hP
          exact c_iret hx hb hr hlocks hK hS (u_1.1, pl / 3) hP (by rw [hW]; rfl) dX11_round_141
        · refine lv_aload_n hx hb dX11_round_33 rfl (lv_at hl 2 rfl) ?_
          refine va_get (D := (dC, dI)) (ci := 11) (C := RX11) (T := TX11) (N := 36) hx hb hts in_X11_round_X11 hown hK hP 0 rfl rfl 2 (by decide) (hts (.fieldLink RX11 7 "MilkRoundModel" "kindOf" "[I") (List.mem_of_getElem? (i := 4) rfl)) (fun _ h9 => h9) rfl dX11_round_34 ?_
          refine lv_iload_n hx hb dX11_round_37 rfl (lv_at hl 0 rfl) ?_
          refine lv_aload_n hx hb dX11_round_38 rfl (lv_at hl 2 rfl) ?_
          refine va_get (D := (dC, dI)) (ci := 11) (C := RX11) (T := TX11) (N := 36) hx hb hts in_X11_round_X11 hown hK hP 0 rfl rfl 15 (by decide) (hts (.fieldLink RX11 25 "MilkRoundModel" "page" "[B") (List.mem_of_getElem? (i := 5) rfl)) (fun _ h9 => h9) rfl dX11_round_39 ?_
          refine lv_iconst (v := nI (3)) hx hb dX11_round_42 (by decide) ?_
          refine lv_iload_n hx hb dX11_round_43 rfl (lv_at hl 0 rfl) ?_
          refine n_imul hx hb dX11_round_44 ?_
          refine n_bald hx hb hK hP 6 1 rfl rfl (by omega) (by decide) dX11_round_45 ?_
          have hb_45 := hpg (3 * h)
          refine c_calli (va_runS (As := [.int (nI (pg (3 * h)))]) (rest := [.int (nI (h)), .ref (b 1)]) ⟨hx, hb, hml, hown, hts⟩ (k_X11_kindBy l dC dI y A (DW y b rn (pl / 3) lo kp dy so he kn ak pl u_1.1 (pl / 3) sd ik kr lo2 dy2 so2 he2 kn2 dgv (mixF h (kdG pg) kd) (mixF h (lnG pg) len) (mixF h (fun j => j) ord) kh km pg cm sav bo cb sl len2 ord2 kh2 km2) (fun _ => True) (pg (3 * h)) (hpg _)) (va_cwS 1 hts gX11_round_X11_kindBy rfl rfl rfl (by decide +kernel) ⟨Nat.le_of_ble_eq_true rfl, Nat.le_of_ble_eq_true rfl⟩) (c_preS (c_N0 A) hK hE hS hP) rfl rfl hl.1 rfl (lv_room (Nat.le_of_ble_eq_true rfl)) dX11_round_46 ⟨Nat.le_refl _, Nat.le_refl _⟩) hS (fun r_46 u_46 H locs hw_46 hP hS => ?_)
          obtain rfl := hw_46
          refine n_top (y := nI (kdN (pg (3 * h)))) (by rw [kbF, (hp4 h (by omega)).1]; rfl) ?_
          refine n_iast hx hb hK hP (ad_D hA0 rfl) hS 1 0 rfl rfl (by omega) (by decide) dX11_round_49 (fun H locs hP hS => ?_)
          have hP : va_P (dC, dI) vwCl (DW y b rn (pl / 3) lo kp dy so he kn ak pl u_1.1 (pl / 3) sd ik kr lo2 dy2 so2 he2 kn2 dgv (va_up (mixF h (kdG pg) kd) h (kdN (pg (3 * h)))) (mixF h (lnG pg) len) (mixF h (fun j => j) ord) kh km pg cm sav bo cb sl len2 ord2 kh2 km2) H := hP
          refine lv_aload_n hx hb dX11_round_50 rfl (lv_at hl 2 rfl) ?_
          refine va_get (D := (dC, dI)) (ci := 11) (C := RX11) (T := TX11) (N := 36) hx hb hts in_X11_round_X11 hown hK hP 0 rfl rfl 3 (by decide) (hts (.fieldLink RX11 13 "MilkRoundModel" "longOf" "[I") (List.mem_of_getElem? (i := 6) rfl)) (fun _ h9 => h9) rfl dX11_round_51 ?_
          refine lv_iload_n hx hb dX11_round_54 rfl (lv_at hl 0 rfl) ?_
          refine lv_aload_n hx hb dX11_round_55 rfl (lv_at hl 2 rfl) ?_
          refine va_get (D := (dC, dI)) (ci := 11) (C := RX11) (T := TX11) (N := 36) hx hb hts in_X11_round_X11 hown hK hP 0 rfl rfl 15 (by decide) (hts (.fieldLink RX11 25 "MilkRoundModel" "page" "[B") (List.mem_of_getElem? (i := 5) rfl)) (fun _ h9 => h9) rfl dX11_round_56 ?_
          refine lv_iconst (v := nI (3)) hx hb dX11_round_59 (by decide) ?_
          refine lv_iload_n hx hb dX11_round_60 rfl (lv_at hl 0 rfl) ?_
          refine n_imul hx hb dX11_round_61 ?_
          refine lv_iconst (v := nI (1)) hx hb dX11_round_62 (by decide) ?_
          refine n_iadd hx hb dX11_round_63 ?_
          refine n_bald hx hb hK hP 6 1 rfl rfl (by omega) (by decide) dX11_round_64 ?_
          have hb_64 := hpg ((3 * h) + (1))
          refine lv_bipush (v := nI (48)) hx hb dX11_round_65 (by decide) ?_
          refine n_isub hx hb (by have q9 := of_decide_eq_true (hp4 h (by omega)).2; omega) dX11_round_67 ?_
          refine n_iast hx hb hK hP (ad_D hA0 rfl) hS 2 0 rfl rfl (by omega) (by decide) dX11_round_68 (fun H locs hP hS => ?_)
          have hP : va_P (dC, dI) vwCl (DW y b rn (pl / 3) lo kp dy so he kn ak pl u_1.1 (pl / 3) sd ik kr lo2 dy2 so2 he2 kn2 dgv (va_up (mixF h (kdG pg) kd) h (kdN (pg (3 * h)))) (va_up (mixF h (lnG pg) len) h ((pg ((3 * h) + (1))) - (48))) (mixF h (fun j => j) ord) kh km pg cm sav bo cb sl len2 ord2 kh2 km2) H := hP
          refine lv_aload_n hx hb dX11_round_69 rfl (lv_at hl 2 rfl) ?_
          refine va_get (D := (dC, dI)) (ci := 11) (C := RX11) (T := TX11) (N := 36) hx hb hts in_X11_round_X11 hown hK hP 0 rfl rfl 4 (by decide) (hts (.fieldLink RX11 16 "MilkRoundModel" "orderAt" "[I") (List.mem_of_getElem? (i := 7) rfl)) (fun _ h9 => h9) rfl dX11_round_70 ?_
          refine lv_iload_n hx hb dX11_round_73 rfl (lv_at hl 0 rfl) ?_
          refine lv_iload_n hx hb dX11_round_74 rfl (lv_at hl 0 rfl) ?_
          refine n_iast hx hb hK hP (ad_D hA0 rfl) hS 3 0 rfl rfl (by omega) (by decide) dX11_round_75 (fun H locs hP hS => ?_)
          have hP : va_P (dC, dI) vwCl (DW y b rn (pl / 3) lo kp dy so he kn ak pl u_1.1 (pl / 3) sd ik kr lo2 dy2 so2 he2 kn2 dgv (va_up (mixF h (kdG pg) kd) h (kdN (pg (3 * h)))) (va_up (mixF h (lnG pg) len) h ((pg ((3 * h) + (1))) - (48))) (va_up (mixF h (fun j => j) ord) h h) kh km pg cm sav bo cb sl len2 ord2 kh2 km2) H := hP
          refine lv_iinc (v := nI (h + 1)) (lv' := [(2, .int (nI (h + 1))), (1, .int (nI (ffF pg pl))), (0, .ref (b 0))]) hx hb dX11_round_76 hl (k := 0) rfl (mr_inc _) (by decide) rfl (fun ls hl => ?_)
          refine lv_goto (tgt := 25) hx hb dX11_round_79 (by decide) ?_
          exact ih_25 (h + 1) (by omega) (by omega) _ _ _ (by rw [← mixF_s, ← mixF_s, ← mixF_s]; exact hP) hS (lv_sub hl [0, 1, 2] rfl)
    exact loop_25 _ 0 (Nat.zero_le _) (Nat.lt_succ_self _) _ _ _ (by rw [mixF_0, mixF_0, mixF_0]; exact hP) hS (lv_sub hl [0, 1, 2] rfl)
  · have hW : whlB pg pl = false := hw_1.1.symm.trans c_9
    refine lv_bipush (v := (-103)) hx hb dX11_round_12 (by decide) ?_
    have hP : va_P (dC, dI) vwCl (DW y b (bif whlB pg pl then rn + 1 else rn) (bif whlB pg pl then pl / 3 else n) (bif whlB pg pl then nI 0 else lo) (bif whlB pg pl then pg (pl - 1) - 48 else kp) (bif whlB pg pl then nI 0 else dy) (bif whlB pg pl then nI 0 else so) (bif whlB pg pl then nI 0 else he) (bif whlB pg pl then 0 else kn) ak (bif whlB pg pl then 0 else pl) ((u_1.1, u_1.2).1) ((u_1.1, u_1.2).2) sd ik kr lo2 dy2 so2 he2 kn2 dgv (bif whlB pg pl then mixF (pl / 3) (kdG pg) kd else kd) (bif whlB pg pl then mixF (pl / 3) (lnG pg) len else len) (bif whlB pg pl then mixF (pl / 3) (fun j => j) ord else ord) kh km pg cm sav bo cb sl len2 ord2 kh2 km2) H := by
      rw [hW]
      exact hP
    exact c_iret hx hb hr hlocks hK hS (u_1.1, u_1.2) hP (by rw [hW]; rfl) dX11_round_14
