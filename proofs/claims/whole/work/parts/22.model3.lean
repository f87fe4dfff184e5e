theorem in_X11_known_X11 : ∀ w ∈ wsX110, w ∈ wsX11_known := fun w h => List.mem_cons_of_mem _ (List.mem_append_right _ h)
set_option maxHeartbeats 4000000 in
set_option maxRecDepth 100000 in
theorem k_X11_known (l : Launch) (dC : Nat → ClassId) (dI : Nat → Nat → Nat) (y : Nat → ClassId) (A : Nat → Prop) (b : Nat → Nat) (hA0 : ad_ok A b 16) (rn : Nat) (n : Nat) (lo : Int32) (kp : Nat) (dy : Int32) (so : Int32) (he : Int32) (kn : Nat) (ak : Nat) (pl : Nat) (iw : Bool) (nm : Nat) (sd : Int64) (ik : Bool) (kr : Nat) (lo2 : Int32) (dy2 : Int32) (so2 : Int32) (he2 : Int32) (kn2 : Nat) (dgv : Int64) (kd : Nat → Nat) (len : Nat → Nat) (ord : Nat → Nat) (kh : Nat → Nat) (km : Nat → Nat) (pg : Nat → Nat) (cm : Nat → Nat) (sav : Nat → Nat) (bo : Nat → Nat) (cb : Nat → Nat) (sl : Nat → Nat) (len2 : Nat → Nat) (ord2 : Nat → Nat) (kh2 : Nat → Nat) (km2 : Nat → Nat) (h : Int32) (w : Int32) (hn : n ≤ 6) (hkn : kn ≤ 6) : Met l yX11_known wsX11_known ({ frames := 2, cells := 0, slots := 0, locals := 43 } : Room) (c_P (dC, dI) vwCl (TY y) (fun _ => True) (DW y b rn n lo kp dy so he kn ak pl iw nm sd ik kr lo2 dy2 so2 he2 kn2 dgv kd len ord kh km pg cm sav bo cb sl len2 ord2 kh2 km2) [.ref (b 0), .int (h), .int (w)]) (va_Qi (fun (r : Int32) (u : Unit) => r = rKnown n kn h w) (c_B (dC, dI) vwCl (TY y) (fun (u : Unit) => (DW y b rn n lo kp dy so he (sKn n kn h w) ak pl iw nm sd ik kr lo2 dy2 so2 he2 kn2 dgv kd len ord (sKh n kn kh h w) (sKm n kn km h w) pg cm sav bo cb sl len2 ord2 kh2 km2))) A) 0 0 A := by
  refine Met.ofW (cc := cX11_known) (maxL := 3) (ret := (some .int)) (by decide) rfl ?_
  intro p e s m args below meth c s₁ BB hml hv
  obtain ⟨rfl, hP, hK, hE⟩ := hv
  have hx := BB.exec
  have hb := BB.bytes
  have hr := BB.returns
  have hts := atoms_spec (ws := wsX11_known) BB.pre
  have hown : s.vm.findClass RX11 = some m.cls := findClass_of_methodNamed BB.named
  have hlocks := BB.notSynchronized
  have hS : va_S A s.heap s.heap [] := va_S.rf
  have hl := lv_entry ([.ref (b 0), .int (h), .int (w)]) (n := 3) (Nat.le_of_ble_eq_true rfl)
  rw [lg_entry_eq]
  generalize (lg_sl ([.ref (b 0), .int (h), .int (w)]) ++ List.replicate (3 - (lg_sl ([.ref (b 0), .int (h), .int (w)])).length) Slot.unset).toArray = ls at hl ⊢
  have hl : lv_has ls 3 [(0, .ref (b 0)), (1, .int (h)), (2, .int (w))] := hl
  refine lv_aload_n hx hb dX11_known_0 rfl (lv_at hl 0 rfl) ?_
  refine lv_iload_n hx hb dX11_known_1 rfl (lv_at hl 1 rfl) ?_
  refine c_calli (va_runV (As := [.int (h)]) (rest := []) ⟨hx, hb, hml, hown, hts⟩ (k_X11_isHouse l dC dI y A b hA0 rn n lo kp dy so he kn ak pl iw nm sd ik kr lo2 dy2 so2 he2 kn2 dgv kd len ord kh km pg cm sav bo cb sl len2 ord2 kh2 km2 h (by omega)) (cwV 1 hts gX11_known_X11_isHouse rfl rfl rfl (by decide +kernel) ⟨Nat.le_of_ble_eq_true rfl, Nat.le_of_ble_eq_true rfl⟩) (c_preV (c_N0 A) hK hE hS hP (va_recv hK hP (ci := 11) (q0 := 0) rfl rfl)) rfl rfl hl.1 rfl (lv_room (Nat.le_of_ble_eq_true rfl)) dX11_known_2 ⟨Nat.le_refl _, Nat.le_refl _⟩) hS (fun r_2 u_2 H locs hw_2 hP hS => ?_)
  obtain rfl := hw_2
  refine n_bif_ne (tgt := 11) hx hb dX11_known_5 (by decide) (fun c_5 => ?_) (fun c_5 => ?_)
  · obtain ⟨j, hj, ej⟩ := isH_of (by omega) c_5
    rw [ej] at hl
    have hl : lv_has ls 3 [(0, .ref (b 0)), (1, .int (nI (j))), (2, .int (w))] := hl
    refine lv_iload_n hx hb dX11_known_11 rfl (lv_at hl 2 rfl) ?_
    refine lv_iconst (v := nI (1)) hx hb dX11_known_12 (by decide) ?_
    refine lv_sipush (v := nI (150)) hx hb dX11_known_13 (by decide) ?_
    refine c_calli (va_runS (As := [.int (w), .int (nI (1)), .int (nI (150))]) (rest := []) ⟨hx, hb, hml, hown, hts⟩ (k_X11_within l dC dI y A (DW y b rn n lo kp dy so he kn ak pl iw nm sd ik kr lo2 dy2 so2 he2 kn2 dgv kd len ord kh km pg cm sav bo cb sl len2 ord2 kh2 km2) (fun _ => True) w (nI (1)) (nI (150)) ) (va_cwS 3 hts gX11_known_X11_within rfl rfl rfl (by decide +kernel) ⟨Nat.le_of_ble_eq_true rfl, Nat.le_of_ble_eq_true rfl⟩) (c_preS (c_N0 A) hK hE hS hP) rfl rfl hl.1 rfl (lv_room (Nat.le_of_ble_eq_true rfl)) dX11_known_16 ⟨Nat.le_refl _, Nat.le_refl _⟩) hS (fun r_16 u_16 H locs hw_16 hP hS => ?_)
    obtain rfl := hw_16
    refine n_bif_ne (tgt := 25) hx hb dX11_known_19 (by decide) (fun c_19 => ?_) (fun c_19 => ?_)
    · obtain ⟨k, hk1, hk2, ek⟩ := inK_of c_19
      rw [ek] at hl
      have hl : lv_has ls 3 [(0, .ref (b 0)), (1, .int (nI (j))), (2, .int (nI (k)))] := hl
      refine lv_aload_n hx hb dX11_known_25 rfl (lv_at hl 0 rfl) ?_
      refine va_get (D := (dC, dI)) (ci := 11) (C := RX11) (T := TX11) (N := 36) hx hb hts in_X11_known_X11 hown hK hP 0 rfl rfl 10 (by decide) (hts (.fieldLink RX11 103 "MilkRoundModel" "known" "I") (List.mem_of_getElem? (i := 1) rfl)) (fun _ h9 => h9) rfl dX11_known_26 ?_
      refine lv_bipush (v := nI (6)) hx hb dX11_known_29 (by decide) ?_
      refine n_icmp_ne (tgt := 37) hx hb dX11_known_31 (by decide) (by omega) (by omega) (fun c_31 => ?_) (fun c_31 => ?_)
      · refine lv_aload_n hx hb dX11_known_37 rfl (lv_at hl 0 rfl) ?_
        refine va_get (D := (dC, dI)) (ci := 11) (C := RX11) (T := TX11) (N := 36) hx hb hts in_X11_known_X11 hown hK hP 0 rfl rfl 11 (by decide) (hts (.fieldLink RX11 19 "MilkRoundModel" "knownHouse" "[I") (List.mem_of_getElem? (i := 2) rfl)) (fun _ h9 => h9) rfl dX11_known_38 ?_
        refine lv_aload_n hx hb dX11_known_41 rfl (lv_at hl 0 rfl) ?_
        refine va_get (D := (dC, dI)) (ci := 11) (C := RX11) (T := TX11) (N := 36) hx hb hts in_X11_known_X11 hown hK hP 0 rfl rfl 10 (by decide) (hts (.fieldLink RX11 103 "MilkRoundModel" "known" "I") (List.mem_of_getElem? (i := 1) rfl)) (fun _ h9 => h9) rfl dX11_known_42 ?_
        refine lv_iload_n hx hb dX11_known_45 rfl (lv_at hl 1 rfl) ?_
        refine n_iast hx hb hK hP (ad_D hA0 rfl) hS 4 0 rfl rfl (by omega) (by decide) dX11_known_46 (fun H locs hP hS => ?_)
        have hP : va_P (dC, dI) vwCl (DW y b rn n lo kp dy so he kn ak pl iw nm sd ik kr lo2 dy2 so2 he2 kn2 dgv kd len ord (va_up kh kn j) km pg cm sav bo cb sl len2 ord2 kh2 km2) H := hP
        refine lv_aload_n hx hb dX11_known_47 rfl (lv_at hl 0 rfl) ?_
        refine va_get (D := (dC, dI)) (ci := 11) (C := RX11) (T := TX11) (N := 36) hx hb hts in_X11_known_X11 hown hK hP 0 rfl rfl 12 (by decide) (hts (.fieldLink RX11 22 "MilkRoundModel" "knownMinutes" "[I") (List.mem_of_getElem? (i := 3) rfl)) (fun _ h9 => h9) rfl dX11_known_48 ?_
        refine lv_aload_n hx hb dX11_known_51 rfl (lv_at hl 0 rfl) ?_
        refine va_get (D := (dC, dI)) (ci := 11) (C := RX11) (T := TX11) (N := 36) hx hb hts in_X11_known_X11 hown hK hP 0 rfl rfl 10 (by decide) (hts (.fieldLink RX11 103 "MilkRoundModel" "known" "I") (List.mem_of_getElem? (i := 1) rfl)) (fun _ h9 => h9) rfl dX11_known_52 ?_
        refine lv_iload_n hx hb dX11_known_55 rfl (lv_at hl 2 rfl) ?_
        refine n_iast hx hb hK hP (ad_D hA0 rfl) hS 5 0 rfl rfl (by omega) (by decide) dX11_known_56 (fun H locs hP hS => ?_)
        have hP : va_P (dC, dI) vwCl (DW y b rn n lo kp dy so he kn ak pl iw nm sd ik kr lo2 dy2 so2 he2 kn2 dgv kd len ord (va_up kh kn j) (va_up km kn k) pg cm sav bo cb sl len2 ord2 kh2 km2) H := hP
        refine lv_aload_n hx hb dX11_known_57 rfl (lv_at hl 0 rfl) ?_
        refine lv_dup hx hb dX11_known_58 rfl ?_
        refine va_get (D := (dC, dI)) (ci := 11) (C := RX11) (T := TX11) (N := 36) hx hb hts in_X11_known_X11 hown hK hP 0 rfl rfl 10 (by decide) (hts (.fieldLink RX11 103 "MilkRoundModel" "known" "I") (List.mem_of_getElem? (i := 1) rfl)) (fun _ h9 => h9) rfl dX11_known_59 ?_
        refine lv_iconst (v := nI (1)) hx hb dX11_known_62 (by decide) ?_
        refine n_iadd hx hb dX11_known_63 ?_
        refine va_put (D := (dC, dI)) (ci := 11) (ty := tyX11 10) (C := RX11) (T := TX11) (N := 36) hx hb hts in_X11_known_X11 tyX11 tyX11_ok nmX11 hown hK hP (ad_D hA0 rfl) hS 0 rfl rfl 10 (by decide) (hts (.fieldLink RX11 103 "MilkRoundModel" "known" "I") (List.mem_of_getElem? (i := 1) rfl)) (fun _ h9 => h9) rfl (tyX11_ok 10 (by decide)) rfl rfl (Nat.le_of_ble_eq_true rfl) dX11_known_64 (fun H locs hP _ hS => ?_)
        have hP : va_P (dC, dI) vwCl (DW y b rn n lo kp dy so he (kn + 1) ak pl iw nm sd ik kr lo2 dy2 so2 he2 kn2 dgv kd len ord (va_up kh kn j) (va_up km kn k) pg cm sav bo cb sl len2 ord2 kh2 km2) H := hP
        refine lv_aload_n hx hb dX11_known_67 rfl (lv_at hl 0 rfl) ?_
        refine va_get (D := (dC, dI)) (ci := 11) (C := RX11) (T := TX11) (N := 36) hx hb hts in_X11_known_X11 hown hK hP 0 rfl rfl 10 (by decide) (hts (.fieldLink RX11 103 "MilkRoundModel" "known" "I") (List.mem_of_getElem? (i := 1) rfl)) (fun _ h9 => h9) rfl dX11_known_68 ?_
        have hP : va_P (dC, dI) vwCl (DW y b rn n lo kp dy so he (sKn n kn h w) ak pl iw nm sd ik kr lo2 dy2 so2 he2 kn2 dgv kd len ord (sKh n kn kh h w) (sKm n kn km h w) pg cm sav bo cb sl len2 ord2 kh2 km2) H := by
          unfold sKn sKh sKm accK; rw [c_5, show inK w = true from c_19, decide_eq_true c_31, ej, ek, nI_clamp (by omega), nI_clamp (by omega)]
          exact hP
        exact c_iret hx hb hr hlocks hK hS () hP (by unfold rKnown; rw [c_5, show inK w = true from c_19, if_neg c_31]; rfl) dX11_known_71
      · refine lv_bipush (v := (-104)) hx hb dX11_known_34 (by decide) ?_
        have hP : va_P (dC, dI) vwCl (DW y b rn n lo kp dy so he (sKn n kn h w) ak pl iw nm sd ik kr lo2 dy2 so2 he2 kn2 dgv kd len ord (sKh n kn kh h w) (sKm n kn km h w) pg cm sav bo cb sl len2 ord2 kh2 km2) H := by
          unfold sKn sKh sKm accK; rw [c_5, show inK w = true from c_19, decide_eq_false (fun q => q c_31)]
          exact hP
        exact c_iret hx hb hr hlocks hK hS () hP (by unfold rKnown; rw [c_5, show inK w = true from c_19, if_pos c_31]; rfl) dX11_known_36
    · refine lv_bipush (v := (-102)) hx hb dX11_known_22 (by decide) ?_
      have hP : va_P (dC, dI) vwCl (DW y b rn n lo kp dy so he (sKn n kn h w) ak pl iw nm sd ik kr lo2 dy2 so2 he2 kn2 dgv kd len ord (sKh n kn kh h w) (sKm n kn km h w) pg cm sav bo cb sl len2 ord2 kh2 km2) H := by
        unfold sKn sKh sKm accK; rw [c_5, show inK w = false from c_19]
        exact hP
      exact c_iret hx hb hr hlocks hK hS () hP (by unfold rKnown; rw [c_5, show inK w = false from c_19]; rfl) dX11_known_24
  · refine lv_bipush (v := (-101)) hx hb dX11_known_8 (by decide) ?_
    have hP : va_P (dC, dI) vwCl (DW y b rn n lo kp dy so he (sKn n kn h w) ak pl iw nm sd ik kr lo2 dy2 so2 he2 kn2 dgv kd len ord (sKh n kn kh h w) (sKm n kn km h w) pg cm sav bo cb sl len2 ord2 kh2 km2) H := by
      unfold sKn sKh sKm accK; rw [c_5]
      exact hP
    exact c_iret hx hb hr hlocks hK hS () hP (by unfold rKnown; rw [c_5]; rfl) dX11_known_10
theorem in_X11_forget_X11 : ∀ w ∈ wsX110, w ∈ wsX11_forget := fun w h => List.mem_cons_of_mem _ (List.mem_append_right _ h)
set_option maxHeartbeats 4000000 in
set_option maxRecDepth 100000 in
theorem k_X11_forget (l : Launch) (dC : Nat → ClassId) (dI : Nat → Nat → Nat) (y : Nat → ClassId) (A : Nat → Prop) (b : Nat → Nat) (hA0 : ad_ok A b 16) (rn : Nat) (n : Nat) (lo : Int32) (kp : Nat) (dy : Int32) (so : Int32) (he : Int32) (kn : Nat) (ak : Nat) (pl : Nat) (iw : Bool) (nm : Nat) (sd : Int64) (ik : Bool) (kr : Nat) (lo2 : Int32) (dy2 : Int32) (so2 : Int32) (he2 : Int32) (kn2 : Nat) (dgv : Int64) (kd : Nat → Nat) (len : Nat → Nat) (ord : Nat → Nat) (kh : Nat → Nat) (km : Nat → Nat) (pg : Nat → Nat) (cm : Nat → Nat) (sav : Nat → Nat) (bo : Nat → Nat) (cb : Nat → Nat) (sl : Nat → Nat) (len2 : Nat → Nat) (ord2 : Nat → Nat) (kh2 : Nat → Nat) (km2 : Nat → Nat) : Met l yX11_forget wsX11_forget ({ frames := 0, cells := 0, slots := 0, locals := 0 } : Room) (c_P (dC, dI) vwCl (TY y) (fun _ => True) (DW y b rn n lo kp dy so he kn ak pl iw nm sd ik kr lo2 dy2 so2 he2 kn2 dgv kd len ord kh km pg cm sav bo cb sl len2 ord2 kh2 km2) [.ref (b 0)]) (va_Qi (fun (r : Int32) (u : Unit) => r = nI kn) (c_B (dC, dI) vwCl (TY y) (fun (u : Unit) => (DW y b rn n lo kp dy so he 0 ak pl iw nm sd ik kr lo2 dy2 so2 he2 kn2 dgv kd len ord kh km pg cm sav bo cb sl len2 ord2 kh2 km2))) A) 0 0 A := by
  refine Met.ofW (cc := cX11_forget) (maxL := 2) (ret := (some .int)) (by decide) rfl ?_
  intro p e s m args below meth c s₁ BB hml hv
  obtain ⟨rfl, hP, hK, hE⟩ := hv
  have hx := BB.exec
  have hb := BB.bytes
  have hr := BB.returns
  have hts := atoms_spec (ws := wsX11_forget) BB.pre
  have hown : s.vm.findClass RX11 = some m.cls := findClass_of_methodNamed BB.named
  have hlocks := BB.notSynchronized
  have hS : va_S A s.heap s.heap [] := va_S.rf
  have hl := lv_entry ([.ref (b 0)]) (n := 2) (Nat.le_of_ble_eq_true rfl)
  rw [lg_entry_eq]
  generalize (lg_sl ([.ref (b 0)]) ++ List.replicate (2 - (lg_sl ([.ref (b 0)])).length) Slot.unset).toArray = ls at hl ⊢
  have hl : lv_has ls 2 [(0, .ref (b 0))] := hl
  refine lv_aload_n hx hb dX11_forget_0 rfl (lv_at hl 0 rfl) ?_
  refine va_get (D := (dC, dI)) (ci := 11) (C := RX11) (T := TX11) (N := 36) hx hb hts in_X11_forget_X11 hown hK hP 0 rfl rfl 10 (by decide) (hts (.fieldLink RX11 103 "MilkRoundModel" "known" "I") (List.mem_of_getElem? (i := 1) rfl)) (fun _ h9 => h9) rfl dX11_forget_1 ?_
  refine lv_istore_n (lv' := [(1, .int (nI (kn))), (0, .ref (b 0))]) hx hb dX11_forget_4 rfl hl (by decide) rfl (fun ls hl => ?_)
  refine lv_aload_n hx hb dX11_forget_5 rfl (lv_at hl 1 rfl) ?_
  refine lv_iconst (v := nI (0)) hx hb dX11_forget_6 (by decide) ?_
  refine va_put (D := (dC, dI)) (ci := 11) (ty := tyX11 10) (C := RX11) (T := TX11) (N := 36) hx hb hts in_X11_forget_X11 tyX11 tyX11_ok nmX11 hown hK hP (ad_D hA0 rfl) hS 0 rfl rfl 10 (by decide) (hts (.fieldLink RX11 103 "MilkRoundModel" "known" "I") (List.mem_of_getElem? (i := 1) rfl)) (fun _ h9 => h9) rfl (tyX11_ok 10 (by decide)) rfl rfl (Nat.le_of_ble_eq_true rfl) dX11_forget_7 (fun H locs hP _ hS => ?_)
  have hP : va_P (dC, dI) vwCl (DW y b rn n lo kp dy so he 0 ak pl iw nm sd ik kr lo2 dy2 so2 he2 kn2 dgv kd len ord kh km pg cm sav bo cb sl len2 ord2 kh2 km2) H := hP
  refine lv_iload_n hx hb dX11_forget_10 rfl (lv_at hl 0 rfl) ?_
  exact c_iret hx hb hr hlocks hK hS () hP rfl dX11_forget_11
theorem in_X11_isKnown_X11 : ∀ w ∈ wsX110, w ∈ wsX11_isKnown := fun w h => List.mem_cons_of_mem _ (List.mem_append_right _ h)
set_option maxHeartbeats 4000000 in
set_option maxRecDepth 100000 in
theorem k_X11_isKnown (l : Launch) (dC : Nat → ClassId) (dI : Nat → Nat → Nat) (y : Nat → ClassId) (A : Nat → Prop) (b : Nat → Nat) (hA0 : ad_ok A b 16) (rn : Nat) (n : Nat) (lo : Int32) (kp : Nat) (dy : Int32) (so : Int32) (he : Int32) (kn : Nat) (ak : Nat) (pl : Nat) (iw : Bool) (nm : Nat) (sd : Int64) (ik : Bool) (kr : Nat) (lo2 : Int32) (dy2 : Int32) (so2 : Int32) (he2 : Int32) (kn2 : Nat) (dgv : Int64) (kd : Nat → Nat) (len : Nat → Nat) (ord : Nat → Nat) (kh : Nat → Nat) (km : Nat → Nat) (pg : Nat → Nat) (cm : Nat → Nat) (sav : Nat → Nat) (bo : Nat → Nat) (cb : Nat → Nat) (sl : Nat → Nat) (len2 : Nat → Nat) (ord2 : Nat → Nat) (kh2 : Nat → Nat) (km2 : Nat → Nat) (sx : Int32) (hn : n ≤ 6) (hord : PermOn n ord) (hlen : ∀ j, len j ≤ 9) (hkd : ∀ j, kd j ≤ 4) (hcm : ∀ j, cm j ≤ 126) (hkn : kn ≤ 6) (hkh : ∀ i, i < kn → kh i < n) (hkm : ∀ i, km i ≤ 150) : Met l yX11_isKnown wsX11_isKnown ({ frames := 3, cells := 0, slots := 0, locals := 65 } : Room) (c_P (dC, dI) vwCl (TY y) (fun _ => True) (DW y b rn n lo kp dy so he kn ak pl iw nm sd ik kr lo2 dy2 so2 he2 kn2 dgv kd len ord kh km pg cm sav bo cb sl len2 ord2 kh2 km2) [.ref (b 0), .int (sx)]) (va_Qi (fun (r : Int32) (u : Nat → Nat) => r = bI (knB n kd len ord kn kh km sx) ∧ CamOk kd len sx ord n u) (c_B (dC, dI) vwCl (TY y) (fun (u : Nat → Nat) => (DW y b rn n lo kp dy so he kn ak pl iw nm sd ik kr lo2 dy2 so2 he2 kn2 dgv kd len ord kh km pg u sav bo cb sl len2 ord2 kh2 km2))) A) 0 0 A := by
  refine Met.ofW (cc := cX11_isKnown) (maxL := 5) (ret := (some .boolean)) (by decide) rfl ?_
  intro p e s m args below meth c s₁ BB hml hv
  obtain ⟨rfl, hP, hK, hE⟩ := hv
  have hx := BB.exec
  have hb := BB.bytes
  have hr := BB.returns
  have hts := atoms_spec (ws := wsX11_isKnown) BB.pre
  have hown : s.vm.findClass RX11 = some m.cls := findClass_of_methodNamed BB.named
  have hlocks := BB.notSynchronized
  have hS : va_S A s.heap s.heap [] := va_S.rf
  have hl := lv_entry ([.ref (b 0), .int (sx)]) (n := 5) (Nat.le_of_ble_eq_true rfl)
  rw [lg_entry_eq]
  generalize (lg_sl ([.ref (b 0), .int (sx)]) ++ List.replicate (5 - (lg_sl ([.ref (b 0), .int (sx)])).length) Slot.unset).toArray = ls at hl ⊢
  have hl : lv_has ls 5 [(0, .ref (b 0)), (1, .int (sx))] := hl
  refine lv_aload_n hx hb dX11_isKnown_0 rfl (lv_at hl 0 rfl) ?_
  refine va_get (D := (dC, dI)) (ci := 11) (C := RX11) (T := TX11) (N := 36) hx hb hts in_X11_isKnown_X11 hown hK hP 0 rfl rfl 5 (by decide) (hts (.fieldLink RX11 91 "MilkRoundModel" "leftOut" "I") (List.mem_of_getElem? (i := 1) rfl)) (fun _ h9 => h9) rfl dX11_isKnown_1 ?_
  refine lv_istore_n (lv' := [(2, .int (lo)), (0, .ref (b 0)), (1, .int (sx))]) hx hb dX11_isKnown_4 rfl hl (by decide) rfl (fun ls hl => ?_)
  refine lv_aload_n hx hb dX11_isKnown_5 rfl (lv_at hl 1 rfl) ?_
  refine lv_iload_n hx hb dX11_isKnown_6 rfl (lv_at hl 2 rfl) ?_
  refine va_put (D := (dC, dI)) (ci := 11) (ty := tyX11 5) (C := RX11) (T := TX11) (N := 36) hx hb hts in_X11_isKnown_X11 tyX11 tyX11_ok nmX11 hown hK hP (ad_D hA0 rfl) hS 0 rfl rfl 5 (by decide) (hts (.fieldLink RX11 91 "MilkRoundModel" "leftOut" "I") (List.mem_of_getElem? (i := 1) rfl)) (fun _ h9 => h9) rfl (tyX11_ok 5 (by decide)) rfl rfl (Nat.le_of_ble_eq_true rfl) dX11_isKnown_7 (fun H locs hP _ hS => ?_)
  have hP : va_P (dC, dI) vwCl (DW y b rn n sx kp dy so he kn ak pl iw nm sd ik kr lo2 dy2 so2 he2 kn2 dgv kd len ord kh km pg cm sav bo cb sl len2 ord2 kh2 km2) H := hP
  refine lv_aload_n hx hb dX11_isKnown_10 rfl (lv_at hl 1 rfl) ?_
  refine c_callv (va_runV (As := []) (rest := []) ⟨hx, hb, hml, hown, hts⟩ (k_X11_go l dC dI y A b hA0 rn n sx kp dy so he kn ak pl iw nm sd ik kr lo2 dy2 so2 he2 kn2 dgv kd len ord kh km pg cm sav bo cb sl len2 ord2 kh2 km2  hn hord hlen hkd hcm) (cwV 0 hts gX11_isKnown_X11_go rfl rfl rfl (by decide +kernel) ⟨Nat.le_of_ble_eq_true rfl, Nat.le_of_ble_eq_true rfl⟩) (c_preV (c_N0 A) hK hE hS hP (va_recv hK hP (ci := 11) (q0 := 0) rfl rfl)) rfl rfl hl.1 rfl (lv_room (Nat.le_of_ble_eq_true rfl)) dX11_isKnown_11 ⟨Nat.le_refl _, Nat.le_refl _⟩) hS (fun u_11 H locs hw_11 hP hS => ?_)
  have hP : va_P (dC, dI) vwCl (DW y b rn n sx kp dy so he kn ak pl iw nm sd ik kr lo2 dy2 so2 he2 kn2 dgv kd len ord kh km pg u_11 sav bo cb sl len2 ord2 kh2 km2) H := hP
  refine lv_aload_n hx hb dX11_isKnown_14 rfl (lv_at hl 1 rfl) ?_
  refine lv_iload_n hx hb dX11_isKnown_15 rfl (lv_at hl 0 rfl) ?_
  refine va_put (D := (dC, dI)) (ci := 11) (ty := tyX11 5) (C := RX11) (T := TX11) (N := 36) hx hb hts in_X11_isKnown_X11 tyX11 tyX11_ok nmX11 hown hK hP (ad_D hA0 rfl) hS 0 rfl rfl 5 (by decide) (hts (.fieldLink RX11 91 "MilkRoundModel" "leftOut" "I") (List.mem_of_getElem? (i := 1) rfl)) (fun _ h9 => h9) rfl (tyX11_ok 5 (by decide)) rfl rfl (Nat.le_of_ble_eq_true rfl) dX11_isKnown_16 (fun H locs hP _ hS => ?_)
  have hP : va_P (dC, dI) vwCl (DW y b rn n lo kp dy so he kn ak pl iw nm sd ik kr lo2 dy2 so2 he2 kn2 dgv kd len ord kh km pg u_11 sav bo cb sl len2 ord2 kh2 km2) H := hP
  refine lv_iconst (v := nI (1)) hx hb dX11_isKnown_19 (by decide) ?_
  refine lv_istore_n (lv' := [(3, .int (nI (1))), (2, .int (lo)), (0, .ref (b 0)), (1, .int (sx))]) hx hb dX11_isKnown_20 rfl hl (by decide) rfl (fun ls hl => ?_)
  refine lv_iconst (v := nI (0)) hx hb dX11_isKnown_21 (by decide) ?_
  refine lv_istore (lv' := [(4, .int (nI (0))), (3, .int (nI (1))), (2, .int (lo)), (0, .ref (b 0)), (1, .int (sx))]) hx hb dX11_isKnown_22 hl (by decide) rfl (fun ls hl => ?_)
  have loop_24 : ∀ (dd_24 : Nat) (k : Nat) (bb : Bool) (hk : k ≤ kn) (hbb : bb = allB (knP n kd len ord kh km sx) k), kn - k < dd_24 → ∀ (H : Heap) (locs : List Loc) (ls : Array Slot), va_P (dC, dI) vwCl (DW y b rn n lo kp dy so he kn ak pl iw nm sd ik kr lo2 dy2 so2 he2 kn2 dgv kd len ord kh km pg u_11 sav bo cb sl len2 ord2 kh2 km2) H → va_S A s.heap H locs → lv_has ls 5 [(4, .int (nI (k))), (3, .int (bI (bb))), (2, .int (lo)), (0, .ref (b 0)), (1, .int (sx))] → W p l e (headSpec wsX11_isKnown ({ frames := 3, cells := 0, slots := 0, locals := 65 } : Room)).room s m [.ref (b 0), .int (sx)].toArray below meth c H locs 0 0 (MQ below (va_Qi (fun (r : Int32) (u : Nat → Nat) => r = bI (knB n kd len ord kn kh km sx) ∧ CamOk kd len sx ord n u) (c_B (dC, dI) vwCl (TY y) (fun (u : Nat → Nat) => (DW y b rn n lo kp dy so he kn ak pl iw nm sd ik kr lo2 dy2 so2 he2 kn2 dgv kd len ord kh km pg u sav bo cb sl len2 ord2 kh2 km2))) A) [.ref (b 0), .int (sx)].toArray s 0 0 A) (F0 m 24 ls []) := by
    intro dd_24
    induction dd_24 with
    | zero => intro k bb hk hbb hd; exact absurd hd (Nat.not_lt_zero _)
    | succ dd_24 ih_24 =>
      intro k bb hk hbb hd_24 H locs ls hP hS hl
      refine lv_iload hx hb dX11_isKnown_24 (lv_at hl 0 rfl) ?_
      refine lv_aload_n hx hb dX11_isKnown_26 rfl (lv_at hl 3 rfl) ?_
      refine va_get (D := (dC, dI)) (ci := 11) (C := RX11) (T := TX11) (N := 36) hx hb hts in_X11_isKnown_X11 hown hK hP 0 rfl rfl 10 (by decide) (hts (.fieldLink RX11 103 "MilkRoundModel" "known" "I") (List.mem_of_getElem? (i := 2) rfl)) (fun _ h9 => h9) rfl dX11_isKnown_27 ?_
      refine n_icmp_ge (tgt := 71) hx hb dX11_isKnown_30 (by decide) (by omega) (by omega) (fun c_30 => ?_) (fun c_30 => ?_)
      · refine lv_iload_n hx hb dX11_isKnown_71 rfl (lv_at hl 1 rfl) ?_
        have hkn2 : k = kn := by omega
        exact c_zret hx hb hr hlocks hK hS u_11 (bI_nar _) hP ⟨by rw [hbb, hkn2]; rfl, hw_11⟩ dX11_isKnown_72
      · refine lv_iload_n hx hb dX11_isKnown_33 rfl (lv_at hl 1 rfl) ?_
        refine n_bif_eq (tgt := 63) hx hb dX11_isKnown_34 (by decide) (fun c_34 => ?_) (fun c_34 => ?_)
        · refine lv_iconst (v := nI (0)) hx hb dX11_isKnown_63 (by decide) ?_
          refine lv_istore_n (lv' := [(3, .int (nI (0))), (4, .int (nI (k))), (2, .int (lo)), (0, .ref (b 0)), (1, .int (sx))]) hx hb dX11_isKnown_64 rfl hl (by decide) rfl (fun ls hl => ?_)
          refine lv_iinc (v := nI (k + 1)) (lv' := [(4, .int (nI (k + 1))), (3, .int (nI (0))), (2, .int (lo)), (0, .ref (b 0)), (1, .int (sx))]) hx hb dX11_isKnown_65 hl (k := 1) rfl (mr_inc _) (by decide) rfl (fun ls hl => ?_)
          refine lv_goto (tgt := 24) hx hb dX11_isKnown_68 (by decide) ?_
          exact ih_24 (k + 1) false (by omega) (by show _ = (allB (knP n kd len ord kh km sx) k && knP n kd len ord kh km sx k); rw [← hbb, c_34]; rfl) (by omega) _ _ _ hP hS (lv_sub hl [0, 1, 2, 3, 4] rfl)
        · have hkk := hkh k (by omega)
          have hc9 := hw_11.1 (kh k) hkk
          have hc8 := hw_11.2 (kh k)
          have hc7 := hkm k
          refine lv_aload_n hx hb dX11_isKnown_37 rfl (lv_at hl 3 rfl) ?_
          refine va_get (D := (dC, dI)) (ci := 11) (C := RX11) (T := TX11) (N := 36) hx hb hts in_X11_isKnown_X11 hown hK hP 0 rfl rfl 18 (by decide) (hts (.fieldLink RX11 29 "MilkRoundModel" "comesAt" "[I") (List.mem_of_getElem? (i := 3) rfl)) (fun _ h9 => h9) rfl dX11_isKnown_38 ?_
          refine lv_aload_n hx hb dX11_isKnown_41 rfl (lv_at hl 3 rfl) ?_
          refine va_get (D := (dC, dI)) (ci := 11) (C := RX11) (T := TX11) (N := 36) hx hb hts in_X11_isKnown_X11 hown hK hP 0 rfl rfl 11 (by decide) (hts (.fieldLink RX11 19 "MilkRoundModel" "knownHouse" "[I") (List.mem_of_getElem? (i := 4) rfl)) (fun _ h9 => h9) rfl dX11_isKnown_42 ?_
          refine lv_iload hx hb dX11_isKnown_45 (lv_at hl 0 rfl) ?_
          refine n_iald hx hb hK hP 4 0 rfl rfl (by omega) (by decide) dX11_isKnown_47 ?_
          refine n_iald hx hb hK hP 7 0 rfl rfl (by omega) (by decide) dX11_isKnown_48 ?_
          refine lv_aload_n hx hb dX11_isKnown_49 rfl (lv_at hl 3 rfl) ?_
          refine va_get (D := (dC, dI)) (ci := 11) (C := RX11) (T := TX11) (N := 36) hx hb hts in_X11_isKnown_X11 hown hK hP 0 rfl rfl 12 (by decide) (hts (.fieldLink RX11 22 "MilkRoundModel" "knownMinutes" "[I") (List.mem_of_getElem? (i := 5) rfl)) (fun _ h9 => h9) rfl dX11_isKnown_50 ?_
          refine lv_iload hx hb dX11_isKnown_53 (lv_at hl 0 rfl) ?_
          refine n_iald hx hb hK hP 5 0 rfl rfl (by omega) (by decide) dX11_isKnown_55 ?_
          refine n_icmp_ne (tgt := 63) hx hb dX11_isKnown_56 (by decide) (by omega) (by omega) (fun c_56 => ?_) (fun c_56 => ?_)
          · refine lv_iconst (v := nI (0)) hx hb dX11_isKnown_63 (by decide) ?_
            refine lv_istore_n (lv' := [(3, .int (nI (0))), (4, .int (nI (k))), (2, .int (lo)), (0, .ref (b 0)), (1, .int (sx))]) hx hb dX11_isKnown_64 rfl hl (by decide) rfl (fun ls hl => ?_)
            refine lv_iinc (v := nI (k + 1)) (lv' := [(4, .int (nI (k + 1))), (3, .int (nI (0))), (2, .int (lo)), (0, .ref (b 0)), (1, .int (sx))]) hx hb dX11_isKnown_65 hl (k := 1) rfl (mr_inc _) (by decide) rfl (fun ls hl => ?_)
            refine lv_goto (tgt := 24) hx hb dX11_isKnown_68 (by decide) ?_
            exact ih_24 (k + 1) false (by omega) (by show _ = (allB (knP n kd len ord kh km sx) k && knP n kd len ord kh km sx k); rw [← hbb, c_34]; exact (decide_eq_false (fun q => c_56 (by rw [hc9]; exact q))).symm) (by omega) _ _ _ hP hS (lv_sub hl [0, 1, 2, 3, 4] rfl)
          · refine lv_iconst (v := nI (1)) hx hb dX11_isKnown_59 (by decide) ?_
            refine lv_goto (tgt := 64) hx hb dX11_isKnown_60 (by decide) ?_
            refine lv_istore_n (lv' := [(3, .int (nI (1))), (4, .int (nI (k))), (2, .int (lo)), (0, .ref (b 0)), (1, .int (sx))]) hx hb dX11_isKnown_64 rfl hl (by decide) rfl (fun ls hl => ?_)
            refine lv_iinc (v := nI (k + 1)) (lv' := [(4, .int (nI (k + 1))), (3, .int (nI (1))), (2, .int (lo)), (0, .ref (b 0)), (1, .int (sx))]) hx hb dX11_isKnown_65 hl (k := 1) rfl (mr_inc _) (by decide) rfl (fun ls hl => ?_)
            refine lv_goto (tgt := 24) hx hb dX11_isKnown_68 (by decide) ?_
            exact ih_24 (k + 1) true (by omega) (by show _ = (allB (knP n kd len ord kh km sx) k && knP n kd len ord kh km sx k); rw [← hbb, c_34]; exact (decide_eq_true (by rw [← hc9]; exact c_56)).symm) (by omega) _ _ _ hP hS (lv_sub hl [0, 1, 2, 3, 4] rfl)
  exact loop_24 _ 0 true (Nat.zero_le _) rfl (Nat.lt_succ_self _) _ _ _ hP hS (lv_sub hl [0, 1, 2, 3, 4] rfl)
theorem in_X11_setsNow_X11 : ∀ w ∈ wsX110, w ∈ wsX11_setsNow := fun w h => List.mem_cons_of_mem _ (List.mem_append_right _ h)
set_option maxHeartbeats 4000000 in
set_option maxRecDepth 100000 in
theorem k_X11_setsNow (l : Launch) (dC : Nat → ClassId) (dI : Nat → Nat → Nat) (y : Nat → ClassId) (A : Nat → Prop) (b : Nat → Nat) (hA0 : ad_ok A b 16) (rn : Nat) (n : Nat) (lo : Int32) (kp : Nat) (dy : Int32) (so : Int32) (he : Int32) (kn : Nat) (ak : Nat) (pl : Nat) (iw : Bool) (nm : Nat) (sd : Int64) (ik : Bool) (kr : Nat) (lo2 : Int32) (dy2 : Int32) (so2 : Int32) (he2 : Int32) (kn2 : Nat) (dgv : Int64) (kd : Nat → Nat) (len : Nat → Nat) (ord : Nat → Nat) (kh : Nat → Nat) (km : Nat → Nat) (pg : Nat → Nat) (cm : Nat → Nat) (sav : Nat → Nat) (bo : Nat → Nat) (cb : Nat → Nat) (sl : Nat → Nat) (len2 : Nat → Nat) (ord2 : Nat → Nat) (kh2 : Nat → Nat) (km2 : Nat → Nat) (w : Nat) (hn : n ≤ 6) (hord : PermOn n ord) (hlen : ∀ j, len j ≤ 9) (hkd : ∀ j, kd j ≤ 4) (hcm : ∀ j, cm j ≤ 126) (hkn : kn ≤ 6) (hkh : ∀ i, i < kn → kh i < n) (hkm : ∀ i, km i ≤ 150) (hw : w ≤ 1) : Met l yX11_setsNow wsX11_setsNow ({ frames := 4, cells := 0, slots := 0, locals := 89 } : Room) (c_P (dC, dI) vwCl (TY y) (fun _ => True) (DW y b rn n lo kp dy so he kn ak pl iw nm sd ik kr lo2 dy2 so2 he2 kn2 dgv kd len ord kh km pg cm sav bo cb sl len2 ord2 kh2 km2) [.ref (b 0), .int (nI (w))]) (va_Qi (fun (r : Int32) (u : Nat → Nat) => r = stsF n kd len ord kn kh km w ∧ ∀ j, u j ≤ 126) (c_B (dC, dI) vwCl (TY y) (fun (u : Nat → Nat) => (DW y b rn n lo kp dy so he kn ak pl iw nm sd ik kr lo2 dy2 so2 he2 kn2 dgv kd len ord kh km pg u sav bo cb sl len2 ord2 kh2 km2))) A) 0 0 A := by
  refine Met.ofW (cc := cX11_setsNow) (maxL := 6) (ret := (some .int)) (by decide) rfl ?_
  intro p e s m args below meth c s₁ BB hml hv
  obtain ⟨rfl, hP, hK, hE⟩ := hv
  have hx := BB.exec
  have hb := BB.bytes
  have hr := BB.returns
  have hts := atoms_spec (ws := wsX11_setsNow) BB.pre
  have hown : s.vm.findClass RX11 = some m.cls := findClass_of_methodNamed BB.named
  have hlocks := BB.notSynchronized
  have hS : va_S A s.heap s.heap [] := va_S.rf
  have hl := lv_entry ([.ref (b 0), .int (nI (w))]) (n := 6) (Nat.le_of_ble_eq_true rfl)
  rw [lg_entry_eq]
  generalize (lg_sl ([.ref (b 0), .int (nI (w))]) ++ List.replicate (6 - (lg_sl ([.ref (b 0), .int (nI (w))])).length) Slot.unset).toArray = ls at hl ⊢
  have hl : lv_has ls 6 [(0, .ref (b 0)), (1, .int (nI (w)))] := hl
  have hp6 := pow_le6 n hn
  have hp0 := pow_pos6 n
  refine lv_iconst (v := nI (0)) hx hb dX11_setsNow_0 (by decide) ?_
  refine lv_istore_n (lv' := [(2, .int (nI (0))), (0, .ref (b 0)), (1, .int (nI (w)))]) hx hb dX11_setsNow_1 rfl hl (by decide) rfl (fun ls hl => ?_)
  refine lv_iconst (v := (-1)) hx hb dX11_setsNow_2 (by decide) ?_
  refine lv_istore_n (lv' := [(3, .int ((-1))), (2, .int (nI (0))), (0, .ref (b 0)), (1, .int (nI (w)))]) hx hb dX11_setsNow_3 rfl hl (by decide) rfl (fun ls hl => ?_)
  refine lv_iconst (v := nI (1)) hx hb dX11_setsNow_4 (by decide) ?_
  refine lv_aload_n hx hb dX11_setsNow_5 rfl (lv_at hl 2 rfl) ?_
  refine va_get (D := (dC, dI)) (ci := 11) (C := RX11) (T := TX11) (N := 36) hx hb hts in_X11_setsNow_X11 hown hK hP 0 rfl rfl 1 (by decide) (hts (.fieldLink RX11 82 "MilkRoundModel" "houses" "I") (List.mem_of_getElem? (i := 1) rfl)) (fun _ h9 => h9) rfl dX11_setsNow_6 ?_
  refine lv_ishl hx hb dX11_setsNow_9 ?_
  refine n_top (y := nI (2 ^ n)) (shl1 n hn) ?_
  refine lv_iconst (v := nI (1)) hx hb dX11_setsNow_10 (by decide) ?_
  refine lv_isub hx hb dX11_setsNow_11 ?_
  refine lv_istore (lv' := [(4, .int ((nI (2 ^ n)) - (nI (1)))), (3, .int ((-1))), (2, .int (nI (0))), (0, .ref (b 0)), (1, .int (nI (w)))]) hx hb dX11_setsNow_12 hl (by decide) rfl (fun ls hl => ?_)
  have loop_14 : ∀ (dd_14 : Nat) (k : Nat) (mm : Nat) (ls9 : Int32) (f : Nat → Nat) (hk : k ≤ 2 ^ n) (hf : ∀ j, f j ≤ 126) (hm : mm = ctF (okS n kd len ord kn kh km) k (2 ^ n - k)) (hls : ls9 = lsF (okS n kd len ord kn kh km) k (2 ^ n - k)), k < dd_14 → ∀ (H : Heap) (locs : List Loc) (ls : Array Slot), va_P (dC, dI) vwCl (DW y b rn n lo kp dy so he kn ak pl iw nm sd ik kr lo2 dy2 so2 he2 kn2 dgv kd len ord kh km pg f sav bo cb sl len2 ord2 kh2 km2) H → va_S A s.heap H locs → lv_has ls 6 [(4, .int (nI k - nI 1)), (3, .int (ls9)), (2, .int (nI (mm))), (0, .ref (b 0)), (1, .int (nI (w)))] → W p l e (headSpec wsX11_setsNow ({ frames := 4, cells := 0, slots := 0, locals := 89 } : Room)).room s m [.ref (b 0), .int (nI (w))].toArray below meth c H locs 0 0 (MQ below (va_Qi (fun (r : Int32) (u : Nat → Nat) => r = stsF n kd len ord kn kh km w ∧ ∀ j, u j ≤ 126) (c_B (dC, dI) vwCl (TY y) (fun (u : Nat → Nat) => (DW y b rn n lo kp dy so he kn ak pl iw nm sd ik kr lo2 dy2 so2 he2 kn2 dgv kd len ord kh km pg u sav bo cb sl len2 ord2 kh2 km2))) A) [.ref (b 0), .int (nI (w))].toArray s 0 0 A) (F0 m 14 ls []) := by
    intro dd_14
    induction dd_14 with
    | zero => intro k mm ls9 f hk hf hm hls hd; exact absurd hd (Nat.not_lt_zero _)
    | succ dd_14 ih_14 =>
      intro k mm ls9 f hk hf hm hls hd_14 H locs ls hP hS hl
      refine lv_iload hx hb dX11_setsNow_14 (lv_at hl 0 rfl) ?_
      refine lv_if_lt (tgt := 58) hx hb dX11_setsNow_16 (by decide) (fun c_16 => ?_) (fun c_16 => ?_)
      · have hk0 : k = 0 := by
          rcases Nat.eq_zero_or_pos k with z | z
          · exact z
          · exact absurd c_16 (by rw [pk_sub z]; exact nI_pos (by omega))
        subst hk0
        refine lv_iload_n hx hb dX11_setsNow_58 rfl (lv_at hl 4 rfl) ?_
        refine n_if_ne (tgt := 66) hx hb dX11_setsNow_59 (by decide) (by omega) (fun c_59 => ?_) (fun c_59 => ?_)
        · refine lv_iload_n hx hb dX11_setsNow_66 rfl (lv_at hl 1 rfl) ?_
          exact c_iret hx hb hr hlocks hK hS f hP ⟨by rw [stsF, if_neg c_59, hls, Nat.sub_zero], hf⟩ dX11_setsNow_67
        · refine lv_iload_n hx hb dX11_setsNow_62 rfl (lv_at hl 2 rfl) ?_
          refine lv_goto (tgt := 67) hx hb dX11_setsNow_63 (by decide) ?_
          exact c_iret hx hb hr hlocks hK hS f hP ⟨by rw [stsF, if_pos c_59, hm, Nat.sub_zero, ctF_0], hf⟩ dX11_setsNow_67
      · obtain ⟨q, hq9⟩ : ∃ q, k = q + 1 := ⟨k - 1, by
          rcases Nat.eq_zero_or_pos k with z | z
          · exact absurd (by rw [z]; decide) c_16
          · omega⟩
        rw [show nI k - nI 1 = nI q by rw [hq9]; exact pk_sub (by omega)] at hl
        have hl : lv_has ls 6 [(4, .int (nI (q))), (3, .int (ls9)), (2, .int (nI (mm))), (0, .ref (b 0)), (1, .int (nI (w)))] := hl
        refine lv_aload_n hx hb dX11_setsNow_19 rfl (lv_at hl 3 rfl) ?_
        refine lv_iload hx hb dX11_setsNow_20 (lv_at hl 0 rfl) ?_
        refine c_calli (va_runV (As := [.int (nI (q))]) (rest := []) ⟨hx, hb, hml, hown, hts⟩ (k_X11_isKnown l dC dI y A b hA0 rn n lo kp dy so he kn ak pl iw nm sd ik kr lo2 dy2 so2 he2 kn2 dgv kd len ord kh km pg f sav bo cb sl len2 ord2 kh2 km2 (nI q) hn hord hlen hkd hf hkn hkh hkm) (cwV 1 hts gX11_setsNow_X11_isKnown rfl rfl rfl (by decide +kernel) ⟨Nat.le_of_ble_eq_true rfl, Nat.le_of_ble_eq_true rfl⟩) (c_preV (c_N0 A) hK hE hS hP (va_recv hK hP (ci := 11) (q0 := 0) rfl rfl)) rfl rfl hl.1 rfl (lv_room (Nat.le_of_ble_eq_true rfl)) dX11_setsNow_22 ⟨Nat.le_refl _, Nat.le_refl _⟩) hS (fun r_22 u_22 H locs hw_22 hP hS => ?_)
        have hP : va_P (dC, dI) vwCl (DW y b rn n lo kp dy so he kn ak pl iw nm sd ik kr lo2 dy2 so2 he2 kn2 dgv kd len ord kh km pg u_22 sav bo cb sl len2 ord2 kh2 km2) H := hP
        obtain ⟨rfl, hw_22⟩ := hw_22
        refine lv_istore (lv' := [(5, .int (bI (knB n kd len ord kn kh km (nI q)))), (4, .int (nI (q))), (3, .int (ls9)), (2, .int (nI (mm))), (0, .ref (b 0)), (1, .int (nI (w)))]) hx hb dX11_setsNow_25 hl (by decide) rfl (fun ls hl => ?_)
        refine lv_iload_n hx hb dX11_setsNow_27 rfl (lv_at hl 3 rfl) ?_
        refine lv_iload hx hb dX11_setsNow_28 (lv_at hl 0 rfl) ?_
        refine n_bif_eq (tgt := 37) hx hb dX11_setsNow_30 (by decide) (fun c_30 => ?_) (fun c_30 => ?_)
        · refine lv_iconst (v := nI (0)) hx hb dX11_setsNow_37 (by decide) ?_
          refine n_iadd hx hb dX11_setsNow_38 ?_
          refine lv_istore_n (lv' := [(2, .int (nI (mm + 0))), (5, .int (bI (knB n kd len ord kn kh km (nI q)))), (4, .int (nI (q))), (3, .int (ls9)), (0, .ref (b 0)), (1, .int (nI (w)))]) hx hb dX11_setsNow_39 rfl hl (by decide) rfl (fun ls hl => ?_)
          refine lv_iload hx hb dX11_setsNow_40 (lv_at hl 1 rfl) ?_
          refine n_bif_eq (tgt := 50) hx hb dX11_setsNow_42 (by decide) (fun c_42 => ?_) (fun c_42 => ?_)
          · refine lv_iload_n hx hb dX11_setsNow_50 rfl (lv_at hl 3 rfl) ?_
            refine lv_istore_n (lv' := [(3, .int (ls9)), (2, .int (nI (mm + 0))), (5, .int (bI (knB n kd len ord kn kh km (nI q)))), (4, .int (nI (q))), (0, .ref (b 0)), (1, .int (nI (w)))]) hx hb dX11_setsNow_51 rfl hl (by decide) rfl (fun ls hl => ?_)
            refine lv_iinc (v := nI q - nI 1) (lv' := [(4, .int (nI q - nI 1)), (3, .int (ls9)), (2, .int (nI (mm + 0))), (5, .int (bI (knB n kd len ord kn kh km (nI q)))), (0, .ref (b 0)), (1, .int (nI (w)))]) hx hb dX11_setsNow_52 hl (k := 3) rfl (mr_decR q) (by decide) rfl (fun ls hl => ?_)
            refine lv_goto (tgt := 14) hx hb dX11_setsNow_55 (by decide) ?_
            have hd9 : 2 ^ n - q = (2 ^ n - k) + 1 := by omega
            exact ih_14 q (mm + 0) ls9 u_22 (by omega) hw_22.2 (by rw [hd9, ctF_f (p := okS n kd len ord kn kh km) c_30, ← hq9, hm]; rfl) (by rw [hd9, lsF_f (p := okS n kd len ord kn kh km) c_42, ← hq9, hls]) (by omega) _ _ _ hP hS (lv_sub hl [0, 1, 2, 4, 5] rfl)
          · refine lv_iload hx hb dX11_setsNow_45 (lv_at hl 2 rfl) ?_
            refine lv_goto (tgt := 51) hx hb dX11_setsNow_47 (by decide) ?_
            refine lv_istore_n (lv' := [(3, .int (nI (q))), (2, .int (nI (mm + 0))), (5, .int (bI (knB n kd len ord kn kh km (nI q)))), (4, .int (nI (q))), (0, .ref (b 0)), (1, .int (nI (w)))]) hx hb dX11_setsNow_51 rfl hl (by decide) rfl (fun ls hl => ?_)
            refine lv_iinc (v := nI q - nI 1) (lv' := [(4, .int (nI q - nI 1)), (3, .int (nI (q))), (2, .int (nI (mm + 0))), (5, .int (bI (knB n kd len ord kn kh km (nI q)))), (0, .ref (b 0)), (1, .int (nI (w)))]) hx hb dX11_setsNow_52 hl (k := 3) rfl (mr_decR q) (by decide) rfl (fun ls hl => ?_)
            refine lv_goto (tgt := 14) hx hb dX11_setsNow_55 (by decide) ?_
            have hd9 : 2 ^ n - q = (2 ^ n - k) + 1 := by omega
            exact ih_14 q (mm + 0) (nI (q)) u_22 (by omega) hw_22.2 (by rw [hd9, ctF_f (p := okS n kd len ord kn kh km) c_30, ← hq9, hm]; rfl) (by rw [hd9, lsF_t (p := okS n kd len ord kn kh km) c_42]) (by omega) _ _ _ hP hS (lv_sub hl [0, 1, 2, 4, 5] rfl)
        · refine lv_iconst (v := nI (1)) hx hb dX11_setsNow_33 (by decide) ?_
          refine lv_goto (tgt := 38) hx hb dX11_setsNow_34 (by decide) ?_
          refine n_iadd hx hb dX11_setsNow_38 ?_
          refine lv_istore_n (lv' := [(2, .int (nI (mm + 1))), (5, .int (bI (knB n kd len ord kn kh km (nI q)))), (4, .int (nI (q))), (3, .int (ls9)), (0, .ref (b 0)), (1, .int (nI (w)))]) hx hb dX11_setsNow_39 rfl hl (by decide) rfl (fun ls hl => ?_)
          refine lv_iload hx hb dX11_setsNow_40 (lv_at hl 1 rfl) ?_
          refine n_bif_eq (tgt := 50) hx hb dX11_setsNow_42 (by decide) (fun c_42 => ?_) (fun c_42 => ?_)
          · refine lv_iload_n hx hb dX11_setsNow_50 rfl (lv_at hl 3 rfl) ?_
            refine lv_istore_n (lv' := [(3, .int (ls9)), (2, .int (nI (mm + 1))), (5, .int (bI (knB n kd len ord kn kh km (nI q)))), (4, .int (nI (q))), (0, .ref (b 0)), (1, .int (nI (w)))]) hx hb dX11_setsNow_51 rfl hl (by decide) rfl (fun ls hl => ?_)
            refine lv_iinc (v := nI q - nI 1) (lv' := [(4, .int (nI q - nI 1)), (3, .int (ls9)), (2, .int (nI (mm + 1))), (5, .int (bI (knB n kd len ord kn kh km (nI q)))), (0, .ref (b 0)), (1, .int (nI (w)))]) hx hb dX11_setsNow_52 hl (k := 3) rfl (mr_decR q) (by decide) rfl (fun ls hl => ?_)
            refine lv_goto (tgt := 14) hx hb dX11_setsNow_55 (by decide) ?_
            have hd9 : 2 ^ n - q = (2 ^ n - k) + 1 := by omega
            exact ih_14 q (mm + 1) ls9 u_22 (by omega) hw_22.2 (by rw [hd9, ctF_t (p := okS n kd len ord kn kh km) c_30, ← hq9, hm]) (by rw [hd9, lsF_f (p := okS n kd len ord kn kh km) c_42, ← hq9, hls]) (by omega) _ _ _ hP hS (lv_sub hl [0, 1, 2, 4, 5] rfl)
          · refine lv_iload hx hb dX11_setsNow_45 (lv_at hl 2 rfl) ?_
            refine lv_goto (tgt := 51) hx hb dX11_setsNow_47 (by decide) ?_
            refine lv_istore_n (lv' := [(3, .int (nI (q))), (2, .int (nI (mm + 1))), (5, .int (bI (knB n kd len ord kn kh km (nI q)))), (4, .int (nI (q))), (0, .ref (b 0)), (1, .int (nI (w)))]) hx hb dX11_setsNow_51 rfl hl (by decide) rfl (fun ls hl => ?_)
            refine lv_iinc (v := nI q - nI 1) (lv' := [(4, .int (nI q - nI 1)), (3, .int (nI (q))), (2, .int (nI (mm + 1))), (5, .int (bI (knB n kd len ord kn kh km (nI q)))), (0, .ref (b 0)), (1, .int (nI (w)))]) hx hb dX11_setsNow_52 hl (k := 3) rfl (mr_decR q) (by decide) rfl (fun ls hl => ?_)
            refine lv_goto (tgt := 14) hx hb dX11_setsNow_55 (by decide) ?_
            have hd9 : 2 ^ n - q = (2 ^ n - k) + 1 := by omega
            exact ih_14 q (mm + 1) (nI (q)) u_22 (by omega) hw_22.2 (by rw [hd9, ctF_t (p := okS n kd len ord kn kh km) c_30, ← hq9, hm]) (by rw [hd9, lsF_t (p := okS n kd len ord kn kh km) c_42]) (by omega) _ _ _ hP hS (lv_sub hl [0, 1, 2, 4, 5] rfl)
  exact loop_14 _ (2 ^ n) 0 (-1) cm (Nat.le_refl _) hcm (by rw [Nat.sub_self]; rfl) (by rw [Nat.sub_self]; rfl) (Nat.lt_succ_self _) _ _ _ hP hS (lv_sub hl [0, 1, 2, 3, 4] rfl)
theorem in_X11_sets_X11 : ∀ w ∈ wsX110, w ∈ wsX11_sets := fun w h => List.mem_cons_of_mem _ (List.mem_append_right _ h)
set_option maxHeartbeats 4000000 in
set_option maxRecDepth 100000 in
theorem k_X11_sets (l : Launch) (dC : Nat → ClassId) (dI : Nat → Nat → Nat) (y : Nat → ClassId) (A : Nat → Prop) (b : Nat → Nat) (hA0 : ad_ok A b 16) (rn : Nat) (n : Nat) (lo : Int32) (kp : Nat) (dy : Int32) (so : Int32) (he : Int32) (kn : Nat) (ak : Nat) (pl : Nat) (iw : Bool) (nm : Nat) (sd : Int64) (ik : Bool) (kr : Nat) (lo2 : Int32) (dy2 : Int32) (so2 : Int32) (he2 : Int32) (kn2 : Nat) (dgv : Int64) (kd : Nat → Nat) (len : Nat → Nat) (ord : Nat → Nat) (kh : Nat → Nat) (km : Nat → Nat) (pg : Nat → Nat) (cm : Nat → Nat) (sav : Nat → Nat) (bo : Nat → Nat) (cb : Nat → Nat) (sl : Nat → Nat) (len2 : Nat → Nat) (ord2 : Nat → Nat) (kh2 : Nat → Nat) (km2 : Nat → Nat) (w : Int32) (hn : n ≤ 6) (hord : PermOn n ord) (hlen : ∀ j, len j ≤ 9) (hkd : ∀ j, kd j ≤ 4) (hcm : ∀ j, cm j ≤ 126) (hkn : kn ≤ 6) (hkh : ∀ i, i < kn → kh i < n) (hkm : ∀ i, km i ≤ 150) : Met l yX11_sets wsX11_sets ({ frames := 5, cells := 0, slots := 0, locals := 114 } : Room) (c_P (dC, dI) vwCl (TY y) (fun _ => True) (DW y b rn n lo kp dy so he kn ak pl iw nm sd ik kr lo2 dy2 so2 he2 kn2 dgv kd len ord kh km pg cm sav bo cb sl len2 ord2 kh2 km2) [.ref (b 0), .int (w)]) (va_Qi (fun (r : Int32) (u : Nat → Nat) => r = rSets n kd len ord kn kh km w ∧ ∀ j, u j ≤ 126) (c_B (dC, dI) vwCl (TY y) (fun (u : Nat → Nat) => (DW y b rn n lo kp dy so he kn ak pl iw nm sd ik kr lo2 dy2 so2 he2 kn2 dgv kd len ord kh km pg u sav bo cb sl len2 ord2 kh2 km2))) A) 0 0 A := by
  refine Met.ofW (cc := cX11_sets) (maxL := 2) (ret := (some .int)) (by decide) rfl ?_
  intro p e s m args below meth c s₁ BB hml hv
  obtain ⟨rfl, hP, hK, hE⟩ := hv
  have hx := BB.exec
  have hb := BB.bytes
  have hr := BB.returns
  have hts := atoms_spec (ws := wsX11_sets) BB.pre
  have hown : s.vm.findClass RX11 = some m.cls := findClass_of_methodNamed BB.named
  have hlocks := BB.notSynchronized
  have hS : va_S A s.heap s.heap [] := va_S.rf
  have hl := lv_entry ([.ref (b 0), .int (w)]) (n := 2) (Nat.le_of_ble_eq_true rfl)
  rw [lg_entry_eq]
  generalize (lg_sl ([.ref (b 0), .int (w)]) ++ List.replicate (2 - (lg_sl ([.ref (b 0), .int (w)])).length) Slot.unset).toArray = ls at hl ⊢
  have hl : lv_has ls 2 [(0, .ref (b 0)), (1, .int (w))] := hl
  refine lv_iload_n hx hb dX11_sets_0 rfl (lv_at hl 1 rfl) ?_
  refine lv_iconst (v := nI (0)) hx hb dX11_sets_1 (by decide) ?_
  refine lv_iconst (v := nI (1)) hx hb dX11_sets_2 (by decide) ?_
  refine c_calli (va_runS (As := [.int (w), .int (nI (0)), .int (nI (1))]) (rest := []) ⟨hx, hb, hml, hown, hts⟩ (k_X11_within l dC dI y A (DW y b rn n lo kp dy so he kn ak pl iw nm sd ik kr lo2 dy2 so2 he2 kn2 dgv kd len ord kh km pg cm sav bo cb sl len2 ord2 kh2 km2) (fun _ => True) w (nI (0)) (nI (1)) ) (va_cwS 3 hts gX11_sets_X11_within rfl rfl rfl (by decide +kernel) ⟨Nat.le_of_ble_eq_true rfl, Nat.le_of_ble_eq_true rfl⟩) (c_preS (c_N0 A) hK hE hS hP) rfl rfl hl.1 rfl (lv_room (Nat.le_of_ble_eq_true rfl)) dX11_sets_3 ⟨Nat.le_refl _, Nat.le_refl _⟩) hS (fun r_3 u_3 H locs hw_3 hP hS => ?_)
  obtain rfl := hw_3
  refine n_bif_ne (tgt := 12) hx hb dX11_sets_6 (by decide) (fun c_6 => ?_) (fun c_6 => ?_)
  · obtain ⟨k, hk, ek⟩ := inR_of (m := 1) (by decide) c_6
    rw [ek] at hl
    have hl : lv_has ls 2 [(0, .ref (b 0)), (1, .int (nI (k)))] := hl
    refine lv_aload_n hx hb dX11_sets_12 rfl (lv_at hl 0 rfl) ?_
    refine va_get (D := (dC, dI)) (ci := 11) (C := RX11) (T := TX11) (N := 36) hx hb hts in_X11_sets_X11 hown hK hP 0 rfl rfl 1 (by decide) (hts (.fieldLink RX11 82 "MilkRoundModel" "houses" "I") (List.mem_of_getElem? (i := 1) rfl)) (fun _ h9 => h9) rfl dX11_sets_13 ?_
    refine n_if_ne (tgt := 24) hx hb dX11_sets_16 (by decide) (by omega) (fun c_16 => ?_) (fun c_16 => ?_)
    · refine lv_aload_n hx hb dX11_sets_24 rfl (lv_at hl 0 rfl) ?_
      refine lv_iload_n hx hb dX11_sets_25 rfl (lv_at hl 1 rfl) ?_
      refine c_calli (va_runV (As := [.int (nI (k))]) (rest := []) ⟨hx, hb, hml, hown, hts⟩ (k_X11_setsNow l dC dI y A b hA0 rn n lo kp dy so he kn ak pl iw nm sd ik kr lo2 dy2 so2 he2 kn2 dgv kd len ord kh km pg cm sav bo cb sl len2 ord2 kh2 km2 k hn hord hlen hkd hcm hkn hkh hkm hk) (cwV 1 hts gX11_sets_X11_setsNow rfl rfl rfl (by decide +kernel) ⟨Nat.le_of_ble_eq_true rfl, Nat.le_of_ble_eq_true rfl⟩) (c_preV (c_N0 A) hK hE hS hP (va_recv hK hP (ci := 11) (q0 := 0) rfl rfl)) rfl rfl hl.1 rfl (lv_room (Nat.le_of_ble_eq_true rfl)) dX11_sets_26 ⟨Nat.le_refl _, Nat.le_refl _⟩) hS (fun r_26 u_26 H locs hw_26 hP hS => ?_)
      have hP : va_P (dC, dI) vwCl (DW y b rn n lo kp dy so he kn ak pl iw nm sd ik kr lo2 dy2 so2 he2 kn2 dgv kd len ord kh km pg u_26 sav bo cb sl len2 ord2 kh2 km2) H := hP
      obtain ⟨rfl, hw_26⟩ := hw_26
      exact c_iret hx hb hr hlocks hK hS u_26 hP ⟨by unfold rSets; rw [show inR w 1 = true from c_6, if_neg c_16, ek, nI_clamp (by omega)]; rfl, hw_26⟩ dX11_sets_29
    · refine lv_bipush (v := (-103)) hx hb dX11_sets_19 (by decide) ?_
      refine lv_goto (tgt := 29) hx hb dX11_sets_21 (by decide) ?_
      exact c_iret hx hb hr hlocks hK hS cm hP ⟨by unfold rSets; rw [show inR w 1 = true from c_6, if_pos c_16]; rfl, hcm⟩ dX11_sets_29
  · refine lv_bipush (v := (-102)) hx hb dX11_sets_9 (by decide) ?_
    exact c_iret hx hb hr hlocks hK hS cm hP ⟨by unfold rSets; rw [show inR w 1 = false from c_6]; rfl, hcm⟩ dX11_sets_11
theorem in_X11_worstOf_X11 : ∀ w ∈ wsX110, w ∈ wsX11_worstOf := fun w h => List.mem_cons_of_mem _ (List.mem_append_right _ h)
set_option maxHeartbeats 4000000 in
set_option maxRecDepth 100000 in
theorem k_X11_worstOf (l : Launch) (dC : Nat → ClassId) (dI : Nat → Nat → Nat) (y : Nat → ClassId) (A : Nat → Prop) (b : Nat → Nat) (hA0 : ad_ok A b 16) (rn : Nat) (n : Nat) (lo : Int32) (kp : Nat) (dy : Int32) (so : Int32) (he : Int32) (kn : Nat) (ak : Nat) (pl : Nat) (iw : Bool) (nm : Nat) (sd : Int64) (ik : Bool) (kr : Nat) (lo2 : Int32) (dy2 : Int32) (so2 : Int32) (he2 : Int32) (kn2 : Nat) (dgv : Int64) (kd : Nat → Nat) (len : Nat → Nat) (ord : Nat → Nat) (kh : Nat → Nat) (km : Nat → Nat) (pg : Nat → Nat) (cm : Nat → Nat) (sav : Nat → Nat) (bo : Nat → Nat) (cb : Nat → Nat) (sl : Nat → Nat) (len2 : Nat → Nat) (ord2 : Nat → Nat) (kh2 : Nat → Nat) (km2 : Nat → Nat) (h : Nat) (hn : n ≤ 6) (hord : PermOn n ord) (hlen : ∀ j, len j ≤ 9) (hkd : ∀ j, kd j ≤ 4) (hcm : ∀ j, cm j ≤ 126) (hkn : kn ≤ 6) (hkh : ∀ i, i < kn → kh i < n) (hkm : ∀ i, km i ≤ 150) (hh : h < n) : Met l yX11_worstOf wsX11_worstOf ({ frames := 4, cells := 0, slots := 0, locals := 89 } : Room) (c_P (dC, dI) vwCl (TY y) (fun _ => True) (DW y b rn n lo kp dy so he kn ak pl iw nm sd ik kr lo2 dy2 so2 he2 kn2 dgv kd len ord kh km pg cm sav bo cb sl len2 ord2 kh2 km2) [.ref (b 0), .int (nI (h))]) (va_Qi (fun (r : Int32) (u : (Nat → Nat) × (Nat → Nat)) => r = nI (wstF n kd len ord kn kh km h) ∧ ∀ j, u.1 j ≤ 126) (c_B (dC, dI) vwCl (TY y) (fun (u : (Nat → Nat) × (Nat → Nat)) => (DW y b rn n lo kp dy so he kn ak pl iw nm sd ik kr lo2 dy2 so2 he2 kn2 dgv kd len ord kh km pg u.1 sav bo u.2 sl len2 ord2 kh2 km2))) A) 0 0 A := by
  refine Met.ofW (cc := cX11_worstOf) (maxL := 4) (ret := (some .int)) (by decide) rfl ?_
  intro p e s m args below meth c s₁ BB hml hv
  obtain ⟨rfl, hP, hK, hE⟩ := hv
  have hx := BB.exec
  have hb := BB.bytes
  have hr := BB.returns
  have hts := atoms_spec (ws := wsX11_worstOf) BB.pre
  have hown : s.vm.findClass RX11 = some m.cls := findClass_of_methodNamed BB.named
  have hlocks := BB.notSynchronized
  have hS : va_S A s.heap s.heap [] := va_S.rf
  have hl := lv_entry ([.ref (b 0), .int (nI (h))]) (n := 4) (Nat.le_of_ble_eq_true rfl)
  rw [lg_entry_eq]
  generalize (lg_sl ([.ref (b 0), .int (nI (h))]) ++ List.replicate (4 - (lg_sl ([.ref (b 0), .int (nI (h))])).length) Slot.unset).toArray = ls at hl ⊢
  have hl : lv_has ls 4 [(0, .ref (b 0)), (1, .int (nI (h)))] := hl
  have hp6 := pow_le6 n hn
  refine lv_iconst (v := nI (0)) hx hb dX11_worstOf_0 (by decide) ?_
  refine lv_istore_n (lv' := [(2, .int (nI (0))), (0, .ref (b 0)), (1, .int (nI (h)))]) hx hb dX11_worstOf_1 rfl hl (by decide) rfl (fun ls hl => ?_)
  have loop_2 : ∀ (dd_2 : Nat) (k : Nat) (hk : k ≤ 151), 151 - k < dd_2 → ∀ (H : Heap) (locs : List Loc) (ls : Array Slot), va_P (dC, dI) vwCl (DW y b rn n lo kp dy so he kn ak pl iw nm sd ik kr lo2 dy2 so2 he2 kn2 dgv kd len ord kh km pg cm sav bo (mixF k (fun _ => 0) cb) sl len2 ord2 kh2 km2) H → va_S A s.heap H locs → lv_has ls 4 [(2, .int (nI (k))), (0, .ref (b 0)), (1, .int (nI (h)))] → W p l e (headSpec wsX11_worstOf ({ frames := 4, cells := 0, slots := 0, locals := 89 } : Room)).room s m [.ref (b 0), .int (nI (h))].toArray below meth c H locs 0 0 (MQ below (va_Qi (fun (r : Int32) (u : (Nat → Nat) × (Nat → Nat)) => r = nI (wstF n kd len ord kn kh km h) ∧ ∀ j, u.1 j ≤ 126) (c_B (dC, dI) vwCl (TY y) (fun (u : (Nat → Nat) × (Nat → Nat)) => (DW y b rn n lo kp dy so he kn ak pl iw nm sd ik kr lo2 dy2 so2 he2 kn2 dgv kd len ord kh km pg u.1 sav bo u.2 sl len2 ord2 kh2 km2))) A) [.ref (b 0), .int (nI (h))].toArray s 0 0 A) (F0 m 2 ls []) := by
    intro dd_2
    induction dd_2 with
    | zero => intro k hk hd; exact absurd hd (Nat.not_lt_zero _)
    | succ dd_2 ih_2 =>
      intro k hk hd_2 H locs ls hP hS hl
      refine lv_iload_n hx hb dX11_worstOf_2 rfl (lv_at hl 0 rfl) ?_
      refine lv_sipush (v := nI (150)) hx hb dX11_worstOf_3 (by decide) ?_
      refine n_icmp_gt (tgt := 22) hx hb dX11_worstOf_6 (by decide) (by omega) (by omega) (fun c_6 => ?_) (fun c_6 => ?_)
      · refine lv_iconst (v := nI (0)) hx hb dX11_worstOf_22 (by decide) ?_
        refine lv_istore_n (lv' := [(2, .int (nI (0))), (0, .ref (b 0)), (1, .int (nI (h)))]) hx hb dX11_worstOf_23 rfl hl (by decide) rfl (fun ls hl => ?_)
        refine lv_iconst (v := nI (0)) hx hb dX11_worstOf_24 (by decide) ?_
        refine lv_istore_n (lv' := [(3, .int (nI (0))), (2, .int (nI (0))), (0, .ref (b 0)), (1, .int (nI (h)))]) hx hb dX11_worstOf_25 rfl hl (by decide) rfl (fun ls hl => ?_)
        have loop_26 : ∀ (dd_26 : Nat) (k : Nat) (wt : Nat) (f : Nat → Nat) (g : Nat → Nat) (hk : k ≤ 2 ^ n) (hf : ∀ j, f j ≤ 126) (hg : ∀ m9, m9 < 151 → g m9 = wsL (okS n kd len ord kn kh km) (fun st => camF kd len (nI st) ord n h) k m9) (hwt : wt = wsW (okS n kd len ord kn kh km) (fun st => camF kd len (nI st) ord n h) k), 2 ^ n - k < dd_26 → ∀ (H : Heap) (locs : List Loc) (ls : Array Slot), va_P (dC, dI) vwCl (DW y b rn n lo kp dy so he kn ak pl iw nm sd ik kr lo2 dy2 so2 he2 kn2 dgv kd len ord kh km pg f sav bo g sl len2 ord2 kh2 km2) H → va_S A s.heap H locs → lv_has ls 4 [(3, .int (nI (k))), (2, .int (nI (wt))), (0, .ref (b 0)), (1, .int (nI (h)))] → W p l e (headSpec wsX11_worstOf ({ frames := 4, cells := 0, slots := 0, locals := 89 } : Room)).room s m [.ref (b 0), .int (nI (h))].toArray below meth c H locs 0 0 (MQ below (va_Qi (fun (r : Int32) (u : (Nat → Nat) × (Nat → Nat)) => r = nI (wstF n kd len ord kn kh km h) ∧ ∀ j, u.1 j ≤ 126) (c_B (dC, dI) vwCl (TY y) (fun (u : (Nat → Nat) × (Nat → Nat)) => (DW y b rn n lo kp dy so he kn ak pl iw nm sd ik kr lo2 dy2 so2 he2 kn2 dgv kd len ord kh km pg u.1 sav bo u.2 sl len2 ord2 kh2 km2))) A) [.ref (b 0), .int (nI (h))].toArray s 0 0 A) (F0 m 26 ls []) := by
          intro dd_26
          induction dd_26 with
          | zero => intro k wt f g hk hf hg hwt hd; exact absurd hd (Nat.not_lt_zero _)
          | succ dd_26 ih_26 =>
            intro k wt f g hk hf hg hwt hd_26 H locs ls hP hS hl
            refine lv_iload_n hx hb dX11_worstOf_26 rfl (lv_at hl 0 rfl) ?_
            refine lv_iconst (v := nI (1)) hx hb dX11_worstOf_27 (by decide) ?_
            refine lv_aload_n hx hb dX11_worstOf_28 rfl (lv_at hl 2 rfl) ?_
            refine va_get (D := (dC, dI)) (ci := 11) (C := RX11) (T := TX11) (N := 36) hx hb hts in_X11_worstOf_X11 hown hK hP 0 rfl rfl 1 (by decide) (hts (.fieldLink RX11 82 "MilkRoundModel" "houses" "I") (List.mem_of_getElem? (i := 2) rfl)) (fun _ h9 => h9) rfl dX11_worstOf_29 ?_
            refine lv_ishl hx hb dX11_worstOf_32 ?_
            refine n_top (y := nI (2 ^ n)) (shl1 n hn) ?_
            refine n_icmp_ge (tgt := 96) hx hb dX11_worstOf_33 (by decide) (by omega) (by omega) (fun c_33 => ?_) (fun c_33 => ?_)
            · refine lv_iload_n hx hb dX11_worstOf_96 rfl (lv_at hl 1 rfl) ?_
              have hke : k = 2 ^ n := by omega
              exact c_iret hx hb hr hlocks hK hS (f, g) hP ⟨by rw [hwt, hke]; rfl, hf⟩ dX11_worstOf_97
            · have hwl := wsW_le (okS n kd len ord kn kh km) (fun st => camF kd len (nI st) ord n h) k
              refine lv_aload_n hx hb dX11_worstOf_36 rfl (lv_at hl 2 rfl) ?_
              refine lv_iload_n hx hb dX11_worstOf_37 rfl (lv_at hl 0 rfl) ?_
              refine c_calli (va_runV (As := [.int (nI (k))]) (rest := []) ⟨hx, hb, hml, hown, hts⟩ (k_X11_isKnown l dC dI y A b hA0 rn n lo kp dy so he kn ak pl iw nm sd ik kr lo2 dy2 so2 he2 kn2 dgv kd len ord kh km pg f sav bo g sl len2 ord2 kh2 km2 (nI k) hn hord hlen hkd hf hkn hkh hkm) (cwV 1 hts gX11_worstOf_X11_isKnown rfl rfl rfl (by decide +kernel) ⟨Nat.le_of_ble_eq_true rfl, Nat.le_of_ble_eq_true rfl⟩) (c_preV (c_N0 A) hK hE hS hP (va_recv hK hP (ci := 11) (q0 := 0) rfl rfl)) rfl rfl hl.1 rfl (lv_room (Nat.le_of_ble_eq_true rfl)) dX11_worstOf_38 ⟨Nat.le_refl _, Nat.le_refl _⟩) hS (fun r_38 u_38 H locs hw_38 hP hS => ?_)
              have hP : va_P (dC, dI) vwCl (DW y b rn n lo kp dy so he kn ak pl iw nm sd ik kr lo2 dy2 so2 he2 kn2 dgv kd len ord kh km pg u_38 sav bo g sl len2 ord2 kh2 km2) H := hP
              obtain ⟨rfl, hw_38⟩ := hw_38
              refine n_bif_eq (tgt := 90) hx hb dX11_worstOf_41 (by decide) (fun c_41 => ?_) (fun c_41 => ?_)
              · refine lv_iinc (v := nI (k + 1)) (lv' := [(3, .int (nI (k + 1))), (2, .int (nI (wt))), (0, .ref (b 0)), (1, .int (nI (h)))]) hx hb dX11_worstOf_90 hl (k := 0) rfl (mr_inc _) (by decide) rfl (fun ls hl => ?_)
                refine lv_goto (tgt := 26) hx hb dX11_worstOf_93 (by decide) ?_
                exact ih_26 (k + 1) wt u_38 g (by omega) hw_38.2 (fun m9 hm9 => by rw [wsL_f (p := okS n kd len ord kn kh km) c_41]; exact hg m9 hm9) (by rw [wsW_f (p := okS n kd len ord kn kh km) c_41]; exact hwt) (by omega) _ _ _ hP hS (lv_sub hl [0, 1, 2, 3] rfl)
              · have hcm9 := hw_38.1 h hh
                have hc8 : u_38 h < 151 := by have := hw_38.2 h; omega
                have hwl2 := wsL_le (okS n kd len ord kn kh km) (fun st => camF kd len (nI st) ord n h) k (u_38 h)
                have hg8 := hg _ hc8
                refine lv_aload_n hx hb dX11_worstOf_44 rfl (lv_at hl 2 rfl) ?_
                refine va_get (D := (dC, dI)) (ci := 11) (C := RX11) (T := TX11) (N := 36) hx hb hts in_X11_worstOf_X11 hown hK hP 0 rfl rfl 21 (by decide) (hts (.fieldLink RX11 38 "MilkRoundModel" "comesBy" "[I") (List.mem_of_getElem? (i := 1) rfl)) (fun _ h9 => h9) rfl dX11_worstOf_45 ?_
                refine lv_aload_n hx hb dX11_worstOf_48 rfl (lv_at hl 2 rfl) ?_
                refine va_get (D := (dC, dI)) (ci := 11) (C := RX11) (T := TX11) (N := 36) hx hb hts in_X11_worstOf_X11 hown hK hP 0 rfl rfl 18 (by decide) (hts (.fieldLink RX11 29 "MilkRoundModel" "comesAt" "[I") (List.mem_of_getElem? (i := 3) rfl)) (fun _ h9 => h9) rfl dX11_worstOf_49 ?_
                refine lv_iload_n hx hb dX11_worstOf_52 rfl (lv_at hl 3 rfl) ?_
                refine n_iald hx hb hK hP 7 0 rfl rfl (by omega) (by decide) dX11_worstOf_53 ?_
                refine lv_dup2_11 hx hb dX11_worstOf_54 rfl rfl ?_
                refine n_iald hx hb hK hP 10 0 rfl rfl (by omega) (by decide) dX11_worstOf_55 ?_
                refine lv_iconst (v := nI (1)) hx hb dX11_worstOf_56 (by decide) ?_
                refine n_iadd hx hb dX11_worstOf_57 ?_
                refine n_iast hx hb hK hP (ad_D hA0 rfl) hS 10 0 rfl rfl (by omega) (by decide) dX11_worstOf_58 (fun H locs hP hS => ?_)
                have hP : va_P (dC, dI) vwCl (DW y b rn n lo kp dy so he kn ak pl iw nm sd ik kr lo2 dy2 so2 he2 kn2 dgv kd len ord kh km pg u_38 sav bo (va_up g (u_38 h) ((g (u_38 h)) + (1))) sl len2 ord2 kh2 km2) H := hP
                refine lv_aload_n hx hb dX11_worstOf_59 rfl (lv_at hl 2 rfl) ?_
                refine va_get (D := (dC, dI)) (ci := 11) (C := RX11) (T := TX11) (N := 36) hx hb hts in_X11_worstOf_X11 hown hK hP 0 rfl rfl 21 (by decide) (hts (.fieldLink RX11 38 "MilkRoundModel" "comesBy" "[I") (List.mem_of_getElem? (i := 1) rfl)) (fun _ h9 => h9) rfl dX11_worstOf_60 ?_
                refine lv_aload_n hx hb dX11_worstOf_63 rfl (lv_at hl 2 rfl) ?_
                refine va_get (D := (dC, dI)) (ci := 11) (C := RX11) (T := TX11) (N := 36) hx hb hts in_X11_worstOf_X11 hown hK hP 0 rfl rfl 18 (by decide) (hts (.fieldLink RX11 29 "MilkRoundModel" "comesAt" "[I") (List.mem_of_getElem? (i := 3) rfl)) (fun _ h9 => h9) rfl dX11_worstOf_64 ?_
                refine lv_iload_n hx hb dX11_worstOf_67 rfl (lv_at hl 3 rfl) ?_
                refine n_iald hx hb hK hP 7 0 rfl rfl (by omega) (by decide) dX11_worstOf_68 ?_
                refine n_iald hx hb hK hP 10 0 rfl rfl (by omega) (by decide) dX11_worstOf_69 ?_
                refine n_top (y := nI (g (u_38 h) + 1)) (by rw [up_at]) ?_
                refine lv_iload_n hx hb dX11_worstOf_70 rfl (lv_at hl 1 rfl) ?_
                refine n_icmp_le (tgt := 88) hx hb dX11_worstOf_71 (by decide) (by omega) (by omega) (fun c_71 => ?_) (fun c_71 => ?_)
                · refine lv_iload_n hx hb dX11_worstOf_88 rfl (lv_at hl 1 rfl) ?_
                  refine lv_istore_n (lv' := [(2, .int (nI (wt))), (3, .int (nI (k))), (0, .ref (b 0)), (1, .int (nI (h)))]) hx hb dX11_worstOf_89 rfl hl (by decide) rfl (fun ls hl => ?_)
                  refine lv_iinc (v := nI (k + 1)) (lv' := [(3, .int (nI (k + 1))), (2, .int (nI (wt))), (0, .ref (b 0)), (1, .int (nI (h)))]) hx hb dX11_worstOf_90 hl (k := 1) rfl (mr_inc _) (by decide) rfl (fun ls hl => ?_)
                  refine lv_goto (tgt := 26) hx hb dX11_worstOf_93 (by decide) ?_
                  exact ih_26 (k + 1) wt u_38 (va_up g (u_38 h) ((g (u_38 h)) + (1))) (by omega) hw_38.2 (fun m9 hm9 => by rw [wsL_t (p := okS n kd len ord kn kh km) c_41, va_up, va_up]; simp only [← hcm9, hg _ hc8]; split <;> first | rfl | exact hg m9 hm9) (by rw [wsW_t (p := okS n kd len ord kn kh km) c_41, if_neg (by rw [← hwt, ← hcm9, ← hg _ hc8]; omega)]; exact hwt) (by omega) _ _ _ hP hS (lv_sub hl [0, 1, 2, 3] rfl)
                · refine lv_aload_n hx hb dX11_worstOf_74 rfl (lv_at hl 2 rfl) ?_
                  refine va_get (D := (dC, dI)) (ci := 11) (C := RX11) (T := TX11) (N := 36) hx hb hts in_X11_worstOf_X11 hown hK hP 0 rfl rfl 21 (by decide) (hts (.fieldLink RX11 38 "MilkRoundModel" "comesBy" "[I") (List.mem_of_getElem? (i := 1) rfl)) (fun _ h9 => h9) rfl dX11_worstOf_75 ?_
                  refine lv_aload_n hx hb dX11_worstOf_78 rfl (lv_at hl 2 rfl) ?_
                  refine va_get (D := (dC, dI)) (ci := 11) (C := RX11) (T := TX11) (N := 36) hx hb hts in_X11_worstOf_X11 hown hK hP 0 rfl rfl 18 (by decide) (hts (.fieldLink RX11 29 "MilkRoundModel" "comesAt" "[I") (List.mem_of_getElem? (i := 3) rfl)) (fun _ h9 => h9) rfl dX11_worstOf_79 ?_
                  refine lv_iload_n hx hb dX11_worstOf_82 rfl (lv_at hl 3 rfl) ?_
                  refine n_iald hx hb hK hP 7 0 rfl rfl (by omega) (by decide) dX11_worstOf_83 ?_
                  refine n_iald hx hb hK hP 10 0 rfl rfl (by omega) (by decide) dX11_worstOf_84 ?_
                  refine n_top (y := nI (g (u_38 h) + 1)) (by rw [up_at]) ?_
                  refine lv_goto (tgt := 89) hx hb dX11_worstOf_85 (by decide) ?_
                  refine lv_istore_n (lv' := [(2, .int (nI (g (u_38 h) + 1))), (3, .int (nI (k))), (0, .ref (b 0)), (1, .int (nI (h)))]) hx hb dX11_worstOf_89 rfl hl (by decide) rfl (fun ls hl => ?_)
                  refine lv_iinc (v := nI (k + 1)) (lv' := [(3, .int (nI (k + 1))), (2, .int (nI (g (u_38 h) + 1))), (0, .ref (b 0)), (1, .int (nI (h)))]) hx hb dX11_worstOf_90 hl (k := 1) rfl (mr_inc _) (by decide) rfl (fun ls hl => ?_)
                  refine lv_goto (tgt := 26) hx hb dX11_worstOf_93 (by decide) ?_
                  exact ih_26 (k + 1) (g (u_38 h) + 1) u_38 (va_up g (u_38 h) ((g (u_38 h)) + (1))) (by omega) hw_38.2 (fun m9 hm9 => by rw [wsL_t (p := okS n kd len ord kn kh km) c_41, va_up, va_up]; simp only [← hcm9, hg _ hc8]; split <;> first | rfl | exact hg m9 hm9) (by rw [wsW_t (p := okS n kd len ord kn kh km) c_41, if_pos (by rw [← hwt, ← hcm9, ← hg _ hc8]; omega), ← hcm9, ← hg _ hc8]) (by omega) _ _ _ hP hS (lv_sub hl [0, 1, 2, 3] rfl)
        exact loop_26 _ 0 0 cm (mixF k (fun _ => 0) cb) (Nat.zero_le _) hcm (fun m9 hm9 => mixF_in (by omega)) rfl (Nat.lt_succ_self _) _ _ _ hP hS (lv_sub hl [0, 1, 2, 3] rfl)
      · refine lv_aload_n hx hb dX11_worstOf_9 rfl (lv_at hl 1 rfl) ?_
        refine va_get (D := (dC, dI)) (ci := 11) (C := RX11) (T := TX11) (N := 36) hx hb hts in_X11_worstOf_X11 hown hK hP 0 rfl rfl 21 (by decide) (hts (.fieldLink RX11 38 "MilkRoundModel" "comesBy" "[I") (List.mem_of_getElem? (i := 1) rfl)) (fun _ h9 => h9) rfl dX11_worstOf_10 ?_
        refine lv_iload_n hx hb dX11_worstOf_13 rfl (lv_at hl 0 rfl) ?_
        refine lv_iconst (v := nI (0)) hx hb dX11_worstOf_14 (by decide) ?_
        refine n_iast hx hb hK hP (ad_D hA0 rfl) hS 10 0 rfl rfl (by omega) (by decide) dX11_worstOf_15 (fun H locs hP hS => ?_)
        have hP : va_P (dC, dI) vwCl (DW y b rn n lo kp dy so he kn ak pl iw nm sd ik kr lo2 dy2 so2 he2 kn2 dgv kd len ord kh km pg cm sav bo (va_up (mixF k (fun _ => 0) cb) k 0) sl len2 ord2 kh2 km2) H := hP
        refine lv_iinc (v := nI (k + 1)) (lv' := [(2, .int (nI (k + 1))), (0, .ref (b 0)), (1, .int (nI (h)))]) hx hb dX11_worstOf_16 hl (k := 0) rfl (mr_inc _) (by decide) rfl (fun ls hl => ?_)
        refine lv_goto (tgt := 2) hx hb dX11_worstOf_19 (by decide) ?_
        exact ih_2 (k + 1) (by omega) (by omega) _ _ _ (by rw [← mixF_s]; exact hP) hS (lv_sub hl [0, 1, 2] rfl)
  exact loop_2 _ 0 (Nat.zero_le _) (Nat.lt_succ_self _) _ _ _ (by rw [mixF_0]; exact hP) hS (lv_sub hl [0, 1, 2] rfl)
theorem in_X11_askNow_X11 : ∀ w ∈ wsX110, w ∈ wsX11_askNow := fun w h => List.mem_cons_of_mem _ (List.mem_append_right _ h)
set_option maxHeartbeats 4000000 in
set_option maxRecDepth 100000 in
theorem k_X11_askNow (l : Launch) (dC : Nat → ClassId) (dI : Nat → Nat → Nat) (y : Nat → ClassId) (A : Nat → Prop) (b : Nat → Nat) (hA0 : ad_ok A b 16) (rn : Nat) (n : Nat) (lo : Int32) (kp : Nat) (dy : Int32) (so : Int32) (he : Int32) (kn : Nat) (ak : Nat) (pl : Nat) (iw : Bool) (nm : Nat) (sd : Int64) (ik : Bool) (kr : Nat) (lo2 : Int32) (dy2 : Int32) (so2 : Int32) (he2 : Int32) (kn2 : Nat) (dgv : Int64) (kd : Nat → Nat) (len : Nat → Nat) (ord : Nat → Nat) (kh : Nat → Nat) (km : Nat → Nat) (pg : Nat → Nat) (cm : Nat → Nat) (sav : Nat → Nat) (bo : Nat → Nat) (cb : Nat → Nat) (sl : Nat → Nat) (len2 : Nat → Nat) (ord2 : Nat → Nat) (kh2 : Nat → Nat) (km2 : Nat → Nat) (hn : n ≤ 6) (hord : PermOn n ord) (hlen : ∀ j, len j ≤ 9) (hkd : ∀ j, kd j ≤ 4) (hcm : ∀ j, cm j ≤ 126) (hkn : kn ≤ 6) (hkh : ∀ i, i < kn → kh i < n) (hkm : ∀ i, km i ≤ 150) (hn0 : 0 < n) : Met l yX11_askNow wsX11_askNow ({ frames := 5, cells := 0, slots := 0, locals := 114 } : Room) (c_P (dC, dI) vwCl (TY y) (fun _ => True) (DW y b rn n lo kp dy so he kn ak pl iw nm sd ik kr lo2 dy2 so2 he2 kn2 dgv kd len ord kh km pg cm sav bo cb sl len2 ord2 kh2 km2) [.ref (b 0)]) (va_Qi (fun (r : Int32) (u : (Nat → Nat) × (Nat → Nat)) => r = askF n kd len ord kn kh km ∧ ∀ j, u.1 j ≤ 126) (c_B (dC, dI) vwCl (TY y) (fun (u : (Nat → Nat) × (Nat → Nat)) => (DW y b rn n lo kp dy so he kn ak pl iw nm sd ik kr lo2 dy2 so2 he2 kn2 dgv kd len ord kh km pg u.1 sav bo u.2 sl len2 ord2 kh2 km2))) A) 0 0 A := by
  refine Met.ofW (cc := cX11_askNow) (maxL := 5) (ret := (some .int)) (by decide) rfl ?_
  intro p e s m args below meth c s₁ BB hml hv
  obtain ⟨rfl, hP, hK, hE⟩ := hv
  have hx := BB.exec
  have hb := BB.bytes
  have hr := BB.returns
  have hts := atoms_spec (ws := wsX11_askNow) BB.pre
  have hown : s.vm.findClass RX11 = some m.cls := findClass_of_methodNamed BB.named
  have hlocks := BB.notSynchronized
  have hS : va_S A s.heap s.heap [] := va_S.rf
  have hl := lv_entry ([.ref (b 0)]) (n := 5) (Nat.le_of_ble_eq_true rfl)
  rw [lg_entry_eq]
  generalize (lg_sl ([.ref (b 0)]) ++ List.replicate (5 - (lg_sl ([.ref (b 0)])).length) Slot.unset).toArray = ls at hl ⊢
  have hl : lv_has ls 5 [(0, .ref (b 0))] := hl
  have hp6 := pow_le6 n hn
  have hcl := ctB_le (okS n kd len ord kn kh km) (2 ^ n)
  refine lv_iconst (v := (-1)) hx hb dX11_askNow_0 (by decide) ?_
  refine lv_istore_n (lv' := [(1, .int ((-1))), (0, .ref (b 0))]) hx hb dX11_askNow_1 rfl hl (by decide) rfl (fun ls hl => ?_)
  refine lv_aload_n hx hb dX11_askNow_2 rfl (lv_at hl 1 rfl) ?_
  refine lv_iconst (v := nI (0)) hx hb dX11_askNow_3 (by decide) ?_
  refine c_calli (va_runV (As := [.int (nI (0))]) (rest := []) ⟨hx, hb, hml, hown, hts⟩ (k_X11_setsNow l dC dI y A b hA0 rn n lo kp dy so he kn ak pl iw nm sd ik kr lo2 dy2 so2 he2 kn2 dgv kd len ord kh km pg cm sav bo cb sl len2 ord2 kh2 km2 0 hn hord hlen hkd hcm hkn hkh hkm (by decide)) (cwV 1 hts gX11_askNow_X11_setsNow rfl rfl rfl (by decide +kernel) ⟨Nat.le_of_ble_eq_true rfl, Nat.le_of_ble_eq_true rfl⟩) (c_preV (c_N0 A) hK hE hS hP (va_recv hK hP (ci := 11) (q0 := 0) rfl rfl)) rfl rfl hl.1 rfl (lv_room (Nat.le_of_ble_eq_true rfl)) dX11_askNow_4 ⟨Nat.le_refl _, Nat.le_refl _⟩) hS (fun r_4 u_4 H locs hw_4 hP hS => ?_)
  have hP : va_P (dC, dI) vwCl (DW y b rn n lo kp dy so he kn ak pl iw nm sd ik kr lo2 dy2 so2 he2 kn2 dgv kd len ord kh km pg u_4 sav bo cb sl len2 ord2 kh2 km2) H := hP
  obtain ⟨rfl, hw_4⟩ := hw_4
  refine n_top (y := nI (ctB (okS n kd len ord kn kh km) (2 ^ n))) (by rw [stsF, if_pos rfl]) ?_
  refine n_if_ne (tgt := 14) hx hb dX11_askNow_7 (by decide) (by omega) (fun c_7 => ?_) (fun c_7 => ?_)
  · refine lv_ldc hx hb hown (hts (.constant RX11 155 (268435456)) (List.mem_of_getElem? (i := 1) rfl)) dX11_askNow_14 ?_
    refine n_top (y := nI (268435456)) rfl ?_
    refine lv_istore_n (lv' := [(2, .int (nI (268435456))), (1, .int ((-1))), (0, .ref (b 0))]) hx hb dX11_askNow_16 rfl hl (by decide) rfl (fun ls hl => ?_)
    refine lv_iconst (v := nI (0)) hx hb dX11_askNow_17 (by decide) ?_
    refine lv_istore_n (lv' := [(3, .int (nI (0))), (2, .int (nI (268435456))), (1, .int ((-1))), (0, .ref (b 0))]) hx hb dX11_askNow_18 rfl hl (by decide) rfl (fun ls hl => ?_)
    have loop_19 : ∀ (dd_19 : Nat) (k : Nat) (bs : Int32) (lt : Nat) (f : Nat → Nat) (g : Nat → Nat) (hk : k ≤ n) (hf : ∀ j, f j ≤ 126) (hI : AskI (ctB (okS n kd len ord kn kh km) (2 ^ n)) (wstF n kd len ord kn kh km) k bs lt), n - k < dd_19 → ∀ (H : Heap) (locs : List Loc) (ls : Array Slot), va_P (dC, dI) vwCl (DW y b rn n lo kp dy so he kn ak pl iw nm sd ik kr lo2 dy2 so2 he2 kn2 dgv kd len ord kh km pg f sav bo g sl len2 ord2 kh2 km2) H → va_S A s.heap H locs → lv_has ls 5 [(3, .int (nI (k))), (2, .int (nI (lt))), (1, .int (bs)), (0, .ref (b 0))] → W p l e (headSpec wsX11_askNow ({ frames := 5, cells := 0, slots := 0, locals := 114 } : Room)).room s m [.ref (b 0)].toArray below meth c H locs 0 0 (MQ below (va_Qi (fun (r : Int32) (u : (Nat → Nat) × (Nat → Nat)) => r = askF n kd len ord kn kh km ∧ ∀ j, u.1 j ≤ 126) (c_B (dC, dI) vwCl (TY y) (fun (u : (Nat → Nat) × (Nat → Nat)) => (DW y b rn n lo kp dy so he kn ak pl iw nm sd ik kr lo2 dy2 so2 he2 kn2 dgv kd len ord kh km pg u.1 sav bo u.2 sl len2 ord2 kh2 km2))) A) [.ref (b 0)].toArray s 0 0 A) (F0 m 19 ls []) := by
      intro dd_19
      induction dd_19 with
      | zero => intro k bs lt f g hk hf hI hd; exact absurd hd (Nat.not_lt_zero _)
      | succ dd_19 ih_19 =>
        intro k bs lt f g hk hf hI hd_19 H locs ls hP hS hl
        refine lv_iload_n hx hb dX11_askNow_19 rfl (lv_at hl 0 rfl) ?_
        refine lv_aload_n hx hb dX11_askNow_20 rfl (lv_at hl 3 rfl) ?_
        refine va_get (D := (dC, dI)) (ci := 11) (C := RX11) (T := TX11) (N := 36) hx hb hts in_X11_askNow_X11 hown hK hP 0 rfl rfl 1 (by decide) (hts (.fieldLink RX11 82 "MilkRoundModel" "houses" "I") (List.mem_of_getElem? (i := 2) rfl)) (fun _ h9 => h9) rfl dX11_askNow_21 ?_
        refine n_icmp_ge (tgt := 65) hx hb dX11_askNow_24 (by decide) (by omega) (by omega) (fun c_24 => ?_) (fun c_24 => ?_)
        · refine lv_iload_n hx hb dX11_askNow_65 rfl (lv_at hl 2 rfl) ?_
          have hke : k = n := by omega
          exact c_iret hx hb hr hlocks hK hS (f, g) hP ⟨AskI_end hn0 (hke ▸ hI), hf⟩ dX11_askNow_66
        · have hlt9 := AskI_lt (fun _ => wstF_le hn) hI
          have hwk := wstF_le (kd := kd) (len := len) (ord := ord) (kn := kn) (kh := kh) (km := km) (h := k) hn
          refine lv_aload_n hx hb dX11_askNow_27 rfl (lv_at hl 3 rfl) ?_
          refine lv_iload_n hx hb dX11_askNow_28 rfl (lv_at hl 0 rfl) ?_
          refine c_calli (va_runV (As := [.int (nI (k))]) (rest := []) ⟨hx, hb, hml, hown, hts⟩ (k_X11_worstOf l dC dI y A b hA0 rn n lo kp dy so he kn ak pl iw nm sd ik kr lo2 dy2 so2 he2 kn2 dgv kd len ord kh km pg f sav bo g sl len2 ord2 kh2 km2 k hn hord hlen hkd hf hkn hkh hkm (by omega)) (cwV 1 hts gX11_askNow_X11_worstOf rfl rfl rfl (by decide +kernel) ⟨Nat.le_of_ble_eq_true rfl, Nat.le_of_ble_eq_true rfl⟩) (c_preV (c_N0 A) hK hE hS hP (va_recv hK hP (ci := 11) (q0 := 0) rfl rfl)) rfl rfl hl.1 rfl (lv_room (Nat.le_of_ble_eq_true rfl)) dX11_askNow_29 ⟨Nat.le_refl _, Nat.le_refl _⟩) hS (fun r_29 u_29 H locs hw_29 hP hS => ?_)
          have hP : va_P (dC, dI) vwCl (DW y b rn n lo kp dy so he kn ak pl iw nm sd ik kr lo2 dy2 so2 he2 kn2 dgv kd len ord kh km pg u_29.1 sav bo u_29.2 sl len2 ord2 kh2 km2) H := hP
          obtain ⟨rfl, hw_29⟩ := hw_29
          refine lv_istore (lv' := [(4, .int (nI (wstF n kd len ord kn kh km k))), (3, .int (nI (k))), (2, .int (nI (lt))), (1, .int (bs)), (0, .ref (b 0))]) hx hb dX11_askNow_32 hl (by decide) rfl (fun ls hl => ?_)
          refine lv_iload hx hb dX11_askNow_34 (lv_at hl 0 rfl) ?_
          refine lv_iload_n hx hb dX11_askNow_36 rfl (lv_at hl 2 rfl) ?_
          refine n_icmp_ge (tgt := 44) hx hb dX11_askNow_37 (by decide) (by omega) (by omega) (fun c_37 => ?_) (fun c_37 => ?_)
          · refine lv_iload_n hx hb dX11_askNow_44 rfl (lv_at hl 3 rfl) ?_
            refine lv_istore_n (lv' := [(1, .int (bs)), (4, .int (nI (wstF n kd len ord kn kh km k))), (3, .int (nI (k))), (2, .int (nI (lt))), (0, .ref (b 0))]) hx hb dX11_askNow_45 rfl hl (by decide) rfl (fun ls hl => ?_)
            refine lv_iload hx hb dX11_askNow_46 (lv_at hl 1 rfl) ?_
            refine lv_iload_n hx hb dX11_askNow_48 rfl (lv_at hl 3 rfl) ?_
            refine n_icmp_ge (tgt := 57) hx hb dX11_askNow_49 (by decide) (by omega) (by omega) (fun c_49 => ?_) (fun c_49 => ?_)
            · refine lv_iload_n hx hb dX11_askNow_57 rfl (lv_at hl 3 rfl) ?_
              refine lv_istore_n (lv' := [(2, .int (nI (lt))), (1, .int (bs)), (4, .int (nI (wstF n kd len ord kn kh km k))), (3, .int (nI (k))), (0, .ref (b 0))]) hx hb dX11_askNow_58 rfl hl (by decide) rfl (fun ls hl => ?_)
              refine lv_iinc (v := nI (k + 1)) (lv' := [(3, .int (nI (k + 1))), (2, .int (nI (lt))), (1, .int (bs)), (4, .int (nI (wstF n kd len ord kn kh km k))), (0, .ref (b 0))]) hx hb dX11_askNow_59 hl (k := 3) rfl (mr_inc _) (by decide) rfl (fun ls hl => ?_)
              refine lv_goto (tgt := 19) hx hb dX11_askNow_62 (by decide) ?_
              exact ih_19 (k + 1) bs lt u_29.1 u_29.2 (by omega) hw_29 (AskI_no (fun _ => wstF_le hn) hI (by omega)) (by omega) _ _ _ hP hS (lv_sub hl [0, 1, 2, 4] rfl)
            · exact absurd c_37 c_49
          · refine lv_iload_n hx hb dX11_askNow_40 rfl (lv_at hl 1 rfl) ?_
            refine lv_goto (tgt := 45) hx hb dX11_askNow_41 (by decide) ?_
            refine lv_istore_n (lv' := [(1, .int (nI (k))), (4, .int (nI (wstF n kd len ord kn kh km k))), (3, .int (nI (k))), (2, .int (nI (lt))), (0, .ref (b 0))]) hx hb dX11_askNow_45 rfl hl (by decide) rfl (fun ls hl => ?_)
            refine lv_iload hx hb dX11_askNow_46 (lv_at hl 1 rfl) ?_
            refine lv_iload_n hx hb dX11_askNow_48 rfl (lv_at hl 3 rfl) ?_
            refine n_icmp_ge (tgt := 57) hx hb dX11_askNow_49 (by decide) (by omega) (by omega) (fun c_49 => ?_) (fun c_49 => ?_)
            · exact absurd c_49 c_37
            · refine lv_iload hx hb dX11_askNow_52 (lv_at hl 1 rfl) ?_
              refine lv_goto (tgt := 58) hx hb dX11_askNow_54 (by decide) ?_
              refine lv_istore_n (lv' := [(2, .int (nI (wstF n kd len ord kn kh km k))), (1, .int (nI (k))), (4, .int (nI (wstF n kd len ord kn kh km k))), (3, .int (nI (k))), (0, .ref (b 0))]) hx hb dX11_askNow_58 rfl hl (by decide) rfl (fun ls hl => ?_)
              refine lv_iinc (v := nI (k + 1)) (lv' := [(3, .int (nI (k + 1))), (2, .int (nI (wstF n kd len ord kn kh km k))), (1, .int (nI (k))), (4, .int (nI (wstF n kd len ord kn kh km k))), (0, .ref (b 0))]) hx hb dX11_askNow_59 hl (k := 3) rfl (mr_inc _) (by decide) rfl (fun ls hl => ?_)
              refine lv_goto (tgt := 19) hx hb dX11_askNow_62 (by decide) ?_
              exact ih_19 (k + 1) (nI (k)) (wstF n kd len ord kn kh km k) u_29.1 u_29.2 (by omega) hw_29 (AskI_yes hI (by omega)) (by omega) _ _ _ hP hS (lv_sub hl [0, 1, 2, 4] rfl)
    exact loop_19 _ 0 (-1) 268435456 u_4 cb (Nat.zero_le _) hw_4 ⟨fun z => absurd z c_7, fun _ => ⟨fun _ => ⟨rfl, rfl⟩, fun z => absurd z (Nat.lt_irrefl 0)⟩⟩ (Nat.lt_succ_self _) _ _ _ hP hS (lv_sub hl [0, 1, 2, 3] rfl)
  · refine lv_iconst (v := nI (0)) hx hb dX11_askNow_10 (by decide) ?_
    refine lv_goto (tgt := 16) hx hb dX11_askNow_11 (by decide) ?_
    refine lv_istore_n (lv' := [(2, .int (nI (0))), (1, .int ((-1))), (0, .ref (b 0))]) hx hb dX11_askNow_16 rfl hl (by decide) rfl (fun ls hl => ?_)
    refine lv_iconst (v := nI (0)) hx hb dX11_askNow_17 (by decide) ?_
    refine lv_istore_n (lv' := [(3, .int (nI (0))), (2, .int (nI (0))), (1, .int ((-1))), (0, .ref (b 0))]) hx hb dX11_askNow_18 rfl hl (by decide) rfl (fun ls hl => ?_)
    have loop_19 : ∀ (dd_19 : Nat) (k : Nat) (bs : Int32) (lt : Nat) (f : Nat → Nat) (g : Nat → Nat) (hk : k ≤ n) (hf : ∀ j, f j ≤ 126) (hI : AskI (ctB (okS n kd len ord kn kh km) (2 ^ n)) (wstF n kd len ord kn kh km) k bs lt), n - k < dd_19 → ∀ (H : Heap) (locs : List Loc) (ls : Array Slot), va_P (dC, dI) vwCl (DW y b rn n lo kp dy so he kn ak pl iw nm sd ik kr lo2 dy2 so2 he2 kn2 dgv kd len ord kh km pg f sav bo g sl len2 ord2 kh2 km2) H → va_S A s.heap H locs → lv_has ls 5 [(3, .int (nI (k))), (2, .int (nI (lt))), (1, .int (bs)), (0, .ref (b 0))] → W p l e (headSpec wsX11_askNow ({ frames := 5, cells := 0, slots := 0, locals := 114 } : Room)).room s m [.ref (b 0)].toArray below meth c H locs 0 0 (MQ below (va_Qi (fun (r : Int32) (u : (Nat → Nat) × (Nat → Nat)) => r = askF n kd len ord kn kh km ∧ ∀ j, u.1 j ≤ 126) (c_B (dC, dI) vwCl (TY y) (fun (u : (Nat → Nat) × (Nat → Nat)) => (DW y b rn n lo kp dy so he kn ak pl iw nm sd ik kr lo2 dy2 so2 he2 kn2 dgv kd len ord kh km pg u.1 sav bo u.2 sl len2 ord2 kh2 km2))) A) [.ref (b 0)].toArray s 0 0 A) (F0 m 19 ls []) := by
      intro dd_19
      induction dd_19 with
      | zero => intro k bs lt f g hk hf hI hd; exact absurd hd (Nat.not_lt_zero _)
      | succ dd_19 ih_19 =>
        intro k bs lt f g hk hf hI hd_19 H locs ls hP hS hl
        refine lv_iload_n hx hb dX11_askNow_19 rfl (lv_at hl 0 rfl) ?_
        refine lv_aload_n hx hb dX11_askNow_20 rfl (lv_at hl 3 rfl) ?_
        refine va_get (D := (dC, dI)) (ci := 11) (C := RX11) (T := TX11) (N := 36) hx hb hts in_X11_askNow_X11 hown hK hP 0 rfl rfl 1 (by decide) (hts (.fieldLink RX11 82 "MilkRoundModel" "houses" "I") (List.mem_of_getElem? (i := 2) rfl)) (fun _ h9 => h9) rfl dX11_askNow_21 ?_
        refine n_icmp_ge (tgt := 65) hx hb dX11_askNow_24 (by decide) (by omega) (by omega) (fun c_24 => ?_) (fun c_24 => ?_)
        · refine lv_iload_n hx hb dX11_askNow_65 rfl (lv_at hl 2 rfl) ?_
          have hke : k = n := by omega
          exact c_iret hx hb hr hlocks hK hS (f, g) hP ⟨AskI_end hn0 (hke ▸ hI), hf⟩ dX11_askNow_66
        · have hlt9 := AskI_lt (fun _ => wstF_le hn) hI
          have hwk := wstF_le (kd := kd) (len := len) (ord := ord) (kn := kn) (kh := kh) (km := km) (h := k) hn
          refine lv_aload_n hx hb dX11_askNow_27 rfl (lv_at hl 3 rfl) ?_
          refine lv_iload_n hx hb dX11_askNow_28 rfl (lv_at hl 0 rfl) ?_
          refine c_calli (va_runV (As := [.int (nI (k))]) (rest := []) ⟨hx, hb, hml, hown, hts⟩ (k_X11_worstOf l dC dI y A b hA0 rn n lo kp dy so he kn ak pl iw nm sd ik kr lo2 dy2 so2 he2 kn2 dgv kd len ord kh km pg f sav bo g sl len2 ord2 kh2 km2 k hn hord hlen hkd hf hkn hkh hkm (by omega)) (cwV 1 hts gX11_askNow_X11_worstOf rfl rfl rfl (by decide +kernel) ⟨Nat.le_of_ble_eq_true rfl, Nat.le_of_ble_eq_true rfl⟩) (c_preV (c_N0 A) hK hE hS hP (va_recv hK hP (ci := 11) (q0 := 0) rfl rfl)) rfl rfl hl.1 rfl (lv_room (Nat.le_of_ble_eq_true rfl)) dX11_askNow_29 ⟨Nat.le_refl _, Nat.le_refl _⟩) hS (fun r_29 u_29 H locs hw_29 hP hS => ?_)
          have hP : va_P (dC, dI) vwCl (DW y b rn n lo kp dy so he kn ak pl iw nm sd ik kr lo2 dy2 so2 he2 kn2 dgv kd len ord kh km pg u_29.1 sav bo u_29.2 sl len2 ord2 kh2 km2) H := hP
          obtain ⟨rfl, hw_29⟩ := hw_29
          refine lv_istore (lv' := [(4, .int (nI (wstF n kd len ord kn kh km k))), (3, .int (nI (k))), (2, .int (nI (lt))), (1, .int (bs)), (0, .ref (b 0))]) hx hb dX11_askNow_32 hl (by decide) rfl (fun ls hl => ?_)
          refine lv_iload hx hb dX11_askNow_34 (lv_at hl 0 rfl) ?_
          refine lv_iload_n hx hb dX11_askNow_36 rfl (lv_at hl 2 rfl) ?_
          refine n_icmp_ge (tgt := 44) hx hb dX11_askNow_37 (by decide) (by omega) (by omega) (fun c_37 => ?_) (fun c_37 => ?_)
          · refine lv_iload_n hx hb dX11_askNow_44 rfl (lv_at hl 3 rfl) ?_
            refine lv_istore_n (lv' := [(1, .int (bs)), (4, .int (nI (wstF n kd len ord kn kh km k))), (3, .int (nI (k))), (2, .int (nI (lt))), (0, .ref (b 0))]) hx hb dX11_askNow_45 rfl hl (by decide) rfl (fun ls hl => ?_)
            refine lv_iload hx hb dX11_askNow_46 (lv_at hl 1 rfl) ?_
            refine lv_iload_n hx hb dX11_askNow_48 rfl (lv_at hl 3 rfl) ?_
            refine n_icmp_ge (tgt := 57) hx hb dX11_askNow_49 (by decide) (by omega) (by omega) (fun c_49 => ?_) (fun c_49 => ?_)
            · refine lv_iload_n hx hb dX11_askNow_57 rfl (lv_at hl 3 rfl) ?_
              refine lv_istore_n (lv' := [(2, .int (nI (lt))), (1, .int (bs)), (4, .int (nI (wstF n kd len ord kn kh km k))), (3, .int (nI (k))), (0, .ref (b 0))]) hx hb dX11_askNow_58 rfl hl (by decide) rfl (fun ls hl => ?_)
              refine lv_iinc (v := nI (k + 1)) (lv' := [(3, .int (nI (k + 1))), (2, .int (nI (lt))), (1, .int (bs)), (4, .int (nI (wstF n kd len ord kn kh km k))), (0, .ref (b 0))]) hx hb dX11_askNow_59 hl (k := 3) rfl (mr_inc _) (by decide) rfl (fun ls hl => ?_)
              refine lv_goto (tgt := 19) hx hb dX11_askNow_62 (by decide) ?_
              exact ih_19 (k + 1) bs lt u_29.1 u_29.2 (by omega) hw_29 (AskI_no (fun _ => wstF_le hn) hI (by omega)) (by omega) _ _ _ hP hS (lv_sub hl [0, 1, 2, 4] rfl)
            · exact absurd c_37 c_49
          · refine lv_iload_n hx hb dX11_askNow_40 rfl (lv_at hl 1 rfl) ?_
            refine lv_goto (tgt := 45) hx hb dX11_askNow_41 (by decide) ?_
            refine lv_istore_n (lv' := [(1, .int (nI (k))), (4, .int (nI (wstF n kd len ord kn kh km k))), (3, .int (nI (k))), (2, .int (nI (lt))), (0, .ref (b 0))]) hx hb dX11_askNow_45 rfl hl (by decide) rfl (fun ls hl => ?_)
            refine lv_iload hx hb dX11_askNow_46 (lv_at hl 1 rfl) ?_
            refine lv_iload_n hx hb dX11_askNow_48 rfl (lv_at hl 3 rfl) ?_
            refine n_icmp_ge (tgt := 57) hx hb dX11_askNow_49 (by decide) (by omega) (by omega) (fun c_49 => ?_) (fun c_49 => ?_)
            · exact absurd c_49 c_37
            · refine lv_iload hx hb dX11_askNow_52 (lv_at hl 1 rfl) ?_
              refine lv_goto (tgt := 58) hx hb dX11_askNow_54 (by decide) ?_
              refine lv_istore_n (lv' := [(2, .int (nI (wstF n kd len ord kn kh km k))), (1, .int (nI (k))), (4, .int (nI (wstF n kd len ord kn kh km k))), (3, .int (nI (k))), (0, .ref (b 0))]) hx hb dX11_askNow_58 rfl hl (by decide) rfl (fun ls hl => ?_)
              refine lv_iinc (v := nI (k + 1)) (lv' := [(3, .int (nI (k + 1))), (2, .int (nI (wstF n kd len ord kn kh km k))), (1, .int (nI (k))), (4, .int (nI (wstF n kd len ord kn kh km k))), (0, .ref (b 0))]) hx hb dX11_askNow_59 hl (k := 3) rfl (mr_inc _) (by decide) rfl (fun ls hl => ?_)
              refine lv_goto (tgt := 19) hx hb dX11_askNow_62 (by decide) ?_
              exact ih_19 (k + 1) (nI (k)) (wstF n kd len ord kn kh km k) u_29.1 u_29.2 (by omega) hw_29 (AskI_yes hI (by omega)) (by omega) _ _ _ hP hS (lv_sub hl [0, 1, 2, 4] rfl)
    exact loop_19 _ 0 (-1) 0 u_4 cb (Nat.zero_le _) hw_4 ⟨fun _ => ⟨rfl, rfl⟩, fun z => absurd c_7 z⟩ (Nat.lt_succ_self _) _ _ _ hP hS (lv_sub hl [0, 1, 2, 3] rfl)
theorem in_X11_ask_X11 : ∀ w ∈ wsX110, w ∈ wsX11_ask := fun w h => List.mem_cons_of_mem _ (List.mem_append_right _ h)
set_option maxHeartbeats 4000000 in
set_option maxRecDepth 100000 in
theorem k_X11_ask (l : Launch) (dC : Nat → ClassId) (dI : Nat → Nat → Nat) (y : Nat → ClassId) (A : Nat → Prop) (b : Nat → Nat) (hA0 : ad_ok A b 16) (rn : Nat) (n : Nat) (lo : Int32) (kp : Nat) (dy : Int32) (so : Int32) (he : Int32) (kn : Nat) (ak : Nat) (pl : Nat) (iw : Bool) (nm : Nat) (sd : Int64) (ik : Bool) (kr : Nat) (lo2 : Int32) (dy2 : Int32) (so2 : Int32) (he2 : Int32) (kn2 : Nat) (dgv : Int64) (kd : Nat → Nat) (len : Nat → Nat) (ord : Nat → Nat) (kh : Nat → Nat) (km : Nat → Nat) (pg : Nat → Nat) (cm : Nat → Nat) (sav : Nat → Nat) (bo : Nat → Nat) (cb : Nat → Nat) (sl : Nat → Nat) (len2 : Nat → Nat) (ord2 : Nat → Nat) (kh2 : Nat → Nat) (km2 : Nat → Nat) (hn : n ≤ 6) (hord : PermOn n ord) (hlen : ∀ j, len j ≤ 9) (hkd : ∀ j, kd j ≤ 4) (hcm : ∀ j, cm j ≤ 126) (hkn : kn ≤ 6) (hkh : ∀ i, i < kn → kh i < n) (hkm : ∀ i, km i ≤ 150) : Met l yX11_ask wsX11_ask ({ frames := 6, cells := 0, slots := 0, locals := 138 } : Room) (c_P (dC, dI) vwCl (TY y) (fun _ => True) (DW y b rn n lo kp dy so he kn ak pl iw nm sd ik kr lo2 dy2 so2 he2 kn2 dgv kd len ord kh km pg cm sav bo cb sl len2 ord2 kh2 km2) [.ref (b 0)]) (va_Qi (fun (r : Int32) (u : (Nat → Nat) × (Nat → Nat)) => r = (if n = 0 then -103 else askF n kd len ord kn kh km) ∧ ∀ j, u.1 j ≤ 126) (c_B (dC, dI) vwCl (TY y) (fun (u : (Nat → Nat) × (Nat → Nat)) => (DW y b rn n lo kp dy so he kn ak pl iw nm sd ik kr lo2 dy2 so2 he2 kn2 dgv kd len ord kh km pg u.1 sav bo u.2 sl len2 ord2 kh2 km2))) A) 0 0 A := by
  refine Met.ofW (cc := cX11_ask) (maxL := 1) (ret := (some .int)) (by decide) rfl ?_
  intro p e s m args below meth c s₁ BB hml hv
  obtain ⟨rfl, hP, hK, hE⟩ := hv
  have hx := BB.exec
  have hb := BB.bytes
  have hr := BB.returns
  have hts := atoms_spec (ws := wsX11_ask) BB.pre
  have hown : s.vm.findClass RX11 = some m.cls := findClass_of_methodNamed BB.named
  have hlocks := BB.notSynchronized
  have hS : va_S A s.heap s.heap [] := va_S.rf
  have hl := lv_entry ([.ref (b 0)]) (n := 1) (Nat.le_of_ble_eq_true rfl)
  rw [lg_entry_eq]
  generalize (lg_sl ([.ref (b 0)]) ++ List.replicate (1 - (lg_sl ([.ref (b 0)])).length) Slot.unset).toArray = ls at hl ⊢
  have hl : lv_has ls 1 [(0, .ref (b 0))] := hl
  refine lv_aload_n hx hb dX11_ask_0 rfl (lv_at hl 0 rfl) ?_
  refine va_get (D := (dC, dI)) (ci := 11) (C := RX11) (T := TX11) (N := 36) hx hb hts in_X11_ask_X11 hown hK hP 0 rfl rfl 1 (by decide) (hts (.fieldLink RX11 82 "MilkRoundModel" "houses" "I") (List.mem_of_getElem? (i := 1) rfl)) (fun _ h9 => h9) rfl dX11_ask_1 ?_
  refine n_if_ne (tgt := 12) hx hb dX11_ask_4 (by decide) (by omega) (fun c_4 => ?_) (fun c_4 => ?_)
  · refine lv_aload_n hx hb dX11_ask_12 rfl (lv_at hl 0 rfl) ?_
    refine c_calli (va_runV (As := []) (rest := []) ⟨hx, hb, hml, hown, hts⟩ (k_X11_askNow l dC dI y A b hA0 rn n lo kp dy so he kn ak pl iw nm sd ik kr lo2 dy2 so2 he2 kn2 dgv kd len ord kh km pg cm sav bo cb sl len2 ord2 kh2 km2  hn hord hlen hkd hcm hkn hkh hkm (by omega)) (cwV 0 hts gX11_ask_X11_askNow rfl rfl rfl (by decide +kernel) ⟨Nat.le_of_ble_eq_true rfl, Nat.le_of_ble_eq_true rfl⟩) (c_preV (c_N0 A) hK hE hS hP (va_recv hK hP (ci := 11) (q0 := 0) rfl rfl)) rfl rfl hl.1 rfl (lv_room (Nat.le_of_ble_eq_true rfl)) dX11_ask_13 ⟨Nat.le_refl _, Nat.le_refl _⟩) hS (fun r_13 u_13 H locs hw_13 hP hS => ?_)
    have hP : va_P (dC, dI) vwCl (DW y b rn n lo kp dy so he kn ak pl iw nm sd ik kr lo2 dy2 so2 he2 kn2 dgv kd len ord kh km pg u_13.1 sav bo u_13.2 sl len2 ord2 kh2 km2) H := hP
    obtain ⟨rfl, hw_13⟩ := hw_13
    exact c_iret hx hb hr hlocks hK hS u_13 hP ⟨by rw [if_neg c_4], hw_13⟩ dX11_ask_16
  · refine lv_bipush (v := (-103)) hx hb dX11_ask_7 (by decide) ?_
    refine lv_goto (tgt := 16) hx hb dX11_ask_9 (by decide) ?_
    exact c_iret hx hb hr hlocks hK hS (cm, cb) hP ⟨by rw [if_pos c_4], hcm⟩ dX11_ask_16
