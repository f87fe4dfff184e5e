theorem in_X4_add_X4 : ∀ w ∈ wsX40, w ∈ wsX4_add := fun w h => List.mem_cons_of_mem _ (List.mem_append_right _ h)
set_option maxHeartbeats 4000000 in
set_option maxRecDepth 100000 in
theorem k_X4_add (l : Launch) (dC : Nat → ClassId) (dI : Nat → Nat → Nat) (y : Nat → ClassId) (A : Nat → Prop) (a : Nat → Nat) (hA0 : ad_ok A a 34) (xK : Nat → Nat) (xV : Nat → Nat) (rn : Nat) (n : Nat) (lo : Int32) (kp : Nat) (dy : Int32) (so : Int32) (he : Int32) (kn : Nat) (ak : Nat) (pl : Nat) (im : Bool) (lo2 : Int32) (dy2 : Int32) (so2 : Int32) (he2 : Int32) (kn2 : Nat) (ma : Nat) (kd : Nat → Nat) (len : Nat → Nat) (ord : Nat → Nat) (kh : Nat → Nat) (km : Nat → Nat) (pg : Nat → Nat) (len2 : Nat → Nat) (ord2 : Nat → Nat) (kh2 : Nat → Nat) (km2 : Nat → Nat) (cw : Nat → Nat) (tl : Nat → Nat) (tO : Nat → Nat) (bO : Nat → Nat) (lf : Nat → Nat → Nat) (wo : Nat → Nat) (c0 : Nat) (hc : c0 < 128) (hpl : pl ≤ 21) : Met l yX4_add wsX4_add ({ frames := 0, cells := 0, slots := 0, locals := 0 } : Room) (c_P (dC, dI) vwCl (TY y) (EV xK xV A) (MW y a rn n lo kp dy so he kn ak pl im lo2 dy2 so2 he2 kn2 ma kd len ord kh km pg len2 ord2 kh2 km2 cw tl tO bO lf wo) [.ref (a 1), .int (nI (c0))]) (va_Qi (fun (r : Int32) (u : Unit) => r = bI (decide (¬ pl = 21))) (c_B (dC, dI) vwCl (TY y) (fun (u : Unit) => (MW y a rn n lo kp dy so he kn ak (if pl = 21 then pl else pl + 1) im lo2 dy2 so2 he2 kn2 ma kd len ord kh km (if pl = 21 then pg else va_up pg pl c0) len2 ord2 kh2 km2 cw tl tO bO lf wo))) A) 0 0 A := by
  refine Met.ofW (cc := cX4_add) (maxL := 2) (ret := (some .boolean)) (by decide) rfl ?_
  intro p e s m args below meth c s₁ BB hml hv
  obtain ⟨rfl, hP, hK, hE⟩ := hv
  have hx := BB.exec
  have hb := BB.bytes
  have hr := BB.returns
  have hts := atoms_spec (ws := wsX4_add) BB.pre
  have hown : s.vm.findClass RX4 = some m.cls := findClass_of_methodNamed BB.named
  have hlocks := BB.notSynchronized
  have hS : va_S A s.heap s.heap [] := va_S.rf
  have hl := lv_entry ([.ref (a 1), .int (nI (c0))]) (n := 2) (Nat.le_of_ble_eq_true rfl)
  rw [lg_entry_eq]
  generalize (lg_sl ([.ref (a 1), .int (nI (c0))]) ++ List.replicate (2 - (lg_sl ([.ref (a 1), .int (nI (c0))])).length) Slot.unset).toArray = ls at hl ⊢
  have hl : lv_has ls 2 [(0, .ref (a 1)), (1, .int (nI (c0)))] := hl
  refine lv_aload_n hx hb dX4_add_0 rfl (lv_at hl 0 rfl) ?_
  refine va_get (D := (dC, dI)) (ci := 4) (C := RX4) (T := TX4) (N := 2) hx hb hts in_X4_add_X4 hown hK hP 1 rfl rfl 1 (by decide) (hts (.fieldLink RX4 15 "MilkRound$Page" "size" "I") (List.mem_of_getElem? (i := 1) rfl)) (fun _ h9 => h9) rfl dX4_add_1 ?_
  refine lv_bipush (v := nI (21)) hx hb dX4_add_4 (by decide) ?_
  refine n_icmp_lt (tgt := 11) hx hb dX4_add_6 (by decide) (by omega) (by omega) (fun c_6 => ?_) (fun c_6 => ?_)
  · refine lv_aload_n hx hb dX4_add_11 rfl (lv_at hl 0 rfl) ?_
    refine va_get (D := (dC, dI)) (ci := 4) (C := RX4) (T := TX4) (N := 2) hx hb hts in_X4_add_X4 hown hK hP 1 rfl rfl 0 (by decide) (hts (.fieldLink RX4 11 "MilkRound$Page" "signs" "[C") (List.mem_of_getElem? (i := 2) rfl)) (fun _ h9 => h9) rfl dX4_add_12 ?_
    refine lv_aload_n hx hb dX4_add_15 rfl (lv_at hl 0 rfl) ?_
    refine va_get (D := (dC, dI)) (ci := 4) (C := RX4) (T := TX4) (N := 2) hx hb hts in_X4_add_X4 hown hK hP 1 rfl rfl 1 (by decide) (hts (.fieldLink RX4 15 "MilkRound$Page" "size" "I") (List.mem_of_getElem? (i := 1) rfl)) (fun _ h9 => h9) rfl dX4_add_16 ?_
    refine lv_iload_n hx hb dX4_add_19 rfl (lv_at hl 1 rfl) ?_
    refine n_cast hx hb hK hP (ad_D hA0 rfl) hS 2 2 rfl rfl (by omega) (by decide) (by omega) dX4_add_20 (fun H locs hP hS => ?_)
    have hP : va_P (dC, dI) vwCl (MW y a rn n lo kp dy so he kn ak pl im lo2 dy2 so2 he2 kn2 ma kd len ord kh km (va_up pg pl c0) len2 ord2 kh2 km2 cw tl tO bO lf wo) H := hP
    refine lv_aload_n hx hb dX4_add_21 rfl (lv_at hl 0 rfl) ?_
    refine lv_dup hx hb dX4_add_22 rfl ?_
    refine va_get (D := (dC, dI)) (ci := 4) (C := RX4) (T := TX4) (N := 2) hx hb hts in_X4_add_X4 hown hK hP 1 rfl rfl 1 (by decide) (hts (.fieldLink RX4 15 "MilkRound$Page" "size" "I") (List.mem_of_getElem? (i := 1) rfl)) (fun _ h9 => h9) rfl dX4_add_23 ?_
    refine lv_iconst (v := nI (1)) hx hb dX4_add_26 (by decide) ?_
    refine n_iadd hx hb dX4_add_27 ?_
    refine va_put (D := (dC, dI)) (ci := 4) (ty := tyX4 1) (C := RX4) (T := TX4) (N := 2) hx hb hts in_X4_add_X4 tyX4 tyX4_ok nmX4 hown hK hP (ad_D hA0 rfl) hS 1 rfl rfl 1 (by decide) (hts (.fieldLink RX4 15 "MilkRound$Page" "size" "I") (List.mem_of_getElem? (i := 1) rfl)) (fun _ h9 => h9) rfl (tyX4_ok 1 (by decide)) rfl rfl (Nat.le_of_ble_eq_true rfl) dX4_add_28 (fun H locs hP _ hS => ?_)
    have hP : va_P (dC, dI) vwCl (MW y a rn n lo kp dy so he kn ak (pl + 1) im lo2 dy2 so2 he2 kn2 ma kd len ord kh km (va_up pg pl c0) len2 ord2 kh2 km2 cw tl tO bO lf wo) H := hP
    refine lv_iconst (v := nI (1)) hx hb dX4_add_31 (by decide) ?_
    have hP : va_P (dC, dI) vwCl (MW y a rn n lo kp dy so he kn ak (if pl = 21 then pl else pl + 1) im lo2 dy2 so2 he2 kn2 ma kd len ord kh km (if pl = 21 then pg else va_up pg pl c0) len2 ord2 kh2 km2 cw tl tO bO lf wo) H := by
      rw [if_neg (by omega), if_neg (by omega)]
      exact hP
    exact c_zret hx hb hr hlocks hK hS () rfl hP (bI_1 (decide_eq_true (by omega))) dX4_add_32
  · refine lv_iconst (v := nI (0)) hx hb dX4_add_9 (by decide) ?_
    have hP : va_P (dC, dI) vwCl (MW y a rn n lo kp dy so he kn ak (if pl = 21 then pl else pl + 1) im lo2 dy2 so2 he2 kn2 ma kd len ord kh km (if pl = 21 then pg else va_up pg pl c0) len2 ord2 kh2 km2 cw tl tO bO lf wo) s.heap := by
      rw [if_pos (by omega), if_pos (by omega)]
      exact hP
    exact c_zret hx hb hr hlocks hK hS () rfl hP (bI_0 (decide_eq_false (by omega))) dX4_add_10
theorem in_X10_letter_X10 : ∀ w ∈ wsX100, w ∈ wsX10_letter := fun w h => List.mem_cons_of_mem _ (List.mem_append_left _ (List.mem_append_right _ h))
theorem in_X10_letter_X4 : ∀ w ∈ wsX40, w ∈ wsX10_letter := fun w h => List.mem_cons_of_mem _ (List.mem_append_right _ h)
set_option maxHeartbeats 4000000 in
set_option maxRecDepth 100000 in
theorem k_X10_letter (l : Launch) (dC : Nat → ClassId) (dI : Nat → Nat → Nat) (y : Nat → ClassId) (A : Nat → Prop) (a : Nat → Nat) (hA0 : ad_ok A a 34) (xK : Nat → Nat) (xV : Nat → Nat) (rn : Nat) (n : Nat) (lo : Int32) (kp : Nat) (dy : Int32) (so : Int32) (he : Int32) (kn : Nat) (ak : Nat) (pl : Nat) (im : Bool) (lo2 : Int32) (dy2 : Int32) (so2 : Int32) (he2 : Int32) (kn2 : Nat) (ma : Nat) (kd : Nat → Nat) (len : Nat → Nat) (ord : Nat → Nat) (kh : Nat → Nat) (km : Nat → Nat) (pg : Nat → Nat) (len2 : Nat → Nat) (ord2 : Nat → Nat) (kh2 : Nat → Nat) (km2 : Nat → Nat) (cw : Nat → Nat) (tl : Nat → Nat) (tO : Nat → Nat) (bO : Nat → Nat) (lf : Nat → Nat → Nat) (wo : Nat → Nat) (w : Int32) (hpl : pl ≤ 21) : Met l yX10_letter wsX10_letter ({ frames := 1, cells := 0, slots := 0, locals := 21 } : Room) (c_P (dC, dI) vwCl (TY y) (EV xK xV A) (MW y a rn n lo kp dy so he kn ak pl im lo2 dy2 so2 he2 kn2 ma kd len ord kh km pg len2 ord2 kh2 km2 cw tl tO bO lf wo) [.ref (a 0), .int (w)]) (va_Qi (fun (r : Int32) (u : Unit) => r = rLetter pl w) (c_B (dC, dI) vwCl (TY y) (fun (u : Unit) => (MW y a rn n lo kp dy so he kn ak (plLetter pl w) im lo2 dy2 so2 he2 kn2 ma kd len ord kh km (pgLetter pl pg w) len2 ord2 kh2 km2 cw tl tO bO lf wo))) A) 0 0 A := by
  refine Met.ofW (cc := cX10_letter) (maxL := 2) (ret := (some .int)) (by decide) rfl ?_
  intro p e s m args below meth c s₁ BB hml hv
  obtain ⟨rfl, hP, hK, hE⟩ := hv
  have hx := BB.exec
  have hb := BB.bytes
  have hr := BB.returns
  have hts := atoms_spec (ws := wsX10_letter) BB.pre
  have hown : s.vm.findClass RX10 = some m.cls := findClass_of_methodNamed BB.named
  have hlocks := BB.notSynchronized
  have hS : va_S A s.heap s.heap [] := va_S.rf
  have hl := lv_entry ([.ref (a 0), .int (w)]) (n := 2) (Nat.le_of_ble_eq_true rfl)
  rw [lg_entry_eq]
  generalize (lg_sl ([.ref (a 0), .int (w)]) ++ List.replicate (2 - (lg_sl ([.ref (a 0), .int (w)])).length) Slot.unset).toArray = ls at hl ⊢
  have hl : lv_has ls 2 [(0, .ref (a 0)), (1, .int (w))] := hl
  refine lv_iload_n hx hb dX10_letter_0 rfl (lv_at hl 1 rfl) ?_
  refine lv_bipush (v := nI (32)) hx hb dX10_letter_1 (by decide) ?_
  refine lv_icmp_lt (tgt := 12) hx hb dX10_letter_3 (by decide) (fun c_3 => ?_) (fun c_3 => ?_)
  · refine lv_bipush (v := (-102)) hx hb dX10_letter_12 (by decide) ?_
    have hP : va_P (dC, dI) vwCl (MW y a rn n lo kp dy so he kn ak (plLetter pl w) im lo2 dy2 so2 he2 kn2 ma kd len ord kh km (pgLetter pl pg w) len2 ord2 kh2 km2 cw tl tO bO lf wo) s.heap := by
      unfold plLetter pgLetter; rw [okC_no1 c_3]
      exact hP
    exact c_iret hx hb hr hlocks hK hS () hP (by unfold rLetter; rw [okC_no1 c_3]; rfl) dX10_letter_14
  · refine lv_iload_n hx hb dX10_letter_6 rfl (lv_at hl 1 rfl) ?_
    refine lv_bipush (v := nI (126)) hx hb dX10_letter_7 (by decide) ?_
    refine lv_icmp_le (tgt := 15) hx hb dX10_letter_9 (by decide) (fun c_9 => ?_) (fun c_9 => ?_)
    · obtain ⟨k, hk1, hk2, ek⟩ := okC_of (okC_mk c_3 c_9)
      rw [ek] at hl
      have hl : lv_has ls 2 [(0, .ref (a 0)), (1, .int (nI (k)))] := hl
      refine lv_aload_n hx hb dX10_letter_15 rfl (lv_at hl 0 rfl) ?_
      refine va_get (D := (dC, dI)) (ci := 10) (C := RX10) (T := TX10) (N := 12) hx hb hts in_X10_letter_X10 hown hK hP 0 rfl rfl 0 (by decide) (hts (.fieldLink RX10 10 "MilkRound" "page" "LMilkRound$Page;") (List.mem_of_getElem? (i := 1) rfl)) (fun _ h9 => h9) rfl dX10_letter_16 ?_
      refine lv_iload_n hx hb dX10_letter_19 rfl (lv_at hl 1 rfl) ?_
      refine lv_i2c (v := nI (k)) hx hb dX10_letter_20 (mr_c16 k (by omega)) ?_
      refine c_calli (va_runV (As := [.int (nI (k))]) (rest := []) ⟨hx, hb, hml, hown, hts⟩ (k_X4_add l dC dI y A a hA0 xK xV rn n lo kp dy so he kn ak pl im lo2 dy2 so2 he2 kn2 ma kd len ord kh km pg len2 ord2 kh2 km2 cw tl tO bO lf wo k (by omega) hpl) (cwV 1 hts gX10_letter_X4_add rfl rfl rfl (by decide +kernel) ⟨Nat.le_of_ble_eq_true rfl, Nat.le_of_ble_eq_true rfl⟩) (c_preV (evN xK xV A) hK hE hS hP (va_recv hK hP (ci := 4) (q0 := 1) rfl rfl)) rfl rfl hl.1 rfl (lv_room (Nat.le_of_ble_eq_true rfl)) dX10_letter_21 ⟨Nat.le_refl _, Nat.le_refl _⟩) hS (fun r_21 u_21 H locs hw_21 hP hS => ?_)
      have hP : va_P (dC, dI) vwCl (MW y a rn n lo kp dy so he kn ak (if pl = 21 then pl else pl + 1) im lo2 dy2 so2 he2 kn2 ma kd len ord kh km (if pl = 21 then pg else va_up pg pl k) len2 ord2 kh2 km2 cw tl tO bO lf wo) H := hP
      obtain rfl := hw_21
      refine n_bif_eq (tgt := 37) hx hb dX10_letter_24 (by decide) (fun c_24 => ?_) (fun c_24 => ?_)
      · refine lv_bipush (v := (-104)) hx hb dX10_letter_37 (by decide) ?_
        have hP : va_P (dC, dI) vwCl (MW y a rn n lo kp dy so he kn ak (plLetter pl w) im lo2 dy2 so2 he2 kn2 ma kd len ord kh km (pgLetter pl pg w) len2 ord2 kh2 km2 cw tl tO bO lf wo) H := by
          unfold plLetter pgLetter; rw [okC_mk c_3 c_9, ek, nI_clamp (by omega)]
          exact hP
        exact c_iret hx hb hr hlocks hK hS () hP (by unfold rLetter; rw [okC_mk c_3 c_9, if_pos (Classical.not_not.mp (of_decide_eq_false c_24))]; rfl) dX10_letter_39
      · refine lv_aload_n hx hb dX10_letter_27 rfl (lv_at hl 0 rfl) ?_
        refine va_get (D := (dC, dI)) (ci := 10) (C := RX10) (T := TX10) (N := 12) hx hb hts in_X10_letter_X10 hown hK hP 0 rfl rfl 0 (by decide) (hts (.fieldLink RX10 10 "MilkRound" "page" "LMilkRound$Page;") (List.mem_of_getElem? (i := 1) rfl)) (fun _ h9 => h9) rfl dX10_letter_28 ?_
        refine va_get (D := (dC, dI)) (ci := 4) (C := RX4) (T := TX4) (N := 2) hx hb hts in_X10_letter_X4 hown hK hP 1 rfl rfl 1 (by decide) (hts (.fieldLink RX10 74 "MilkRound$Page" "size" "I") (List.mem_of_getElem? (i := 2) rfl)) (fun _ h9 => h9) rfl dX10_letter_31 ?_
        refine lv_goto (tgt := 39) hx hb dX10_letter_34 (by decide) ?_
        have hP : va_P (dC, dI) vwCl (MW y a rn n lo kp dy so he kn ak (plLetter pl w) im lo2 dy2 so2 he2 kn2 ma kd len ord kh km (pgLetter pl pg w) len2 ord2 kh2 km2 cw tl tO bO lf wo) H := by
          unfold plLetter pgLetter; rw [okC_mk c_3 c_9, ek, nI_clamp (by omega)]
          exact hP
        exact c_iret hx hb hr hlocks hK hS () hP (by unfold rLetter; rw [okC_mk c_3 c_9, if_neg (of_decide_eq_true c_24), if_neg (of_decide_eq_true c_24)]; rfl) dX10_letter_39
    · refine lv_bipush (v := (-102)) hx hb dX10_letter_12 (by decide) ?_
      have hP : va_P (dC, dI) vwCl (MW y a rn n lo kp dy so he kn ak (plLetter pl w) im lo2 dy2 so2 he2 kn2 ma kd len ord kh km (pgLetter pl pg w) len2 ord2 kh2 km2 cw tl tO bO lf wo) s.heap := by
        unfold plLetter pgLetter; rw [okC_no2 c_9]
        exact hP
      exact c_iret hx hb hr hlocks hK hS () hP (by unfold rLetter; rw [okC_no2 c_9]; rfl) dX10_letter_14
theorem in_X10_blank_X10 : ∀ w ∈ wsX100, w ∈ wsX10_blank := fun w h => List.mem_cons_of_mem _ (List.mem_append_left _ (List.mem_append_right _ h))
theorem in_X10_blank_X4 : ∀ w ∈ wsX40, w ∈ wsX10_blank := fun w h => List.mem_cons_of_mem _ (List.mem_append_right _ h)
set_option maxHeartbeats 4000000 in
set_option maxRecDepth 100000 in
theorem k_X10_blank (l : Launch) (dC : Nat → ClassId) (dI : Nat → Nat → Nat) (y : Nat → ClassId) (A : Nat → Prop) (a : Nat → Nat) (hA0 : ad_ok A a 34) (xK : Nat → Nat) (xV : Nat → Nat) (rn : Nat) (n : Nat) (lo : Int32) (kp : Nat) (dy : Int32) (so : Int32) (he : Int32) (kn : Nat) (ak : Nat) (pl : Nat) (im : Bool) (lo2 : Int32) (dy2 : Int32) (so2 : Int32) (he2 : Int32) (kn2 : Nat) (ma : Nat) (kd : Nat → Nat) (len : Nat → Nat) (ord : Nat → Nat) (kh : Nat → Nat) (km : Nat → Nat) (pg : Nat → Nat) (len2 : Nat → Nat) (ord2 : Nat → Nat) (kh2 : Nat → Nat) (km2 : Nat → Nat) (cw : Nat → Nat) (tl : Nat → Nat) (tO : Nat → Nat) (bO : Nat → Nat) (lf : Nat → Nat → Nat) (wo : Nat → Nat) : Met l yX10_blank wsX10_blank ({ frames := 0, cells := 0, slots := 0, locals := 0 } : Room) (c_P (dC, dI) vwCl (TY y) (EV xK xV A) (MW y a rn n lo kp dy so he kn ak pl im lo2 dy2 so2 he2 kn2 ma kd len ord kh km pg len2 ord2 kh2 km2 cw tl tO bO lf wo) [.ref (a 0)]) (va_Qi (fun (r : Int32) (u : Unit) => r = nI pl) (c_B (dC, dI) vwCl (TY y) (fun (u : Unit) => (MW y a rn n lo kp dy so he kn ak 0 im lo2 dy2 so2 he2 kn2 ma kd len ord kh km pg len2 ord2 kh2 km2 cw tl tO bO lf wo))) A) 0 0 A := by
  refine Met.ofW (cc := cX10_blank) (maxL := 2) (ret := (some .int)) (by decide) rfl ?_
  intro p e s m args below meth c s₁ BB hml hv
  obtain ⟨rfl, hP, hK, hE⟩ := hv
  have hx := BB.exec
  have hb := BB.bytes
  have hr := BB.returns
  have hts := atoms_spec (ws := wsX10_blank) BB.pre
  have hown : s.vm.findClass RX10 = some m.cls := findClass_of_methodNamed BB.named
  have hlocks := BB.notSynchronized
  have hS : va_S A s.heap s.heap [] := va_S.rf
  have hl := lv_entry ([.ref (a 0)]) (n := 2) (Nat.le_of_ble_eq_true rfl)
  rw [lg_entry_eq]
  generalize (lg_sl ([.ref (a 0)]) ++ List.replicate (2 - (lg_sl ([.ref (a 0)])).length) Slot.unset).toArray = ls at hl ⊢
  have hl : lv_has ls 2 [(0, .ref (a 0))] := hl
  refine lv_aload_n hx hb dX10_blank_0 rfl (lv_at hl 0 rfl) ?_
  refine va_get (D := (dC, dI)) (ci := 10) (C := RX10) (T := TX10) (N := 12) hx hb hts in_X10_blank_X10 hown hK hP 0 rfl rfl 0 (by decide) (hts (.fieldLink RX10 10 "MilkRound" "page" "LMilkRound$Page;") (List.mem_of_getElem? (i := 1) rfl)) (fun _ h9 => h9) rfl dX10_blank_1 ?_
  refine va_get (D := (dC, dI)) (ci := 4) (C := RX4) (T := TX4) (N := 2) hx hb hts in_X10_blank_X4 hown hK hP 1 rfl rfl 1 (by decide) (hts (.fieldLink RX10 74 "MilkRound$Page" "size" "I") (List.mem_of_getElem? (i := 2) rfl)) (fun _ h9 => h9) rfl dX10_blank_4 ?_
  refine lv_istore_n (lv' := [(1, .int (nI (pl))), (0, .ref (a 0))]) hx hb dX10_blank_7 rfl hl (by decide) rfl (fun ls hl => ?_)
  refine lv_aload_n hx hb dX10_blank_8 rfl (lv_at hl 1 rfl) ?_
  refine va_get (D := (dC, dI)) (ci := 10) (C := RX10) (T := TX10) (N := 12) hx hb hts in_X10_blank_X10 hown hK hP 0 rfl rfl 0 (by decide) (hts (.fieldLink RX10 10 "MilkRound" "page" "LMilkRound$Page;") (List.mem_of_getElem? (i := 1) rfl)) (fun _ h9 => h9) rfl dX10_blank_9 ?_
  refine lv_iconst (v := nI (0)) hx hb dX10_blank_12 (by decide) ?_
  refine va_put (D := (dC, dI)) (ci := 4) (ty := tyX4 1) (C := RX4) (T := TX4) (N := 2) hx hb hts in_X10_blank_X4 tyX4 tyX4_ok nmX4 hown hK hP (ad_D hA0 rfl) hS 1 rfl rfl 1 (by decide) (hts (.fieldLink RX10 74 "MilkRound$Page" "size" "I") (List.mem_of_getElem? (i := 2) rfl)) (fun _ h9 => h9) rfl (tyX4_ok 1 (by decide)) rfl rfl (Nat.le_of_ble_eq_true rfl) dX10_blank_13 (fun H locs hP _ hS => ?_)
  have hP : va_P (dC, dI) vwCl (MW y a rn n lo kp dy so he kn ak 0 im lo2 dy2 so2 he2 kn2 ma kd len ord kh km pg len2 ord2 kh2 km2 cw tl tO bO lf wo) H := hP
  refine lv_iload_n hx hb dX10_blank_16 rfl (lv_at hl 0 rfl) ?_
  exact c_iret hx hb hr hlocks hK hS () hP rfl dX10_blank_17
theorem in_X10_letters_X10 : ∀ w ∈ wsX100, w ∈ wsX10_letters := fun w h => List.mem_cons_of_mem _ (List.mem_append_left _ (List.mem_append_left _ (List.mem_append_right _ h)))
theorem in_X10_letters_X2 : ∀ w ∈ wsX20, w ∈ wsX10_letters := fun w h => List.mem_cons_of_mem _ (List.mem_append_left _ (List.mem_append_right _ h))
set_option maxHeartbeats 4000000 in
set_option maxRecDepth 100000 in
theorem k_X10_letters (l : Launch) (dC : Nat → ClassId) (dI : Nat → Nat → Nat) (y : Nat → ClassId) (A : Nat → Prop) (a : Nat → Nat) (hA0 : ad_ok A a 34) (xK : Nat → Nat) (xV : Nat → Nat) (rn : Nat) (n : Nat) (lo : Int32) (kp : Nat) (dy : Int32) (so : Int32) (he : Int32) (kn : Nat) (ak : Nat) (pl : Nat) (im : Bool) (lo2 : Int32) (dy2 : Int32) (so2 : Int32) (he2 : Int32) (kn2 : Nat) (ma : Nat) (kd : Nat → Nat) (len : Nat → Nat) (ord : Nat → Nat) (kh : Nat → Nat) (km : Nat → Nat) (pg : Nat → Nat) (len2 : Nat → Nat) (ord2 : Nat → Nat) (kh2 : Nat → Nat) (km2 : Nat → Nat) (cw : Nat → Nat) (tl : Nat → Nat) (tO : Nat → Nat) (bO : Nat → Nat) (lf : Nat → Nat → Nat) (wo : Nat → Nat) (h : Int32) (w : Int32) (hn : n ≤ 6) : Met l yX10_letters wsX10_letters ({ frames := 1, cells := 0, slots := 0, locals := 21 } : Room) (c_P (dC, dI) vwCl (TY y) (EV xK xV A) (MW y a rn n lo kp dy so he kn ak pl im lo2 dy2 so2 he2 kn2 ma kd len ord kh km pg len2 ord2 kh2 km2 cw tl tO bO lf wo) [.ref (a 0), .int (h), .int (w)]) (va_Qi (fun (r : Int32) (u : Unit) => r = rLetters n len h w) (c_B (dC, dI) vwCl (TY y) (fun (u : Unit) => (MW y a rn n lo kp dy so he kn ak pl im lo2 dy2 so2 he2 kn2 ma kd (sLetters n len h w) ord kh km pg len2 ord2 kh2 km2 cw tl tO bO lf wo))) A) 0 0 A := by
  refine Met.ofW (cc := cX10_letters) (maxL := 4) (ret := (some .int)) (by decide) rfl ?_
  intro p e s m args below meth c s₁ BB hml hv
  obtain ⟨rfl, hP, hK, hE⟩ := hv
  have hx := BB.exec
  have hb := BB.bytes
  have hr := BB.returns
  have hts := atoms_spec (ws := wsX10_letters) BB.pre
  have hown : s.vm.findClass RX10 = some m.cls := findClass_of_methodNamed BB.named
  have hlocks := BB.notSynchronized
  have hS : va_S A s.heap s.heap [] := va_S.rf
  have hl := lv_entry ([.ref (a 0), .int (h), .int (w)]) (n := 4) (Nat.le_of_ble_eq_true rfl)
  rw [lg_entry_eq]
  generalize (lg_sl ([.ref (a 0), .int (h), .int (w)]) ++ List.replicate (4 - (lg_sl ([.ref (a 0), .int (h), .int (w)])).length) Slot.unset).toArray = ls at hl ⊢
  have hl : lv_has ls 4 [(0, .ref (a 0)), (1, .int (h)), (2, .int (w))] := hl
  refine lv_aload_n hx hb dX10_letters_0 rfl (lv_at hl 0 rfl) ?_
  refine va_get (D := (dC, dI)) (ci := 10) (C := RX10) (T := TX10) (N := 12) hx hb hts in_X10_letters_X10 hown hK hP 0 rfl rfl 1 (by decide) (hts (.fieldLink RX10 19 "MilkRound" "street" "LMilkRound$Street;") (List.mem_of_getElem? (i := 1) rfl)) (fun _ h9 => h9) rfl dX10_letters_1 ?_
  refine lv_iload_n hx hb dX10_letters_4 rfl (lv_at hl 1 rfl) ?_
  refine c_calli (va_runV (As := [.int (h)]) (rest := []) ⟨hx, hb, hml, hown, hts⟩ (k_X6_has l dC dI y A a hA0 xK xV rn n lo kp dy so he kn ak pl im lo2 dy2 so2 he2 kn2 ma kd len ord kh km pg len2 ord2 kh2 km2 cw tl tO bO lf wo h ) (cwV 1 hts gX10_letters_X6_has rfl rfl rfl (by decide +kernel) ⟨Nat.le_of_ble_eq_true rfl, Nat.le_of_ble_eq_true rfl⟩) (c_preV (evN xK xV A) hK hE hS hP (va_recv hK hP (ci := 6) (q0 := 3) rfl rfl)) rfl rfl hl.1 rfl (lv_room (Nat.le_of_ble_eq_true rfl)) dX10_letters_5 ⟨Nat.le_refl _, Nat.le_refl _⟩) hS (fun r_5 u_5 H locs hw_5 hP hS => ?_)
  obtain rfl := hw_5
  refine n_bif_ne (tgt := 14) hx hb dX10_letters_8 (by decide) (fun c_8 => ?_) (fun c_8 => ?_)
  · refine lv_iload_n hx hb dX10_letters_14 rfl (lv_at hl 2 rfl) ?_
    refine lv_if_lt (tgt := 24) hx hb dX10_letters_15 (by decide) (fun c_15 => ?_) (fun c_15 => ?_)
    · refine lv_bipush (v := (-102)) hx hb dX10_letters_24 (by decide) ?_
      have hP : va_P (dC, dI) vwCl (MW y a rn n lo kp dy so he kn ak pl im lo2 dy2 so2 he2 kn2 ma kd (sLetters n len h w) ord kh km pg len2 ord2 kh2 km2 cw tl tO bO lf wo) H := by
        unfold sLetters; rw [c_8, inR_no1 c_15]
        exact hP
      exact c_iret hx hb hr hlocks hK hS () hP (by unfold rLetters; rw [c_8, inR_no1 c_15]; rfl) dX10_letters_26
    · refine lv_iload_n hx hb dX10_letters_18 rfl (lv_at hl 2 rfl) ?_
      refine lv_bipush (v := nI (9)) hx hb dX10_letters_19 (by decide) ?_
      refine lv_icmp_le (tgt := 27) hx hb dX10_letters_21 (by decide) (fun c_21 => ?_) (fun c_21 => ?_)
      · obtain ⟨j, hj, ej⟩ := isH_of (by omega) c_8
        obtain ⟨k, hk, ek⟩ := inR_of (m := 9) (by decide) (inR_mk c_15 c_21)
        rw [ej] at hl
        rw [ek] at hl
        have hl : lv_has ls 4 [(0, .ref (a 0)), (1, .int (nI (j))), (2, .int (nI (k)))] := hl
        refine lv_aload_n hx hb dX10_letters_27 rfl (lv_at hl 0 rfl) ?_
        refine va_get (D := (dC, dI)) (ci := 10) (C := RX10) (T := TX10) (N := 12) hx hb hts in_X10_letters_X10 hown hK hP 0 rfl rfl 2 (by decide) (hts (.fieldLink RX10 26 "MilkRound" "now" "LMilkRound$Course;") (List.mem_of_getElem? (i := 2) rfl)) (fun _ h9 => h9) rfl dX10_letters_28 ?_
        refine va_get (D := (dC, dI)) (ci := 2) (C := RX2) (T := TX2) (N := 9) hx hb hts in_X10_letters_X2 hown hK hP 10 rfl rfl 0 (by decide) (hts (.fieldLink RX10 110 "MilkRound$Course" "lengths" "[I") (List.mem_of_getElem? (i := 3) rfl)) (fun _ h9 => h9) rfl dX10_letters_31 ?_
        refine lv_iload_n hx hb dX10_letters_34 rfl (lv_at hl 1 rfl) ?_
        refine n_iald hx hb hK hP 11 0 rfl rfl (by omega) (by decide) dX10_letters_35 ?_
        refine lv_istore_n (lv' := [(3, .int (nI (len j))), (0, .ref (a 0)), (1, .int (nI (j))), (2, .int (nI (k)))]) hx hb dX10_letters_36 rfl hl (by decide) rfl (fun ls hl => ?_)
        refine lv_aload_n hx hb dX10_letters_37 rfl (lv_at hl 1 rfl) ?_
        refine va_get (D := (dC, dI)) (ci := 10) (C := RX10) (T := TX10) (N := 12) hx hb hts in_X10_letters_X10 hown hK hP 0 rfl rfl 2 (by decide) (hts (.fieldLink RX10 26 "MilkRound" "now" "LMilkRound$Course;") (List.mem_of_getElem? (i := 2) rfl)) (fun _ h9 => h9) rfl dX10_letters_38 ?_
        refine va_get (D := (dC, dI)) (ci := 2) (C := RX2) (T := TX2) (N := 9) hx hb hts in_X10_letters_X2 hown hK hP 10 rfl rfl 0 (by decide) (hts (.fieldLink RX10 110 "MilkRound$Course" "lengths" "[I") (List.mem_of_getElem? (i := 3) rfl)) (fun _ h9 => h9) rfl dX10_letters_41 ?_
        refine lv_iload_n hx hb dX10_letters_44 rfl (lv_at hl 2 rfl) ?_
        refine lv_iload_n hx hb dX10_letters_45 rfl (lv_at hl 3 rfl) ?_
        refine n_iast hx hb hK hP (ad_D hA0 rfl) hS 11 0 rfl rfl (by omega) (by decide) dX10_letters_46 (fun H locs hP hS => ?_)
        have hP : va_P (dC, dI) vwCl (MW y a rn n lo kp dy so he kn ak pl im lo2 dy2 so2 he2 kn2 ma kd (va_up len j k) ord kh km pg len2 ord2 kh2 km2 cw tl tO bO lf wo) H := hP
        refine lv_iload_n hx hb dX10_letters_47 rfl (lv_at hl 0 rfl) ?_
        have hP : va_P (dC, dI) vwCl (MW y a rn n lo kp dy so he kn ak pl im lo2 dy2 so2 he2 kn2 ma kd (sLetters n len h w) ord kh km pg len2 ord2 kh2 km2 cw tl tO bO lf wo) H := by
          unfold sLetters; rw [c_8, inR_mk c_15 c_21, ej, ek, nI_clamp (by omega), nI_clamp (by omega)]
          exact hP
        exact c_iret hx hb hr hlocks hK hS () hP (by unfold rLetters; rw [c_8, inR_mk c_15 c_21, ej, nI_clamp (by omega)]; rfl) dX10_letters_48
      · refine lv_bipush (v := (-102)) hx hb dX10_letters_24 (by decide) ?_
        have hP : va_P (dC, dI) vwCl (MW y a rn n lo kp dy so he kn ak pl im lo2 dy2 so2 he2 kn2 ma kd (sLetters n len h w) ord kh km pg len2 ord2 kh2 km2 cw tl tO bO lf wo) H := by
          unfold sLetters; rw [c_8, inR_no2 c_21]
          exact hP
        exact c_iret hx hb hr hlocks hK hS () hP (by unfold rLetters; rw [c_8, inR_no2 c_21]; rfl) dX10_letters_26
  · refine lv_bipush (v := (-101)) hx hb dX10_letters_11 (by decide) ?_
    have hP : va_P (dC, dI) vwCl (MW y a rn n lo kp dy so he kn ak pl im lo2 dy2 so2 he2 kn2 ma kd (sLetters n len h w) ord kh km pg len2 ord2 kh2 km2 cw tl tO bO lf wo) H := by
      unfold sLetters; rw [c_8]
      exact hP
    exact c_iret hx hb hr hlocks hK hS () hP (by unfold rLetters; rw [c_8]; rfl) dX10_letters_13
theorem in_X10_leave_X10 : ∀ w ∈ wsX100, w ∈ wsX10_leave := fun w h => List.mem_cons_of_mem _ (List.mem_append_left _ (List.mem_append_left _ (List.mem_append_right _ h)))
theorem in_X10_leave_X2 : ∀ w ∈ wsX20, w ∈ wsX10_leave := fun w h => List.mem_cons_of_mem _ (List.mem_append_left _ (List.mem_append_right _ h))
set_option maxHeartbeats 4000000 in
set_option maxRecDepth 100000 in
theorem k_X10_leave (l : Launch) (dC : Nat → ClassId) (dI : Nat → Nat → Nat) (y : Nat → ClassId) (A : Nat → Prop) (a : Nat → Nat) (hA0 : ad_ok A a 34) (xK : Nat → Nat) (xV : Nat → Nat) (rn : Nat) (n : Nat) (lo : Int32) (kp : Nat) (dy : Int32) (so : Int32) (he : Int32) (kn : Nat) (ak : Nat) (pl : Nat) (im : Bool) (lo2 : Int32) (dy2 : Int32) (so2 : Int32) (he2 : Int32) (kn2 : Nat) (ma : Nat) (kd : Nat → Nat) (len : Nat → Nat) (ord : Nat → Nat) (kh : Nat → Nat) (km : Nat → Nat) (pg : Nat → Nat) (len2 : Nat → Nat) (ord2 : Nat → Nat) (kh2 : Nat → Nat) (km2 : Nat → Nat) (cw : Nat → Nat) (tl : Nat → Nat) (tO : Nat → Nat) (bO : Nat → Nat) (lf : Nat → Nat → Nat) (wo : Nat → Nat) (h : Int32) (o : Bool) (hn : n ≤ 6) : Met l yX10_leave wsX10_leave ({ frames := 1, cells := 0, slots := 0, locals := 21 } : Room) (c_P (dC, dI) vwCl (TY y) (EV xK xV A) (MW y a rn n lo kp dy so he kn ak pl im lo2 dy2 so2 he2 kn2 ma kd len ord kh km pg len2 ord2 kh2 km2 cw tl tO bO lf wo) [.ref (a 0), .int (h), .int (bI (o))]) (va_Qi (fun (r : Int32) (u : Unit) => r = rLeave n lo h) (c_B (dC, dI) vwCl (TY y) (fun (u : Unit) => (MW y a rn n (sLeave n lo h o) kp dy so he kn ak pl im lo2 dy2 so2 he2 kn2 ma kd len ord kh km pg len2 ord2 kh2 km2 cw tl tO bO lf wo))) A) 0 0 A := by
  refine Met.ofW (cc := cX10_leave) (maxL := 4) (ret := (some .int)) (by decide) rfl ?_
  intro p e s m args below meth c s₁ BB hml hv
  obtain ⟨rfl, hP, hK, hE⟩ := hv
  have hx := BB.exec
  have hb := BB.bytes
  have hr := BB.returns
  have hts := atoms_spec (ws := wsX10_leave) BB.pre
  have hown : s.vm.findClass RX10 = some m.cls := findClass_of_methodNamed BB.named
  have hlocks := BB.notSynchronized
  have hS : va_S A s.heap s.heap [] := va_S.rf
  have hl := lv_entry ([.ref (a 0), .int (h), .int (bI (o))]) (n := 4) (Nat.le_of_ble_eq_true rfl)
  rw [lg_entry_eq]
  generalize (lg_sl ([.ref (a 0), .int (h), .int (bI (o))]) ++ List.replicate (4 - (lg_sl ([.ref (a 0), .int (h), .int (bI (o))])).length) Slot.unset).toArray = ls at hl ⊢
  have hl : lv_has ls 4 [(0, .ref (a 0)), (1, .int (h)), (2, .int (bI (o)))] := hl
  refine lv_aload_n hx hb dX10_leave_0 rfl (lv_at hl 0 rfl) ?_
  refine va_get (D := (dC, dI)) (ci := 10) (C := RX10) (T := TX10) (N := 12) hx hb hts in_X10_leave_X10 hown hK hP 0 rfl rfl 1 (by decide) (hts (.fieldLink RX10 19 "MilkRound" "street" "LMilkRound$Street;") (List.mem_of_getElem? (i := 1) rfl)) (fun _ h9 => h9) rfl dX10_leave_1 ?_
  refine lv_iload_n hx hb dX10_leave_4 rfl (lv_at hl 1 rfl) ?_
  refine c_calli (va_runV (As := [.int (h)]) (rest := []) ⟨hx, hb, hml, hown, hts⟩ (k_X6_has l dC dI y A a hA0 xK xV rn n lo kp dy so he kn ak pl im lo2 dy2 so2 he2 kn2 ma kd len ord kh km pg len2 ord2 kh2 km2 cw tl tO bO lf wo h ) (cwV 1 hts gX10_leave_X6_has rfl rfl rfl (by decide +kernel) ⟨Nat.le_of_ble_eq_true rfl, Nat.le_of_ble_eq_true rfl⟩) (c_preV (evN xK xV A) hK hE hS hP (va_recv hK hP (ci := 6) (q0 := 3) rfl rfl)) rfl rfl hl.1 rfl (lv_room (Nat.le_of_ble_eq_true rfl)) dX10_leave_5 ⟨Nat.le_refl _, Nat.le_refl _⟩) hS (fun r_5 u_5 H locs hw_5 hP hS => ?_)
  obtain rfl := hw_5
  refine n_bif_ne (tgt := 14) hx hb dX10_leave_8 (by decide) (fun c_8 => ?_) (fun c_8 => ?_)
  · obtain ⟨j, hj, ej⟩ := isH_of (by omega) c_8
    rw [ej] at hl
    have hl : lv_has ls 4 [(0, .ref (a 0)), (1, .int (nI (j))), (2, .int (bI (o)))] := hl
    refine lv_aload_n hx hb dX10_leave_14 rfl (lv_at hl 0 rfl) ?_
    refine va_get (D := (dC, dI)) (ci := 10) (C := RX10) (T := TX10) (N := 12) hx hb hts in_X10_leave_X10 hown hK hP 0 rfl rfl 2 (by decide) (hts (.fieldLink RX10 26 "MilkRound" "now" "LMilkRound$Course;") (List.mem_of_getElem? (i := 2) rfl)) (fun _ h9 => h9) rfl dX10_leave_15 ?_
    refine va_get (D := (dC, dI)) (ci := 2) (C := RX2) (T := TX2) (N := 9) hx hb hts in_X10_leave_X2 hown hK hP 10 rfl rfl 5 (by decide) (hts (.fieldLink RX10 113 "MilkRound$Course" "leftOut" "I") (List.mem_of_getElem? (i := 3) rfl)) (fun _ h9 => h9) rfl dX10_leave_18 ?_
    refine lv_iload_n hx hb dX10_leave_21 rfl (lv_at hl 1 rfl) ?_
    refine c_calli (va_runS (As := [.int (lo), .int (nI (j))]) (rest := []) ⟨hx, hb, hml, hown, hts⟩ (k_X10_bitOf l dC dI y A (MW y a rn n lo kp dy so he kn ak pl im lo2 dy2 so2 he2 kn2 ma kd len ord kh km pg len2 ord2 kh2 km2 cw tl tO bO lf wo) (EV xK xV A) lo j ) (va_cwS 2 hts gX10_leave_X10_bitOf rfl rfl rfl (by decide +kernel) ⟨Nat.le_of_ble_eq_true rfl, Nat.le_of_ble_eq_true rfl⟩) (c_preS (evN xK xV A) hK hE hS hP) rfl rfl hl.1 rfl (lv_room (Nat.le_of_ble_eq_true rfl)) dX10_leave_22 ⟨Nat.le_refl _, Nat.le_refl _⟩) hS (fun r_22 u_22 H locs hw_22 hP hS => ?_)
    obtain rfl := hw_22
    refine lv_istore_n (lv' := [(3, .int (bitL lo j)), (0, .ref (a 0)), (1, .int (nI (j))), (2, .int (bI (o)))]) hx hb dX10_leave_25 rfl hl (by decide) rfl (fun ls hl => ?_)
    refine lv_aload_n hx hb dX10_leave_26 rfl (lv_at hl 1 rfl) ?_
    refine va_get (D := (dC, dI)) (ci := 10) (C := RX10) (T := TX10) (N := 12) hx hb hts in_X10_leave_X10 hown hK hP 0 rfl rfl 2 (by decide) (hts (.fieldLink RX10 26 "MilkRound" "now" "LMilkRound$Course;") (List.mem_of_getElem? (i := 2) rfl)) (fun _ h9 => h9) rfl dX10_leave_27 ?_
    refine lv_iload_n hx hb dX10_leave_30 rfl (lv_at hl 3 rfl) ?_
    refine n_bif_eq (tgt := 48) hx hb dX10_leave_31 (by decide) (fun c_31 => ?_) (fun c_31 => ?_)
    · refine lv_aload_n hx hb dX10_leave_48 rfl (lv_at hl 1 rfl) ?_
      refine va_get (D := (dC, dI)) (ci := 10) (C := RX10) (T := TX10) (N := 12) hx hb hts in_X10_leave_X10 hown hK hP 0 rfl rfl 2 (by decide) (hts (.fieldLink RX10 26 "MilkRound" "now" "LMilkRound$Course;") (List.mem_of_getElem? (i := 2) rfl)) (fun _ h9 => h9) rfl dX10_leave_49 ?_
      refine va_get (D := (dC, dI)) (ci := 2) (C := RX2) (T := TX2) (N := 9) hx hb hts in_X10_leave_X2 hown hK hP 10 rfl rfl 5 (by decide) (hts (.fieldLink RX10 113 "MilkRound$Course" "leftOut" "I") (List.mem_of_getElem? (i := 3) rfl)) (fun _ h9 => h9) rfl dX10_leave_52 ?_
      refine lv_iconst (v := nI (1)) hx hb dX10_leave_55 (by decide) ?_
      refine lv_iload_n hx hb dX10_leave_56 rfl (lv_at hl 2 rfl) ?_
      refine lv_ishl hx hb dX10_leave_57 ?_
      refine lv_iconst (v := (-1)) hx hb dX10_leave_58 (by decide) ?_
      refine lv_ixor hx hb dX10_leave_59 ?_
      refine lv_iand hx hb dX10_leave_60 ?_
      refine va_put (D := (dC, dI)) (ci := 2) (ty := tyX2 5) (C := RX2) (T := TX2) (N := 9) hx hb hts in_X10_leave_X2 tyX2 tyX2_ok nmX2 hown hK hP (ad_D hA0 rfl) hS 10 rfl rfl 5 (by decide) (hts (.fieldLink RX10 113 "MilkRound$Course" "leftOut" "I") (List.mem_of_getElem? (i := 3) rfl)) (fun _ h9 => h9) rfl (tyX2_ok 5 (by decide)) rfl rfl (Nat.le_of_ble_eq_true rfl) dX10_leave_61 (fun H locs hP _ hS => ?_)
      have hP : va_P (dC, dI) vwCl (MW y a rn n (lo &&& (((nI (1)) <<< ((nI (j)) &&& 31)) ^^^ (-1))) kp dy so he kn ak pl im lo2 dy2 so2 he2 kn2 ma kd len ord kh km pg len2 ord2 kh2 km2 cw tl tO bO lf wo) H := hP
      refine lv_iload_n hx hb dX10_leave_64 rfl (lv_at hl 0 rfl) ?_
      have hP : va_P (dC, dI) vwCl (MW y a rn n (sLeave n lo h o) kp dy so he kn ak pl im lo2 dy2 so2 he2 kn2 ma kd len ord kh km pg len2 ord2 kh2 km2 cw tl tO bO lf wo) H := by
        unfold sLeave; rw [c_8, c_31, ej]
        exact hP
      exact c_iret hx hb hr hlocks hK hS () hP (by unfold rLeave; rw [c_8, ej, nI_clamp (by omega)]; rfl) dX10_leave_65
    · refine lv_aload_n hx hb dX10_leave_34 rfl (lv_at hl 1 rfl) ?_
      refine va_get (D := (dC, dI)) (ci := 10) (C := RX10) (T := TX10) (N := 12) hx hb hts in_X10_leave_X10 hown hK hP 0 rfl rfl 2 (by decide) (hts (.fieldLink RX10 26 "MilkRound" "now" "LMilkRound$Course;") (List.mem_of_getElem? (i := 2) rfl)) (fun _ h9 => h9) rfl dX10_leave_35 ?_
      refine va_get (D := (dC, dI)) (ci := 2) (C := RX2) (T := TX2) (N := 9) hx hb hts in_X10_leave_X2 hown hK hP 10 rfl rfl 5 (by decide) (hts (.fieldLink RX10 113 "MilkRound$Course" "leftOut" "I") (List.mem_of_getElem? (i := 3) rfl)) (fun _ h9 => h9) rfl dX10_leave_38 ?_
      refine lv_iconst (v := nI (1)) hx hb dX10_leave_41 (by decide) ?_
      refine lv_iload_n hx hb dX10_leave_42 rfl (lv_at hl 2 rfl) ?_
      refine lv_ishl hx hb dX10_leave_43 ?_
      refine lv_ior hx hb dX10_leave_44 ?_
      refine lv_goto (tgt := 61) hx hb dX10_leave_45 (by decide) ?_
      refine va_put (D := (dC, dI)) (ci := 2) (ty := tyX2 5) (C := RX2) (T := TX2) (N := 9) hx hb hts in_X10_leave_X2 tyX2 tyX2_ok nmX2 hown hK hP (ad_D hA0 rfl) hS 10 rfl rfl 5 (by decide) (hts (.fieldLink RX10 113 "MilkRound$Course" "leftOut" "I") (List.mem_of_getElem? (i := 3) rfl)) (fun _ h9 => h9) rfl (tyX2_ok 5 (by decide)) rfl rfl (Nat.le_of_ble_eq_true rfl) dX10_leave_61 (fun H locs hP _ hS => ?_)
      have hP : va_P (dC, dI) vwCl (MW y a rn n (lo ||| ((nI (1)) <<< ((nI (j)) &&& 31))) kp dy so he kn ak pl im lo2 dy2 so2 he2 kn2 ma kd len ord kh km pg len2 ord2 kh2 km2 cw tl tO bO lf wo) H := hP
      refine lv_iload_n hx hb dX10_leave_64 rfl (lv_at hl 0 rfl) ?_
      have hP : va_P (dC, dI) vwCl (MW y a rn n (sLeave n lo h o) kp dy so he kn ak pl im lo2 dy2 so2 he2 kn2 ma kd len ord kh km pg len2 ord2 kh2 km2 cw tl tO bO lf wo) H := by
        unfold sLeave; rw [c_8, c_31, ej]
        exact hP
      exact c_iret hx hb hr hlocks hK hS () hP (by unfold rLeave; rw [c_8, ej, nI_clamp (by omega)]; rfl) dX10_leave_65
  · refine lv_bipush (v := (-101)) hx hb dX10_leave_11 (by decide) ?_
    have hP : va_P (dC, dI) vwCl (MW y a rn n (sLeave n lo h o) kp dy so he kn ak pl im lo2 dy2 so2 he2 kn2 ma kd len ord kh km pg len2 ord2 kh2 km2 cw tl tO bO lf wo) H := by
      unfold sLeave; rw [c_8]
      exact hP
    exact c_iret hx hb hr hlocks hK hS () hP (by unfold rLeave; rw [c_8]; rfl) dX10_leave_13
theorem in_X10_swap_X10 : ∀ w ∈ wsX100, w ∈ wsX10_swap := fun w h => List.mem_cons_of_mem _ (List.mem_append_left _ (List.mem_append_left _ (List.mem_append_right _ h)))
theorem in_X10_swap_X2 : ∀ w ∈ wsX20, w ∈ wsX10_swap := fun w h => List.mem_cons_of_mem _ (List.mem_append_left _ (List.mem_append_right _ h))
set_option maxHeartbeats 4000000 in
set_option maxRecDepth 100000 in
theorem k_X10_swap (l : Launch) (dC : Nat → ClassId) (dI : Nat → Nat → Nat) (y : Nat → ClassId) (A : Nat → Prop) (a : Nat → Nat) (hA0 : ad_ok A a 34) (xK : Nat → Nat) (xV : Nat → Nat) (rn : Nat) (n : Nat) (lo : Int32) (kp : Nat) (dy : Int32) (so : Int32) (he : Int32) (kn : Nat) (ak : Nat) (pl : Nat) (im : Bool) (lo2 : Int32) (dy2 : Int32) (so2 : Int32) (he2 : Int32) (kn2 : Nat) (ma : Nat) (kd : Nat → Nat) (len : Nat → Nat) (ord : Nat → Nat) (kh : Nat → Nat) (km : Nat → Nat) (pg : Nat → Nat) (len2 : Nat → Nat) (ord2 : Nat → Nat) (kh2 : Nat → Nat) (km2 : Nat → Nat) (cw : Nat → Nat) (tl : Nat → Nat) (tO : Nat → Nat) (bO : Nat → Nat) (lf : Nat → Nat → Nat) (wo : Nat → Nat) (g : Int32) (h : Int32) (hn : n ≤ 6) (hord : PermOn n ord) : Met l yX10_swap wsX10_swap ({ frames := 1, cells := 0, slots := 0, locals := 23 } : Room) (c_P (dC, dI) vwCl (TY y) (EV xK xV A) (MW y a rn n lo kp dy so he kn ak pl im lo2 dy2 so2 he2 kn2 ma kd len ord kh km pg len2 ord2 kh2 km2 cw tl tO bO lf wo) [.ref (a 0), .int (g), .int (h)]) (va_Qi (fun (r : Int32) (u : Unit) => r = rSwap n ord g h) (c_B (dC, dI) vwCl (TY y) (fun (u : Unit) => (MW y a rn n lo kp dy so he kn ak pl im lo2 dy2 so2 he2 kn2 ma kd len (sSwap n ord g h) kh km pg len2 ord2 kh2 km2 cw tl tO bO lf wo))) A) 0 0 A := by
  refine Met.ofW (cc := cX10_swap) (maxL := 4) (ret := (some .int)) (by decide) rfl ?_
  intro p e s m args below meth c s₁ BB hml hv
  obtain ⟨rfl, hP, hK, hE⟩ := hv
  have hx := BB.exec
  have hb := BB.bytes
  have hr := BB.returns
  have hts := atoms_spec (ws := wsX10_swap) BB.pre
  have hown : s.vm.findClass RX10 = some m.cls := findClass_of_methodNamed BB.named
  have hlocks := BB.notSynchronized
  have hS : va_S A s.heap s.heap [] := va_S.rf
  have hl := lv_entry ([.ref (a 0), .int (g), .int (h)]) (n := 4) (Nat.le_of_ble_eq_true rfl)
  rw [lg_entry_eq]
  generalize (lg_sl ([.ref (a 0), .int (g), .int (h)]) ++ List.replicate (4 - (lg_sl ([.ref (a 0), .int (g), .int (h)])).length) Slot.unset).toArray = ls at hl ⊢
  have hl : lv_has ls 4 [(0, .ref (a 0)), (1, .int (g)), (2, .int (h))] := hl
  refine lv_aload_n hx hb dX10_swap_0 rfl (lv_at hl 0 rfl) ?_
  refine va_get (D := (dC, dI)) (ci := 10) (C := RX10) (T := TX10) (N := 12) hx hb hts in_X10_swap_X10 hown hK hP 0 rfl rfl 1 (by decide) (hts (.fieldLink RX10 19 "MilkRound" "street" "LMilkRound$Street;") (List.mem_of_getElem? (i := 1) rfl)) (fun _ h9 => h9) rfl dX10_swap_1 ?_
  refine lv_iload_n hx hb dX10_swap_4 rfl (lv_at hl 1 rfl) ?_
  refine c_calli (va_runV (As := [.int (g)]) (rest := []) ⟨hx, hb, hml, hown, hts⟩ (k_X6_has l dC dI y A a hA0 xK xV rn n lo kp dy so he kn ak pl im lo2 dy2 so2 he2 kn2 ma kd len ord kh km pg len2 ord2 kh2 km2 cw tl tO bO lf wo g ) (cwV 1 hts gX10_swap_X6_has rfl rfl rfl (by decide +kernel) ⟨Nat.le_of_ble_eq_true rfl, Nat.le_of_ble_eq_true rfl⟩) (c_preV (evN xK xV A) hK hE hS hP (va_recv hK hP (ci := 6) (q0 := 3) rfl rfl)) rfl rfl hl.1 rfl (lv_room (Nat.le_of_ble_eq_true rfl)) dX10_swap_5 ⟨Nat.le_refl _, Nat.le_refl _⟩) hS (fun r_5 u_5 H locs hw_5 hP hS => ?_)
  obtain rfl := hw_5
  refine n_bif_eq (tgt := 22) hx hb dX10_swap_8 (by decide) (fun c_8 => ?_) (fun c_8 => ?_)
  · refine lv_bipush (v := (-101)) hx hb dX10_swap_22 (by decide) ?_
    have hP : va_P (dC, dI) vwCl (MW y a rn n lo kp dy so he kn ak pl im lo2 dy2 so2 he2 kn2 ma kd len (sSwap n ord g h) kh km pg len2 ord2 kh2 km2 cw tl tO bO lf wo) H := by
      unfold sSwap; rw [c_8]
      exact hP
    exact c_iret hx hb hr hlocks hK hS () hP (by unfold rSwap; rw [c_8]; rfl) dX10_swap_24
  · refine lv_aload_n hx hb dX10_swap_11 rfl (lv_at hl 0 rfl) ?_
    refine va_get (D := (dC, dI)) (ci := 10) (C := RX10) (T := TX10) (N := 12) hx hb hts in_X10_swap_X10 hown hK hP 0 rfl rfl 1 (by decide) (hts (.fieldLink RX10 19 "MilkRound" "street" "LMilkRound$Street;") (List.mem_of_getElem? (i := 1) rfl)) (fun _ h9 => h9) rfl dX10_swap_12 ?_
    refine lv_iload_n hx hb dX10_swap_15 rfl (lv_at hl 2 rfl) ?_
    refine c_calli (va_runV (As := [.int (h)]) (rest := []) ⟨hx, hb, hml, hown, hts⟩ (k_X6_has l dC dI y A a hA0 xK xV rn n lo kp dy so he kn ak pl im lo2 dy2 so2 he2 kn2 ma kd len ord kh km pg len2 ord2 kh2 km2 cw tl tO bO lf wo h ) (cwV 1 hts gX10_swap_X6_has rfl rfl rfl (by decide +kernel) ⟨Nat.le_of_ble_eq_true rfl, Nat.le_of_ble_eq_true rfl⟩) (c_preV (evN xK xV A) hK hE hS hP (va_recv hK hP (ci := 6) (q0 := 3) rfl rfl)) rfl rfl hl.1 rfl (lv_room (Nat.le_of_ble_eq_true rfl)) dX10_swap_16 ⟨Nat.le_refl _, Nat.le_refl _⟩) hS (fun r_16 u_16 H locs hw_16 hP hS => ?_)
    obtain rfl := hw_16
    refine n_bif_ne (tgt := 25) hx hb dX10_swap_19 (by decide) (fun c_19 => ?_) (fun c_19 => ?_)
    · obtain ⟨j, hj, ej⟩ := isH_of (by omega) c_8
      obtain ⟨k, hk, ek⟩ := isH_of (by omega) c_19
      obtain ⟨p1, hp1, eq1⟩ := hord.onto hj
      obtain ⟨p2, hp2, eq2⟩ := hord.onto hk
      rw [ej] at hl
      rw [ek] at hl
      have hl : lv_has ls 4 [(0, .ref (a 0)), (1, .int (nI (j))), (2, .int (nI (k)))] := hl
      refine lv_aload_n hx hb dX10_swap_25 rfl (lv_at hl 0 rfl) ?_
      refine va_get (D := (dC, dI)) (ci := 10) (C := RX10) (T := TX10) (N := 12) hx hb hts in_X10_swap_X10 hown hK hP 0 rfl rfl 2 (by decide) (hts (.fieldLink RX10 26 "MilkRound" "now" "LMilkRound$Course;") (List.mem_of_getElem? (i := 2) rfl)) (fun _ h9 => h9) rfl dX10_swap_26 ?_
      refine lv_iload_n hx hb dX10_swap_29 rfl (lv_at hl 1 rfl) ?_
      refine c_calli (va_runV (As := [.int (nI (j))]) (rest := []) ⟨hx, hb, hml, hown, hts⟩ (k_X2_placeOf l dC dI y A a hA0 xK xV rn n lo kp dy so he kn ak pl im lo2 dy2 so2 he2 kn2 ma kd len ord kh km pg len2 ord2 kh2 km2 cw tl tO bO lf wo j p1 hn hord hp1 eq1) (cwV 1 hts gX10_swap_X2_placeOf rfl rfl rfl (by decide +kernel) ⟨Nat.le_of_ble_eq_true rfl, Nat.le_of_ble_eq_true rfl⟩) (c_preV (evN xK xV A) hK hE hS hP (va_recv hK hP (ci := 2) (q0 := 10) rfl rfl)) rfl rfl hl.1 rfl (lv_room (Nat.le_of_ble_eq_true rfl)) dX10_swap_30 ⟨Nat.le_refl _, Nat.le_refl _⟩) hS (fun r_30 u_30 H locs hw_30 hP hS => ?_)
      obtain rfl := hw_30
      refine lv_istore_n (lv' := [(3, .int (nI (p1))), (0, .ref (a 0)), (1, .int (nI (j))), (2, .int (nI (k)))]) hx hb dX10_swap_33 rfl hl (by decide) rfl (fun ls hl => ?_)
      refine lv_aload_n hx hb dX10_swap_34 rfl (lv_at hl 1 rfl) ?_
      refine va_get (D := (dC, dI)) (ci := 10) (C := RX10) (T := TX10) (N := 12) hx hb hts in_X10_swap_X10 hown hK hP 0 rfl rfl 2 (by decide) (hts (.fieldLink RX10 26 "MilkRound" "now" "LMilkRound$Course;") (List.mem_of_getElem? (i := 2) rfl)) (fun _ h9 => h9) rfl dX10_swap_35 ?_
      refine va_get (D := (dC, dI)) (ci := 2) (C := RX2) (T := TX2) (N := 9) hx hb hts in_X10_swap_X2 hown hK hP 10 rfl rfl 1 (by decide) (hts (.fieldLink RX10 123 "MilkRound$Course" "order" "[I") (List.mem_of_getElem? (i := 3) rfl)) (fun _ h9 => h9) rfl dX10_swap_38 ?_
      refine lv_iload_n hx hb dX10_swap_41 rfl (lv_at hl 0 rfl) ?_
      refine lv_aload_n hx hb dX10_swap_42 rfl (lv_at hl 1 rfl) ?_
      refine va_get (D := (dC, dI)) (ci := 10) (C := RX10) (T := TX10) (N := 12) hx hb hts in_X10_swap_X10 hown hK hP 0 rfl rfl 2 (by decide) (hts (.fieldLink RX10 26 "MilkRound" "now" "LMilkRound$Course;") (List.mem_of_getElem? (i := 2) rfl)) (fun _ h9 => h9) rfl dX10_swap_43 ?_
      refine lv_iload_n hx hb dX10_swap_46 rfl (lv_at hl 3 rfl) ?_
      refine c_calli (va_runV (As := [.int (nI (k))]) (rest := [.int (nI (p1)), .ref (a 12)]) ⟨hx, hb, hml, hown, hts⟩ (k_X2_placeOf l dC dI y A a hA0 xK xV rn n lo kp dy so he kn ak pl im lo2 dy2 so2 he2 kn2 ma kd len ord kh km pg len2 ord2 kh2 km2 cw tl tO bO lf wo k p2 hn hord hp2 eq2) (cwV 1 hts gX10_swap_X2_placeOf rfl rfl rfl (by decide +kernel) ⟨Nat.le_of_ble_eq_true rfl, Nat.le_of_ble_eq_true rfl⟩) (c_preV (evN xK xV A) hK hE hS hP (va_recv hK hP (ci := 2) (q0 := 10) rfl rfl)) rfl rfl hl.1 rfl (lv_room (Nat.le_of_ble_eq_true rfl)) dX10_swap_47 ⟨Nat.le_refl _, Nat.le_refl _⟩) hS (fun r_47 u_47 H locs hw_47 hP hS => ?_)
      obtain rfl := hw_47
      refine c_callv (va_runS (As := [.ref (a 12), .int (nI (p1)), .int (nI (p2))]) (rest := []) ⟨hx, hb, hml, hown, hts⟩ (k_X10_exchange_o l dC dI y A a hA0 xK xV rn n lo kp dy so he kn ak pl im lo2 dy2 so2 he2 kn2 ma kd len ord kh km pg len2 ord2 kh2 km2 cw tl tO bO lf wo p1 p2 (by omega) (by omega)) (va_cwS 3 hts gX10_swap_X10_exchange rfl rfl rfl (by decide +kernel) ⟨Nat.le_of_ble_eq_true rfl, Nat.le_of_ble_eq_true rfl⟩) (c_preS (evN xK xV A) hK hE hS hP) rfl rfl hl.1 rfl (lv_room (Nat.le_of_ble_eq_true rfl)) dX10_swap_50 ⟨Nat.le_refl _, Nat.le_refl _⟩) hS (fun u_50 H locs hw_50 hP hS => ?_)
      have hP : va_P (dC, dI) vwCl (MW y a rn n lo kp dy so he kn ak pl im lo2 dy2 so2 he2 kn2 ma kd len (swF ord p1 p2) kh km pg len2 ord2 kh2 km2 cw tl tO bO lf wo) H := hP
      rw [posS hord hp1 eq1 hp2 eq2] at hP
      have hP : va_P (dC, dI) vwCl (MW y a rn n lo kp dy so he kn ak pl im lo2 dy2 so2 he2 kn2 ma kd len (va_up (va_up ord p1 k) p2 j) kh km pg len2 ord2 kh2 km2 cw tl tO bO lf wo) H := hP
      refine lv_iload_n hx hb dX10_swap_53 rfl (lv_at hl 0 rfl) ?_
      have hP : va_P (dC, dI) vwCl (MW y a rn n lo kp dy so he kn ak pl im lo2 dy2 so2 he2 kn2 ma kd len (sSwap n ord g h) kh km pg len2 ord2 kh2 km2 cw tl tO bO lf wo) H := by
        unfold sSwap; rw [c_8, c_19, ej, ek, nI_clamp (by omega), nI_clamp (by omega), posF_eq hord hp1 eq1, posF_eq hord hp2 eq2]
        exact hP
      exact c_iret hx hb hr hlocks hK hS () hP (by unfold rSwap; rw [c_8, c_19, ej, nI_clamp (by omega), posF_eq hord hp1 eq1]; rfl) dX10_swap_54
    · refine lv_bipush (v := (-101)) hx hb dX10_swap_22 (by decide) ?_
      have hP : va_P (dC, dI) vwCl (MW y a rn n lo kp dy so he kn ak pl im lo2 dy2 so2 he2 kn2 ma kd len (sSwap n ord g h) kh km pg len2 ord2 kh2 km2 cw tl tO bO lf wo) H := by
        unfold sSwap; rw [c_8, c_19]
        exact hP
      exact c_iret hx hb hr hlocks hK hS () hP (by unfold rSwap; rw [c_8, c_19]; rfl) dX10_swap_24
theorem in_X10_known_X10 : ∀ w ∈ wsX100, w ∈ wsX10_known := fun w h => List.mem_cons_of_mem _ (List.mem_append_left _ (List.mem_append_left _ (List.mem_append_right _ h)))
theorem in_X10_known_X2 : ∀ w ∈ wsX20, w ∈ wsX10_known := fun w h => List.mem_cons_of_mem _ (List.mem_append_left _ (List.mem_append_right _ h))
set_option maxHeartbeats 4000000 in
set_option maxRecDepth 100000 in
theorem k_X10_known (l : Launch) (dC : Nat → ClassId) (dI : Nat → Nat → Nat) (y : Nat → ClassId) (A : Nat → Prop) (a : Nat → Nat) (hA0 : ad_ok A a 34) (xK : Nat → Nat) (xV : Nat → Nat) (rn : Nat) (n : Nat) (lo : Int32) (kp : Nat) (dy : Int32) (so : Int32) (he : Int32) (kn : Nat) (ak : Nat) (pl : Nat) (im : Bool) (lo2 : Int32) (dy2 : Int32) (so2 : Int32) (he2 : Int32) (kn2 : Nat) (ma : Nat) (kd : Nat → Nat) (len : Nat → Nat) (ord : Nat → Nat) (kh : Nat → Nat) (km : Nat → Nat) (pg : Nat → Nat) (len2 : Nat → Nat) (ord2 : Nat → Nat) (kh2 : Nat → Nat) (km2 : Nat → Nat) (cw : Nat → Nat) (tl : Nat → Nat) (tO : Nat → Nat) (bO : Nat → Nat) (lf : Nat → Nat → Nat) (wo : Nat → Nat) (h : Int32) (w : Int32) (hn : n ≤ 6) (hkn : kn ≤ 6) : Met l yX10_known wsX10_known ({ frames := 1, cells := 0, slots := 0, locals := 22 } : Room) (c_P (dC, dI) vwCl (TY y) (EV xK xV A) (MW y a rn n lo kp dy so he kn ak pl im lo2 dy2 so2 he2 kn2 ma kd len ord kh km pg len2 ord2 kh2 km2 cw tl tO bO lf wo) [.ref (a 0), .int (h), .int (w)]) (va_Qi (fun (r : Int32) (u : Unit) => r = rKnown n kn h w) (c_B (dC, dI) vwCl (TY y) (fun (u : Unit) => (MW y a rn n lo kp dy so he (sKn n kn h w) ak pl im lo2 dy2 so2 he2 kn2 ma kd len ord (sKh n kn kh h w) (sKm n kn km h w) pg len2 ord2 kh2 km2 cw tl tO bO lf wo))) A) 0 0 A := by
  refine Met.ofW (cc := cX10_known) (maxL := 3) (ret := (some .int)) (by decide) rfl ?_
  intro p e s m args below meth c s₁ BB hml hv
  obtain ⟨rfl, hP, hK, hE⟩ := hv
  have hx := BB.exec
  have hb := BB.bytes
  have hr := BB.returns
  have hts := atoms_spec (ws := wsX10_known) BB.pre
  have hown : s.vm.findClass RX10 = some m.cls := findClass_of_methodNamed BB.named
  have hlocks := BB.notSynchronized
  have hS : va_S A s.heap s.heap [] := va_S.rf
  have hl := lv_entry ([.ref (a 0), .int (h), .int (w)]) (n := 3) (Nat.le_of_ble_eq_true rfl)
  rw [lg_entry_eq]
  generalize (lg_sl ([.ref (a 0), .int (h), .int (w)]) ++ List.replicate (3 - (lg_sl ([.ref (a 0), .int (h), .int (w)])).length) Slot.unset).toArray = ls at hl ⊢
  have hl : lv_has ls 3 [(0, .ref (a 0)), (1, .int (h)), (2, .int (w))] := hl
  refine lv_aload_n hx hb dX10_known_0 rfl (lv_at hl 0 rfl) ?_
  refine va_get (D := (dC, dI)) (ci := 10) (C := RX10) (T := TX10) (N := 12) hx hb hts in_X10_known_X10 hown hK hP 0 rfl rfl 1 (by decide) (hts (.fieldLink RX10 19 "MilkRound" "street" "LMilkRound$Street;") (List.mem_of_getElem? (i := 1) rfl)) (fun _ h9 => h9) rfl dX10_known_1 ?_
  refine lv_iload_n hx hb dX10_known_4 rfl (lv_at hl 1 rfl) ?_
  refine c_calli (va_runV (As := [.int (h)]) (rest := []) ⟨hx, hb, hml, hown, hts⟩ (k_X6_has l dC dI y A a hA0 xK xV rn n lo kp dy so he kn ak pl im lo2 dy2 so2 he2 kn2 ma kd len ord kh km pg len2 ord2 kh2 km2 cw tl tO bO lf wo h ) (cwV 1 hts gX10_known_X6_has rfl rfl rfl (by decide +kernel) ⟨Nat.le_of_ble_eq_true rfl, Nat.le_of_ble_eq_true rfl⟩) (c_preV (evN xK xV A) hK hE hS hP (va_recv hK hP (ci := 6) (q0 := 3) rfl rfl)) rfl rfl hl.1 rfl (lv_room (Nat.le_of_ble_eq_true rfl)) dX10_known_5 ⟨Nat.le_refl _, Nat.le_refl _⟩) hS (fun r_5 u_5 H locs hw_5 hP hS => ?_)
  obtain rfl := hw_5
  refine n_bif_ne (tgt := 14) hx hb dX10_known_8 (by decide) (fun c_8 => ?_) (fun c_8 => ?_)
  · refine lv_iload_n hx hb dX10_known_14 rfl (lv_at hl 2 rfl) ?_
    refine lv_iconst (v := nI (1)) hx hb dX10_known_15 (by decide) ?_
    refine lv_icmp_lt (tgt := 26) hx hb dX10_known_16 (by decide) (fun c_16 => ?_) (fun c_16 => ?_)
    · refine lv_bipush (v := (-102)) hx hb dX10_known_26 (by decide) ?_
      have hP : va_P (dC, dI) vwCl (MW y a rn n lo kp dy so he (sKn n kn h w) ak pl im lo2 dy2 so2 he2 kn2 ma kd len ord (sKh n kn kh h w) (sKm n kn km h w) pg len2 ord2 kh2 km2 cw tl tO bO lf wo) H := by
        unfold sKn sKh sKm accK; rw [c_8, inK_no1 c_16]
        exact hP
      exact c_iret hx hb hr hlocks hK hS () hP (by unfold rKnown; rw [c_8, inK_no1 c_16]; rfl) dX10_known_28
    · refine lv_iload_n hx hb dX10_known_19 rfl (lv_at hl 2 rfl) ?_
      refine lv_sipush (v := nI (150)) hx hb dX10_known_20 (by decide) ?_
      refine lv_icmp_le (tgt := 29) hx hb dX10_known_23 (by decide) (fun c_23 => ?_) (fun c_23 => ?_)
      · obtain ⟨j, hj, ej⟩ := isH_of (by omega) c_8
        obtain ⟨k, hk1, hk2, ek⟩ := inK_of (inK_mk c_16 c_23)
        rw [ej] at hl
        rw [ek] at hl
        have hl : lv_has ls 3 [(0, .ref (a 0)), (1, .int (nI (j))), (2, .int (nI (k)))] := hl
        refine lv_aload_n hx hb dX10_known_29 rfl (lv_at hl 0 rfl) ?_
        refine va_get (D := (dC, dI)) (ci := 10) (C := RX10) (T := TX10) (N := 12) hx hb hts in_X10_known_X10 hown hK hP 0 rfl rfl 2 (by decide) (hts (.fieldLink RX10 26 "MilkRound" "now" "LMilkRound$Course;") (List.mem_of_getElem? (i := 2) rfl)) (fun _ h9 => h9) rfl dX10_known_30 ?_
        refine lv_iload_n hx hb dX10_known_33 rfl (lv_at hl 1 rfl) ?_
        refine lv_iload_n hx hb dX10_known_34 rfl (lv_at hl 2 rfl) ?_
        refine c_calli (va_runV (As := [.int (nI (j)), .int (nI (k))]) (rest := []) ⟨hx, hb, hml, hown, hts⟩ (k_X2_learn l dC dI y A a hA0 xK xV rn n lo kp dy so he kn ak pl im lo2 dy2 so2 he2 kn2 ma kd len ord kh km pg len2 ord2 kh2 km2 cw tl tO bO lf wo j k hkn) (cwV 2 hts gX10_known_X2_learn rfl rfl rfl (by decide +kernel) ⟨Nat.le_of_ble_eq_true rfl, Nat.le_of_ble_eq_true rfl⟩) (c_preV (evN xK xV A) hK hE hS hP (va_recv hK hP (ci := 2) (q0 := 10) rfl rfl)) rfl rfl hl.1 rfl (lv_room (Nat.le_of_ble_eq_true rfl)) dX10_known_35 ⟨Nat.le_refl _, Nat.le_refl _⟩) hS (fun r_35 u_35 H locs hw_35 hP hS => ?_)
        have hP : va_P (dC, dI) vwCl (MW y a rn n lo kp dy so he (if kn = 6 then kn else kn + 1) ak pl im lo2 dy2 so2 he2 kn2 ma kd len ord (if kn = 6 then kh else va_up kh kn j) (if kn = 6 then km else va_up km kn k) pg len2 ord2 kh2 km2 cw tl tO bO lf wo) H := hP
        obtain rfl := hw_35
        refine n_bif_eq (tgt := 51) hx hb dX10_known_38 (by decide) (fun c_38 => ?_) (fun c_38 => ?_)
        · refine lv_bipush (v := (-104)) hx hb dX10_known_51 (by decide) ?_
          have hP : va_P (dC, dI) vwCl (MW y a rn n lo kp dy so he (sKn n kn h w) ak pl im lo2 dy2 so2 he2 kn2 ma kd len ord (sKh n kn kh h w) (sKm n kn km h w) pg len2 ord2 kh2 km2 cw tl tO bO lf wo) H := by
            have h6 := Classical.not_not.mp (of_decide_eq_false c_38)
            rw [if_pos h6, if_pos h6, if_pos h6] at hP
            unfold sKn sKh sKm accK; rw [c_8, inK_mk c_16 c_23, decide_eq_false (fun q => q h6)]
            exact hP
          exact c_iret hx hb hr hlocks hK hS () hP (by unfold rKnown; rw [c_8, inK_mk c_16 c_23, if_pos (Classical.not_not.mp (of_decide_eq_false c_38))]; rfl) dX10_known_53
        · refine lv_aload_n hx hb dX10_known_41 rfl (lv_at hl 0 rfl) ?_
          refine va_get (D := (dC, dI)) (ci := 10) (C := RX10) (T := TX10) (N := 12) hx hb hts in_X10_known_X10 hown hK hP 0 rfl rfl 2 (by decide) (hts (.fieldLink RX10 26 "MilkRound" "now" "LMilkRound$Course;") (List.mem_of_getElem? (i := 2) rfl)) (fun _ h9 => h9) rfl dX10_known_42 ?_
          refine va_get (D := (dC, dI)) (ci := 2) (C := RX2) (T := TX2) (N := 9) hx hb hts in_X10_known_X2 hown hK hP 10 rfl rfl 4 (by decide) (hts (.fieldLink RX10 163 "MilkRound$Course" "knownSize" "I") (List.mem_of_getElem? (i := 3) rfl)) (fun _ h9 => h9) rfl dX10_known_45 ?_
          refine lv_goto (tgt := 53) hx hb dX10_known_48 (by decide) ?_
          have hP : va_P (dC, dI) vwCl (MW y a rn n lo kp dy so he (sKn n kn h w) ak pl im lo2 dy2 so2 he2 kn2 ma kd len ord (sKh n kn kh h w) (sKm n kn km h w) pg len2 ord2 kh2 km2 cw tl tO bO lf wo) H := by
            have h6 := of_decide_eq_true c_38
            rw [if_neg h6, if_neg h6, if_neg h6] at hP
            unfold sKn sKh sKm accK; rw [c_8, inK_mk c_16 c_23, decide_eq_true h6, ej, ek, nI_clamp (by omega), nI_clamp (by omega)]
            exact hP
          exact c_iret hx hb hr hlocks hK hS () hP (by unfold rKnown; rw [c_8, inK_mk c_16 c_23, if_neg (of_decide_eq_true c_38), if_neg (of_decide_eq_true c_38)]; rfl) dX10_known_53
      · refine lv_bipush (v := (-102)) hx hb dX10_known_26 (by decide) ?_
        have hP : va_P (dC, dI) vwCl (MW y a rn n lo kp dy so he (sKn n kn h w) ak pl im lo2 dy2 so2 he2 kn2 ma kd len ord (sKh n kn kh h w) (sKm n kn km h w) pg len2 ord2 kh2 km2 cw tl tO bO lf wo) H := by
          unfold sKn sKh sKm accK; rw [c_8, inK_no2 c_23]
          exact hP
        exact c_iret hx hb hr hlocks hK hS () hP (by unfold rKnown; rw [c_8, inK_no2 c_23]; rfl) dX10_known_28
  · refine lv_bipush (v := (-101)) hx hb dX10_known_11 (by decide) ?_
    have hP : va_P (dC, dI) vwCl (MW y a rn n lo kp dy so he (sKn n kn h w) ak pl im lo2 dy2 so2 he2 kn2 ma kd len ord (sKh n kn kh h w) (sKm n kn km h w) pg len2 ord2 kh2 km2 cw tl tO bO lf wo) H := by
      unfold sKn sKh sKm accK; rw [c_8]
      exact hP
    exact c_iret hx hb hr hlocks hK hS () hP (by unfold rKnown; rw [c_8]; rfl) dX10_known_13
theorem in_X10_forget_X10 : ∀ w ∈ wsX100, w ∈ wsX10_forget := fun w h => List.mem_cons_of_mem _ (List.mem_append_left _ (List.mem_append_right _ h))
theorem in_X10_forget_X2 : ∀ w ∈ wsX20, w ∈ wsX10_forget := fun w h => List.mem_cons_of_mem _ (List.mem_append_right _ h)
set_option maxHeartbeats 4000000 in
set_option maxRecDepth 100000 in
theorem k_X10_forget (l : Launch) (dC : Nat → ClassId) (dI : Nat → Nat → Nat) (y : Nat → ClassId) (A : Nat → Prop) (a : Nat → Nat) (hA0 : ad_ok A a 34) (xK : Nat → Nat) (xV : Nat → Nat) (rn : Nat) (n : Nat) (lo : Int32) (kp : Nat) (dy : Int32) (so : Int32) (he : Int32) (kn : Nat) (ak : Nat) (pl : Nat) (im : Bool) (lo2 : Int32) (dy2 : Int32) (so2 : Int32) (he2 : Int32) (kn2 : Nat) (ma : Nat) (kd : Nat → Nat) (len : Nat → Nat) (ord : Nat → Nat) (kh : Nat → Nat) (km : Nat → Nat) (pg : Nat → Nat) (len2 : Nat → Nat) (ord2 : Nat → Nat) (kh2 : Nat → Nat) (km2 : Nat → Nat) (cw : Nat → Nat) (tl : Nat → Nat) (tO : Nat → Nat) (bO : Nat → Nat) (lf : Nat → Nat → Nat) (wo : Nat → Nat) : Met l yX10_forget wsX10_forget ({ frames := 0, cells := 0, slots := 0, locals := 0 } : Room) (c_P (dC, dI) vwCl (TY y) (EV xK xV A) (MW y a rn n lo kp dy so he kn ak pl im lo2 dy2 so2 he2 kn2 ma kd len ord kh km pg len2 ord2 kh2 km2 cw tl tO bO lf wo) [.ref (a 0)]) (va_Qi (fun (r : Int32) (u : Unit) => r = nI kn) (c_B (dC, dI) vwCl (TY y) (fun (u : Unit) => (MW y a rn n lo kp dy so he 0 ak pl im lo2 dy2 so2 he2 kn2 ma kd len ord kh km pg len2 ord2 kh2 km2 cw tl tO bO lf wo))) A) 0 0 A := by
  refine Met.ofW (cc := cX10_forget) (maxL := 2) (ret := (some .int)) (by decide) rfl ?_
  intro p e s m args below meth c s₁ BB hml hv
  obtain ⟨rfl, hP, hK, hE⟩ := hv
  have hx := BB.exec
  have hb := BB.bytes
  have hr := BB.returns
  have hts := atoms_spec (ws := wsX10_forget) BB.pre
  have hown : s.vm.findClass RX10 = some m.cls := findClass_of_methodNamed BB.named
  have hlocks := BB.notSynchronized
  have hS : va_S A s.heap s.heap [] := va_S.rf
  have hl := lv_entry ([.ref (a 0)]) (n := 2) (Nat.le_of_ble_eq_true rfl)
  rw [lg_entry_eq]
  generalize (lg_sl ([.ref (a 0)]) ++ List.replicate (2 - (lg_sl ([.ref (a 0)])).length) Slot.unset).toArray = ls at hl ⊢
  have hl : lv_has ls 2 [(0, .ref (a 0))] := hl
  refine lv_aload_n hx hb dX10_forget_0 rfl (lv_at hl 0 rfl) ?_
  refine va_get (D := (dC, dI)) (ci := 10) (C := RX10) (T := TX10) (N := 12) hx hb hts in_X10_forget_X10 hown hK hP 0 rfl rfl 2 (by decide) (hts (.fieldLink RX10 26 "MilkRound" "now" "LMilkRound$Course;") (List.mem_of_getElem? (i := 1) rfl)) (fun _ h9 => h9) rfl dX10_forget_1 ?_
  refine va_get (D := (dC, dI)) (ci := 2) (C := RX2) (T := TX2) (N := 9) hx hb hts in_X10_forget_X2 hown hK hP 10 rfl rfl 4 (by decide) (hts (.fieldLink RX10 163 "MilkRound$Course" "knownSize" "I") (List.mem_of_getElem? (i := 2) rfl)) (fun _ h9 => h9) rfl dX10_forget_4 ?_
  refine lv_istore_n (lv' := [(1, .int (nI (kn))), (0, .ref (a 0))]) hx hb dX10_forget_7 rfl hl (by decide) rfl (fun ls hl => ?_)
  refine lv_aload_n hx hb dX10_forget_8 rfl (lv_at hl 1 rfl) ?_
  refine va_get (D := (dC, dI)) (ci := 10) (C := RX10) (T := TX10) (N := 12) hx hb hts in_X10_forget_X10 hown hK hP 0 rfl rfl 2 (by decide) (hts (.fieldLink RX10 26 "MilkRound" "now" "LMilkRound$Course;") (List.mem_of_getElem? (i := 1) rfl)) (fun _ h9 => h9) rfl dX10_forget_9 ?_
  refine lv_iconst (v := nI (0)) hx hb dX10_forget_12 (by decide) ?_
  refine va_put (D := (dC, dI)) (ci := 2) (ty := tyX2 4) (C := RX2) (T := TX2) (N := 9) hx hb hts in_X10_forget_X2 tyX2 tyX2_ok nmX2 hown hK hP (ad_D hA0 rfl) hS 10 rfl rfl 4 (by decide) (hts (.fieldLink RX10 163 "MilkRound$Course" "knownSize" "I") (List.mem_of_getElem? (i := 2) rfl)) (fun _ h9 => h9) rfl (tyX2_ok 4 (by decide)) rfl rfl (Nat.le_of_ble_eq_true rfl) dX10_forget_13 (fun H locs hP _ hS => ?_)
  have hP : va_P (dC, dI) vwCl (MW y a rn n lo kp dy so he 0 ak pl im lo2 dy2 so2 he2 kn2 ma kd len ord kh km pg len2 ord2 kh2 km2 cw tl tO bO lf wo) H := hP
  refine lv_iload_n hx hb dX10_forget_16 rfl (lv_at hl 0 rfl) ?_
  exact c_iret hx hb hr hlocks hK hS () hP rfl dX10_forget_17
theorem in_X10_image_X10 : ∀ w ∈ wsX100, w ∈ wsX10_image := fun w h => List.mem_cons_of_mem _ (List.mem_append_left _ (List.mem_append_left _ (List.mem_append_right _ h)))
theorem in_X10_image_X2 : ∀ w ∈ wsX20, w ∈ wsX10_image := fun w h => List.mem_cons_of_mem _ (List.mem_append_left _ (List.mem_append_right _ h))
set_option maxHeartbeats 4000000 in
set_option maxRecDepth 100000 in
theorem k_X10_image (l : Launch) (dC : Nat → ClassId) (dI : Nat → Nat → Nat) (y : Nat → ClassId) (A : Nat → Prop) (a : Nat → Nat) (hA0 : ad_ok A a 34) (xK : Nat → Nat) (xV : Nat → Nat) (rn : Nat) (n : Nat) (lo : Int32) (kp : Nat) (dy : Int32) (so : Int32) (he : Int32) (kn : Nat) (ak : Nat) (pl : Nat) (im : Bool) (lo2 : Int32) (dy2 : Int32) (so2 : Int32) (he2 : Int32) (kn2 : Nat) (ma : Nat) (kd : Nat → Nat) (len : Nat → Nat) (ord : Nat → Nat) (kh : Nat → Nat) (km : Nat → Nat) (pg : Nat → Nat) (len2 : Nat → Nat) (ord2 : Nat → Nat) (kh2 : Nat → Nat) (km2 : Nat → Nat) (cw : Nat → Nat) (tl : Nat → Nat) (tO : Nat → Nat) (bO : Nat → Nat) (lf : Nat → Nat → Nat) (wo : Nat → Nat) (hn : n ≤ 6) : Met l yX10_image wsX10_image ({ frames := 2, cells := 0, slots := 0, locals := 39 } : Room) (c_P (dC, dI) vwCl (TY y) (EV xK xV A) (MW y a rn n lo kp dy so he kn ak pl im lo2 dy2 so2 he2 kn2 ma kd len ord kh km pg len2 ord2 kh2 km2 cw tl tO bO lf wo) [.ref (a 0)]) (va_Qi (fun (r : Int32) (u : Unit) => r = (bif decide (n = 0) then -103 else dy)) (c_B (dC, dI) vwCl (TY y) (fun (u : Unit) => (MW y a rn n lo kp dy so he kn ak pl (bif decide (n = 0) then im else true) (bif decide (n = 0) then lo2 else lo) (bif decide (n = 0) then dy2 else dy) (bif decide (n = 0) then so2 else so) (bif decide (n = 0) then he2 else he) (bif decide (n = 0) then kn2 else kn) ma kd len ord kh km pg (bif decide (n = 0) then len2 else mixF 6 len len2) (bif decide (n = 0) then ord2 else mixF 6 ord ord2) (bif decide (n = 0) then kh2 else mixF 6 kh kh2) (bif decide (n = 0) then km2 else mixF 6 km km2) cw tl tO bO lf wo))) A) 0 0 A := by
  refine Met.ofW (cc := cX10_image) (maxL := 1) (ret := (some .int)) (by decide) rfl ?_
  intro p e s m args below meth c s₁ BB hml hv
  obtain ⟨rfl, hP, hK, hE⟩ := hv
  have hx := BB.exec
  have hb := BB.bytes
  have hr := BB.returns
  have hts := atoms_spec (ws := wsX10_image) BB.pre
  have hown : s.vm.findClass RX10 = some m.cls := findClass_of_methodNamed BB.named
  have hlocks := BB.notSynchronized
  have hS : va_S A s.heap s.heap [] := va_S.rf
  have hl := lv_entry ([.ref (a 0)]) (n := 1) (Nat.le_of_ble_eq_true rfl)
  rw [lg_entry_eq]
  generalize (lg_sl ([.ref (a 0)]) ++ List.replicate (1 - (lg_sl ([.ref (a 0)])).length) Slot.unset).toArray = ls at hl ⊢
  have hl : lv_has ls 1 [(0, .ref (a 0))] := hl
  refine lv_aload_n hx hb dX10_image_0 rfl (lv_at hl 0 rfl) ?_
  refine c_calli (va_runV (As := []) (rest := []) ⟨hx, hb, hml, hown, hts⟩ (k_X10_hasNoRound l dC dI y A a hA0 xK xV rn n lo kp dy so he kn ak pl im lo2 dy2 so2 he2 kn2 ma kd len ord kh km pg len2 ord2 kh2 km2 cw tl tO bO lf wo  hn) (cwV 0 hts gX10_image_X10_hasNoRound rfl rfl rfl (by decide +kernel) ⟨Nat.le_of_ble_eq_true rfl, Nat.le_of_ble_eq_true rfl⟩) (c_preV (evN xK xV A) hK hE hS hP (va_recv hK hP (ci := 10) (q0 := 0) rfl rfl)) rfl rfl hl.1 rfl (lv_room (Nat.le_of_ble_eq_true rfl)) dX10_image_1 ⟨Nat.le_refl _, Nat.le_refl _⟩) hS (fun r_1 u_1 H locs hw_1 hP hS => ?_)
  obtain rfl := hw_1
  refine n_bif_eq (tgt := 10) hx hb dX10_image_4 (by decide) (fun c_4 => ?_) (fun c_4 => ?_)
  · refine lv_aload_n hx hb dX10_image_10 rfl (lv_at hl 0 rfl) ?_
    refine va_get (D := (dC, dI)) (ci := 10) (C := RX10) (T := TX10) (N := 12) hx hb hts in_X10_image_X10 hown hK hP 0 rfl rfl 3 (by decide) (hts (.fieldLink RX10 30 "MilkRound" "kept" "LMilkRound$Course;") (List.mem_of_getElem? (i := 1) rfl)) (fun _ h9 => h9) rfl dX10_image_11 ?_
    refine lv_aload_n hx hb dX10_image_14 rfl (lv_at hl 0 rfl) ?_
    refine va_get (D := (dC, dI)) (ci := 10) (C := RX10) (T := TX10) (N := 12) hx hb hts in_X10_image_X10 hown hK hP 0 rfl rfl 2 (by decide) (hts (.fieldLink RX10 26 "MilkRound" "now" "LMilkRound$Course;") (List.mem_of_getElem? (i := 2) rfl)) (fun _ h9 => h9) rfl dX10_image_15 ?_
    refine c_callv (va_runV (As := [.ref (a 10)]) (rest := []) ⟨hx, hb, hml, hown, hts⟩ (k_X2_copyFrom_k l dC dI y A a hA0 xK xV rn n lo kp dy so he kn ak pl im lo2 dy2 so2 he2 kn2 ma kd len ord kh km pg len2 ord2 kh2 km2 cw tl tO bO lf wo  ) (cwV 1 hts gX10_image_X2_copyFrom rfl rfl rfl (by decide +kernel) ⟨Nat.le_of_ble_eq_true rfl, Nat.le_of_ble_eq_true rfl⟩) (c_preV (evN xK xV A) hK hE hS hP (va_recv hK hP (ci := 2) (q0 := 15) rfl rfl)) rfl rfl hl.1 rfl (lv_room (Nat.le_of_ble_eq_true rfl)) dX10_image_18 ⟨Nat.le_refl _, Nat.le_refl _⟩) hS (fun u_18 H locs hw_18 hP hS => ?_)
    have hP : va_P (dC, dI) vwCl (MW y a rn n lo kp dy so he kn ak pl im lo dy so he kn ma kd len ord kh km pg (mixF 6 len len2) (mixF 6 ord ord2) (mixF 6 kh kh2) (mixF 6 km km2) cw tl tO bO lf wo) H := hP
    refine lv_aload_n hx hb dX10_image_21 rfl (lv_at hl 0 rfl) ?_
    refine lv_iconst (v := nI (1)) hx hb dX10_image_22 (by decide) ?_
    refine va_put (D := (dC, dI)) (ci := 10) (ty := tyX10 9) (C := RX10) (T := TX10) (N := 12) hx hb hts in_X10_image_X10 tyX10 tyX10_ok nmX10 hown hK hP (ad_D hA0 rfl) hS 0 rfl rfl 9 (by decide) (hts (.fieldLink RX10 59 "MilkRound" "hasImage" "Z") (List.mem_of_getElem? (i := 3) rfl)) (fun _ h9 => h9) rfl (tyX10_ok 9 (by decide)) rfl rfl (Nat.le_of_ble_eq_true rfl) dX10_image_23 (fun H locs hP _ hS => ?_)
    have hP : va_P (dC, dI) vwCl (MW y a rn n lo kp dy so he kn ak pl true lo dy so he kn ma kd len ord kh km pg (mixF 6 len len2) (mixF 6 ord ord2) (mixF 6 kh kh2) (mixF 6 km km2) cw tl tO bO lf wo) H := hP
    refine lv_aload_n hx hb dX10_image_26 rfl (lv_at hl 0 rfl) ?_
    refine va_get (D := (dC, dI)) (ci := 10) (C := RX10) (T := TX10) (N := 12) hx hb hts in_X10_image_X10 hown hK hP 0 rfl rfl 3 (by decide) (hts (.fieldLink RX10 30 "MilkRound" "kept" "LMilkRound$Course;") (List.mem_of_getElem? (i := 1) rfl)) (fun _ h9 => h9) rfl dX10_image_27 ?_
    refine va_get (D := (dC, dI)) (ci := 2) (C := RX2) (T := TX2) (N := 9) hx hb hts in_X10_image_X2 hown hK hP 15 rfl rfl 6 (by decide) (hts (.fieldLink RX10 142 "MilkRound$Course" "days" "I") (List.mem_of_getElem? (i := 4) rfl)) (fun _ h9 => h9) rfl dX10_image_30 ?_
    have hP : va_P (dC, dI) vwCl (MW y a rn n lo kp dy so he kn ak pl (bif decide (n = 0) then im else true) (bif decide (n = 0) then lo2 else lo) (bif decide (n = 0) then dy2 else dy) (bif decide (n = 0) then so2 else so) (bif decide (n = 0) then he2 else he) (bif decide (n = 0) then kn2 else kn) ma kd len ord kh km pg (bif decide (n = 0) then len2 else mixF 6 len len2) (bif decide (n = 0) then ord2 else mixF 6 ord ord2) (bif decide (n = 0) then kh2 else mixF 6 kh kh2) (bif decide (n = 0) then km2 else mixF 6 km km2) cw tl tO bO lf wo) H := by
      rw [c_4]
      exact hP
    exact c_iret hx hb hr hlocks hK hS () hP (by rw [c_4]; rfl) dX10_image_33
  · refine lv_bipush (v := (-103)) hx hb dX10_image_7 (by decide) ?_
    have hP : va_P (dC, dI) vwCl (MW y a rn n lo kp dy so he kn ak pl (bif decide (n = 0) then im else true) (bif decide (n = 0) then lo2 else lo) (bif decide (n = 0) then dy2 else dy) (bif decide (n = 0) then so2 else so) (bif decide (n = 0) then he2 else he) (bif decide (n = 0) then kn2 else kn) ma kd len ord kh km pg (bif decide (n = 0) then len2 else mixF 6 len len2) (bif decide (n = 0) then ord2 else mixF 6 ord ord2) (bif decide (n = 0) then kh2 else mixF 6 kh kh2) (bif decide (n = 0) then km2 else mixF 6 km km2) cw tl tO bO lf wo) H := by
      rw [c_4]
      exact hP
    exact c_iret hx hb hr hlocks hK hS () hP (by rw [c_4]; rfl) dX10_image_9
theorem in_X10_restore_X10 : ∀ w ∈ wsX100, w ∈ wsX10_restore := fun w h => List.mem_cons_of_mem _ (List.mem_append_left _ (List.mem_append_right _ h))
theorem in_X10_restore_X2 : ∀ w ∈ wsX20, w ∈ wsX10_restore := fun w h => List.mem_cons_of_mem _ (List.mem_append_right _ h)
set_option maxHeartbeats 4000000 in
set_option maxRecDepth 100000 in
theorem k_X10_restore (l : Launch) (dC : Nat → ClassId) (dI : Nat → Nat → Nat) (y : Nat → ClassId) (A : Nat → Prop) (a : Nat → Nat) (hA0 : ad_ok A a 34) (xK : Nat → Nat) (xV : Nat → Nat) (rn : Nat) (n : Nat) (lo : Int32) (kp : Nat) (dy : Int32) (so : Int32) (he : Int32) (kn : Nat) (ak : Nat) (pl : Nat) (im : Bool) (lo2 : Int32) (dy2 : Int32) (so2 : Int32) (he2 : Int32) (kn2 : Nat) (ma : Nat) (kd : Nat → Nat) (len : Nat → Nat) (ord : Nat → Nat) (kh : Nat → Nat) (km : Nat → Nat) (pg : Nat → Nat) (len2 : Nat → Nat) (ord2 : Nat → Nat) (kh2 : Nat → Nat) (km2 : Nat → Nat) (cw : Nat → Nat) (tl : Nat → Nat) (tO : Nat → Nat) (bO : Nat → Nat) (lf : Nat → Nat → Nat) (wo : Nat → Nat) : Met l yX10_restore wsX10_restore ({ frames := 2, cells := 0, slots := 0, locals := 39 } : Room) (c_P (dC, dI) vwCl (TY y) (EV xK xV A) (MW y a rn n lo kp dy so he kn ak pl im lo2 dy2 so2 he2 kn2 ma kd len ord kh km pg len2 ord2 kh2 km2 cw tl tO bO lf wo) [.ref (a 0)]) (va_Qi (fun (r : Int32) (u : Unit) => r = (bif im then dy2 else -103)) (c_B (dC, dI) vwCl (TY y) (fun (u : Unit) => (MW y a rn n (bif im then lo2 else lo) kp (bif im then dy2 else dy) (bif im then so2 else so) (bif im then he2 else he) (bif im then kn2 else kn) ak pl im lo2 dy2 so2 he2 kn2 ma kd (bif im then mixF 6 len2 len else len) (bif im then mixF 6 ord2 ord else ord) (bif im then mixF 6 kh2 kh else kh) (bif im then mixF 6 km2 km else km) pg len2 ord2 kh2 km2 cw tl tO bO lf wo))) A) 0 0 A := by
  refine Met.ofW (cc := cX10_restore) (maxL := 1) (ret := (some .int)) (by decide) rfl ?_
  intro p e s m args below meth c s₁ BB hml hv
  obtain ⟨rfl, hP, hK, hE⟩ := hv
  have hx := BB.exec
  have hb := BB.bytes
  have hr := BB.returns
  have hts := atoms_spec (ws := wsX10_restore) BB.pre
  have hown : s.vm.findClass RX10 = some m.cls := findClass_of_methodNamed BB.named
  have hlocks := BB.notSynchronized
  have hS : va_S A s.heap s.heap [] := va_S.rf
  have hl := lv_entry ([.ref (a 0)]) (n := 1) (Nat.le_of_ble_eq_true rfl)
  rw [lg_entry_eq]
  generalize (lg_sl ([.ref (a 0)]) ++ List.replicate (1 - (lg_sl ([.ref (a 0)])).length) Slot.unset).toArray = ls at hl ⊢
  have hl : lv_has ls 1 [(0, .ref (a 0))] := hl
  refine lv_aload_n hx hb dX10_restore_0 rfl (lv_at hl 0 rfl) ?_
  refine va_get (D := (dC, dI)) (ci := 10) (C := RX10) (T := TX10) (N := 12) hx hb hts in_X10_restore_X10 hown hK hP 0 rfl rfl 9 (by decide) (hts (.fieldLink RX10 59 "MilkRound" "hasImage" "Z") (List.mem_of_getElem? (i := 1) rfl)) (fun _ h9 => h9) rfl dX10_restore_1 ?_
  refine n_bif_ne (tgt := 10) hx hb dX10_restore_4 (by decide) (fun c_4 => ?_) (fun c_4 => ?_)
  · refine lv_aload_n hx hb dX10_restore_10 rfl (lv_at hl 0 rfl) ?_
    refine va_get (D := (dC, dI)) (ci := 10) (C := RX10) (T := TX10) (N := 12) hx hb hts in_X10_restore_X10 hown hK hP 0 rfl rfl 2 (by decide) (hts (.fieldLink RX10 26 "MilkRound" "now" "LMilkRound$Course;") (List.mem_of_getElem? (i := 2) rfl)) (fun _ h9 => h9) rfl dX10_restore_11 ?_
    refine lv_aload_n hx hb dX10_restore_14 rfl (lv_at hl 0 rfl) ?_
    refine va_get (D := (dC, dI)) (ci := 10) (C := RX10) (T := TX10) (N := 12) hx hb hts in_X10_restore_X10 hown hK hP 0 rfl rfl 3 (by decide) (hts (.fieldLink RX10 30 "MilkRound" "kept" "LMilkRound$Course;") (List.mem_of_getElem? (i := 3) rfl)) (fun _ h9 => h9) rfl dX10_restore_15 ?_
    refine c_callv (va_runV (As := [.ref (a 15)]) (rest := []) ⟨hx, hb, hml, hown, hts⟩ (k_X2_copyFrom_n l dC dI y A a hA0 xK xV rn n lo kp dy so he kn ak pl im lo2 dy2 so2 he2 kn2 ma kd len ord kh km pg len2 ord2 kh2 km2 cw tl tO bO lf wo  ) (cwV 1 hts gX10_restore_X2_copyFrom rfl rfl rfl (by decide +kernel) ⟨Nat.le_of_ble_eq_true rfl, Nat.le_of_ble_eq_true rfl⟩) (c_preV (evN xK xV A) hK hE hS hP (va_recv hK hP (ci := 2) (q0 := 10) rfl rfl)) rfl rfl hl.1 rfl (lv_room (Nat.le_of_ble_eq_true rfl)) dX10_restore_18 ⟨Nat.le_refl _, Nat.le_refl _⟩) hS (fun u_18 H locs hw_18 hP hS => ?_)
    have hP : va_P (dC, dI) vwCl (MW y a rn n lo2 kp dy2 so2 he2 kn2 ak pl im lo2 dy2 so2 he2 kn2 ma kd (mixF 6 len2 len) (mixF 6 ord2 ord) (mixF 6 kh2 kh) (mixF 6 km2 km) pg len2 ord2 kh2 km2 cw tl tO bO lf wo) H := hP
    refine lv_aload_n hx hb dX10_restore_21 rfl (lv_at hl 0 rfl) ?_
    refine va_get (D := (dC, dI)) (ci := 10) (C := RX10) (T := TX10) (N := 12) hx hb hts in_X10_restore_X10 hown hK hP 0 rfl rfl 2 (by decide) (hts (.fieldLink RX10 26 "MilkRound" "now" "LMilkRound$Course;") (List.mem_of_getElem? (i := 2) rfl)) (fun _ h9 => h9) rfl dX10_restore_22 ?_
    refine va_get (D := (dC, dI)) (ci := 2) (C := RX2) (T := TX2) (N := 9) hx hb hts in_X10_restore_X2 hown hK hP 10 rfl rfl 6 (by decide) (hts (.fieldLink RX10 142 "MilkRound$Course" "days" "I") (List.mem_of_getElem? (i := 4) rfl)) (fun _ h9 => h9) rfl dX10_restore_25 ?_
    have hP : va_P (dC, dI) vwCl (MW y a rn n (bif im then lo2 else lo) kp (bif im then dy2 else dy) (bif im then so2 else so) (bif im then he2 else he) (bif im then kn2 else kn) ak pl im lo2 dy2 so2 he2 kn2 ma kd (bif im then mixF 6 len2 len else len) (bif im then mixF 6 ord2 ord else ord) (bif im then mixF 6 kh2 kh else kh) (bif im then mixF 6 km2 km else km) pg len2 ord2 kh2 km2 cw tl tO bO lf wo) H := by
      subst c_4
      exact hP
    exact c_iret hx hb hr hlocks hK hS () hP (by rw [c_4]; rfl) dX10_restore_28
  · refine lv_bipush (v := (-103)) hx hb dX10_restore_7 (by decide) ?_
    have hP : va_P (dC, dI) vwCl (MW y a rn n (bif im then lo2 else lo) kp (bif im then dy2 else dy) (bif im then so2 else so) (bif im then he2 else he) (bif im then kn2 else kn) ak pl im lo2 dy2 so2 he2 kn2 ma kd (bif im then mixF 6 len2 len else len) (bif im then mixF 6 ord2 ord else ord) (bif im then mixF 6 kh2 kh else kh) (bif im then mixF 6 km2 km else km) pg len2 ord2 kh2 km2 cw tl tO bO lf wo) s.heap := by
      subst c_4
      exact hP
    exact c_iret hx hb hr hlocks hK hS () hP (by rw [c_4]; rfl) dX10_restore_9
theorem in_X10_toldOfAll_X10 : ∀ w ∈ wsX100, w ∈ wsX10_toldOfAll := fun w h => List.mem_cons_of_mem _ (List.mem_append_left _ (List.mem_append_left _ (List.mem_append_left _ (List.mem_append_left _ (List.mem_append_right _ h)))))
theorem in_X10_toldOfAll_X6 : ∀ w ∈ wsX60, w ∈ wsX10_toldOfAll := fun w h => List.mem_cons_of_mem _ (List.mem_append_left _ (List.mem_append_left _ (List.mem_append_left _ (List.mem_append_right _ h))))
theorem in_X10_toldOfAll_X2 : ∀ w ∈ wsX20, w ∈ wsX10_toldOfAll := fun w h => List.mem_cons_of_mem _ (List.mem_append_left _ (List.mem_append_left _ (List.mem_append_right _ h)))
theorem in_X10_toldOfAll_X8 : ∀ w ∈ wsX80, w ∈ wsX10_toldOfAll := fun w h => List.mem_cons_of_mem _ (List.mem_append_left _ (List.mem_append_right _ h))
theorem in_X10_toldOfAll_X4 : ∀ w ∈ wsX40, w ∈ wsX10_toldOfAll := fun w h => List.mem_cons_of_mem _ (List.mem_append_right _ h)
set_option maxHeartbeats 4000000 in
set_option maxRecDepth 100000 in
theorem k_X10_toldOfAll (l : Launch) (dC : Nat → ClassId) (dI : Nat → Nat → Nat) (y : Nat → ClassId) (A : Nat → Prop) (a : Nat → Nat) (hA0 : ad_ok A a 34) (xK : Nat → Nat) (xV : Nat → Nat) (rn : Nat) (n : Nat) (lo : Int32) (kp : Nat) (dy : Int32) (so : Int32) (he : Int32) (kn : Nat) (ak : Nat) (pl : Nat) (im : Bool) (lo2 : Int32) (dy2 : Int32) (so2 : Int32) (he2 : Int32) (kn2 : Nat) (ma : Nat) (kd : Nat → Nat) (len : Nat → Nat) (ord : Nat → Nat) (kh : Nat → Nat) (km : Nat → Nat) (pg : Nat → Nat) (len2 : Nat → Nat) (ord2 : Nat → Nat) (kh2 : Nat → Nat) (km2 : Nat → Nat) (cw : Nat → Nat) (tl : Nat → Nat) (tO : Nat → Nat) (bO : Nat → Nat) (lf : Nat → Nat → Nat) (wo : Nat → Nat) (w : Nat) (hn : n ≤ 6) (hord : PermOn n ord) (hlen : ∀ j, len j ≤ 9) (hkd : ∀ j, kd j ≤ 4) (hcw : ∀ j, cw j ≤ 126) (hkp : kp ≤ 9) (hw : w ≤ 11) : Met l yX10_toldOfAll wsX10_toldOfAll ({ frames := 5, cells := 0, slots := 0, locals := 112 } : Room) (c_P (dC, dI) vwCl (TY y) (EV xK xV A) (MW y a rn n lo kp dy so he kn ak pl im lo2 dy2 so2 he2 kn2 ma kd len ord kh km pg len2 ord2 kh2 km2 cw tl tO bO lf wo) [.ref (a 0), .int (nI (w))]) (va_Qi (fun (r : Int32) (u : (Nat → Nat) × Nat) => r = cvF n kp kd len lo ord dy so he kn pl rn ak w ∧ ∀ j, u.1 j ≤ 126) (c_B (dC, dI) vwCl (TY y) (fun (u : (Nat → Nat) × Nat) => (MW y a rn n lo kp dy so he kn ak pl im lo2 dy2 so2 he2 kn2 u.2 kd len ord kh km pg len2 ord2 kh2 km2 u.1 tl tO bO lf wo))) A) 0 0 A := by
  refine Met.ofW (cc := cX10_toldOfAll) (maxL := 2) (ret := (some .int)) (by decide) rfl ?_
  intro p e s m args below meth c s₁ BB hml hv
  obtain ⟨rfl, hP, hK, hE⟩ := hv
  have hx := BB.exec
  have hb := BB.bytes
  have hr := BB.returns
  have hts := atoms_spec (ws := wsX10_toldOfAll) BB.pre
  have hown : s.vm.findClass RX10 = some m.cls := findClass_of_methodNamed BB.named
  have hlocks := BB.notSynchronized
  have hS : va_S A s.heap s.heap [] := va_S.rf
  have hl := lv_entry ([.ref (a 0), .int (nI (w))]) (n := 2) (Nat.le_of_ble_eq_true rfl)
  rw [lg_entry_eq]
  generalize (lg_sl ([.ref (a 0), .int (nI (w))]) ++ List.replicate (2 - (lg_sl ([.ref (a 0), .int (nI (w))])).length) Slot.unset).toArray = ls at hl ⊢
  have hl : lv_has ls 2 [(0, .ref (a 0)), (1, .int (nI (w)))] := hl
  refine lv_aload_n hx hb dX10_toldOfAll_0 rfl (lv_at hl 0 rfl) ?_
  refine c_callv (va_runV (As := []) (rest := []) ⟨hx, hb, hml, hown, hts⟩ (k_X10_walkAsItIs l dC dI y A a hA0 xK xV rn n lo kp dy so he kn ak pl im lo2 dy2 so2 he2 kn2 ma kd len ord kh km pg len2 ord2 kh2 km2 cw tl tO bO lf wo  hn hord hlen hkd hcw) (cwV 0 hts gX10_toldOfAll_X10_walkAsItIs rfl rfl rfl (by decide +kernel) ⟨Nat.le_of_ble_eq_true rfl, Nat.le_of_ble_eq_true rfl⟩) (c_preV (evN xK xV A) hK hE hS hP (va_recv hK hP (ci := 10) (q0 := 0) rfl rfl)) rfl rfl hl.1 rfl (lv_room (Nat.le_of_ble_eq_true rfl)) dX10_toldOfAll_1 ⟨Nat.le_refl _, Nat.le_refl _⟩) hS (fun u_1 H locs hw_1 hP hS => ?_)
  have hP : va_P (dC, dI) vwCl (MW y a rn n lo kp dy so he kn ak pl im lo2 dy2 so2 he2 kn2 u_1.2 kd len ord kh km pg len2 ord2 kh2 km2 u_1.1 tl tO bO lf wo) H := hP
  refine lv_iload_n hx hb dX10_toldOfAll_4 rfl (lv_at hl 1 rfl) ?_
  rcases (show w = 0 ∨ w = 1 ∨ w = 2 ∨ w = 3 ∨ w = 4 ∨ w = 5 ∨ w = 6 ∨ w = 7 ∨ w = 8 ∨ w = 9 ∨ w = 10 ∨ 10 < w by omega) with k_5 | k_5 | k_5 | k_5 | k_5 | k_5 | k_5 | k_5 | k_5 | k_5 | k_5 | k_5
  · refine n_top (y := nI 0) (by rw [k_5]) ?_
    refine lv_tableIn (off := 59) (tgt := 64) hx hb dX10_toldOfAll_5 (by decide) (by decide) (by decide) (by decide) ?_
    refine lv_aload_n hx hb dX10_toldOfAll_64 rfl (lv_at hl 0 rfl) ?_
    refine va_get (D := (dC, dI)) (ci := 10) (C := RX10) (T := TX10) (N := 12) hx hb hts in_X10_toldOfAll_X10 hown hK hP 0 rfl rfl 1 (by decide) (hts (.fieldLink RX10 19 "MilkRound" "street" "LMilkRound$Street;") (List.mem_of_getElem? (i := 1) rfl)) (fun _ h9 => h9) rfl dX10_toldOfAll_65 ?_
    refine va_get (D := (dC, dI)) (ci := 6) (C := RX6) (T := TX6) (N := 8) hx hb hts in_X10_toldOfAll_X6 hown hK hP 3 rfl rfl 6 (by decide) (hts (.fieldLink RX10 89 "MilkRound$Street" "size" "I") (List.mem_of_getElem? (i := 2) rfl)) (fun _ h9 => h9) rfl dX10_toldOfAll_68 ?_
    exact c_iret hx hb hr hlocks hK hS u_1 hP ⟨by rw [k_5, cvF, if_pos rfl], hw_1.1.2⟩ dX10_toldOfAll_71
  · refine n_top (y := nI 1) (by rw [k_5]) ?_
    refine lv_tableIn (off := 67) (tgt := 72) hx hb dX10_toldOfAll_5 (by decide) (by decide) (by decide) (by decide) ?_
    refine lv_aload_n hx hb dX10_toldOfAll_72 rfl (lv_at hl 0 rfl) ?_
    refine va_get (D := (dC, dI)) (ci := 10) (C := RX10) (T := TX10) (N := 12) hx hb hts in_X10_toldOfAll_X10 hown hK hP 0 rfl rfl 1 (by decide) (hts (.fieldLink RX10 19 "MilkRound" "street" "LMilkRound$Street;") (List.mem_of_getElem? (i := 1) rfl)) (fun _ h9 => h9) rfl dX10_toldOfAll_73 ?_
    refine va_get (D := (dC, dI)) (ci := 6) (C := RX6) (T := TX6) (N := 8) hx hb hts in_X10_toldOfAll_X6 hown hK hP 3 rfl rfl 7 (by decide) (hts (.fieldLink RX10 216 "MilkRound$Street" "keep" "I") (List.mem_of_getElem? (i := 3) rfl)) (fun _ h9 => h9) rfl dX10_toldOfAll_76 ?_
    exact c_iret hx hb hr hlocks hK hS u_1 hP ⟨by rw [k_5, cvF, if_neg (by decide), if_pos rfl], hw_1.1.2⟩ dX10_toldOfAll_79
  · refine n_top (y := nI 2) (by rw [k_5]) ?_
    refine lv_tableIn (off := 75) (tgt := 80) hx hb dX10_toldOfAll_5 (by decide) (by decide) (by decide) (by decide) ?_
    refine lv_aload_n hx hb dX10_toldOfAll_80 rfl (lv_at hl 0 rfl) ?_
    refine va_get (D := (dC, dI)) (ci := 10) (C := RX10) (T := TX10) (N := 12) hx hb hts in_X10_toldOfAll_X10 hown hK hP 0 rfl rfl 2 (by decide) (hts (.fieldLink RX10 26 "MilkRound" "now" "LMilkRound$Course;") (List.mem_of_getElem? (i := 4) rfl)) (fun _ h9 => h9) rfl dX10_toldOfAll_81 ?_
    refine va_get (D := (dC, dI)) (ci := 2) (C := RX2) (T := TX2) (N := 9) hx hb hts in_X10_toldOfAll_X2 hown hK hP 10 rfl rfl 6 (by decide) (hts (.fieldLink RX10 142 "MilkRound$Course" "days" "I") (List.mem_of_getElem? (i := 5) rfl)) (fun _ h9 => h9) rfl dX10_toldOfAll_84 ?_
    exact c_iret hx hb hr hlocks hK hS u_1 hP ⟨by rw [k_5, cvF, if_neg (by decide), if_neg (by decide), if_pos rfl], hw_1.1.2⟩ dX10_toldOfAll_87
  · refine n_top (y := nI 3) (by rw [k_5]) ?_
    refine lv_tableIn (off := 83) (tgt := 88) hx hb dX10_toldOfAll_5 (by decide) (by decide) (by decide) (by decide) ?_
    refine lv_aload_n hx hb dX10_toldOfAll_88 rfl (lv_at hl 0 rfl) ?_
    refine va_get (D := (dC, dI)) (ci := 10) (C := RX10) (T := TX10) (N := 12) hx hb hts in_X10_toldOfAll_X10 hown hK hP 0 rfl rfl 2 (by decide) (hts (.fieldLink RX10 26 "MilkRound" "now" "LMilkRound$Course;") (List.mem_of_getElem? (i := 4) rfl)) (fun _ h9 => h9) rfl dX10_toldOfAll_89 ?_
    refine va_get (D := (dC, dI)) (ci := 2) (C := RX2) (T := TX2) (N := 9) hx hb hts in_X10_toldOfAll_X2 hown hK hP 10 rfl rfl 7 (by decide) (hts (.fieldLink RX10 145 "MilkRound$Course" "soured" "I") (List.mem_of_getElem? (i := 6) rfl)) (fun _ h9 => h9) rfl dX10_toldOfAll_92 ?_
    exact c_iret hx hb hr hlocks hK hS u_1 hP ⟨by rw [k_5, cvF, if_neg (by decide), if_neg (by decide), if_neg (by decide), if_pos rfl], hw_1.1.2⟩ dX10_toldOfAll_95
  · refine n_top (y := nI 4) (by rw [k_5]) ?_
    refine lv_tableIn (off := 91) (tgt := 96) hx hb dX10_toldOfAll_5 (by decide) (by decide) (by decide) (by decide) ?_
    refine lv_aload_n hx hb dX10_toldOfAll_96 rfl (lv_at hl 0 rfl) ?_
    refine va_get (D := (dC, dI)) (ci := 10) (C := RX10) (T := TX10) (N := 12) hx hb hts in_X10_toldOfAll_X10 hown hK hP 0 rfl rfl 2 (by decide) (hts (.fieldLink RX10 26 "MilkRound" "now" "LMilkRound$Course;") (List.mem_of_getElem? (i := 4) rfl)) (fun _ h9 => h9) rfl dX10_toldOfAll_97 ?_
    refine va_get (D := (dC, dI)) (ci := 2) (C := RX2) (T := TX2) (N := 9) hx hb hts in_X10_toldOfAll_X2 hown hK hP 10 rfl rfl 8 (by decide) (hts (.fieldLink RX10 148 "MilkRound$Course" "heard" "I") (List.mem_of_getElem? (i := 7) rfl)) (fun _ h9 => h9) rfl dX10_toldOfAll_100 ?_
    exact c_iret hx hb hr hlocks hK hS u_1 hP ⟨by rw [k_5, cvF, if_neg (by decide), if_neg (by decide), if_neg (by decide), if_neg (by decide), if_pos rfl], hw_1.1.2⟩ dX10_toldOfAll_103
  · refine n_top (y := nI 5) (by rw [k_5]) ?_
    refine lv_tableIn (off := 99) (tgt := 104) hx hb dX10_toldOfAll_5 (by decide) (by decide) (by decide) (by decide) ?_
    refine lv_aload_n hx hb dX10_toldOfAll_104 rfl (lv_at hl 0 rfl) ?_
    refine va_get (D := (dC, dI)) (ci := 10) (C := RX10) (T := TX10) (N := 12) hx hb hts in_X10_toldOfAll_X10 hown hK hP 0 rfl rfl 4 (by decide) (hts (.fieldLink RX10 38 "MilkRound" "walk" "LMilkRound$Walk;") (List.mem_of_getElem? (i := 8) rfl)) (fun _ h9 => h9) rfl dX10_toldOfAll_105 ?_
    refine c_calli (va_runV (As := []) (rest := []) ⟨hx, hb, hml, hown, hts⟩ (k_X8_sourHouses l dC dI y A a hA0 xK xV rn n lo kp dy so he kn ak pl im lo2 dy2 so2 he2 kn2 u_1.2 kd len ord kh km pg len2 ord2 kh2 km2 u_1.1 tl tO bO lf wo  hn hkp hw_1.1.2 hkd) (cwV 0 hts gX10_toldOfAll_X8_sourHouses rfl rfl rfl (by decide +kernel) ⟨Nat.le_of_ble_eq_true rfl, Nat.le_of_ble_eq_true rfl⟩) (c_preV (evN xK xV A) hK hE hS hP (va_recv hK hP (ci := 8) (q0 := 20) rfl rfl)) rfl rfl hl.1 rfl (lv_room (Nat.le_of_ble_eq_true rfl)) dX10_toldOfAll_108 ⟨Nat.le_refl _, Nat.le_refl _⟩) hS (fun r_108 u_108 H locs hw_108 hP hS => ?_)
    obtain rfl := hw_108
    exact c_iret hx hb hr hlocks hK hS u_1 hP ⟨by rw [k_5, cvF, if_neg (by decide), if_neg (by decide), if_neg (by decide), if_neg (by decide), if_neg (by decide), if_pos rfl]; rw [sc_of hw_1.1], hw_1.1.2⟩ dX10_toldOfAll_111
  · refine n_top (y := nI 6) (by rw [k_5]) ?_
    refine lv_tableIn (off := 107) (tgt := 112) hx hb dX10_toldOfAll_5 (by decide) (by decide) (by decide) (by decide) ?_
    refine lv_aload_n hx hb dX10_toldOfAll_112 rfl (lv_at hl 0 rfl) ?_
    refine va_get (D := (dC, dI)) (ci := 10) (C := RX10) (T := TX10) (N := 12) hx hb hts in_X10_toldOfAll_X10 hown hK hP 0 rfl rfl 4 (by decide) (hts (.fieldLink RX10 38 "MilkRound" "walk" "LMilkRound$Walk;") (List.mem_of_getElem? (i := 8) rfl)) (fun _ h9 => h9) rfl dX10_toldOfAll_113 ?_
    refine c_calli (va_runV (As := []) (rest := []) ⟨hx, hb, hml, hown, hts⟩ (k_X8_hearingHouses l dC dI y A a hA0 xK xV rn n lo kp dy so he kn ak pl im lo2 dy2 so2 he2 kn2 u_1.2 kd len ord kh km pg len2 ord2 kh2 km2 u_1.1 tl tO bO lf wo  hn hkp hw_1.1.2 hkd) (cwV 0 hts gX10_toldOfAll_X8_hearingHouses rfl rfl rfl (by decide +kernel) ⟨Nat.le_of_ble_eq_true rfl, Nat.le_of_ble_eq_true rfl⟩) (c_preV (evN xK xV A) hK hE hS hP (va_recv hK hP (ci := 8) (q0 := 20) rfl rfl)) rfl rfl hl.1 rfl (lv_room (Nat.le_of_ble_eq_true rfl)) dX10_toldOfAll_116 ⟨Nat.le_refl _, Nat.le_refl _⟩) hS (fun r_116 u_116 H locs hw_116 hP hS => ?_)
    obtain rfl := hw_116
    exact c_iret hx hb hr hlocks hK hS u_1 hP ⟨by rw [k_5, cvF, if_neg (by decide), if_neg (by decide), if_neg (by decide), if_neg (by decide), if_neg (by decide), if_neg (by decide), if_pos rfl]; rw [hc_of hw_1.1], hw_1.1.2⟩ dX10_toldOfAll_119
  · refine n_top (y := nI 7) (by rw [k_5]) ?_
    refine lv_tableIn (off := 115) (tgt := 120) hx hb dX10_toldOfAll_5 (by decide) (by decide) (by decide) (by decide) ?_
    refine lv_aload_n hx hb dX10_toldOfAll_120 rfl (lv_at hl 0 rfl) ?_
    refine va_get (D := (dC, dI)) (ci := 10) (C := RX10) (T := TX10) (N := 12) hx hb hts in_X10_toldOfAll_X10 hown hK hP 0 rfl rfl 4 (by decide) (hts (.fieldLink RX10 38 "MilkRound" "walk" "LMilkRound$Walk;") (List.mem_of_getElem? (i := 8) rfl)) (fun _ h9 => h9) rfl dX10_toldOfAll_121 ?_
    refine va_get (D := (dC, dI)) (ci := 8) (C := RX8) (T := TX8) (N := 3) hx hb hts in_X10_toldOfAll_X8 hown hK hP 20 rfl rfl 2 (by decide) (hts (.fieldLink RX10 219 "MilkRound$Walk" "minutesOfAll" "I") (List.mem_of_getElem? (i := 9) rfl)) (fun _ h9 => h9) rfl dX10_toldOfAll_124 ?_
    exact c_iret hx hb hr hlocks hK hS u_1 hP ⟨by rw [k_5, cvF, if_neg (by decide), if_neg (by decide), if_neg (by decide), if_neg (by decide), if_neg (by decide), if_neg (by decide), if_neg (by decide), if_pos rfl]; rw [hw_1.2], hw_1.1.2⟩ dX10_toldOfAll_127
  · refine n_top (y := nI 8) (by rw [k_5]) ?_
    refine lv_tableIn (off := 123) (tgt := 128) hx hb dX10_toldOfAll_5 (by decide) (by decide) (by decide) (by decide) ?_
    refine lv_aload_n hx hb dX10_toldOfAll_128 rfl (lv_at hl 0 rfl) ?_
    refine va_get (D := (dC, dI)) (ci := 10) (C := RX10) (T := TX10) (N := 12) hx hb hts in_X10_toldOfAll_X10 hown hK hP 0 rfl rfl 2 (by decide) (hts (.fieldLink RX10 26 "MilkRound" "now" "LMilkRound$Course;") (List.mem_of_getElem? (i := 4) rfl)) (fun _ h9 => h9) rfl dX10_toldOfAll_129 ?_
    refine va_get (D := (dC, dI)) (ci := 2) (C := RX2) (T := TX2) (N := 9) hx hb hts in_X10_toldOfAll_X2 hown hK hP 10 rfl rfl 4 (by decide) (hts (.fieldLink RX10 163 "MilkRound$Course" "knownSize" "I") (List.mem_of_getElem? (i := 10) rfl)) (fun _ h9 => h9) rfl dX10_toldOfAll_132 ?_
    exact c_iret hx hb hr hlocks hK hS u_1 hP ⟨by rw [k_5, cvF, if_neg (by decide), if_neg (by decide), if_neg (by decide), if_neg (by decide), if_neg (by decide), if_neg (by decide), if_neg (by decide), if_neg (by decide), if_pos rfl], hw_1.1.2⟩ dX10_toldOfAll_135
  · refine n_top (y := nI 9) (by rw [k_5]) ?_
    refine lv_tableIn (off := 131) (tgt := 136) hx hb dX10_toldOfAll_5 (by decide) (by decide) (by decide) (by decide) ?_
    refine lv_aload_n hx hb dX10_toldOfAll_136 rfl (lv_at hl 0 rfl) ?_
    refine va_get (D := (dC, dI)) (ci := 10) (C := RX10) (T := TX10) (N := 12) hx hb hts in_X10_toldOfAll_X10 hown hK hP 0 rfl rfl 0 (by decide) (hts (.fieldLink RX10 10 "MilkRound" "page" "LMilkRound$Page;") (List.mem_of_getElem? (i := 11) rfl)) (fun _ h9 => h9) rfl dX10_toldOfAll_137 ?_
    refine va_get (D := (dC, dI)) (ci := 4) (C := RX4) (T := TX4) (N := 2) hx hb hts in_X10_toldOfAll_X4 hown hK hP 1 rfl rfl 1 (by decide) (hts (.fieldLink RX10 74 "MilkRound$Page" "size" "I") (List.mem_of_getElem? (i := 12) rfl)) (fun _ h9 => h9) rfl dX10_toldOfAll_140 ?_
    exact c_iret hx hb hr hlocks hK hS u_1 hP ⟨by rw [k_5, cvF, if_neg (by decide), if_neg (by decide), if_neg (by decide), if_neg (by decide), if_neg (by decide), if_neg (by decide), if_neg (by decide), if_neg (by decide), if_neg (by decide), if_pos rfl], hw_1.1.2⟩ dX10_toldOfAll_143
  · refine n_top (y := nI 10) (by rw [k_5]) ?_
    refine lv_tableIn (off := 139) (tgt := 144) hx hb dX10_toldOfAll_5 (by decide) (by decide) (by decide) (by decide) ?_
    refine lv_aload_n hx hb dX10_toldOfAll_144 rfl (lv_at hl 0 rfl) ?_
    refine va_get (D := (dC, dI)) (ci := 10) (C := RX10) (T := TX10) (N := 12) hx hb hts in_X10_toldOfAll_X10 hown hK hP 0 rfl rfl 10 (by decide) (hts (.fieldLink RX10 63 "MilkRound" "roundsRead" "I") (List.mem_of_getElem? (i := 13) rfl)) (fun _ h9 => h9) rfl dX10_toldOfAll_145 ?_
    exact c_iret hx hb hr hlocks hK hS u_1 hP ⟨by rw [k_5, cvF, if_neg (by decide), if_neg (by decide), if_neg (by decide), if_neg (by decide), if_neg (by decide), if_neg (by decide), if_neg (by decide), if_neg (by decide), if_neg (by decide), if_neg (by decide), if_pos rfl], hw_1.1.2⟩ dX10_toldOfAll_148
  · refine lv_tableOut (tgt := 149) hx hb dX10_toldOfAll_5 (by rw [nI_toInt (by omega)]; omega) (by decide) ?_
    refine lv_aload_n hx hb dX10_toldOfAll_149 rfl (lv_at hl 0 rfl) ?_
    refine va_get (D := (dC, dI)) (ci := 10) (C := RX10) (T := TX10) (N := 12) hx hb hts in_X10_toldOfAll_X10 hown hK hP 0 rfl rfl 11 (by decide) (hts (.fieldLink RX10 67 "MilkRound" "searches" "I") (List.mem_of_getElem? (i := 14) rfl)) (fun _ h9 => h9) rfl dX10_toldOfAll_150 ?_
    exact c_iret hx hb hr hlocks hK hS u_1 hP ⟨by rw [cvF, if_neg (by omega), if_neg (by omega), if_neg (by omega), if_neg (by omega), if_neg (by omega), if_neg (by omega), if_neg (by omega), if_neg (by omega), if_neg (by omega), if_neg (by omega), if_neg (by omega)], hw_1.1.2⟩ dX10_toldOfAll_153
set_option maxHeartbeats 4000000 in
set_option maxRecDepth 100000 in
theorem k_X10_count (l : Launch) (dC : Nat → ClassId) (dI : Nat → Nat → Nat) (y : Nat → ClassId) (A : Nat → Prop) (a : Nat → Nat) (hA0 : ad_ok A a 34) (xK : Nat → Nat) (xV : Nat → Nat) (rn : Nat) (n : Nat) (lo : Int32) (kp : Nat) (dy : Int32) (so : Int32) (he : Int32) (kn : Nat) (ak : Nat) (pl : Nat) (im : Bool) (lo2 : Int32) (dy2 : Int32) (so2 : Int32) (he2 : Int32) (kn2 : Nat) (ma : Nat) (kd : Nat → Nat) (len : Nat → Nat) (ord : Nat → Nat) (kh : Nat → Nat) (km : Nat → Nat) (pg : Nat → Nat) (len2 : Nat → Nat) (ord2 : Nat → Nat) (kh2 : Nat → Nat) (km2 : Nat → Nat) (cw : Nat → Nat) (tl : Nat → Nat) (tO : Nat → Nat) (bO : Nat → Nat) (lf : Nat → Nat → Nat) (wo : Nat → Nat) (w : Int32) (hn : n ≤ 6) (hord : PermOn n ord) (hlen : ∀ j, len j ≤ 9) (hkd : ∀ j, kd j ≤ 4) (hcw : ∀ j, cw j ≤ 126) (hkp : kp ≤ 9) : Met l yX10_count wsX10_count ({ frames := 6, cells := 0, slots := 0, locals := 133 } : Room) (c_P (dC, dI) vwCl (TY y) (EV xK xV A) (MW y a rn n lo kp dy so he kn ak pl im lo2 dy2 so2 he2 kn2 ma kd len ord kh km pg len2 ord2 kh2 km2 cw tl tO bO lf wo) [.ref (a 0), .int (w)]) (va_Qi (fun (r : Int32) (u : (Nat → Nat) × Nat) => r = rCount n kp kd len lo ord dy so he kn pl rn ak w ∧ ∀ j, u.1 j ≤ 126) (c_B (dC, dI) vwCl (TY y) (fun (u : (Nat → Nat) × Nat) => (MW y a rn n lo kp dy so he kn ak pl im lo2 dy2 so2 he2 kn2 u.2 kd len ord kh km pg len2 ord2 kh2 km2 u.1 tl tO bO lf wo))) A) 0 0 A := by
  refine Met.ofW (cc := cX10_count) (maxL := 2) (ret := (some .int)) (by decide) rfl ?_
  intro p e s m args below meth c s₁ BB hml hv
  obtain ⟨rfl, hP, hK, hE⟩ := hv
  have hx := BB.exec
  have hb := BB.bytes
  have hr := BB.returns
  have hts := atoms_spec (ws := wsX10_count) BB.pre
  have hown : s.vm.findClass RX10 = some m.cls := findClass_of_methodNamed BB.named
  have hlocks := BB.notSynchronized
  have hS : va_S A s.heap s.heap [] := va_S.rf
  have hl := lv_entry ([.ref (a 0), .int (w)]) (n := 2) (Nat.le_of_ble_eq_true rfl)
  rw [lg_entry_eq]
  generalize (lg_sl ([.ref (a 0), .int (w)]) ++ List.replicate (2 - (lg_sl ([.ref (a 0), .int (w)])).length) Slot.unset).toArray = ls at hl ⊢
  have hl : lv_has ls 2 [(0, .ref (a 0)), (1, .int (w))] := hl
  refine lv_iload_n hx hb dX10_count_0 rfl (lv_at hl 1 rfl) ?_
  refine lv_if_lt (tgt := 10) hx hb dX10_count_1 (by decide) (fun c_1 => ?_) (fun c_1 => ?_)
  · refine lv_bipush (v := (-102)) hx hb dX10_count_10 (by decide) ?_
    exact c_iret hx hb hr hlocks hK hS (cw, ma) hP ⟨by unfold rCount; rw [inR_no1 c_1]; rfl, hcw⟩ dX10_count_12
  · refine lv_iload_n hx hb dX10_count_4 rfl (lv_at hl 1 rfl) ?_
    refine lv_bipush (v := nI (11)) hx hb dX10_count_5 (by decide) ?_
    refine lv_icmp_le (tgt := 13) hx hb dX10_count_7 (by decide) (fun c_7 => ?_) (fun c_7 => ?_)
    · obtain ⟨k, hk, ek⟩ := inR_of (m := 11) (by decide) (inR_mk c_1 c_7)
      rw [ek] at hl
      have hl : lv_has ls 2 [(0, .ref (a 0)), (1, .int (nI (k)))] := hl
      refine lv_aload_n hx hb dX10_count_13 rfl (lv_at hl 0 rfl) ?_
      refine lv_iload_n hx hb dX10_count_14 rfl (lv_at hl 1 rfl) ?_
      refine c_calli (va_runV (As := [.int (nI (k))]) (rest := []) ⟨hx, hb, hml, hown, hts⟩ (k_X10_toldOfAll l dC dI y A a hA0 xK xV rn n lo kp dy so he kn ak pl im lo2 dy2 so2 he2 kn2 ma kd len ord kh km pg len2 ord2 kh2 km2 cw tl tO bO lf wo k hn hord hlen hkd hcw hkp hk) (cwV 1 hts gX10_count_X10_toldOfAll rfl rfl rfl (by decide +kernel) ⟨Nat.le_of_ble_eq_true rfl, Nat.le_of_ble_eq_true rfl⟩) (c_preV (evN xK xV A) hK hE hS hP (va_recv hK hP (ci := 10) (q0 := 0) rfl rfl)) rfl rfl hl.1 rfl (lv_room (Nat.le_of_ble_eq_true rfl)) dX10_count_15 ⟨Nat.le_refl _, Nat.le_refl _⟩) hS (fun r_15 u_15 H locs hw_15 hP hS => ?_)
      have hP : va_P (dC, dI) vwCl (MW y a rn n lo kp dy so he kn ak pl im lo2 dy2 so2 he2 kn2 u_15.2 kd len ord kh km pg len2 ord2 kh2 km2 u_15.1 tl tO bO lf wo) H := hP
      obtain ⟨rfl, hw_15⟩ := hw_15
      exact c_iret hx hb hr hlocks hK hS u_15 hP ⟨by unfold rCount; rw [inR_mk c_1 c_7, ek, nI_clamp (by omega)]; rfl, hw_15⟩ dX10_count_18
    · refine lv_bipush (v := (-102)) hx hb dX10_count_10 (by decide) ?_
      exact c_iret hx hb hr hlocks hK hS (cw, ma) hP ⟨by unfold rCount; rw [inR_no2 c_7]; rfl, hcw⟩ dX10_count_12
theorem in_X10_longestHarmless_X10 : ∀ w ∈ wsX100, w ∈ wsX10_longestHarmless := fun w h => List.mem_cons_of_mem _ (List.mem_append_left _ (List.mem_append_left _ (List.mem_append_left _ (List.mem_append_right _ h))))
theorem in_X10_longestHarmless_X2 : ∀ w ∈ wsX20, w ∈ wsX10_longestHarmless := fun w h => List.mem_cons_of_mem _ (List.mem_append_left _ (List.mem_append_left _ (List.mem_append_right _ h)))
set_option maxHeartbeats 4000000 in
set_option maxRecDepth 100000 in
theorem k_X10_longestHarmless (l : Launch) (dC : Nat → ClassId) (dI : Nat → Nat → Nat) (y : Nat → ClassId) (A : Nat → Prop) (a : Nat → Nat) (hA0 : ad_ok A a 34) (xK : Nat → Nat) (xV : Nat → Nat) (rn : Nat) (n : Nat) (lo : Int32) (kp : Nat) (dy : Int32) (so : Int32) (he : Int32) (kn : Nat) (ak : Nat) (pl : Nat) (im : Bool) (lo2 : Int32) (dy2 : Int32) (so2 : Int32) (he2 : Int32) (kn2 : Nat) (ma : Nat) (kd : Nat → Nat) (len : Nat → Nat) (ord : Nat → Nat) (kh : Nat → Nat) (km : Nat → Nat) (pg : Nat → Nat) (len2 : Nat → Nat) (ord2 : Nat → Nat) (kh2 : Nat → Nat) (km2 : Nat → Nat) (cw : Nat → Nat) (tl : Nat → Nat) (tO : Nat → Nat) (bO : Nat → Nat) (lf : Nat → Nat → Nat) (wo : Nat → Nat) (h : Nat) (hn : n ≤ 6) (hord : PermOn n ord) (hlen : ∀ j, len j ≤ 9) (hkd : ∀ j, kd j ≤ 4) (hcw : ∀ j, cw j ≤ 126) (hkp : kp ≤ 9) (htl : ∀ j, tl j ≤ 9) (hh : h < 6) : Met l yX10_longestHarmless wsX10_longestHarmless ({ frames := 4, cells := 0, slots := 0, locals := 92 } : Room) (c_P (dC, dI) vwCl (TY y) (EV xK xV A) (MW y a rn n lo kp dy so he kn ak pl im lo2 dy2 so2 he2 kn2 ma kd len ord kh km pg len2 ord2 kh2 km2 cw tl tO bO lf wo) [.ref (a 0), .int (nI (h))]) (va_Qi (fun (r : Int32) (u : (Nat → Nat) × Nat × (Nat → Nat)) => r = nI (mostF n kp kd len lo ord h 9) ∧ (∀ j, u.1 j ≤ 126) ∧ ∀ j, u.2.2 j ≤ 9) (c_B (dC, dI) vwCl (TY y) (fun (u : (Nat → Nat) × Nat × (Nat → Nat)) => (MW y a rn n lo kp dy so he kn ak pl im lo2 dy2 so2 he2 kn2 u.2.1 kd len ord kh km pg len2 ord2 kh2 km2 u.1 u.2.2 tO bO lf wo))) A) 0 0 A := by
  refine Met.ofW (cc := cX10_longestHarmless) (maxL := 4) (ret := (some .int)) (by decide) rfl ?_
  intro p e s m args below meth c s₁ BB hml hv
  obtain ⟨rfl, hP, hK, hE⟩ := hv
  have hx := BB.exec
  have hb := BB.bytes
  have hr := BB.returns
  have hts := atoms_spec (ws := wsX10_longestHarmless) BB.pre
  have hown : s.vm.findClass RX10 = some m.cls := findClass_of_methodNamed BB.named
  have hlocks := BB.notSynchronized
  have hS : va_S A s.heap s.heap [] := va_S.rf
  have hl := lv_entry ([.ref (a 0), .int (nI (h))]) (n := 4) (Nat.le_of_ble_eq_true rfl)
  rw [lg_entry_eq]
  generalize (lg_sl ([.ref (a 0), .int (nI (h))]) ++ List.replicate (4 - (lg_sl ([.ref (a 0), .int (nI (h))])).length) Slot.unset).toArray = ls at hl ⊢
  have hl : lv_has ls 4 [(0, .ref (a 0)), (1, .int (nI (h)))] := hl
  have hml9 : ∀ j, mixF 6 len tl j ≤ 9 := mixF_le (fun j _ => hlen j) htl
  refine lv_aload_n hx hb dX10_longestHarmless_0 rfl (lv_at hl 0 rfl) ?_
  refine va_get (D := (dC, dI)) (ci := 10) (C := RX10) (T := TX10) (N := 12) hx hb hts in_X10_longestHarmless_X10 hown hK hP 0 rfl rfl 2 (by decide) (hts (.fieldLink RX10 26 "MilkRound" "now" "LMilkRound$Course;") (List.mem_of_getElem? (i := 1) rfl)) (fun _ h9 => h9) rfl dX10_longestHarmless_1 ?_
  refine va_get (D := (dC, dI)) (ci := 2) (C := RX2) (T := TX2) (N := 9) hx hb hts in_X10_longestHarmless_X2 hown hK hP 10 rfl rfl 0 (by decide) (hts (.fieldLink RX10 110 "MilkRound$Course" "lengths" "[I") (List.mem_of_getElem? (i := 2) rfl)) (fun _ h9 => h9) rfl dX10_longestHarmless_4 ?_
  refine lv_iconst (v := nI (0)) hx hb dX10_longestHarmless_7 (by decide) ?_
  refine lv_aload_n hx hb dX10_longestHarmless_8 rfl (lv_at hl 0 rfl) ?_
  refine va_get (D := (dC, dI)) (ci := 10) (C := RX10) (T := TX10) (N := 12) hx hb hts in_X10_longestHarmless_X10 hown hK hP 0 rfl rfl 5 (by decide) (hts (.fieldLink RX10 42 "MilkRound" "trialLengths" "[I") (List.mem_of_getElem? (i := 3) rfl)) (fun _ h9 => h9) rfl dX10_longestHarmless_9 ?_
  refine lv_iconst (v := nI (0)) hx hb dX10_longestHarmless_12 (by decide) ?_
  refine lv_bipush (v := nI (6)) hx hb dX10_longestHarmless_13 (by decide) ?_
  refine n_cpy6 hx hb (hml.trans hl.1.symm) hown (hts (.methodLink RX10 230 arraycopyName) (List.mem_of_getElem? (i := 4) rfl)) (hts (.native arraycopyName) (List.mem_of_getElem? (i := 5) rfl)) (hts (.static arraycopyName) (List.mem_of_getElem? (i := 6) rfl)) (hts (.initialized "java/lang/System") (List.mem_of_getElem? (i := 7) rfl)) hK hP (ad_D hA0 rfl) hS 11 22 0 0 rfl rfl rfl rfl (Nat.le_of_ble_eq_true rfl) (Nat.le_of_ble_eq_true rfl) dX10_longestHarmless_15 (fun H locs hP hS => ?_)
  have hP : va_P (dC, dI) vwCl (MW y a rn n lo kp dy so he kn ak pl im lo2 dy2 so2 he2 kn2 ma kd len ord kh km pg len2 ord2 kh2 km2 cw (mixF 6 len tl) tO bO lf wo) H := hP
  refine lv_aload_n hx hb dX10_longestHarmless_18 rfl (lv_at hl 0 rfl) ?_
  refine va_get (D := (dC, dI)) (ci := 10) (C := RX10) (T := TX10) (N := 12) hx hb hts in_X10_longestHarmless_X10 hown hK hP 0 rfl rfl 5 (by decide) (hts (.fieldLink RX10 42 "MilkRound" "trialLengths" "[I") (List.mem_of_getElem? (i := 3) rfl)) (fun _ h9 => h9) rfl dX10_longestHarmless_19 ?_
  refine lv_iload_n hx hb dX10_longestHarmless_22 rfl (lv_at hl 1 rfl) ?_
  refine lv_iconst (v := nI (0)) hx hb dX10_longestHarmless_23 (by decide) ?_
  refine n_iast hx hb hK hP (ad_D hA0 rfl) hS 22 0 rfl rfl (by omega) (by decide) dX10_longestHarmless_24 (fun H locs hP hS => ?_)
  have hP : va_P (dC, dI) vwCl (MW y a rn n lo kp dy so he kn ak pl im lo2 dy2 so2 he2 kn2 ma kd len ord kh km pg len2 ord2 kh2 km2 cw (va_up (mixF 6 len tl) h 0) tO bO lf wo) H := hP
  refine lv_aload_n hx hb dX10_longestHarmless_25 rfl (lv_at hl 0 rfl) ?_
  refine va_get (D := (dC, dI)) (ci := 10) (C := RX10) (T := TX10) (N := 12) hx hb hts in_X10_longestHarmless_X10 hown hK hP 0 rfl rfl 4 (by decide) (hts (.fieldLink RX10 38 "MilkRound" "walk" "LMilkRound$Walk;") (List.mem_of_getElem? (i := 8) rfl)) (fun _ h9 => h9) rfl dX10_longestHarmless_26 ?_
  refine lv_aload_n hx hb dX10_longestHarmless_29 rfl (lv_at hl 0 rfl) ?_
  refine va_get (D := (dC, dI)) (ci := 10) (C := RX10) (T := TX10) (N := 12) hx hb hts in_X10_longestHarmless_X10 hown hK hP 0 rfl rfl 5 (by decide) (hts (.fieldLink RX10 42 "MilkRound" "trialLengths" "[I") (List.mem_of_getElem? (i := 3) rfl)) (fun _ h9 => h9) rfl dX10_longestHarmless_30 ?_
  refine lv_aload_n hx hb dX10_longestHarmless_33 rfl (lv_at hl 0 rfl) ?_
  refine va_get (D := (dC, dI)) (ci := 10) (C := RX10) (T := TX10) (N := 12) hx hb hts in_X10_longestHarmless_X10 hown hK hP 0 rfl rfl 2 (by decide) (hts (.fieldLink RX10 26 "MilkRound" "now" "LMilkRound$Course;") (List.mem_of_getElem? (i := 1) rfl)) (fun _ h9 => h9) rfl dX10_longestHarmless_34 ?_
  refine va_get (D := (dC, dI)) (ci := 2) (C := RX2) (T := TX2) (N := 9) hx hb hts in_X10_longestHarmless_X2 hown hK hP 10 rfl rfl 1 (by decide) (hts (.fieldLink RX10 123 "MilkRound$Course" "order" "[I") (List.mem_of_getElem? (i := 9) rfl)) (fun _ h9 => h9) rfl dX10_longestHarmless_37 ?_
  refine lv_aload_n hx hb dX10_longestHarmless_40 rfl (lv_at hl 0 rfl) ?_
  refine va_get (D := (dC, dI)) (ci := 10) (C := RX10) (T := TX10) (N := 12) hx hb hts in_X10_longestHarmless_X10 hown hK hP 0 rfl rfl 2 (by decide) (hts (.fieldLink RX10 26 "MilkRound" "now" "LMilkRound$Course;") (List.mem_of_getElem? (i := 1) rfl)) (fun _ h9 => h9) rfl dX10_longestHarmless_41 ?_
  refine va_get (D := (dC, dI)) (ci := 2) (C := RX2) (T := TX2) (N := 9) hx hb hts in_X10_longestHarmless_X2 hown hK hP 10 rfl rfl 5 (by decide) (hts (.fieldLink RX10 113 "MilkRound$Course" "leftOut" "I") (List.mem_of_getElem? (i := 10) rfl)) (fun _ h9 => h9) rfl dX10_longestHarmless_44 ?_
  refine c_callv (va_runV (As := [.ref (a 22), .ref (a 12), .int (lo)]) (rest := []) ⟨hx, hb, hml, hown, hts⟩ (k_X8_go_b l dC dI y A a hA0 xK xV rn n lo kp dy so he kn ak pl im lo2 dy2 so2 he2 kn2 ma kd len ord kh km pg len2 ord2 kh2 km2 cw (va_up (mixF 6 len tl) h 0) tO bO lf wo lo hn hord (up_le hml9 (Nat.zero_le _)) hkd hcw) (cwV 3 hts gX10_longestHarmless_X8_go rfl rfl rfl (by decide +kernel) ⟨Nat.le_of_ble_eq_true rfl, Nat.le_of_ble_eq_true rfl⟩) (c_preV (evN xK xV A) hK hE hS hP (va_recv hK hP (ci := 8) (q0 := 20) rfl rfl)) rfl rfl hl.1 rfl (lv_room (Nat.le_of_ble_eq_true rfl)) dX10_longestHarmless_47 ⟨Nat.le_refl _, Nat.le_refl _⟩) hS (fun u_47 H locs hw_47 hP hS => ?_)
  have hP : va_P (dC, dI) vwCl (MW y a rn n lo kp dy so he kn ak pl im lo2 dy2 so2 he2 kn2 u_47.2 kd len ord kh km pg len2 ord2 kh2 km2 u_47.1 (va_up (mixF 6 len tl) h 0) tO bO lf wo) H := hP
  refine lv_aload_n hx hb dX10_longestHarmless_50 rfl (lv_at hl 0 rfl) ?_
  refine va_get (D := (dC, dI)) (ci := 10) (C := RX10) (T := TX10) (N := 12) hx hb hts in_X10_longestHarmless_X10 hown hK hP 0 rfl rfl 4 (by decide) (hts (.fieldLink RX10 38 "MilkRound" "walk" "LMilkRound$Walk;") (List.mem_of_getElem? (i := 8) rfl)) (fun _ h9 => h9) rfl dX10_longestHarmless_51 ?_
  refine c_calli (va_runV (As := []) (rest := []) ⟨hx, hb, hml, hown, hts⟩ (k_X8_wrongs l dC dI y A a hA0 xK xV rn n lo kp dy so he kn ak pl im lo2 dy2 so2 he2 kn2 u_47.2 kd len ord kh km pg len2 ord2 kh2 km2 u_47.1 (va_up (mixF 6 len tl) h 0) tO bO lf wo  hn hkp hw_47.1.2 hkd) (cwV 0 hts gX10_longestHarmless_X8_wrongs rfl rfl rfl (by decide +kernel) ⟨Nat.le_of_ble_eq_true rfl, Nat.le_of_ble_eq_true rfl⟩) (c_preV (evN xK xV A) hK hE hS hP (va_recv hK hP (ci := 8) (q0 := 20) rfl rfl)) rfl rfl hl.1 rfl (lv_room (Nat.le_of_ble_eq_true rfl)) dX10_longestHarmless_54 ⟨Nat.le_refl _, Nat.le_refl _⟩) hS (fun r_54 u_54 H locs hw_54 hP hS => ?_)
  obtain rfl := hw_54
  refine n_top (y := nI (wrg n kp kd (va_up len h 0) lo ord)) (by rw [wr_of hw_47.1, wrg_cong hord (fun j hj => up_mix (by omega))]) ?_
  have hwr_54 := wrg_le (n := n) (kp := kp) (kd := kd) (len := va_up len h 0) (lo := lo) (ord := ord)
  refine lv_istore_n (lv' := [(2, .int (nI (wrg n kp kd (va_up len h 0) lo ord))), (0, .ref (a 0)), (1, .int (nI (h)))]) hx hb dX10_longestHarmless_57 rfl hl (by decide) rfl (fun ls hl => ?_)
  refine lv_bipush (v := nI (9)) hx hb dX10_longestHarmless_58 (by decide) ?_
  refine lv_istore_n (lv' := [(3, .int (nI (9))), (2, .int (nI (wrg n kp kd (va_up len h 0) lo ord))), (0, .ref (a 0)), (1, .int (nI (h)))]) hx hb dX10_longestHarmless_60 rfl hl (by decide) rfl (fun ls hl => ?_)
  have loop_61 : ∀ (dd_61 : Nat) (L : Nat) (x9 : Nat) (f : Nat → Nat) (m9 : Nat) (hL : L ≤ 9) (hx9 : x9 ≤ 9) (hf : ∀ j, f j ≤ 126) (hr9 : mostF n kp kd len lo ord h 9 = mostF n kp kd len lo ord h L), L < dd_61 → ∀ (H : Heap) (locs : List Loc) (ls : Array Slot), va_P (dC, dI) vwCl (MW y a rn n lo kp dy so he kn ak pl im lo2 dy2 so2 he2 kn2 m9 kd len ord kh km pg len2 ord2 kh2 km2 f (va_up (mixF 6 len tl) h x9) tO bO lf wo) H → va_S A s.heap H locs → lv_has ls 4 [(3, .int (nI (L))), (2, .int (nI (wrg n kp kd (va_up len h 0) lo ord))), (0, .ref (a 0)), (1, .int (nI (h)))] → W p l e (headSpec wsX10_longestHarmless ({ frames := 4, cells := 0, slots := 0, locals := 92 } : Room)).room s m [.ref (a 0), .int (nI (h))].toArray below meth c H locs 0 0 (MQ below (va_Qi (fun (r : Int32) (u : (Nat → Nat) × Nat × (Nat → Nat)) => r = nI (mostF n kp kd len lo ord h 9) ∧ (∀ j, u.1 j ≤ 126) ∧ ∀ j, u.2.2 j ≤ 9) (c_B (dC, dI) vwCl (TY y) (fun (u : (Nat → Nat) × Nat × (Nat → Nat)) => (MW y a rn n lo kp dy so he kn ak pl im lo2 dy2 so2 he2 kn2 u.2.1 kd len ord kh km pg len2 ord2 kh2 km2 u.1 u.2.2 tO bO lf wo))) A) [.ref (a 0), .int (nI (h))].toArray s 0 0 A) (F0 m 61 ls []) := by
    intro dd_61
    induction dd_61 with
    | zero => intro L x9 f m9 hL hx9 hf hr9 hd; exact absurd hd (Nat.not_lt_zero _)
    | succ dd_61 ih_61 =>
      intro L x9 f m9 hL hx9 hf hr9 hd_61 H locs ls hP hS hl
      refine lv_iload_n hx hb dX10_longestHarmless_61 rfl (lv_at hl 0 rfl) ?_
      refine n_if_le (tgt := 116) hx hb dX10_longestHarmless_62 (by decide) (by omega) (fun c_62 => ?_) (fun c_62 => ?_)
      · refine lv_iconst (v := nI (0)) hx hb dX10_longestHarmless_116 (by decide) ?_
        exact c_iret hx hb hr hlocks hK hS (f, m9, va_up (mixF 6 len tl) h x9) hP ⟨by rw [hr9, show L = 0 by omega]; rfl, hf, up_le hml9 hx9⟩ dX10_longestHarmless_117
      · refine lv_aload_n hx hb dX10_longestHarmless_65 rfl (lv_at hl 2 rfl) ?_
        refine va_get (D := (dC, dI)) (ci := 10) (C := RX10) (T := TX10) (N := 12) hx hb hts in_X10_longestHarmless_X10 hown hK hP 0 rfl rfl 5 (by decide) (hts (.fieldLink RX10 42 "MilkRound" "trialLengths" "[I") (List.mem_of_getElem? (i := 3) rfl)) (fun _ h9 => h9) rfl dX10_longestHarmless_66 ?_
        refine lv_iload_n hx hb dX10_longestHarmless_69 rfl (lv_at hl 3 rfl) ?_
        refine lv_iload_n hx hb dX10_longestHarmless_70 rfl (lv_at hl 0 rfl) ?_
        refine n_iast hx hb hK hP (ad_D hA0 rfl) hS 22 0 rfl rfl (by omega) (by decide) dX10_longestHarmless_71 (fun H locs hP hS => ?_)
        have hP : va_P (dC, dI) vwCl (MW y a rn n lo kp dy so he kn ak pl im lo2 dy2 so2 he2 kn2 m9 kd len ord kh km pg len2 ord2 kh2 km2 f (va_up (va_up (mixF 6 len tl) h x9) h L) tO bO lf wo) H := hP
        rw [bx_uu] at hP
        have hP : va_P (dC, dI) vwCl (MW y a rn n lo kp dy so he kn ak pl im lo2 dy2 so2 he2 kn2 m9 kd len ord kh km pg len2 ord2 kh2 km2 f (va_up (mixF 6 len tl) h L) tO bO lf wo) H := hP
        refine lv_aload_n hx hb dX10_longestHarmless_72 rfl (lv_at hl 2 rfl) ?_
        refine va_get (D := (dC, dI)) (ci := 10) (C := RX10) (T := TX10) (N := 12) hx hb hts in_X10_longestHarmless_X10 hown hK hP 0 rfl rfl 4 (by decide) (hts (.fieldLink RX10 38 "MilkRound" "walk" "LMilkRound$Walk;") (List.mem_of_getElem? (i := 8) rfl)) (fun _ h9 => h9) rfl dX10_longestHarmless_73 ?_
        refine lv_aload_n hx hb dX10_longestHarmless_76 rfl (lv_at hl 2 rfl) ?_
        refine va_get (D := (dC, dI)) (ci := 10) (C := RX10) (T := TX10) (N := 12) hx hb hts in_X10_longestHarmless_X10 hown hK hP 0 rfl rfl 5 (by decide) (hts (.fieldLink RX10 42 "MilkRound" "trialLengths" "[I") (List.mem_of_getElem? (i := 3) rfl)) (fun _ h9 => h9) rfl dX10_longestHarmless_77 ?_
        refine lv_aload_n hx hb dX10_longestHarmless_80 rfl (lv_at hl 2 rfl) ?_
        refine va_get (D := (dC, dI)) (ci := 10) (C := RX10) (T := TX10) (N := 12) hx hb hts in_X10_longestHarmless_X10 hown hK hP 0 rfl rfl 2 (by decide) (hts (.fieldLink RX10 26 "MilkRound" "now" "LMilkRound$Course;") (List.mem_of_getElem? (i := 1) rfl)) (fun _ h9 => h9) rfl dX10_longestHarmless_81 ?_
        refine va_get (D := (dC, dI)) (ci := 2) (C := RX2) (T := TX2) (N := 9) hx hb hts in_X10_longestHarmless_X2 hown hK hP 10 rfl rfl 1 (by decide) (hts (.fieldLink RX10 123 "MilkRound$Course" "order" "[I") (List.mem_of_getElem? (i := 9) rfl)) (fun _ h9 => h9) rfl dX10_longestHarmless_84 ?_
        refine lv_aload_n hx hb dX10_longestHarmless_87 rfl (lv_at hl 2 rfl) ?_
        refine va_get (D := (dC, dI)) (ci := 10) (C := RX10) (T := TX10) (N := 12) hx hb hts in_X10_longestHarmless_X10 hown hK hP 0 rfl rfl 2 (by decide) (hts (.fieldLink RX10 26 "MilkRound" "now" "LMilkRound$Course;") (List.mem_of_getElem? (i := 1) rfl)) (fun _ h9 => h9) rfl dX10_longestHarmless_88 ?_
        refine va_get (D := (dC, dI)) (ci := 2) (C := RX2) (T := TX2) (N := 9) hx hb hts in_X10_longestHarmless_X2 hown hK hP 10 rfl rfl 5 (by decide) (hts (.fieldLink RX10 113 "MilkRound$Course" "leftOut" "I") (List.mem_of_getElem? (i := 10) rfl)) (fun _ h9 => h9) rfl dX10_longestHarmless_91 ?_
        refine c_callv (va_runV (As := [.ref (a 22), .ref (a 12), .int (lo)]) (rest := []) ⟨hx, hb, hml, hown, hts⟩ (k_X8_go_b l dC dI y A a hA0 xK xV rn n lo kp dy so he kn ak pl im lo2 dy2 so2 he2 kn2 m9 kd len ord kh km pg len2 ord2 kh2 km2 f (va_up (mixF 6 len tl) h L) tO bO lf wo lo hn hord (up_le hml9 hL) hkd hf) (cwV 3 hts gX10_longestHarmless_X8_go rfl rfl rfl (by decide +kernel) ⟨Nat.le_of_ble_eq_true rfl, Nat.le_of_ble_eq_true rfl⟩) (c_preV (evN xK xV A) hK hE hS hP (va_recv hK hP (ci := 8) (q0 := 20) rfl rfl)) rfl rfl hl.1 rfl (lv_room (Nat.le_of_ble_eq_true rfl)) dX10_longestHarmless_94 ⟨Nat.le_refl _, Nat.le_refl _⟩) hS (fun u_94 H locs hw_94 hP hS => ?_)
        have hP : va_P (dC, dI) vwCl (MW y a rn n lo kp dy so he kn ak pl im lo2 dy2 so2 he2 kn2 u_94.2 kd len ord kh km pg len2 ord2 kh2 km2 u_94.1 (va_up (mixF 6 len tl) h L) tO bO lf wo) H := hP
        refine lv_aload_n hx hb dX10_longestHarmless_97 rfl (lv_at hl 2 rfl) ?_
        refine va_get (D := (dC, dI)) (ci := 10) (C := RX10) (T := TX10) (N := 12) hx hb hts in_X10_longestHarmless_X10 hown hK hP 0 rfl rfl 4 (by decide) (hts (.fieldLink RX10 38 "MilkRound" "walk" "LMilkRound$Walk;") (List.mem_of_getElem? (i := 8) rfl)) (fun _ h9 => h9) rfl dX10_longestHarmless_98 ?_
        refine c_calli (va_runV (As := []) (rest := []) ⟨hx, hb, hml, hown, hts⟩ (k_X8_wrongs l dC dI y A a hA0 xK xV rn n lo kp dy so he kn ak pl im lo2 dy2 so2 he2 kn2 u_94.2 kd len ord kh km pg len2 ord2 kh2 km2 u_94.1 (va_up (mixF 6 len tl) h L) tO bO lf wo  hn hkp hw_94.1.2 hkd) (cwV 0 hts gX10_longestHarmless_X8_wrongs rfl rfl rfl (by decide +kernel) ⟨Nat.le_of_ble_eq_true rfl, Nat.le_of_ble_eq_true rfl⟩) (c_preV (evN xK xV A) hK hE hS hP (va_recv hK hP (ci := 8) (q0 := 20) rfl rfl)) rfl rfl hl.1 rfl (lv_room (Nat.le_of_ble_eq_true rfl)) dX10_longestHarmless_101 ⟨Nat.le_refl _, Nat.le_refl _⟩) hS (fun r_101 u_101 H locs hw_101 hP hS => ?_)
        obtain rfl := hw_101
        refine n_top (y := nI (wrg n kp kd (va_up len h L) lo ord)) (by rw [wr_of hw_94.1, wrg_cong hord (fun j hj => up_mix (by omega))]) ?_
        have hwr_101 := wrg_le (n := n) (kp := kp) (kd := kd) (len := va_up len h L) (lo := lo) (ord := ord)
        refine lv_iload_n hx hb dX10_longestHarmless_104 rfl (lv_at hl 1 rfl) ?_
        refine n_icmp_gt (tgt := 110) hx hb dX10_longestHarmless_105 (by decide) (by omega) (by omega) (fun c_105 => ?_) (fun c_105 => ?_)
        · refine lv_iinc (v := nI (L - 1)) (lv' := [(3, .int (nI (L - 1))), (2, .int (nI (wrg n kp kd (va_up len h 0) lo ord))), (0, .ref (a 0)), (1, .int (nI (h)))]) hx hb dX10_longestHarmless_110 hl (k := 0) rfl (mr_dec (by omega)) (by decide) rfl (fun ls hl => ?_)
          refine lv_goto (tgt := 61) hx hb dX10_longestHarmless_113 (by decide) ?_
          exact ih_61 (L - 1) L u_94.1 u_94.2 (by omega) (by omega) hw_94.1.2 (by rw [hr9, mostF_down (by omega) (by omega)]) (by omega) _ _ _ hP hS (lv_sub hl [0, 1, 2, 3] rfl)
        · refine lv_iload_n hx hb dX10_longestHarmless_108 rfl (lv_at hl 0 rfl) ?_
          exact c_iret hx hb hr hlocks hK hS (u_94.1, u_94.2, va_up (mixF 6 len tl) h L) hP ⟨by rw [hr9, mostF_hit (by omega) (by omega)], hw_94.1.2, up_le hml9 hL⟩ dX10_longestHarmless_109
  exact loop_61 _ 9 0 u_47.1 u_47.2 (Nat.le_refl _) (by decide) hw_47.1.2 rfl (Nat.lt_succ_self _) _ _ _ hP hS (lv_sub hl [0, 1, 2, 3] rfl)
theorem in_X10_toldOfHouse_X10 : ∀ w ∈ wsX100, w ∈ wsX10_toldOfHouse := fun w h => List.mem_cons_of_mem _ (List.mem_append_left _ (List.mem_append_left _ (List.mem_append_left _ (List.mem_append_right _ h))))
theorem in_X10_toldOfHouse_X6 : ∀ w ∈ wsX60, w ∈ wsX10_toldOfHouse := fun w h => List.mem_cons_of_mem _ (List.mem_append_left _ (List.mem_append_left _ (List.mem_append_right _ h)))
theorem in_X10_toldOfHouse_X2 : ∀ w ∈ wsX20, w ∈ wsX10_toldOfHouse := fun w h => List.mem_cons_of_mem _ (List.mem_append_left _ (List.mem_append_right _ h))
theorem in_X10_toldOfHouse_X8 : ∀ w ∈ wsX80, w ∈ wsX10_toldOfHouse := fun w h => List.mem_cons_of_mem _ (List.mem_append_right _ h)
set_option maxHeartbeats 4000000 in
set_option maxRecDepth 100000 in
theorem k_X10_toldOfHouse (l : Launch) (dC : Nat → ClassId) (dI : Nat → Nat → Nat) (y : Nat → ClassId) (A : Nat → Prop) (a : Nat → Nat) (hA0 : ad_ok A a 34) (xK : Nat → Nat) (xV : Nat → Nat) (rn : Nat) (n : Nat) (lo : Int32) (kp : Nat) (dy : Int32) (so : Int32) (he : Int32) (kn : Nat) (ak : Nat) (pl : Nat) (im : Bool) (lo2 : Int32) (dy2 : Int32) (so2 : Int32) (he2 : Int32) (kn2 : Nat) (ma : Nat) (kd : Nat → Nat) (len : Nat → Nat) (ord : Nat → Nat) (kh : Nat → Nat) (km : Nat → Nat) (pg : Nat → Nat) (len2 : Nat → Nat) (ord2 : Nat → Nat) (kh2 : Nat → Nat) (km2 : Nat → Nat) (cw : Nat → Nat) (tl : Nat → Nat) (tO : Nat → Nat) (bO : Nat → Nat) (lf : Nat → Nat → Nat) (wo : Nat → Nat) (h : Nat) (w : Nat) (hn : n ≤ 6) (hord : PermOn n ord) (hlen : ∀ j, len j ≤ 9) (hkd : ∀ j, kd j ≤ 4) (hcw : ∀ j, cw j ≤ 126) (hkp : kp ≤ 9) (htl : ∀ j, tl j ≤ 9) (hh : h < n) (hw : w ≤ 8) : Met l yX10_toldOfHouse wsX10_toldOfHouse ({ frames := 5, cells := 0, slots := 0, locals := 115 } : Room) (c_P (dC, dI) vwCl (TY y) (EV xK xV A) (MW y a rn n lo kp dy so he kn ak pl im lo2 dy2 so2 he2 kn2 ma kd len ord kh km pg len2 ord2 kh2 km2 cw tl tO bO lf wo) [.ref (a 0), .int (nI (h)), .int (nI (w))]) (va_Qi (fun (r : Int32) (u : (Nat → Nat) × Nat × (Nat → Nat)) => r = hvF n kp kd len lo ord h w ∧ (∀ j, u.1 j ≤ 126) ∧ ∀ j, u.2.2 j ≤ 9) (c_B (dC, dI) vwCl (TY y) (fun (u : (Nat → Nat) × Nat × (Nat → Nat)) => (MW y a rn n lo kp dy so he kn ak pl im lo2 dy2 so2 he2 kn2 u.2.1 kd len ord kh km pg len2 ord2 kh2 km2 u.1 u.2.2 tO bO lf wo))) A) 0 0 A := by
  refine Met.ofW (cc := cX10_toldOfHouse) (maxL := 3) (ret := (some .int)) (by decide) rfl ?_
  intro p e s m args below meth c s₁ BB hml hv
  obtain ⟨rfl, hP, hK, hE⟩ := hv
  have hx := BB.exec
  have hb := BB.bytes
  have hr := BB.returns
  have hts := atoms_spec (ws := wsX10_toldOfHouse) BB.pre
  have hown : s.vm.findClass RX10 = some m.cls := findClass_of_methodNamed BB.named
  have hlocks := BB.notSynchronized
  have hS : va_S A s.heap s.heap [] := va_S.rf
  have hl := lv_entry ([.ref (a 0), .int (nI (h)), .int (nI (w))]) (n := 3) (Nat.le_of_ble_eq_true rfl)
  rw [lg_entry_eq]
  generalize (lg_sl ([.ref (a 0), .int (nI (h)), .int (nI (w))]) ++ List.replicate (3 - (lg_sl ([.ref (a 0), .int (nI (h)), .int (nI (w))])).length) Slot.unset).toArray = ls at hl ⊢
  have hl : lv_has ls 3 [(0, .ref (a 0)), (1, .int (nI (h))), (2, .int (nI (w)))] := hl
  have hkh := hkd h
  refine lv_aload_n hx hb dX10_toldOfHouse_0 rfl (lv_at hl 0 rfl) ?_
  refine c_callv (va_runV (As := []) (rest := []) ⟨hx, hb, hml, hown, hts⟩ (k_X10_walkAsItIs l dC dI y A a hA0 xK xV rn n lo kp dy so he kn ak pl im lo2 dy2 so2 he2 kn2 ma kd len ord kh km pg len2 ord2 kh2 km2 cw tl tO bO lf wo  hn hord hlen hkd hcw) (cwV 0 hts gX10_toldOfHouse_X10_walkAsItIs rfl rfl rfl (by decide +kernel) ⟨Nat.le_of_ble_eq_true rfl, Nat.le_of_ble_eq_true rfl⟩) (c_preV (evN xK xV A) hK hE hS hP (va_recv hK hP (ci := 10) (q0 := 0) rfl rfl)) rfl rfl hl.1 rfl (lv_room (Nat.le_of_ble_eq_true rfl)) dX10_toldOfHouse_1 ⟨Nat.le_refl _, Nat.le_refl _⟩) hS (fun u_1 H locs hw_1 hP hS => ?_)
  have hP : va_P (dC, dI) vwCl (MW y a rn n lo kp dy so he kn ak pl im lo2 dy2 so2 he2 kn2 u_1.2 kd len ord kh km pg len2 ord2 kh2 km2 u_1.1 tl tO bO lf wo) H := hP
  refine lv_iload_n hx hb dX10_toldOfHouse_4 rfl (lv_at hl 2 rfl) ?_
  rcases (show w = 0 ∨ w = 1 ∨ w = 2 ∨ w = 3 ∨ w = 4 ∨ w = 5 ∨ w = 6 ∨ w = 7 ∨ 7 < w by omega) with k_5 | k_5 | k_5 | k_5 | k_5 | k_5 | k_5 | k_5 | k_5
  · refine n_top (y := nI 0) (by rw [k_5]) ?_
    refine lv_tableIn (off := 47) (tgt := 52) hx hb dX10_toldOfHouse_5 (by decide) (by decide) (by decide) (by decide) ?_
    refine lv_aload_n hx hb dX10_toldOfHouse_52 rfl (lv_at hl 0 rfl) ?_
    refine va_get (D := (dC, dI)) (ci := 10) (C := RX10) (T := TX10) (N := 12) hx hb hts in_X10_toldOfHouse_X10 hown hK hP 0 rfl rfl 1 (by decide) (hts (.fieldLink RX10 19 "MilkRound" "street" "LMilkRound$Street;") (List.mem_of_getElem? (i := 1) rfl)) (fun _ h9 => h9) rfl dX10_toldOfHouse_53 ?_
    refine va_get (D := (dC, dI)) (ci := 6) (C := RX6) (T := TX6) (N := 8) hx hb hts in_X10_toldOfHouse_X6 hown hK hP 3 rfl rfl 5 (by decide) (hts (.fieldLink RX10 102 "MilkRound$Street" "houses" "[LMilkRound$House;") (List.mem_of_getElem? (i := 2) rfl)) (fun _ h9 => h9) rfl dX10_toldOfHouse_56 ?_
    refine lv_iload_n hx hb dX10_toldOfHouse_59 rfl (lv_at hl 1 rfl) ?_
    refine n_aldr hx hb hK hP 9 3 rfl rfl (by omega) (by decide) rfl dX10_toldOfHouse_60 ?_
    rcases (show kd h = 0 ∨ kd h = 1 ∨ kd h = 2 ∨ kd h = 3 ∨ kd h = 4 by omega) with ek_61 | ek_61 | ek_61 | ek_61 | ek_61
    · refine n_topr (z := a (4 + 0)) (by rw [ek_61]) ?_
      refine c_calli (va_runV (As := []) (rest := []) ⟨hx, hb, hml, hown, hts⟩ (k_X3_kind l dC dI y A (MW y a rn n lo kp dy so he kn ak pl im lo2 dy2 so2 he2 kn2 u_1.2 kd len ord kh km pg len2 ord2 kh2 km2 u_1.1 tl tO bO lf wo) (EV xK xV A) (a (4 + 0)) ) (cwV 0 hts gX10_toldOfHouse_X3_kind rfl rfl rfl (by decide +kernel) ⟨Nat.le_of_ble_eq_true rfl, Nat.le_of_ble_eq_true rfl⟩) (c_preV (evN xK xV A) hK hE hS hP (va_recv hK hP (ci := 3) (q0 := 4) rfl rfl)) rfl rfl hl.1 rfl (lv_room (Nat.le_of_ble_eq_true rfl)) dX10_toldOfHouse_61 ⟨Nat.le_refl _, Nat.le_refl _⟩) hS (fun r_61 u_61 H locs hw_61 hP hS => ?_)
      obtain rfl := hw_61
      exact c_iret hx hb hr hlocks hK hS (u_1.1, u_1.2, tl) hP ⟨(by rw [k_5, hvF, if_pos rfl]; rw [ek_61]), hw_1.1.2, htl⟩ dX10_toldOfHouse_64
    · refine n_topr (z := a (4 + 1)) (by rw [ek_61]) ?_
      refine c_calli (va_runU (As := []) (rest := []) ⟨hx, hb, hml, hown, hts⟩ (k_X5_kind l dC dI y A (MW y a rn n lo kp dy so he kn ak pl im lo2 dy2 so2 he2 kn2 u_1.2 kd len ord kh km pg len2 ord2 kh2 km2 u_1.1 tl tO bO lf wo) (EV xK xV A) (a (4 + 1)) ) (va_cwO 0 hts gX10_toldOfHouse_X5_kind_u197X5 rfl rfl rfl (List.mem_of_getElem? (i := 69) rfl) (by decide +kernel) ⟨Nat.le_of_ble_eq_true rfl, Nat.le_of_ble_eq_true rfl⟩) (c_preV (evN xK xV A) hK hE hS hP (va_recv hK hP (ci := 5) (q0 := 5) rfl rfl)) rfl rfl hl.1 rfl (lv_room (Nat.le_of_ble_eq_true rfl)) dX10_toldOfHouse_61 ⟨Nat.le_refl _, Nat.le_refl _⟩) hS (fun r_61 u_61 H locs hw_61 hP hS => ?_)
      obtain rfl := hw_61
      exact c_iret hx hb hr hlocks hK hS (u_1.1, u_1.2, tl) hP ⟨(by rw [k_5, hvF, if_pos rfl]; rw [ek_61]), hw_1.1.2, htl⟩ dX10_toldOfHouse_64
    · refine n_topr (z := a (4 + 2)) (by rw [ek_61]) ?_
      refine c_calli (va_runU (As := []) (rest := []) ⟨hx, hb, hml, hown, hts⟩ (k_X0_kind l dC dI y A (MW y a rn n lo kp dy so he kn ak pl im lo2 dy2 so2 he2 kn2 u_1.2 kd len ord kh km pg len2 ord2 kh2 km2 u_1.1 tl tO bO lf wo) (EV xK xV A) (a (4 + 2)) ) (va_cwO 0 hts gX10_toldOfHouse_X0_kind_u197X0 rfl rfl rfl (List.mem_of_getElem? (i := 69) rfl) (by decide +kernel) ⟨Nat.le_of_ble_eq_true rfl, Nat.le_of_ble_eq_true rfl⟩) (c_preV (evN xK xV A) hK hE hS hP (va_recv hK hP (ci := 0) (q0 := 6) rfl rfl)) rfl rfl hl.1 rfl (lv_room (Nat.le_of_ble_eq_true rfl)) dX10_toldOfHouse_61 ⟨Nat.le_refl _, Nat.le_refl _⟩) hS (fun r_61 u_61 H locs hw_61 hP hS => ?_)
      obtain rfl := hw_61
      exact c_iret hx hb hr hlocks hK hS (u_1.1, u_1.2, tl) hP ⟨(by rw [k_5, hvF, if_pos rfl]; rw [ek_61]), hw_1.1.2, htl⟩ dX10_toldOfHouse_64
    · refine n_topr (z := a (4 + 3)) (by rw [ek_61]) ?_
      refine c_calli (va_runU (As := []) (rest := []) ⟨hx, hb, hml, hown, hts⟩ (k_X1_kind l dC dI y A (MW y a rn n lo kp dy so he kn ak pl im lo2 dy2 so2 he2 kn2 u_1.2 kd len ord kh km pg len2 ord2 kh2 km2 u_1.1 tl tO bO lf wo) (EV xK xV A) (a (4 + 3)) ) (va_cwO 0 hts gX10_toldOfHouse_X1_kind_u197X1 rfl rfl rfl (List.mem_of_getElem? (i := 69) rfl) (by decide +kernel) ⟨Nat.le_of_ble_eq_true rfl, Nat.le_of_ble_eq_true rfl⟩) (c_preV (evN xK xV A) hK hE hS hP (va_recv hK hP (ci := 1) (q0 := 7) rfl rfl)) rfl rfl hl.1 rfl (lv_room (Nat.le_of_ble_eq_true rfl)) dX10_toldOfHouse_61 ⟨Nat.le_refl _, Nat.le_refl _⟩) hS (fun r_61 u_61 H locs hw_61 hP hS => ?_)
      obtain rfl := hw_61
      exact c_iret hx hb hr hlocks hK hS (u_1.1, u_1.2, tl) hP ⟨(by rw [k_5, hvF, if_pos rfl]; rw [ek_61]), hw_1.1.2, htl⟩ dX10_toldOfHouse_64
    · refine n_topr (z := a (4 + 4)) (by rw [ek_61]) ?_
      refine c_calli (va_runU (As := []) (rest := []) ⟨hx, hb, hml, hown, hts⟩ (k_X9_kind l dC dI y A (MW y a rn n lo kp dy so he kn ak pl im lo2 dy2 so2 he2 kn2 u_1.2 kd len ord kh km pg len2 ord2 kh2 km2 u_1.1 tl tO bO lf wo) (EV xK xV A) (a (4 + 4)) ) (va_cwO 0 hts gX10_toldOfHouse_X9_kind_u197X9 rfl rfl rfl (List.mem_of_getElem? (i := 69) rfl) (by decide +kernel) ⟨Nat.le_of_ble_eq_true rfl, Nat.le_of_ble_eq_true rfl⟩) (c_preV (evN xK xV A) hK hE hS hP (va_recv hK hP (ci := 9) (q0 := 8) rfl rfl)) rfl rfl hl.1 rfl (lv_room (Nat.le_of_ble_eq_true rfl)) dX10_toldOfHouse_61 ⟨Nat.le_refl _, Nat.le_refl _⟩) hS (fun r_61 u_61 H locs hw_61 hP hS => ?_)
      obtain rfl := hw_61
      exact c_iret hx hb hr hlocks hK hS (u_1.1, u_1.2, tl) hP ⟨(by rw [k_5, hvF, if_pos rfl]; rw [ek_61]), hw_1.1.2, htl⟩ dX10_toldOfHouse_64
  · refine n_top (y := nI 1) (by rw [k_5]) ?_
    refine lv_tableIn (off := 60) (tgt := 65) hx hb dX10_toldOfHouse_5 (by decide) (by decide) (by decide) (by decide) ?_
    refine lv_aload_n hx hb dX10_toldOfHouse_65 rfl (lv_at hl 0 rfl) ?_
    refine va_get (D := (dC, dI)) (ci := 10) (C := RX10) (T := TX10) (N := 12) hx hb hts in_X10_toldOfHouse_X10 hown hK hP 0 rfl rfl 2 (by decide) (hts (.fieldLink RX10 26 "MilkRound" "now" "LMilkRound$Course;") (List.mem_of_getElem? (i := 3) rfl)) (fun _ h9 => h9) rfl dX10_toldOfHouse_66 ?_
    refine va_get (D := (dC, dI)) (ci := 2) (C := RX2) (T := TX2) (N := 9) hx hb hts in_X10_toldOfHouse_X2 hown hK hP 10 rfl rfl 0 (by decide) (hts (.fieldLink RX10 110 "MilkRound$Course" "lengths" "[I") (List.mem_of_getElem? (i := 4) rfl)) (fun _ h9 => h9) rfl dX10_toldOfHouse_69 ?_
    refine lv_iload_n hx hb dX10_toldOfHouse_72 rfl (lv_at hl 1 rfl) ?_
    refine n_iald hx hb hK hP 11 0 rfl rfl (by omega) (by decide) dX10_toldOfHouse_73 ?_
    exact c_iret hx hb hr hlocks hK hS (u_1.1, u_1.2, tl) hP ⟨(by rw [k_5, hvF, if_neg (by decide), if_pos rfl]), hw_1.1.2, htl⟩ dX10_toldOfHouse_74
  · refine n_top (y := nI 2) (by rw [k_5]) ?_
    refine lv_tableIn (off := 70) (tgt := 75) hx hb dX10_toldOfHouse_5 (by decide) (by decide) (by decide) (by decide) ?_
    refine lv_aload_n hx hb dX10_toldOfHouse_75 rfl (lv_at hl 0 rfl) ?_
    refine va_get (D := (dC, dI)) (ci := 10) (C := RX10) (T := TX10) (N := 12) hx hb hts in_X10_toldOfHouse_X10 hown hK hP 0 rfl rfl 2 (by decide) (hts (.fieldLink RX10 26 "MilkRound" "now" "LMilkRound$Course;") (List.mem_of_getElem? (i := 3) rfl)) (fun _ h9 => h9) rfl dX10_toldOfHouse_76 ?_
    refine va_get (D := (dC, dI)) (ci := 2) (C := RX2) (T := TX2) (N := 9) hx hb hts in_X10_toldOfHouse_X2 hown hK hP 10 rfl rfl 5 (by decide) (hts (.fieldLink RX10 113 "MilkRound$Course" "leftOut" "I") (List.mem_of_getElem? (i := 5) rfl)) (fun _ h9 => h9) rfl dX10_toldOfHouse_79 ?_
    refine lv_iload_n hx hb dX10_toldOfHouse_82 rfl (lv_at hl 1 rfl) ?_
    refine c_calli (va_runS (As := [.int (lo), .int (nI (h))]) (rest := []) ⟨hx, hb, hml, hown, hts⟩ (k_X10_bitOf l dC dI y A (MW y a rn n lo kp dy so he kn ak pl im lo2 dy2 so2 he2 kn2 u_1.2 kd len ord kh km pg len2 ord2 kh2 km2 u_1.1 tl tO bO lf wo) (EV xK xV A) lo h ) (va_cwS 2 hts gX10_toldOfHouse_X10_bitOf rfl rfl rfl (by decide +kernel) ⟨Nat.le_of_ble_eq_true rfl, Nat.le_of_ble_eq_true rfl⟩) (c_preS (evN xK xV A) hK hE hS hP) rfl rfl hl.1 rfl (lv_room (Nat.le_of_ble_eq_true rfl)) dX10_toldOfHouse_83 ⟨Nat.le_refl _, Nat.le_refl _⟩) hS (fun r_83 u_83 H locs hw_83 hP hS => ?_)
    obtain rfl := hw_83
    exact c_iret hx hb hr hlocks hK hS (u_1.1, u_1.2, tl) hP ⟨(by rw [k_5, hvF, if_neg (by decide), if_neg (by decide), if_pos rfl]), hw_1.1.2, htl⟩ dX10_toldOfHouse_86
  · refine n_top (y := nI 3) (by rw [k_5]) ?_
    refine lv_tableIn (off := 82) (tgt := 87) hx hb dX10_toldOfHouse_5 (by decide) (by decide) (by decide) (by decide) ?_
    refine lv_aload_n hx hb dX10_toldOfHouse_87 rfl (lv_at hl 0 rfl) ?_
    refine va_get (D := (dC, dI)) (ci := 10) (C := RX10) (T := TX10) (N := 12) hx hb hts in_X10_toldOfHouse_X10 hown hK hP 0 rfl rfl 1 (by decide) (hts (.fieldLink RX10 19 "MilkRound" "street" "LMilkRound$Street;") (List.mem_of_getElem? (i := 1) rfl)) (fun _ h9 => h9) rfl dX10_toldOfHouse_88 ?_
    refine lv_iload_n hx hb dX10_toldOfHouse_91 rfl (lv_at hl 1 rfl) ?_
    refine lv_aload_n hx hb dX10_toldOfHouse_92 rfl (lv_at hl 0 rfl) ?_
    refine va_get (D := (dC, dI)) (ci := 10) (C := RX10) (T := TX10) (N := 12) hx hb hts in_X10_toldOfHouse_X10 hown hK hP 0 rfl rfl 2 (by decide) (hts (.fieldLink RX10 26 "MilkRound" "now" "LMilkRound$Course;") (List.mem_of_getElem? (i := 3) rfl)) (fun _ h9 => h9) rfl dX10_toldOfHouse_93 ?_
    refine va_get (D := (dC, dI)) (ci := 2) (C := RX2) (T := TX2) (N := 9) hx hb hts in_X10_toldOfHouse_X2 hown hK hP 10 rfl rfl 0 (by decide) (hts (.fieldLink RX10 110 "MilkRound$Course" "lengths" "[I") (List.mem_of_getElem? (i := 4) rfl)) (fun _ h9 => h9) rfl dX10_toldOfHouse_96 ?_
    refine lv_iload_n hx hb dX10_toldOfHouse_99 rfl (lv_at hl 1 rfl) ?_
    refine n_iald hx hb hK hP 11 0 rfl rfl (by omega) (by decide) dX10_toldOfHouse_100 ?_
    refine lv_aload_n hx hb dX10_toldOfHouse_101 rfl (lv_at hl 0 rfl) ?_
    refine va_get (D := (dC, dI)) (ci := 10) (C := RX10) (T := TX10) (N := 12) hx hb hts in_X10_toldOfHouse_X10 hown hK hP 0 rfl rfl 2 (by decide) (hts (.fieldLink RX10 26 "MilkRound" "now" "LMilkRound$Course;") (List.mem_of_getElem? (i := 3) rfl)) (fun _ h9 => h9) rfl dX10_toldOfHouse_102 ?_
    refine va_get (D := (dC, dI)) (ci := 2) (C := RX2) (T := TX2) (N := 9) hx hb hts in_X10_toldOfHouse_X2 hown hK hP 10 rfl rfl 5 (by decide) (hts (.fieldLink RX10 113 "MilkRound$Course" "leftOut" "I") (List.mem_of_getElem? (i := 5) rfl)) (fun _ h9 => h9) rfl dX10_toldOfHouse_105 ?_
    refine c_calli (va_runV (As := [.int (nI (h)), .int (nI (len h)), .int (lo)]) (rest := []) ⟨hx, hb, hml, hown, hts⟩ (k_X6_reading l dC dI y A a hA0 xK xV rn n lo kp dy so he kn ak pl im lo2 dy2 so2 he2 kn2 u_1.2 kd len ord kh km pg len2 ord2 kh2 km2 u_1.1 tl tO bO lf wo h (len h) lo (by omega) (hlen _) hkd) (cwV 3 hts gX10_toldOfHouse_X6_reading rfl rfl rfl (by decide +kernel) ⟨Nat.le_of_ble_eq_true rfl, Nat.le_of_ble_eq_true rfl⟩) (c_preV (evN xK xV A) hK hE hS hP (va_recv hK hP (ci := 6) (q0 := 3) rfl rfl)) rfl rfl hl.1 rfl (lv_room (Nat.le_of_ble_eq_true rfl)) dX10_toldOfHouse_108 ⟨Nat.le_refl _, Nat.le_refl _⟩) hS (fun r_108 u_108 H locs hw_108 hP hS => ?_)
    obtain rfl := hw_108
    exact c_iret hx hb hr hlocks hK hS (u_1.1, u_1.2, tl) hP ⟨(by rw [k_5, hvF, if_neg (by decide), if_neg (by decide), if_neg (by decide), if_pos rfl]; rfl), hw_1.1.2, htl⟩ dX10_toldOfHouse_111
  · refine n_top (y := nI 4) (by rw [k_5]) ?_
    refine lv_tableIn (off := 107) (tgt := 112) hx hb dX10_toldOfHouse_5 (by decide) (by decide) (by decide) (by decide) ?_
    refine lv_aload_n hx hb dX10_toldOfHouse_112 rfl (lv_at hl 0 rfl) ?_
    refine va_get (D := (dC, dI)) (ci := 10) (C := RX10) (T := TX10) (N := 12) hx hb hts in_X10_toldOfHouse_X10 hown hK hP 0 rfl rfl 2 (by decide) (hts (.fieldLink RX10 26 "MilkRound" "now" "LMilkRound$Course;") (List.mem_of_getElem? (i := 3) rfl)) (fun _ h9 => h9) rfl dX10_toldOfHouse_113 ?_
    refine lv_iload_n hx hb dX10_toldOfHouse_116 rfl (lv_at hl 1 rfl) ?_
    obtain ⟨kk, hkk, hek⟩ := hord.onto hh
    refine c_calli (va_runV (As := [.int (nI (h))]) (rest := []) ⟨hx, hb, hml, hown, hts⟩ (k_X2_placeOf l dC dI y A a hA0 xK xV rn n lo kp dy so he kn ak pl im lo2 dy2 so2 he2 kn2 u_1.2 kd len ord kh km pg len2 ord2 kh2 km2 u_1.1 tl tO bO lf wo h kk hn hord hkk hek) (cwV 1 hts gX10_toldOfHouse_X2_placeOf rfl rfl rfl (by decide +kernel) ⟨Nat.le_of_ble_eq_true rfl, Nat.le_of_ble_eq_true rfl⟩) (c_preV (evN xK xV A) hK hE hS hP (va_recv hK hP (ci := 2) (q0 := 10) rfl rfl)) rfl rfl hl.1 rfl (lv_room (Nat.le_of_ble_eq_true rfl)) dX10_toldOfHouse_117 ⟨Nat.le_refl _, Nat.le_refl _⟩) hS (fun r_117 u_117 H locs hw_117 hP hS => ?_)
    obtain rfl := hw_117
    exact c_iret hx hb hr hlocks hK hS (u_1.1, u_1.2, tl) hP ⟨(by rw [k_5, hvF, if_neg (by decide), if_neg (by decide), if_neg (by decide), if_neg (by decide), if_pos rfl]; rw [posF_eq hord hkk hek]), hw_1.1.2, htl⟩ dX10_toldOfHouse_120
  · refine n_top (y := nI 5) (by rw [k_5]) ?_
    refine lv_tableIn (off := 116) (tgt := 121) hx hb dX10_toldOfHouse_5 (by decide) (by decide) (by decide) (by decide) ?_
    refine lv_aload_n hx hb dX10_toldOfHouse_121 rfl (lv_at hl 0 rfl) ?_
    refine va_get (D := (dC, dI)) (ci := 10) (C := RX10) (T := TX10) (N := 12) hx hb hts in_X10_toldOfHouse_X10 hown hK hP 0 rfl rfl 4 (by decide) (hts (.fieldLink RX10 38 "MilkRound" "walk" "LMilkRound$Walk;") (List.mem_of_getElem? (i := 6) rfl)) (fun _ h9 => h9) rfl dX10_toldOfHouse_122 ?_
    refine va_get (D := (dC, dI)) (ci := 8) (C := RX8) (T := TX8) (N := 3) hx hb hts in_X10_toldOfHouse_X8 hown hK hP 20 rfl rfl 1 (by decide) (hts (.fieldLink RX10 204 "MilkRound$Walk" "came" "[I") (List.mem_of_getElem? (i := 7) rfl)) (fun _ h9 => h9) rfl dX10_toldOfHouse_125 ?_
    refine lv_iload_n hx hb dX10_toldOfHouse_128 rfl (lv_at hl 1 rfl) ?_
    refine n_iald hx hb hK hP 21 0 rfl rfl (by omega) (by decide) dX10_toldOfHouse_129 ?_
    exact c_iret hx hb hr hlocks hK hS (u_1.1, u_1.2, tl) hP ⟨(by rw [k_5, hvF, if_neg (by decide), if_neg (by decide), if_neg (by decide), if_neg (by decide), if_neg (by decide), if_pos rfl]; rw [hw_1.1.1 h (by omega)]), hw_1.1.2, htl⟩ dX10_toldOfHouse_130
  · refine n_top (y := nI 6) (by rw [k_5]) ?_
    refine lv_tableIn (off := 126) (tgt := 131) hx hb dX10_toldOfHouse_5 (by decide) (by decide) (by decide) (by decide) ?_
    refine lv_aload_n hx hb dX10_toldOfHouse_131 rfl (lv_at hl 0 rfl) ?_
    refine va_get (D := (dC, dI)) (ci := 10) (C := RX10) (T := TX10) (N := 12) hx hb hts in_X10_toldOfHouse_X10 hown hK hP 0 rfl rfl 4 (by decide) (hts (.fieldLink RX10 38 "MilkRound" "walk" "LMilkRound$Walk;") (List.mem_of_getElem? (i := 6) rfl)) (fun _ h9 => h9) rfl dX10_toldOfHouse_132 ?_
    refine lv_iload_n hx hb dX10_toldOfHouse_135 rfl (lv_at hl 1 rfl) ?_
    refine c_calli (va_runV (As := [.int (nI (h))]) (rest := []) ⟨hx, hb, hml, hown, hts⟩ (k_X8_isSour l dC dI y A a hA0 xK xV rn n lo kp dy so he kn ak pl im lo2 dy2 so2 he2 kn2 u_1.2 kd len ord kh km pg len2 ord2 kh2 km2 u_1.1 tl tO bO lf wo h (by omega) hkp hw_1.1.2 hkd) (cwV 1 hts gX10_toldOfHouse_X8_isSour rfl rfl rfl (by decide +kernel) ⟨Nat.le_of_ble_eq_true rfl, Nat.le_of_ble_eq_true rfl⟩) (c_preV (evN xK xV A) hK hE hS hP (va_recv hK hP (ci := 8) (q0 := 20) rfl rfl)) rfl rfl hl.1 rfl (lv_room (Nat.le_of_ble_eq_true rfl)) dX10_toldOfHouse_136 ⟨Nat.le_refl _, Nat.le_refl _⟩) hS (fun r_136 u_136 H locs hw_136 hP hS => ?_)
    obtain rfl := hw_136
    refine n_bif_eq (tgt := 146) hx hb dX10_toldOfHouse_139 (by decide) (fun c_139 => ?_) (fun c_139 => ?_)
    · refine lv_iconst (v := nI (0)) hx hb dX10_toldOfHouse_146 (by decide) ?_
      exact c_iret hx hb hr hlocks hK hS (u_1.1, u_1.2, tl) hP ⟨(by rw [k_5, hvF, if_neg (by decide), if_neg (by decide), if_neg (by decide), if_neg (by decide), if_neg (by decide), if_neg (by decide), if_pos rfl]; rw [← (sourB_cong (hw_1.1.1 h (by omega))), c_139]; rfl), hw_1.1.2, htl⟩ dX10_toldOfHouse_147
    · refine lv_iconst (v := nI (1)) hx hb dX10_toldOfHouse_142 (by decide) ?_
      refine lv_goto (tgt := 147) hx hb dX10_toldOfHouse_143 (by decide) ?_
      exact c_iret hx hb hr hlocks hK hS (u_1.1, u_1.2, tl) hP ⟨(by rw [k_5, hvF, if_neg (by decide), if_neg (by decide), if_neg (by decide), if_neg (by decide), if_neg (by decide), if_neg (by decide), if_pos rfl]; rw [← (sourB_cong (hw_1.1.1 h (by omega))), c_139]; rfl), hw_1.1.2, htl⟩ dX10_toldOfHouse_147
  · refine n_top (y := nI 7) (by rw [k_5]) ?_
    refine lv_tableIn (off := 143) (tgt := 148) hx hb dX10_toldOfHouse_5 (by decide) (by decide) (by decide) (by decide) ?_
    refine lv_aload_n hx hb dX10_toldOfHouse_148 rfl (lv_at hl 0 rfl) ?_
    refine va_get (D := (dC, dI)) (ci := 10) (C := RX10) (T := TX10) (N := 12) hx hb hts in_X10_toldOfHouse_X10 hown hK hP 0 rfl rfl 4 (by decide) (hts (.fieldLink RX10 38 "MilkRound" "walk" "LMilkRound$Walk;") (List.mem_of_getElem? (i := 6) rfl)) (fun _ h9 => h9) rfl dX10_toldOfHouse_149 ?_
    refine lv_iload_n hx hb dX10_toldOfHouse_152 rfl (lv_at hl 1 rfl) ?_
    refine c_calli (va_runV (As := [.int (nI (h))]) (rest := []) ⟨hx, hb, hml, hown, hts⟩ (k_X8_hears l dC dI y A a hA0 xK xV rn n lo kp dy so he kn ak pl im lo2 dy2 so2 he2 kn2 u_1.2 kd len ord kh km pg len2 ord2 kh2 km2 u_1.1 tl tO bO lf wo h (by omega) hn hw_1.1.2 hkd) (cwV 1 hts gX10_toldOfHouse_X8_hears rfl rfl rfl (by decide +kernel) ⟨Nat.le_of_ble_eq_true rfl, Nat.le_of_ble_eq_true rfl⟩) (c_preV (evN xK xV A) hK hE hS hP (va_recv hK hP (ci := 8) (q0 := 20) rfl rfl)) rfl rfl hl.1 rfl (lv_room (Nat.le_of_ble_eq_true rfl)) dX10_toldOfHouse_153 ⟨Nat.le_refl _, Nat.le_refl _⟩) hS (fun r_153 u_153 H locs hw_153 hP hS => ?_)
    obtain rfl := hw_153
    refine n_bif_eq (tgt := 163) hx hb dX10_toldOfHouse_156 (by decide) (fun c_156 => ?_) (fun c_156 => ?_)
    · refine lv_iconst (v := nI (0)) hx hb dX10_toldOfHouse_163 (by decide) ?_
      exact c_iret hx hb hr hlocks hK hS (u_1.1, u_1.2, tl) hP ⟨(by rw [k_5, hvF, if_neg (by decide), if_neg (by decide), if_neg (by decide), if_neg (by decide), if_neg (by decide), if_neg (by decide), if_neg (by decide), if_pos rfl]; rw [← (hearB_cong (by omega) hw_1.1.1), c_156]; rfl), hw_1.1.2, htl⟩ dX10_toldOfHouse_164
    · refine lv_iconst (v := nI (1)) hx hb dX10_toldOfHouse_159 (by decide) ?_
      refine lv_goto (tgt := 164) hx hb dX10_toldOfHouse_160 (by decide) ?_
      exact c_iret hx hb hr hlocks hK hS (u_1.1, u_1.2, tl) hP ⟨(by rw [k_5, hvF, if_neg (by decide), if_neg (by decide), if_neg (by decide), if_neg (by decide), if_neg (by decide), if_neg (by decide), if_neg (by decide), if_pos rfl]; rw [← (hearB_cong (by omega) hw_1.1.1), c_156]; rfl), hw_1.1.2, htl⟩ dX10_toldOfHouse_164
  · refine lv_tableOut (tgt := 165) hx hb dX10_toldOfHouse_5 (by rw [nI_toInt (by omega)]; omega) (by decide) ?_
    refine lv_aload_n hx hb dX10_toldOfHouse_165 rfl (lv_at hl 0 rfl) ?_
    refine lv_iload_n hx hb dX10_toldOfHouse_166 rfl (lv_at hl 1 rfl) ?_
    refine c_calli (va_runV (As := [.int (nI (h))]) (rest := []) ⟨hx, hb, hml, hown, hts⟩ (k_X10_longestHarmless l dC dI y A a hA0 xK xV rn n lo kp dy so he kn ak pl im lo2 dy2 so2 he2 kn2 u_1.2 kd len ord kh km pg len2 ord2 kh2 km2 u_1.1 tl tO bO lf wo h hn hord hlen hkd hw_1.1.2 hkp htl (by omega)) (cwV 1 hts gX10_toldOfHouse_X10_longestHarmless rfl rfl rfl (by decide +kernel) ⟨Nat.le_of_ble_eq_true rfl, Nat.le_of_ble_eq_true rfl⟩) (c_preV (evN xK xV A) hK hE hS hP (va_recv hK hP (ci := 10) (q0 := 0) rfl rfl)) rfl rfl hl.1 rfl (lv_room (Nat.le_of_ble_eq_true rfl)) dX10_toldOfHouse_167 ⟨Nat.le_refl _, Nat.le_refl _⟩) hS (fun r_167 u_167 H locs hw_167 hP hS => ?_)
    have hP : va_P (dC, dI) vwCl (MW y a rn n lo kp dy so he kn ak pl im lo2 dy2 so2 he2 kn2 u_167.2.1 kd len ord kh km pg len2 ord2 kh2 km2 u_167.1 u_167.2.2 tO bO lf wo) H := hP
    obtain ⟨rfl, hw_167⟩ := hw_167
    exact c_iret hx hb hr hlocks hK hS u_167 hP ⟨(by rw [hvF, if_neg (by omega), if_neg (by omega), if_neg (by omega), if_neg (by omega), if_neg (by omega), if_neg (by omega), if_neg (by omega), if_neg (by omega)]), hw_167⟩ dX10_toldOfHouse_170
theorem in_X10_about_X10 : ∀ w ∈ wsX100, w ∈ wsX10_about := fun w h => List.mem_cons_of_mem _ (List.mem_append_left _ (List.mem_append_left _ (List.mem_append_left _ (List.mem_append_right _ h))))
set_option maxHeartbeats 4000000 in
set_option maxRecDepth 100000 in
theorem k_X10_about (l : Launch) (dC : Nat → ClassId) (dI : Nat → Nat → Nat) (y : Nat → ClassId) (A : Nat → Prop) (a : Nat → Nat) (hA0 : ad_ok A a 34) (xK : Nat → Nat) (xV : Nat → Nat) (rn : Nat) (n : Nat) (lo : Int32) (kp : Nat) (dy : Int32) (so : Int32) (he : Int32) (kn : Nat) (ak : Nat) (pl : Nat) (im : Bool) (lo2 : Int32) (dy2 : Int32) (so2 : Int32) (he2 : Int32) (kn2 : Nat) (ma : Nat) (kd : Nat → Nat) (len : Nat → Nat) (ord : Nat → Nat) (kh : Nat → Nat) (km : Nat → Nat) (pg : Nat → Nat) (len2 : Nat → Nat) (ord2 : Nat → Nat) (kh2 : Nat → Nat) (km2 : Nat → Nat) (cw : Nat → Nat) (tl : Nat → Nat) (tO : Nat → Nat) (bO : Nat → Nat) (lf : Nat → Nat → Nat) (wo : Nat → Nat) (h : Int32) (w : Int32) (hn : n ≤ 6) (hord : PermOn n ord) (hlen : ∀ j, len j ≤ 9) (hkd : ∀ j, kd j ≤ 4) (hcw : ∀ j, cw j ≤ 126) (hkp : kp ≤ 9) (htl : ∀ j, tl j ≤ 9) : Met l yX10_about wsX10_about ({ frames := 6, cells := 0, slots := 0, locals := 137 } : Room) (c_P (dC, dI) vwCl (TY y) (EV xK xV A) (MW y a rn n lo kp dy so he kn ak pl im lo2 dy2 so2 he2 kn2 ma kd len ord kh km pg len2 ord2 kh2 km2 cw tl tO bO lf wo) [.ref (a 0), .int (h), .int (w)]) (va_Qi (fun (r : Int32) (u : (Nat → Nat) × Nat × (Nat → Nat)) => r = rAbout n kp kd len lo ord h w ∧ (∀ j, u.1 j ≤ 126) ∧ ∀ j, u.2.2 j ≤ 9) (c_B (dC, dI) vwCl (TY y) (fun (u : (Nat → Nat) × Nat × (Nat → Nat)) => (MW y a rn n lo kp dy so he kn ak pl im lo2 dy2 so2 he2 kn2 u.2.1 kd len ord kh km pg len2 ord2 kh2 km2 u.1 u.2.2 tO bO lf wo))) A) 0 0 A := by
  refine Met.ofW (cc := cX10_about) (maxL := 3) (ret := (some .int)) (by decide) rfl ?_
  intro p e s m args below meth c s₁ BB hml hv
  obtain ⟨rfl, hP, hK, hE⟩ := hv
  have hx := BB.exec
  have hb := BB.bytes
  have hr := BB.returns
  have hts := atoms_spec (ws := wsX10_about) BB.pre
  have hown : s.vm.findClass RX10 = some m.cls := findClass_of_methodNamed BB.named
  have hlocks := BB.notSynchronized
  have hS : va_S A s.heap s.heap [] := va_S.rf
  have hl := lv_entry ([.ref (a 0), .int (h), .int (w)]) (n := 3) (Nat.le_of_ble_eq_true rfl)
  rw [lg_entry_eq]
  generalize (lg_sl ([.ref (a 0), .int (h), .int (w)]) ++ List.replicate (3 - (lg_sl ([.ref (a 0), .int (h), .int (w)])).length) Slot.unset).toArray = ls at hl ⊢
  have hl : lv_has ls 3 [(0, .ref (a 0)), (1, .int (h)), (2, .int (w))] := hl
  refine lv_aload_n hx hb dX10_about_0 rfl (lv_at hl 0 rfl) ?_
  refine va_get (D := (dC, dI)) (ci := 10) (C := RX10) (T := TX10) (N := 12) hx hb hts in_X10_about_X10 hown hK hP 0 rfl rfl 1 (by decide) (hts (.fieldLink RX10 19 "MilkRound" "street" "LMilkRound$Street;") (List.mem_of_getElem? (i := 1) rfl)) (fun _ h9 => h9) rfl dX10_about_1 ?_
  refine lv_iload_n hx hb dX10_about_4 rfl (lv_at hl 1 rfl) ?_
  refine c_calli (va_runV (As := [.int (h)]) (rest := []) ⟨hx, hb, hml, hown, hts⟩ (k_X6_has l dC dI y A a hA0 xK xV rn n lo kp dy so he kn ak pl im lo2 dy2 so2 he2 kn2 ma kd len ord kh km pg len2 ord2 kh2 km2 cw tl tO bO lf wo h ) (cwV 1 hts gX10_about_X6_has rfl rfl rfl (by decide +kernel) ⟨Nat.le_of_ble_eq_true rfl, Nat.le_of_ble_eq_true rfl⟩) (c_preV (evN xK xV A) hK hE hS hP (va_recv hK hP (ci := 6) (q0 := 3) rfl rfl)) rfl rfl hl.1 rfl (lv_room (Nat.le_of_ble_eq_true rfl)) dX10_about_5 ⟨Nat.le_refl _, Nat.le_refl _⟩) hS (fun r_5 u_5 H locs hw_5 hP hS => ?_)
  obtain rfl := hw_5
  refine n_bif_ne (tgt := 14) hx hb dX10_about_8 (by decide) (fun c_8 => ?_) (fun c_8 => ?_)
  · refine lv_iload_n hx hb dX10_about_14 rfl (lv_at hl 2 rfl) ?_
    refine lv_if_lt (tgt := 24) hx hb dX10_about_15 (by decide) (fun c_15 => ?_) (fun c_15 => ?_)
    · refine lv_bipush (v := (-102)) hx hb dX10_about_24 (by decide) ?_
      exact c_iret hx hb hr hlocks hK hS (cw, ma, tl) hP ⟨by unfold rAbout; rw [c_8, inR_no1 c_15]; rfl, hcw, htl⟩ dX10_about_26
    · refine lv_iload_n hx hb dX10_about_18 rfl (lv_at hl 2 rfl) ?_
      refine lv_bipush (v := nI (8)) hx hb dX10_about_19 (by decide) ?_
      refine lv_icmp_le (tgt := 27) hx hb dX10_about_21 (by decide) (fun c_21 => ?_) (fun c_21 => ?_)
      · obtain ⟨j, hj, ej⟩ := isH_of (by omega) c_8
        obtain ⟨k, hk, ek⟩ := inR_of (m := 8) (by decide) (inR_mk c_15 c_21)
        rw [ej] at hl
        rw [ek] at hl
        have hl : lv_has ls 3 [(0, .ref (a 0)), (1, .int (nI (j))), (2, .int (nI (k)))] := hl
        refine lv_aload_n hx hb dX10_about_27 rfl (lv_at hl 0 rfl) ?_
        refine lv_iload_n hx hb dX10_about_28 rfl (lv_at hl 1 rfl) ?_
        refine lv_iload_n hx hb dX10_about_29 rfl (lv_at hl 2 rfl) ?_
        refine c_calli (va_runV (As := [.int (nI (j)), .int (nI (k))]) (rest := []) ⟨hx, hb, hml, hown, hts⟩ (k_X10_toldOfHouse l dC dI y A a hA0 xK xV rn n lo kp dy so he kn ak pl im lo2 dy2 so2 he2 kn2 ma kd len ord kh km pg len2 ord2 kh2 km2 cw tl tO bO lf wo j k hn hord hlen hkd hcw hkp htl hj hk) (cwV 2 hts gX10_about_X10_toldOfHouse rfl rfl rfl (by decide +kernel) ⟨Nat.le_of_ble_eq_true rfl, Nat.le_of_ble_eq_true rfl⟩) (c_preV (evN xK xV A) hK hE hS hP (va_recv hK hP (ci := 10) (q0 := 0) rfl rfl)) rfl rfl hl.1 rfl (lv_room (Nat.le_of_ble_eq_true rfl)) dX10_about_30 ⟨Nat.le_refl _, Nat.le_refl _⟩) hS (fun r_30 u_30 H locs hw_30 hP hS => ?_)
        have hP : va_P (dC, dI) vwCl (MW y a rn n lo kp dy so he kn ak pl im lo2 dy2 so2 he2 kn2 u_30.2.1 kd len ord kh km pg len2 ord2 kh2 km2 u_30.1 u_30.2.2 tO bO lf wo) H := hP
        obtain ⟨rfl, hw_30⟩ := hw_30
        exact c_iret hx hb hr hlocks hK hS u_30 hP ⟨by unfold rAbout; rw [c_8, inR_mk c_15 c_21, ej, ek, nI_clamp (by omega), nI_clamp (by omega)]; rfl, hw_30⟩ dX10_about_33
      · refine lv_bipush (v := (-102)) hx hb dX10_about_24 (by decide) ?_
        exact c_iret hx hb hr hlocks hK hS (cw, ma, tl) hP ⟨by unfold rAbout; rw [c_8, inR_no2 c_21]; rfl, hcw, htl⟩ dX10_about_26
  · refine lv_bipush (v := (-101)) hx hb dX10_about_11 (by decide) ?_
    exact c_iret hx hb hr hlocks hK hS (cw, ma, tl) hP ⟨by unfold rAbout; rw [c_8]; rfl, hcw, htl⟩ dX10_about_13
set_option maxHeartbeats 4000000 in
set_option maxRecDepth 100000 in
theorem k_X10_isOfKind_0 (l : Launch) (dC : Nat → ClassId) (dI : Nat → Nat → Nat) (y : Nat → ClassId) (A : Nat → Prop) (a : Nat → Nat) (hA0 : ad_ok A a 34) (xK : Nat → Nat) (xV : Nat → Nat) (rn : Nat) (n : Nat) (lo : Int32) (kp : Nat) (dy : Int32) (so : Int32) (he : Int32) (kn : Nat) (ak : Nat) (pl : Nat) (im : Bool) (lo2 : Int32) (dy2 : Int32) (so2 : Int32) (he2 : Int32) (kn2 : Nat) (ma : Nat) (kd : Nat → Nat) (len : Nat → Nat) (ord : Nat → Nat) (kh : Nat → Nat) (km : Nat → Nat) (pg : Nat → Nat) (len2 : Nat → Nat) (ord2 : Nat → Nat) (kh2 : Nat → Nat) (km2 : Nat → Nat) (cw : Nat → Nat) (tl : Nat → Nat) (tO : Nat → Nat) (bO : Nat → Nat) (lf : Nat → Nat → Nat) (wo : Nat → Nat) (k : Nat) (hk : k ≤ 4) : Met l yX10_isOfKind wsX10_isOfKind ({ frames := 0, cells := 0, slots := 0, locals := 0 } : Room) (c_P (dC, dI) vwCl (TY y) (EV xK xV A) (MW y a rn n lo kp dy so he kn ak pl im lo2 dy2 so2 he2 kn2 ma kd len ord kh km pg len2 ord2 kh2 km2 cw tl tO bO lf wo) [.ref (a 4), .int (nI (k))]) (va_Qi (fun (r : Int32) (u : Unit) => r = bI (asOk 0 k)) (c_B (dC, dI) vwCl (TY y) (fun (u : Unit) => (MW y a rn n lo kp dy so he kn ak pl im lo2 dy2 so2 he2 kn2 ma kd len ord kh km pg len2 ord2 kh2 km2 cw tl tO bO lf wo))) A) 0 0 A := by
  refine Met.ofW (cc := cX10_isOfKind) (maxL := 2) (ret := (some .boolean)) (by decide) rfl ?_
  intro p e s m args below meth c s₁ BB hml hv
  obtain ⟨rfl, hP, hK, hE⟩ := hv
  have hx := BB.exec
  have hb := BB.bytes
  have hr := BB.returns
  have hts := atoms_spec (ws := wsX10_isOfKind) BB.pre
  have hown : s.vm.findClass RX10 = some m.cls := findClass_of_methodNamed BB.named
  have hlocks := BB.notSynchronized
  have hS : va_S A s.heap s.heap [] := va_S.rf
  have hl := lv_entry ([.ref (a 4), .int (nI (k))]) (n := 2) (Nat.le_of_ble_eq_true rfl)
  rw [lg_entry_eq]
  generalize (lg_sl ([.ref (a 4), .int (nI (k))]) ++ List.replicate (2 - (lg_sl ([.ref (a 4), .int (nI (k))])).length) Slot.unset).toArray = ls at hl ⊢
  have hl : lv_has ls 2 [(0, .ref (a 4)), (1, .int (nI (k)))] := hl
  refine lv_iload_n hx hb dX10_isOfKind_0 rfl (lv_at hl 1 rfl) ?_
  rcases (show k = 0 ∨ k = 1 ∨ k = 2 ∨ k = 3 ∨ 3 < k by omega) with k_1 | k_1 | k_1 | k_1 | k_1
  · refine n_top (y := nI 0) (by rw [k_1]) ?_
    refine lv_tableIn (off := 31) (tgt := 32) hx hb dX10_isOfKind_1 (by decide) (by decide) (by decide) (by decide) ?_
    refine lv_iconst (v := nI (1)) hx hb dX10_isOfKind_32 (by decide) ?_
    exact c_zret hx hb hr hlocks hK hS () rfl hP (by rw [k_1]; rfl) dX10_isOfKind_33
  · refine n_top (y := nI 1) (by rw [k_1]) ?_
    refine lv_tableIn (off := 33) (tgt := 34) hx hb dX10_isOfKind_1 (by decide) (by decide) (by decide) (by decide) ?_
    refine lv_aload_n hx hb dX10_isOfKind_34 rfl (lv_at hl 0 rfl) ?_
    refine va_instNo (C := RX3) (nm := RX5) hx hb hown (hts (.classLink RX10 222 "MilkRound$Sea") (List.mem_of_getElem? (i := 1) rfl)) hE.2.2.1.1 (va_recv hK hP (ci := 3) (q0 := 4) rfl rfl) dX10_isOfKind_35 ?_
    exact c_zret hx hb hr hlocks hK hS () rfl hP (by rw [k_1]; rfl) dX10_isOfKind_38
  · refine n_top (y := nI 2) (by rw [k_1]) ?_
    refine lv_tableIn (off := 38) (tgt := 39) hx hb dX10_isOfKind_1 (by decide) (by decide) (by decide) (by decide) ?_
    refine lv_aload_n hx hb dX10_isOfKind_39 rfl (lv_at hl 0 rfl) ?_
    refine va_instNo (C := RX3) (nm := RX0) hx hb hown (hts (.classLink RX10 224 "MilkRound$Alone") (List.mem_of_getElem? (i := 2) rfl)) hE.2.2.1.2.1 (va_recv hK hP (ci := 3) (q0 := 4) rfl rfl) dX10_isOfKind_40 ?_
    exact c_zret hx hb hr hlocks hK hS () rfl hP (by rw [k_1]; rfl) dX10_isOfKind_43
  · refine n_top (y := nI 3) (by rw [k_1]) ?_
    refine lv_tableIn (off := 43) (tgt := 44) hx hb dX10_isOfKind_1 (by decide) (by decide) (by decide) (by decide) ?_
    refine lv_aload_n hx hb dX10_isOfKind_44 rfl (lv_at hl 0 rfl) ?_
    refine va_instNo (C := RX3) (nm := RX1) hx hb hown (hts (.classLink RX10 226 "MilkRound$Bad") (List.mem_of_getElem? (i := 3) rfl)) hE.2.2.1.2.2.1 (va_recv hK hP (ci := 3) (q0 := 4) rfl rfl) dX10_isOfKind_45 ?_
    exact c_zret hx hb hr hlocks hK hS () rfl hP (by rw [k_1]; rfl) dX10_isOfKind_48
  · refine lv_tableOut (tgt := 49) hx hb dX10_isOfKind_1 (by rw [nI_toInt (by omega)]; omega) (by decide) ?_
    refine lv_aload_n hx hb dX10_isOfKind_49 rfl (lv_at hl 0 rfl) ?_
    refine va_instNo (C := RX3) (nm := RX9) hx hb hown (hts (.classLink RX10 228 "MilkRound$War") (List.mem_of_getElem? (i := 4) rfl)) hE.2.2.1.2.2.2.1 (va_recv hK hP (ci := 3) (q0 := 4) rfl rfl) dX10_isOfKind_50 ?_
    exact c_zret hx hb hr hlocks hK hS () rfl hP (by rw [show k = 4 by omega]; rfl) dX10_isOfKind_53
set_option maxHeartbeats 4000000 in
set_option maxRecDepth 100000 in
theorem k_X10_isOfKind_1 (l : Launch) (dC : Nat → ClassId) (dI : Nat → Nat → Nat) (y : Nat → ClassId) (A : Nat → Prop) (a : Nat → Nat) (hA0 : ad_ok A a 34) (xK : Nat → Nat) (xV : Nat → Nat) (rn : Nat) (n : Nat) (lo : Int32) (kp : Nat) (dy : Int32) (so : Int32) (he : Int32) (kn : Nat) (ak : Nat) (pl : Nat) (im : Bool) (lo2 : Int32) (dy2 : Int32) (so2 : Int32) (he2 : Int32) (kn2 : Nat) (ma : Nat) (kd : Nat → Nat) (len : Nat → Nat) (ord : Nat → Nat) (kh : Nat → Nat) (km : Nat → Nat) (pg : Nat → Nat) (len2 : Nat → Nat) (ord2 : Nat → Nat) (kh2 : Nat → Nat) (km2 : Nat → Nat) (cw : Nat → Nat) (tl : Nat → Nat) (tO : Nat → Nat) (bO : Nat → Nat) (lf : Nat → Nat → Nat) (wo : Nat → Nat) (k : Nat) (hk : k ≤ 4) : Met l yX10_isOfKind wsX10_isOfKind ({ frames := 0, cells := 0, slots := 0, locals := 0 } : Room) (c_P (dC, dI) vwCl (TY y) (EV xK xV A) (MW y a rn n lo kp dy so he kn ak pl im lo2 dy2 so2 he2 kn2 ma kd len ord kh km pg len2 ord2 kh2 km2 cw tl tO bO lf wo) [.ref (a 5), .int (nI (k))]) (va_Qi (fun (r : Int32) (u : Unit) => r = bI (asOk 1 k)) (c_B (dC, dI) vwCl (TY y) (fun (u : Unit) => (MW y a rn n lo kp dy so he kn ak pl im lo2 dy2 so2 he2 kn2 ma kd len ord kh km pg len2 ord2 kh2 km2 cw tl tO bO lf wo))) A) 0 0 A := by
  refine Met.ofW (cc := cX10_isOfKind) (maxL := 2) (ret := (some .boolean)) (by decide) rfl ?_
  intro p e s m args below meth c s₁ BB hml hv
  obtain ⟨rfl, hP, hK, hE⟩ := hv
  have hx := BB.exec
  have hb := BB.bytes
  have hr := BB.returns
  have hts := atoms_spec (ws := wsX10_isOfKind) BB.pre
  have hown : s.vm.findClass RX10 = some m.cls := findClass_of_methodNamed BB.named
  have hlocks := BB.notSynchronized
  have hS : va_S A s.heap s.heap [] := va_S.rf
  have hl := lv_entry ([.ref (a 5), .int (nI (k))]) (n := 2) (Nat.le_of_ble_eq_true rfl)
  rw [lg_entry_eq]
  generalize (lg_sl ([.ref (a 5), .int (nI (k))]) ++ List.replicate (2 - (lg_sl ([.ref (a 5), .int (nI (k))])).length) Slot.unset).toArray = ls at hl ⊢
  have hl : lv_has ls 2 [(0, .ref (a 5)), (1, .int (nI (k)))] := hl
  refine lv_iload_n hx hb dX10_isOfKind_0 rfl (lv_at hl 1 rfl) ?_
  rcases (show k = 0 ∨ k = 1 ∨ k = 2 ∨ k = 3 ∨ 3 < k by omega) with k_1 | k_1 | k_1 | k_1 | k_1
  · refine n_top (y := nI 0) (by rw [k_1]) ?_
    refine lv_tableIn (off := 31) (tgt := 32) hx hb dX10_isOfKind_1 (by decide) (by decide) (by decide) (by decide) ?_
    refine lv_iconst (v := nI (1)) hx hb dX10_isOfKind_32 (by decide) ?_
    exact c_zret hx hb hr hlocks hK hS () rfl hP (by rw [k_1]; rfl) dX10_isOfKind_33
  · refine n_top (y := nI 1) (by rw [k_1]) ?_
    refine lv_tableIn (off := 33) (tgt := 34) hx hb dX10_isOfKind_1 (by decide) (by decide) (by decide) (by decide) ?_
    refine lv_aload_n hx hb dX10_isOfKind_34 rfl (lv_at hl 0 rfl) ?_
    refine va_instS (nm := RX5) hx hb hown (hts (.classLink RX10 222 "MilkRound$Sea") (List.mem_of_getElem? (i := 1) rfl)) (hK.1 5 _ rfl).2 (va_recv hK hP (ci := 5) (q0 := 5) rfl rfl) dX10_isOfKind_35 ?_
    exact c_zret hx hb hr hlocks hK hS () rfl hP (by rw [k_1]; rfl) dX10_isOfKind_38
  · refine n_top (y := nI 2) (by rw [k_1]) ?_
    refine lv_tableIn (off := 38) (tgt := 39) hx hb dX10_isOfKind_1 (by decide) (by decide) (by decide) (by decide) ?_
    refine lv_aload_n hx hb dX10_isOfKind_39 rfl (lv_at hl 0 rfl) ?_
    refine va_instNo (C := RX5) (nm := RX0) hx hb hown (hts (.classLink RX10 224 "MilkRound$Alone") (List.mem_of_getElem? (i := 2) rfl)) hE.2.2.1.2.2.2.2.1 (va_recv hK hP (ci := 5) (q0 := 5) rfl rfl) dX10_isOfKind_40 ?_
    exact c_zret hx hb hr hlocks hK hS () rfl hP (by rw [k_1]; rfl) dX10_isOfKind_43
  · refine n_top (y := nI 3) (by rw [k_1]) ?_
    refine lv_tableIn (off := 43) (tgt := 44) hx hb dX10_isOfKind_1 (by decide) (by decide) (by decide) (by decide) ?_
    refine lv_aload_n hx hb dX10_isOfKind_44 rfl (lv_at hl 0 rfl) ?_
    refine va_instNo (C := RX5) (nm := RX1) hx hb hown (hts (.classLink RX10 226 "MilkRound$Bad") (List.mem_of_getElem? (i := 3) rfl)) hE.2.2.1.2.2.2.2.2.1 (va_recv hK hP (ci := 5) (q0 := 5) rfl rfl) dX10_isOfKind_45 ?_
    exact c_zret hx hb hr hlocks hK hS () rfl hP (by rw [k_1]; rfl) dX10_isOfKind_48
  · refine lv_tableOut (tgt := 49) hx hb dX10_isOfKind_1 (by rw [nI_toInt (by omega)]; omega) (by decide) ?_
    refine lv_aload_n hx hb dX10_isOfKind_49 rfl (lv_at hl 0 rfl) ?_
    refine va_instNo (C := RX5) (nm := RX9) hx hb hown (hts (.classLink RX10 228 "MilkRound$War") (List.mem_of_getElem? (i := 4) rfl)) hE.2.2.1.2.2.2.2.2.2.1 (va_recv hK hP (ci := 5) (q0 := 5) rfl rfl) dX10_isOfKind_50 ?_
    exact c_zret hx hb hr hlocks hK hS () rfl hP (by rw [show k = 4 by omega]; rfl) dX10_isOfKind_53
set_option maxHeartbeats 4000000 in
set_option maxRecDepth 100000 in
theorem k_X10_isOfKind_2 (l : Launch) (dC : Nat → ClassId) (dI : Nat → Nat → Nat) (y : Nat → ClassId) (A : Nat → Prop) (a : Nat → Nat) (hA0 : ad_ok A a 34) (xK : Nat → Nat) (xV : Nat → Nat) (rn : Nat) (n : Nat) (lo : Int32) (kp : Nat) (dy : Int32) (so : Int32) (he : Int32) (kn : Nat) (ak : Nat) (pl : Nat) (im : Bool) (lo2 : Int32) (dy2 : Int32) (so2 : Int32) (he2 : Int32) (kn2 : Nat) (ma : Nat) (kd : Nat → Nat) (len : Nat → Nat) (ord : Nat → Nat) (kh : Nat → Nat) (km : Nat → Nat) (pg : Nat → Nat) (len2 : Nat → Nat) (ord2 : Nat → Nat) (kh2 : Nat → Nat) (km2 : Nat → Nat) (cw : Nat → Nat) (tl : Nat → Nat) (tO : Nat → Nat) (bO : Nat → Nat) (lf : Nat → Nat → Nat) (wo : Nat → Nat) (k : Nat) (hk : k ≤ 4) : Met l yX10_isOfKind wsX10_isOfKind ({ frames := 0, cells := 0, slots := 0, locals := 0 } : Room) (c_P (dC, dI) vwCl (TY y) (EV xK xV A) (MW y a rn n lo kp dy so he kn ak pl im lo2 dy2 so2 he2 kn2 ma kd len ord kh km pg len2 ord2 kh2 km2 cw tl tO bO lf wo) [.ref (a 6), .int (nI (k))]) (va_Qi (fun (r : Int32) (u : Unit) => r = bI (asOk 2 k)) (c_B (dC, dI) vwCl (TY y) (fun (u : Unit) => (MW y a rn n lo kp dy so he kn ak pl im lo2 dy2 so2 he2 kn2 ma kd len ord kh km pg len2 ord2 kh2 km2 cw tl tO bO lf wo))) A) 0 0 A := by
  refine Met.ofW (cc := cX10_isOfKind) (maxL := 2) (ret := (some .boolean)) (by decide) rfl ?_
  intro p e s m args below meth c s₁ BB hml hv
  obtain ⟨rfl, hP, hK, hE⟩ := hv
  have hx := BB.exec
  have hb := BB.bytes
  have hr := BB.returns
  have hts := atoms_spec (ws := wsX10_isOfKind) BB.pre
  have hown : s.vm.findClass RX10 = some m.cls := findClass_of_methodNamed BB.named
  have hlocks := BB.notSynchronized
  have hS : va_S A s.heap s.heap [] := va_S.rf
  have hl := lv_entry ([.ref (a 6), .int (nI (k))]) (n := 2) (Nat.le_of_ble_eq_true rfl)
  rw [lg_entry_eq]
  generalize (lg_sl ([.ref (a 6), .int (nI (k))]) ++ List.replicate (2 - (lg_sl ([.ref (a 6), .int (nI (k))])).length) Slot.unset).toArray = ls at hl ⊢
  have hl : lv_has ls 2 [(0, .ref (a 6)), (1, .int (nI (k)))] := hl
  refine lv_iload_n hx hb dX10_isOfKind_0 rfl (lv_at hl 1 rfl) ?_
  rcases (show k = 0 ∨ k = 1 ∨ k = 2 ∨ k = 3 ∨ 3 < k by omega) with k_1 | k_1 | k_1 | k_1 | k_1
  · refine n_top (y := nI 0) (by rw [k_1]) ?_
    refine lv_tableIn (off := 31) (tgt := 32) hx hb dX10_isOfKind_1 (by decide) (by decide) (by decide) (by decide) ?_
    refine lv_iconst (v := nI (1)) hx hb dX10_isOfKind_32 (by decide) ?_
    exact c_zret hx hb hr hlocks hK hS () rfl hP (by rw [k_1]; rfl) dX10_isOfKind_33
  · refine n_top (y := nI 1) (by rw [k_1]) ?_
    refine lv_tableIn (off := 33) (tgt := 34) hx hb dX10_isOfKind_1 (by decide) (by decide) (by decide) (by decide) ?_
    refine lv_aload_n hx hb dX10_isOfKind_34 rfl (lv_at hl 0 rfl) ?_
    refine va_instNo (C := RX0) (nm := RX5) hx hb hown (hts (.classLink RX10 222 "MilkRound$Sea") (List.mem_of_getElem? (i := 1) rfl)) hE.2.2.1.2.2.2.2.2.2.2.1 (va_recv hK hP (ci := 0) (q0 := 6) rfl rfl) dX10_isOfKind_35 ?_
    exact c_zret hx hb hr hlocks hK hS () rfl hP (by rw [k_1]; rfl) dX10_isOfKind_38
  · refine n_top (y := nI 2) (by rw [k_1]) ?_
    refine lv_tableIn (off := 38) (tgt := 39) hx hb dX10_isOfKind_1 (by decide) (by decide) (by decide) (by decide) ?_
    refine lv_aload_n hx hb dX10_isOfKind_39 rfl (lv_at hl 0 rfl) ?_
    refine va_instS (nm := RX0) hx hb hown (hts (.classLink RX10 224 "MilkRound$Alone") (List.mem_of_getElem? (i := 2) rfl)) (hK.1 0 _ rfl).2 (va_recv hK hP (ci := 0) (q0 := 6) rfl rfl) dX10_isOfKind_40 ?_
    exact c_zret hx hb hr hlocks hK hS () rfl hP (by rw [k_1]; rfl) dX10_isOfKind_43
  · refine n_top (y := nI 3) (by rw [k_1]) ?_
    refine lv_tableIn (off := 43) (tgt := 44) hx hb dX10_isOfKind_1 (by decide) (by decide) (by decide) (by decide) ?_
    refine lv_aload_n hx hb dX10_isOfKind_44 rfl (lv_at hl 0 rfl) ?_
    refine va_instNo (C := RX0) (nm := RX1) hx hb hown (hts (.classLink RX10 226 "MilkRound$Bad") (List.mem_of_getElem? (i := 3) rfl)) hE.2.2.1.2.2.2.2.2.2.2.2.1 (va_recv hK hP (ci := 0) (q0 := 6) rfl rfl) dX10_isOfKind_45 ?_
    exact c_zret hx hb hr hlocks hK hS () rfl hP (by rw [k_1]; rfl) dX10_isOfKind_48
  · refine lv_tableOut (tgt := 49) hx hb dX10_isOfKind_1 (by rw [nI_toInt (by omega)]; omega) (by decide) ?_
    refine lv_aload_n hx hb dX10_isOfKind_49 rfl (lv_at hl 0 rfl) ?_
    refine va_instNo (C := RX0) (nm := RX9) hx hb hown (hts (.classLink RX10 228 "MilkRound$War") (List.mem_of_getElem? (i := 4) rfl)) hE.2.2.1.2.2.2.2.2.2.2.2.2.1 (va_recv hK hP (ci := 0) (q0 := 6) rfl rfl) dX10_isOfKind_50 ?_
    exact c_zret hx hb hr hlocks hK hS () rfl hP (by rw [show k = 4 by omega]; rfl) dX10_isOfKind_53
set_option maxHeartbeats 4000000 in
set_option maxRecDepth 100000 in
theorem k_X10_isOfKind_3 (l : Launch) (dC : Nat → ClassId) (dI : Nat → Nat → Nat) (y : Nat → ClassId) (A : Nat → Prop) (a : Nat → Nat) (hA0 : ad_ok A a 34) (xK : Nat → Nat) (xV : Nat → Nat) (rn : Nat) (n : Nat) (lo : Int32) (kp : Nat) (dy : Int32) (so : Int32) (he : Int32) (kn : Nat) (ak : Nat) (pl : Nat) (im : Bool) (lo2 : Int32) (dy2 : Int32) (so2 : Int32) (he2 : Int32) (kn2 : Nat) (ma : Nat) (kd : Nat → Nat) (len : Nat → Nat) (ord : Nat → Nat) (kh : Nat → Nat) (km : Nat → Nat) (pg : Nat → Nat) (len2 : Nat → Nat) (ord2 : Nat → Nat) (kh2 : Nat → Nat) (km2 : Nat → Nat) (cw : Nat → Nat) (tl : Nat → Nat) (tO : Nat → Nat) (bO : Nat → Nat) (lf : Nat → Nat → Nat) (wo : Nat → Nat) (k : Nat) (hk : k ≤ 4) : Met l yX10_isOfKind wsX10_isOfKind ({ frames := 0, cells := 0, slots := 0, locals := 0 } : Room) (c_P (dC, dI) vwCl (TY y) (EV xK xV A) (MW y a rn n lo kp dy so he kn ak pl im lo2 dy2 so2 he2 kn2 ma kd len ord kh km pg len2 ord2 kh2 km2 cw tl tO bO lf wo) [.ref (a 7), .int (nI (k))]) (va_Qi (fun (r : Int32) (u : Unit) => r = bI (asOk 3 k)) (c_B (dC, dI) vwCl (TY y) (fun (u : Unit) => (MW y a rn n lo kp dy so he kn ak pl im lo2 dy2 so2 he2 kn2 ma kd len ord kh km pg len2 ord2 kh2 km2 cw tl tO bO lf wo))) A) 0 0 A := by
  refine Met.ofW (cc := cX10_isOfKind) (maxL := 2) (ret := (some .boolean)) (by decide) rfl ?_
  intro p e s m args below meth c s₁ BB hml hv
  obtain ⟨rfl, hP, hK, hE⟩ := hv
  have hx := BB.exec
  have hb := BB.bytes
  have hr := BB.returns
  have hts := atoms_spec (ws := wsX10_isOfKind) BB.pre
  have hown : s.vm.findClass RX10 = some m.cls := findClass_of_methodNamed BB.named
  have hlocks := BB.notSynchronized
  have hS : va_S A s.heap s.heap [] := va_S.rf
  have hl := lv_entry ([.ref (a 7), .int (nI (k))]) (n := 2) (Nat.le_of_ble_eq_true rfl)
  rw [lg_entry_eq]
  generalize (lg_sl ([.ref (a 7), .int (nI (k))]) ++ List.replicate (2 - (lg_sl ([.ref (a 7), .int (nI (k))])).length) Slot.unset).toArray = ls at hl ⊢
  have hl : lv_has ls 2 [(0, .ref (a 7)), (1, .int (nI (k)))] := hl
  refine lv_iload_n hx hb dX10_isOfKind_0 rfl (lv_at hl 1 rfl) ?_
  rcases (show k = 0 ∨ k = 1 ∨ k = 2 ∨ k = 3 ∨ 3 < k by omega) with k_1 | k_1 | k_1 | k_1 | k_1
  · refine n_top (y := nI 0) (by rw [k_1]) ?_
    refine lv_tableIn (off := 31) (tgt := 32) hx hb dX10_isOfKind_1 (by decide) (by decide) (by decide) (by decide) ?_
    refine lv_iconst (v := nI (1)) hx hb dX10_isOfKind_32 (by decide) ?_
    exact c_zret hx hb hr hlocks hK hS () rfl hP (by rw [k_1]; rfl) dX10_isOfKind_33
  · refine n_top (y := nI 1) (by rw [k_1]) ?_
    refine lv_tableIn (off := 33) (tgt := 34) hx hb dX10_isOfKind_1 (by decide) (by decide) (by decide) (by decide) ?_
    refine lv_aload_n hx hb dX10_isOfKind_34 rfl (lv_at hl 0 rfl) ?_
    refine va_instNo (C := RX1) (nm := RX5) hx hb hown (hts (.classLink RX10 222 "MilkRound$Sea") (List.mem_of_getElem? (i := 1) rfl)) hE.2.2.1.2.2.2.2.2.2.2.2.2.2.1 (va_recv hK hP (ci := 1) (q0 := 7) rfl rfl) dX10_isOfKind_35 ?_
    exact c_zret hx hb hr hlocks hK hS () rfl hP (by rw [k_1]; rfl) dX10_isOfKind_38
  · refine n_top (y := nI 2) (by rw [k_1]) ?_
    refine lv_tableIn (off := 38) (tgt := 39) hx hb dX10_isOfKind_1 (by decide) (by decide) (by decide) (by decide) ?_
    refine lv_aload_n hx hb dX10_isOfKind_39 rfl (lv_at hl 0 rfl) ?_
    refine va_instNo (C := RX1) (nm := RX0) hx hb hown (hts (.classLink RX10 224 "MilkRound$Alone") (List.mem_of_getElem? (i := 2) rfl)) hE.2.2.1.2.2.2.2.2.2.2.2.2.2.2.1 (va_recv hK hP (ci := 1) (q0 := 7) rfl rfl) dX10_isOfKind_40 ?_
    exact c_zret hx hb hr hlocks hK hS () rfl hP (by rw [k_1]; rfl) dX10_isOfKind_43
  · refine n_top (y := nI 3) (by rw [k_1]) ?_
    refine lv_tableIn (off := 43) (tgt := 44) hx hb dX10_isOfKind_1 (by decide) (by decide) (by decide) (by decide) ?_
    refine lv_aload_n hx hb dX10_isOfKind_44 rfl (lv_at hl 0 rfl) ?_
    refine va_instS (nm := RX1) hx hb hown (hts (.classLink RX10 226 "MilkRound$Bad") (List.mem_of_getElem? (i := 3) rfl)) (hK.1 1 _ rfl).2 (va_recv hK hP (ci := 1) (q0 := 7) rfl rfl) dX10_isOfKind_45 ?_
    exact c_zret hx hb hr hlocks hK hS () rfl hP (by rw [k_1]; rfl) dX10_isOfKind_48
  · refine lv_tableOut (tgt := 49) hx hb dX10_isOfKind_1 (by rw [nI_toInt (by omega)]; omega) (by decide) ?_
    refine lv_aload_n hx hb dX10_isOfKind_49 rfl (lv_at hl 0 rfl) ?_
    refine va_instNo (C := RX1) (nm := RX9) hx hb hown (hts (.classLink RX10 228 "MilkRound$War") (List.mem_of_getElem? (i := 4) rfl)) hE.2.2.1.2.2.2.2.2.2.2.2.2.2.2.2.1 (va_recv hK hP (ci := 1) (q0 := 7) rfl rfl) dX10_isOfKind_50 ?_
    exact c_zret hx hb hr hlocks hK hS () rfl hP (by rw [show k = 4 by omega]; rfl) dX10_isOfKind_53
set_option maxHeartbeats 4000000 in
set_option maxRecDepth 100000 in
theorem k_X10_isOfKind_4 (l : Launch) (dC : Nat → ClassId) (dI : Nat → Nat → Nat) (y : Nat → ClassId) (A : Nat → Prop) (a : Nat → Nat) (hA0 : ad_ok A a 34) (xK : Nat → Nat) (xV : Nat → Nat) (rn : Nat) (n : Nat) (lo : Int32) (kp : Nat) (dy : Int32) (so : Int32) (he : Int32) (kn : Nat) (ak : Nat) (pl : Nat) (im : Bool) (lo2 : Int32) (dy2 : Int32) (so2 : Int32) (he2 : Int32) (kn2 : Nat) (ma : Nat) (kd : Nat → Nat) (len : Nat → Nat) (ord : Nat → Nat) (kh : Nat → Nat) (km : Nat → Nat) (pg : Nat → Nat) (len2 : Nat → Nat) (ord2 : Nat → Nat) (kh2 : Nat → Nat) (km2 : Nat → Nat) (cw : Nat → Nat) (tl : Nat → Nat) (tO : Nat → Nat) (bO : Nat → Nat) (lf : Nat → Nat → Nat) (wo : Nat → Nat) (k : Nat) (hk : k ≤ 4) : Met l yX10_isOfKind wsX10_isOfKind ({ frames := 0, cells := 0, slots := 0, locals := 0 } : Room) (c_P (dC, dI) vwCl (TY y) (EV xK xV A) (MW y a rn n lo kp dy so he kn ak pl im lo2 dy2 so2 he2 kn2 ma kd len ord kh km pg len2 ord2 kh2 km2 cw tl tO bO lf wo) [.ref (a 8), .int (nI (k))]) (va_Qi (fun (r : Int32) (u : Unit) => r = bI (asOk 4 k)) (c_B (dC, dI) vwCl (TY y) (fun (u : Unit) => (MW y a rn n lo kp dy so he kn ak pl im lo2 dy2 so2 he2 kn2 ma kd len ord kh km pg len2 ord2 kh2 km2 cw tl tO bO lf wo))) A) 0 0 A := by
  refine Met.ofW (cc := cX10_isOfKind) (maxL := 2) (ret := (some .boolean)) (by decide) rfl ?_
  intro p e s m args below meth c s₁ BB hml hv
  obtain ⟨rfl, hP, hK, hE⟩ := hv
  have hx := BB.exec
  have hb := BB.bytes
  have hr := BB.returns
  have hts := atoms_spec (ws := wsX10_isOfKind) BB.pre
  have hown : s.vm.findClass RX10 = some m.cls := findClass_of_methodNamed BB.named
  have hlocks := BB.notSynchronized
  have hS : va_S A s.heap s.heap [] := va_S.rf
  have hl := lv_entry ([.ref (a 8), .int (nI (k))]) (n := 2) (Nat.le_of_ble_eq_true rfl)
  rw [lg_entry_eq]
  generalize (lg_sl ([.ref (a 8), .int (nI (k))]) ++ List.replicate (2 - (lg_sl ([.ref (a 8), .int (nI (k))])).length) Slot.unset).toArray = ls at hl ⊢
  have hl : lv_has ls 2 [(0, .ref (a 8)), (1, .int (nI (k)))] := hl
  refine lv_iload_n hx hb dX10_isOfKind_0 rfl (lv_at hl 1 rfl) ?_
  rcases (show k = 0 ∨ k = 1 ∨ k = 2 ∨ k = 3 ∨ 3 < k by omega) with k_1 | k_1 | k_1 | k_1 | k_1
  · refine n_top (y := nI 0) (by rw [k_1]) ?_
    refine lv_tableIn (off := 31) (tgt := 32) hx hb dX10_isOfKind_1 (by decide) (by decide) (by decide) (by decide) ?_
    refine lv_iconst (v := nI (1)) hx hb dX10_isOfKind_32 (by decide) ?_
    exact c_zret hx hb hr hlocks hK hS () rfl hP (by rw [k_1]; rfl) dX10_isOfKind_33
  · refine n_top (y := nI 1) (by rw [k_1]) ?_
    refine lv_tableIn (off := 33) (tgt := 34) hx hb dX10_isOfKind_1 (by decide) (by decide) (by decide) (by decide) ?_
    refine lv_aload_n hx hb dX10_isOfKind_34 rfl (lv_at hl 0 rfl) ?_
    refine va_instY (C := RX9) (nm := RX5) hx hb hown (hts (.classLink RX10 222 "MilkRound$Sea") (List.mem_of_getElem? (i := 1) rfl)) hE.2.1.2.2.2.2 (va_recv hK hP (ci := 9) (q0 := 8) rfl rfl) dX10_isOfKind_35 ?_
    exact c_zret hx hb hr hlocks hK hS () rfl hP (by rw [k_1]; rfl) dX10_isOfKind_38
  · refine n_top (y := nI 2) (by rw [k_1]) ?_
    refine lv_tableIn (off := 38) (tgt := 39) hx hb dX10_isOfKind_1 (by decide) (by decide) (by decide) (by decide) ?_
    refine lv_aload_n hx hb dX10_isOfKind_39 rfl (lv_at hl 0 rfl) ?_
    refine va_instNo (C := RX9) (nm := RX0) hx hb hown (hts (.classLink RX10 224 "MilkRound$Alone") (List.mem_of_getElem? (i := 2) rfl)) hE.2.2.1.2.2.2.2.2.2.2.2.2.2.2.2.2.1 (va_recv hK hP (ci := 9) (q0 := 8) rfl rfl) dX10_isOfKind_40 ?_
    exact c_zret hx hb hr hlocks hK hS () rfl hP (by rw [k_1]; rfl) dX10_isOfKind_43
  · refine n_top (y := nI 3) (by rw [k_1]) ?_
    refine lv_tableIn (off := 43) (tgt := 44) hx hb dX10_isOfKind_1 (by decide) (by decide) (by decide) (by decide) ?_
    refine lv_aload_n hx hb dX10_isOfKind_44 rfl (lv_at hl 0 rfl) ?_
    refine va_instNo (C := RX9) (nm := RX1) hx hb hown (hts (.classLink RX10 226 "MilkRound$Bad") (List.mem_of_getElem? (i := 3) rfl)) hE.2.2.1.2.2.2.2.2.2.2.2.2.2.2.2.2.2 (va_recv hK hP (ci := 9) (q0 := 8) rfl rfl) dX10_isOfKind_45 ?_
    exact c_zret hx hb hr hlocks hK hS () rfl hP (by rw [k_1]; rfl) dX10_isOfKind_48
  · refine lv_tableOut (tgt := 49) hx hb dX10_isOfKind_1 (by rw [nI_toInt (by omega)]; omega) (by decide) ?_
    refine lv_aload_n hx hb dX10_isOfKind_49 rfl (lv_at hl 0 rfl) ?_
    refine va_instS (nm := RX9) hx hb hown (hts (.classLink RX10 228 "MilkRound$War") (List.mem_of_getElem? (i := 4) rfl)) (hK.1 9 _ rfl).2 (va_recv hK hP (ci := 9) (q0 := 8) rfl rfl) dX10_isOfKind_50 ?_
    exact c_zret hx hb hr hlocks hK hS () rfl hP (by rw [show k = 4 by omega]; rfl) dX10_isOfKind_53
theorem in_X10_as_X10 : ∀ w ∈ wsX100, w ∈ wsX10_as := fun w h => List.mem_cons_of_mem _ (List.mem_append_left _ (List.mem_append_right _ h))
theorem in_X10_as_X6 : ∀ w ∈ wsX60, w ∈ wsX10_as := fun w h => List.mem_cons_of_mem _ (List.mem_append_right _ h)
set_option maxHeartbeats 4000000 in
set_option maxRecDepth 100000 in
theorem k_X10_as (l : Launch) (dC : Nat → ClassId) (dI : Nat → Nat → Nat) (y : Nat → ClassId) (A : Nat → Prop) (a : Nat → Nat) (hA0 : ad_ok A a 34) (xK : Nat → Nat) (xV : Nat → Nat) (rn : Nat) (n : Nat) (lo : Int32) (kp : Nat) (dy : Int32) (so : Int32) (he : Int32) (kn : Nat) (ak : Nat) (pl : Nat) (im : Bool) (lo2 : Int32) (dy2 : Int32) (so2 : Int32) (he2 : Int32) (kn2 : Nat) (ma : Nat) (kd : Nat → Nat) (len : Nat → Nat) (ord : Nat → Nat) (kh : Nat → Nat) (km : Nat → Nat) (pg : Nat → Nat) (len2 : Nat → Nat) (ord2 : Nat → Nat) (kh2 : Nat → Nat) (km2 : Nat → Nat) (cw : Nat → Nat) (tl : Nat → Nat) (tO : Nat → Nat) (bO : Nat → Nat) (lf : Nat → Nat → Nat) (wo : Nat → Nat) (h : Int32) (w : Int32) (hn : n ≤ 6) (hkd : ∀ j, kd j ≤ 4) : Met l yX10_as wsX10_as ({ frames := 1, cells := 0, slots := 0, locals := 21 } : Room) (c_P (dC, dI) vwCl (TY y) (EV xK xV A) (MW y a rn n lo kp dy so he kn ak pl im lo2 dy2 so2 he2 kn2 ma kd len ord kh km pg len2 ord2 kh2 km2 cw tl tO bO lf wo) [.ref (a 0), .int (h), .int (w)]) (va_Qi (fun (r : Int32) (u : Unit) => r = rAs n kd h w) (c_B (dC, dI) vwCl (TY y) (fun (u : Unit) => (MW y a rn n lo kp dy so he kn ak pl im lo2 dy2 so2 he2 kn2 ma kd len ord kh km pg len2 ord2 kh2 km2 cw tl tO bO lf wo))) A) 0 0 A := by
  refine Met.ofW (cc := cX10_as) (maxL := 3) (ret := (some .int)) (by decide) rfl ?_
  intro p e s m args below meth c s₁ BB hml hv
  obtain ⟨rfl, hP, hK, hE⟩ := hv
  have hx := BB.exec
  have hb := BB.bytes
  have hr := BB.returns
  have hts := atoms_spec (ws := wsX10_as) BB.pre
  have hown : s.vm.findClass RX10 = some m.cls := findClass_of_methodNamed BB.named
  have hlocks := BB.notSynchronized
  have hS : va_S A s.heap s.heap [] := va_S.rf
  have hl := lv_entry ([.ref (a 0), .int (h), .int (w)]) (n := 3) (Nat.le_of_ble_eq_true rfl)
  rw [lg_entry_eq]
  generalize (lg_sl ([.ref (a 0), .int (h), .int (w)]) ++ List.replicate (3 - (lg_sl ([.ref (a 0), .int (h), .int (w)])).length) Slot.unset).toArray = ls at hl ⊢
  have hl : lv_has ls 3 [(0, .ref (a 0)), (1, .int (h)), (2, .int (w))] := hl
  refine lv_aload_n hx hb dX10_as_0 rfl (lv_at hl 0 rfl) ?_
  refine va_get (D := (dC, dI)) (ci := 10) (C := RX10) (T := TX10) (N := 12) hx hb hts in_X10_as_X10 hown hK hP 0 rfl rfl 1 (by decide) (hts (.fieldLink RX10 19 "MilkRound" "street" "LMilkRound$Street;") (List.mem_of_getElem? (i := 1) rfl)) (fun _ h9 => h9) rfl dX10_as_1 ?_
  refine lv_iload_n hx hb dX10_as_4 rfl (lv_at hl 1 rfl) ?_
  refine c_calli (va_runV (As := [.int (h)]) (rest := []) ⟨hx, hb, hml, hown, hts⟩ (k_X6_has l dC dI y A a hA0 xK xV rn n lo kp dy so he kn ak pl im lo2 dy2 so2 he2 kn2 ma kd len ord kh km pg len2 ord2 kh2 km2 cw tl tO bO lf wo h ) (cwV 1 hts gX10_as_X6_has rfl rfl rfl (by decide +kernel) ⟨Nat.le_of_ble_eq_true rfl, Nat.le_of_ble_eq_true rfl⟩) (c_preV (evN xK xV A) hK hE hS hP (va_recv hK hP (ci := 6) (q0 := 3) rfl rfl)) rfl rfl hl.1 rfl (lv_room (Nat.le_of_ble_eq_true rfl)) dX10_as_5 ⟨Nat.le_refl _, Nat.le_refl _⟩) hS (fun r_5 u_5 H locs hw_5 hP hS => ?_)
  obtain rfl := hw_5
  refine n_bif_ne (tgt := 14) hx hb dX10_as_8 (by decide) (fun c_8 => ?_) (fun c_8 => ?_)
  · refine lv_iload_n hx hb dX10_as_14 rfl (lv_at hl 2 rfl) ?_
    refine lv_if_lt (tgt := 23) hx hb dX10_as_15 (by decide) (fun c_15 => ?_) (fun c_15 => ?_)
    · refine lv_bipush (v := (-102)) hx hb dX10_as_23 (by decide) ?_
      exact c_iret hx hb hr hlocks hK hS () hP (by unfold rAs; rw [c_8, inR_no1 c_15]; rfl) dX10_as_25
    · refine lv_iload_n hx hb dX10_as_18 rfl (lv_at hl 2 rfl) ?_
      refine lv_iconst (v := nI (4)) hx hb dX10_as_19 (by decide) ?_
      refine lv_icmp_le (tgt := 26) hx hb dX10_as_20 (by decide) (fun c_20 => ?_) (fun c_20 => ?_)
      · obtain ⟨j, hj, ej⟩ := isH_of (by omega) c_8
        obtain ⟨k, hk, ek⟩ := inR_of (m := 4) (by decide) (inR_mk c_15 c_20)
        rw [ej] at hl
        rw [ek] at hl
        have hl : lv_has ls 3 [(0, .ref (a 0)), (1, .int (nI (j))), (2, .int (nI (k)))] := hl
        refine lv_aload_n hx hb dX10_as_26 rfl (lv_at hl 0 rfl) ?_
        refine va_get (D := (dC, dI)) (ci := 10) (C := RX10) (T := TX10) (N := 12) hx hb hts in_X10_as_X10 hown hK hP 0 rfl rfl 1 (by decide) (hts (.fieldLink RX10 19 "MilkRound" "street" "LMilkRound$Street;") (List.mem_of_getElem? (i := 1) rfl)) (fun _ h9 => h9) rfl dX10_as_27 ?_
        refine va_get (D := (dC, dI)) (ci := 6) (C := RX6) (T := TX6) (N := 8) hx hb hts in_X10_as_X6 hown hK hP 3 rfl rfl 5 (by decide) (hts (.fieldLink RX10 102 "MilkRound$Street" "houses" "[LMilkRound$House;") (List.mem_of_getElem? (i := 2) rfl)) (fun _ h9 => h9) rfl dX10_as_30 ?_
        have hkj := hkd j
        refine lv_iload_n hx hb dX10_as_33 rfl (lv_at hl 1 rfl) ?_
        refine n_aldr hx hb hK hP 9 3 rfl rfl (by omega) (by decide) rfl dX10_as_34 ?_
        rcases (show kd j = 0 ∨ kd j = 1 ∨ kd j = 2 ∨ kd j = 3 ∨ kd j = 4 by omega) with ek_35 | ek_35 | ek_35 | ek_35 | ek_35
        · refine n_topr (z := a (4 + 0)) (by rw [ek_35]) ?_
          refine lv_iload_n hx hb dX10_as_35 rfl (lv_at hl 2 rfl) ?_
          refine c_calli (va_runS (As := [.ref (a (4 + 0)), .int (nI (k))]) (rest := []) ⟨hx, hb, hml, hown, hts⟩ (k_X10_isOfKind_0 l dC dI y A a hA0 xK xV rn n lo kp dy so he kn ak pl im lo2 dy2 so2 he2 kn2 ma kd len ord kh km pg len2 ord2 kh2 km2 cw tl tO bO lf wo k hk) (va_cwS 2 hts gX10_as_X10_isOfKind rfl rfl rfl (by decide +kernel) ⟨Nat.le_of_ble_eq_true rfl, Nat.le_of_ble_eq_true rfl⟩) (c_preS (evN xK xV A) hK hE hS hP) rfl rfl hl.1 rfl (lv_room (Nat.le_of_ble_eq_true rfl)) dX10_as_36 ⟨Nat.le_refl _, Nat.le_refl _⟩) hS (fun r_36 u_36 H locs hw_36 hP hS => ?_)
          obtain rfl := hw_36
          refine n_bif_eq (tgt := 46) hx hb dX10_as_39 (by decide) (fun c_39 => ?_) (fun c_39 => ?_)
          · refine lv_iconst (v := (-1)) hx hb dX10_as_46 (by decide) ?_
            exact c_iret hx hb hr hlocks hK hS () hP (by unfold rAs; rw [c_8, inR_mk c_15 c_20, ej, ek, nI_clamp (by omega), nI_clamp (by omega), ek_35, c_39]; rfl) dX10_as_47
          · refine lv_iload_n hx hb dX10_as_42 rfl (lv_at hl 1 rfl) ?_
            refine lv_goto (tgt := 47) hx hb dX10_as_43 (by decide) ?_
            exact c_iret hx hb hr hlocks hK hS () hP (by unfold rAs; rw [c_8, inR_mk c_15 c_20, ej, ek, nI_clamp (by omega), nI_clamp (by omega), ek_35, c_39]; rfl) dX10_as_47
        · refine n_topr (z := a (4 + 1)) (by rw [ek_35]) ?_
          refine lv_iload_n hx hb dX10_as_35 rfl (lv_at hl 2 rfl) ?_
          refine c_calli (va_runS (As := [.ref (a (4 + 1)), .int (nI (k))]) (rest := []) ⟨hx, hb, hml, hown, hts⟩ (k_X10_isOfKind_1 l dC dI y A a hA0 xK xV rn n lo kp dy so he kn ak pl im lo2 dy2 so2 he2 kn2 ma kd len ord kh km pg len2 ord2 kh2 km2 cw tl tO bO lf wo k hk) (va_cwS 2 hts gX10_as_X10_isOfKind rfl rfl rfl (by decide +kernel) ⟨Nat.le_of_ble_eq_true rfl, Nat.le_of_ble_eq_true rfl⟩) (c_preS (evN xK xV A) hK hE hS hP) rfl rfl hl.1 rfl (lv_room (Nat.le_of_ble_eq_true rfl)) dX10_as_36 ⟨Nat.le_refl _, Nat.le_refl _⟩) hS (fun r_36 u_36 H locs hw_36 hP hS => ?_)
          obtain rfl := hw_36
          refine n_bif_eq (tgt := 46) hx hb dX10_as_39 (by decide) (fun c_39 => ?_) (fun c_39 => ?_)
          · refine lv_iconst (v := (-1)) hx hb dX10_as_46 (by decide) ?_
            exact c_iret hx hb hr hlocks hK hS () hP (by unfold rAs; rw [c_8, inR_mk c_15 c_20, ej, ek, nI_clamp (by omega), nI_clamp (by omega), ek_35, c_39]; rfl) dX10_as_47
          · refine lv_iload_n hx hb dX10_as_42 rfl (lv_at hl 1 rfl) ?_
            refine lv_goto (tgt := 47) hx hb dX10_as_43 (by decide) ?_
            exact c_iret hx hb hr hlocks hK hS () hP (by unfold rAs; rw [c_8, inR_mk c_15 c_20, ej, ek, nI_clamp (by omega), nI_clamp (by omega), ek_35, c_39]; rfl) dX10_as_47
        · refine n_topr (z := a (4 + 2)) (by rw [ek_35]) ?_
          refine lv_iload_n hx hb dX10_as_35 rfl (lv_at hl 2 rfl) ?_
          refine c_calli (va_runS (As := [.ref (a (4 + 2)), .int (nI (k))]) (rest := []) ⟨hx, hb, hml, hown, hts⟩ (k_X10_isOfKind_2 l dC dI y A a hA0 xK xV rn n lo kp dy so he kn ak pl im lo2 dy2 so2 he2 kn2 ma kd len ord kh km pg len2 ord2 kh2 km2 cw tl tO bO lf wo k hk) (va_cwS 2 hts gX10_as_X10_isOfKind rfl rfl rfl (by decide +kernel) ⟨Nat.le_of_ble_eq_true rfl, Nat.le_of_ble_eq_true rfl⟩) (c_preS (evN xK xV A) hK hE hS hP) rfl rfl hl.1 rfl (lv_room (Nat.le_of_ble_eq_true rfl)) dX10_as_36 ⟨Nat.le_refl _, Nat.le_refl _⟩) hS (fun r_36 u_36 H locs hw_36 hP hS => ?_)
          obtain rfl := hw_36
          refine n_bif_eq (tgt := 46) hx hb dX10_as_39 (by decide) (fun c_39 => ?_) (fun c_39 => ?_)
          · refine lv_iconst (v := (-1)) hx hb dX10_as_46 (by decide) ?_
            exact c_iret hx hb hr hlocks hK hS () hP (by unfold rAs; rw [c_8, inR_mk c_15 c_20, ej, ek, nI_clamp (by omega), nI_clamp (by omega), ek_35, c_39]; rfl) dX10_as_47
          · refine lv_iload_n hx hb dX10_as_42 rfl (lv_at hl 1 rfl) ?_
            refine lv_goto (tgt := 47) hx hb dX10_as_43 (by decide) ?_
            exact c_iret hx hb hr hlocks hK hS () hP (by unfold rAs; rw [c_8, inR_mk c_15 c_20, ej, ek, nI_clamp (by omega), nI_clamp (by omega), ek_35, c_39]; rfl) dX10_as_47
        · refine n_topr (z := a (4 + 3)) (by rw [ek_35]) ?_
          refine lv_iload_n hx hb dX10_as_35 rfl (lv_at hl 2 rfl) ?_
          refine c_calli (va_runS (As := [.ref (a (4 + 3)), .int (nI (k))]) (rest := []) ⟨hx, hb, hml, hown, hts⟩ (k_X10_isOfKind_3 l dC dI y A a hA0 xK xV rn n lo kp dy so he kn ak pl im lo2 dy2 so2 he2 kn2 ma kd len ord kh km pg len2 ord2 kh2 km2 cw tl tO bO lf wo k hk) (va_cwS 2 hts gX10_as_X10_isOfKind rfl rfl rfl (by decide +kernel) ⟨Nat.le_of_ble_eq_true rfl, Nat.le_of_ble_eq_true rfl⟩) (c_preS (evN xK xV A) hK hE hS hP) rfl rfl hl.1 rfl (lv_room (Nat.le_of_ble_eq_true rfl)) dX10_as_36 ⟨Nat.le_refl _, Nat.le_refl _⟩) hS (fun r_36 u_36 H locs hw_36 hP hS => ?_)
          obtain rfl := hw_36
          refine n_bif_eq (tgt := 46) hx hb dX10_as_39 (by decide) (fun c_39 => ?_) (fun c_39 => ?_)
          · refine lv_iconst (v := (-1)) hx hb dX10_as_46 (by decide) ?_
            exact c_iret hx hb hr hlocks hK hS () hP (by unfold rAs; rw [c_8, inR_mk c_15 c_20, ej, ek, nI_clamp (by omega), nI_clamp (by omega), ek_35, c_39]; rfl) dX10_as_47
          · refine lv_iload_n hx hb dX10_as_42 rfl (lv_at hl 1 rfl) ?_
            refine lv_goto (tgt := 47) hx hb dX10_as_43 (by decide) ?_
            exact c_iret hx hb hr hlocks hK hS () hP (by unfold rAs; rw [c_8, inR_mk c_15 c_20, ej, ek, nI_clamp (by omega), nI_clamp (by omega), ek_35, c_39]; rfl) dX10_as_47
        · refine n_topr (z := a (4 + 4)) (by rw [ek_35]) ?_
          refine lv_iload_n hx hb dX10_as_35 rfl (lv_at hl 2 rfl) ?_
          refine c_calli (va_runS (As := [.ref (a (4 + 4)), .int (nI (k))]) (rest := []) ⟨hx, hb, hml, hown, hts⟩ (k_X10_isOfKind_4 l dC dI y A a hA0 xK xV rn n lo kp dy so he kn ak pl im lo2 dy2 so2 he2 kn2 ma kd len ord kh km pg len2 ord2 kh2 km2 cw tl tO bO lf wo k hk) (va_cwS 2 hts gX10_as_X10_isOfKind rfl rfl rfl (by decide +kernel) ⟨Nat.le_of_ble_eq_true rfl, Nat.le_of_ble_eq_true rfl⟩) (c_preS (evN xK xV A) hK hE hS hP) rfl rfl hl.1 rfl (lv_room (Nat.le_of_ble_eq_true rfl)) dX10_as_36 ⟨Nat.le_refl _, Nat.le_refl _⟩) hS (fun r_36 u_36 H locs hw_36 hP hS => ?_)
          obtain rfl := hw_36
          refine n_bif_eq (tgt := 46) hx hb dX10_as_39 (by decide) (fun c_39 => ?_) (fun c_39 => ?_)
          · refine lv_iconst (v := (-1)) hx hb dX10_as_46 (by decide) ?_
            exact c_iret hx hb hr hlocks hK hS () hP (by unfold rAs; rw [c_8, inR_mk c_15 c_20, ej, ek, nI_clamp (by omega), nI_clamp (by omega), ek_35, c_39]; rfl) dX10_as_47
          · refine lv_iload_n hx hb dX10_as_42 rfl (lv_at hl 1 rfl) ?_
            refine lv_goto (tgt := 47) hx hb dX10_as_43 (by decide) ?_
            exact c_iret hx hb hr hlocks hK hS () hP (by unfold rAs; rw [c_8, inR_mk c_15 c_20, ej, ek, nI_clamp (by omega), nI_clamp (by omega), ek_35, c_39]; rfl) dX10_as_47
      · refine lv_bipush (v := (-102)) hx hb dX10_as_23 (by decide) ?_
        exact c_iret hx hb hr hlocks hK hS () hP (by unfold rAs; rw [c_8, inR_no2 c_20]; rfl) dX10_as_25
  · refine lv_bipush (v := (-101)) hx hb dX10_as_11 (by decide) ?_
    exact c_iret hx hb hr hlocks hK hS () hP (by unfold rAs; rw [c_8]; rfl) dX10_as_13
theorem in_X10_day_X10 : ∀ w ∈ wsX100, w ∈ wsX10_day := fun w h => List.mem_cons_of_mem _ (List.mem_append_left _ (List.mem_append_left _ (List.mem_append_left _ (List.mem_append_right _ h))))
theorem in_X10_day_X2 : ∀ w ∈ wsX20, w ∈ wsX10_day := fun w h => List.mem_cons_of_mem _ (List.mem_append_left _ (List.mem_append_left _ (List.mem_append_right _ h)))
theorem in_X10_day_X6 : ∀ w ∈ wsX60, w ∈ wsX10_day := fun w h => List.mem_cons_of_mem _ (List.mem_append_left _ (List.mem_append_right _ h))
set_option maxHeartbeats 4000000 in
set_option maxRecDepth 100000 in
theorem k_X10_day (l : Launch) (dC : Nat → ClassId) (dI : Nat → Nat → Nat) (y : Nat → ClassId) (A : Nat → Prop) (a : Nat → Nat) (hA0 : ad_ok A a 34) (xK : Nat → Nat) (xV : Nat → Nat) (rn : Nat) (n : Nat) (lo : Int32) (kp : Nat) (dy : Int32) (so : Int32) (he : Int32) (kn : Nat) (ak : Nat) (pl : Nat) (im : Bool) (lo2 : Int32) (dy2 : Int32) (so2 : Int32) (he2 : Int32) (kn2 : Nat) (ma : Nat) (kd : Nat → Nat) (len : Nat → Nat) (ord : Nat → Nat) (kh : Nat → Nat) (km : Nat → Nat) (pg : Nat → Nat) (len2 : Nat → Nat) (ord2 : Nat → Nat) (kh2 : Nat → Nat) (km2 : Nat → Nat) (cw : Nat → Nat) (tl : Nat → Nat) (tO : Nat → Nat) (bO : Nat → Nat) (lf : Nat → Nat → Nat) (wo : Nat → Nat) (hn : n ≤ 6) (hord : PermOn n ord) (hlen : ∀ j, len j ≤ 9) (hkd : ∀ j, kd j ≤ 4) (hcw : ∀ j, cw j ≤ 126) (hkp : kp ≤ 9) : Met l yX10_day wsX10_day ({ frames := 5, cells := 0, slots := 0, locals := 112 } : Room) (c_P (dC, dI) vwCl (TY y) (EV xK xV A) (MW y a rn n lo kp dy so he kn ak pl im lo2 dy2 so2 he2 kn2 ma kd len ord kh km pg len2 ord2 kh2 km2 cw tl tO bO lf wo) [.ref (a 0)]) (va_Qi (fun (r : Int32) (u : (Nat → Nat) × Nat) => r = (bif decide (n = 0) then -103 else nI (wrg n kp kd len lo ord)) ∧ ∀ j, u.1 j ≤ 126) (c_B (dC, dI) vwCl (TY y) (fun (u : (Nat → Nat) × Nat) => (MW y a rn n lo kp (bif decide (n = 0) then dy else dy + nI 1) (bif decide (n = 0) then so else so + nI (scF n kp kd len lo ord)) (bif decide (n = 0) then he else he + nI (hcF n kd len lo ord)) kn ak pl im lo2 dy2 so2 he2 kn2 u.2 kd (bif decide (n = 0) then len else dayL n kd len) ord kh km pg len2 ord2 kh2 km2 u.1 tl tO bO lf wo))) A) 0 0 A := by
  refine Met.ofW (cc := cX10_day) (maxL := 4) (ret := (some .int)) (by decide) rfl ?_
  intro p e s m args below meth c s₁ BB hml hv
  obtain ⟨rfl, hP, hK, hE⟩ := hv
  have hx := BB.exec
  have hb := BB.bytes
  have hr := BB.returns
  have hts := atoms_spec (ws := wsX10_day) BB.pre
  have hown : s.vm.findClass RX10 = some m.cls := findClass_of_methodNamed BB.named
  have hlocks := BB.notSynchronized
  have hS : va_S A s.heap s.heap [] := va_S.rf
  have hl := lv_entry ([.ref (a 0)]) (n := 4) (Nat.le_of_ble_eq_true rfl)
  rw [lg_entry_eq]
  generalize (lg_sl ([.ref (a 0)]) ++ List.replicate (4 - (lg_sl ([.ref (a 0)])).length) Slot.unset).toArray = ls at hl ⊢
  have hl : lv_has ls 4 [(0, .ref (a 0))] := hl
  refine lv_aload_n hx hb dX10_day_0 rfl (lv_at hl 0 rfl) ?_
  refine c_calli (va_runV (As := []) (rest := []) ⟨hx, hb, hml, hown, hts⟩ (k_X10_hasNoRound l dC dI y A a hA0 xK xV rn n lo kp dy so he kn ak pl im lo2 dy2 so2 he2 kn2 ma kd len ord kh km pg len2 ord2 kh2 km2 cw tl tO bO lf wo  hn) (cwV 0 hts gX10_day_X10_hasNoRound rfl rfl rfl (by decide +kernel) ⟨Nat.le_of_ble_eq_true rfl, Nat.le_of_ble_eq_true rfl⟩) (c_preV (evN xK xV A) hK hE hS hP (va_recv hK hP (ci := 10) (q0 := 0) rfl rfl)) rfl rfl hl.1 rfl (lv_room (Nat.le_of_ble_eq_true rfl)) dX10_day_1 ⟨Nat.le_refl _, Nat.le_refl _⟩) hS (fun r_1 u_1 H locs hw_1 hP hS => ?_)
  obtain rfl := hw_1
  refine n_bif_eq (tgt := 10) hx hb dX10_day_4 (by decide) (fun c_4 => ?_) (fun c_4 => ?_)
  · refine lv_aload_n hx hb dX10_day_10 rfl (lv_at hl 0 rfl) ?_
    refine c_callv (va_runV (As := []) (rest := []) ⟨hx, hb, hml, hown, hts⟩ (k_X10_walkAsItIs l dC dI y A a hA0 xK xV rn n lo kp dy so he kn ak pl im lo2 dy2 so2 he2 kn2 ma kd len ord kh km pg len2 ord2 kh2 km2 cw tl tO bO lf wo  hn hord hlen hkd hcw) (cwV 0 hts gX10_day_X10_walkAsItIs rfl rfl rfl (by decide +kernel) ⟨Nat.le_of_ble_eq_true rfl, Nat.le_of_ble_eq_true rfl⟩) (c_preV (evN xK xV A) hK hE hS hP (va_recv hK hP (ci := 10) (q0 := 0) rfl rfl)) rfl rfl hl.1 rfl (lv_room (Nat.le_of_ble_eq_true rfl)) dX10_day_11 ⟨Nat.le_refl _, Nat.le_refl _⟩) hS (fun u_11 H locs hw_11 hP hS => ?_)
    have hP : va_P (dC, dI) vwCl (MW y a rn n lo kp dy so he kn ak pl im lo2 dy2 so2 he2 kn2 u_11.2 kd len ord kh km pg len2 ord2 kh2 km2 u_11.1 tl tO bO lf wo) H := hP
    refine lv_aload_n hx hb dX10_day_14 rfl (lv_at hl 0 rfl) ?_
    refine va_get (D := (dC, dI)) (ci := 10) (C := RX10) (T := TX10) (N := 12) hx hb hts in_X10_day_X10 hown hK hP 0 rfl rfl 4 (by decide) (hts (.fieldLink RX10 38 "MilkRound" "walk" "LMilkRound$Walk;") (List.mem_of_getElem? (i := 1) rfl)) (fun _ h9 => h9) rfl dX10_day_15 ?_
    refine c_calli (va_runV (As := []) (rest := []) ⟨hx, hb, hml, hown, hts⟩ (k_X8_sourHouses l dC dI y A a hA0 xK xV rn n lo kp dy so he kn ak pl im lo2 dy2 so2 he2 kn2 u_11.2 kd len ord kh km pg len2 ord2 kh2 km2 u_11.1 tl tO bO lf wo  hn hkp hw_11.1.2 hkd) (cwV 0 hts gX10_day_X8_sourHouses rfl rfl rfl (by decide +kernel) ⟨Nat.le_of_ble_eq_true rfl, Nat.le_of_ble_eq_true rfl⟩) (c_preV (evN xK xV A) hK hE hS hP (va_recv hK hP (ci := 8) (q0 := 20) rfl rfl)) rfl rfl hl.1 rfl (lv_room (Nat.le_of_ble_eq_true rfl)) dX10_day_18 ⟨Nat.le_refl _, Nat.le_refl _⟩) hS (fun r_18 u_18 H locs hw_18 hP hS => ?_)
    obtain rfl := hw_18
    refine n_top (y := nI (scF n kp kd len lo ord)) (by rw [sc_of hw_11.1]) ?_
    refine lv_istore_n (lv' := [(1, .int (nI (scF n kp kd len lo ord))), (0, .ref (a 0))]) hx hb dX10_day_21 rfl hl (by decide) rfl (fun ls hl => ?_)
    refine lv_aload_n hx hb dX10_day_22 rfl (lv_at hl 1 rfl) ?_
    refine va_get (D := (dC, dI)) (ci := 10) (C := RX10) (T := TX10) (N := 12) hx hb hts in_X10_day_X10 hown hK hP 0 rfl rfl 4 (by decide) (hts (.fieldLink RX10 38 "MilkRound" "walk" "LMilkRound$Walk;") (List.mem_of_getElem? (i := 1) rfl)) (fun _ h9 => h9) rfl dX10_day_23 ?_
    refine c_calli (va_runV (As := []) (rest := []) ⟨hx, hb, hml, hown, hts⟩ (k_X8_hearingHouses l dC dI y A a hA0 xK xV rn n lo kp dy so he kn ak pl im lo2 dy2 so2 he2 kn2 u_11.2 kd len ord kh km pg len2 ord2 kh2 km2 u_11.1 tl tO bO lf wo  hn hkp hw_11.1.2 hkd) (cwV 0 hts gX10_day_X8_hearingHouses rfl rfl rfl (by decide +kernel) ⟨Nat.le_of_ble_eq_true rfl, Nat.le_of_ble_eq_true rfl⟩) (c_preV (evN xK xV A) hK hE hS hP (va_recv hK hP (ci := 8) (q0 := 20) rfl rfl)) rfl rfl hl.1 rfl (lv_room (Nat.le_of_ble_eq_true rfl)) dX10_day_26 ⟨Nat.le_refl _, Nat.le_refl _⟩) hS (fun r_26 u_26 H locs hw_26 hP hS => ?_)
    obtain rfl := hw_26
    refine n_top (y := nI (hcF n kd len lo ord)) (by rw [hc_of hw_11.1]) ?_
    refine lv_istore_n (lv' := [(2, .int (nI (hcF n kd len lo ord))), (1, .int (nI (scF n kp kd len lo ord))), (0, .ref (a 0))]) hx hb dX10_day_29 rfl hl (by decide) rfl (fun ls hl => ?_)
    refine lv_aload_n hx hb dX10_day_30 rfl (lv_at hl 2 rfl) ?_
    refine va_get (D := (dC, dI)) (ci := 10) (C := RX10) (T := TX10) (N := 12) hx hb hts in_X10_day_X10 hown hK hP 0 rfl rfl 2 (by decide) (hts (.fieldLink RX10 26 "MilkRound" "now" "LMilkRound$Course;") (List.mem_of_getElem? (i := 2) rfl)) (fun _ h9 => h9) rfl dX10_day_31 ?_
    refine lv_dup hx hb dX10_day_34 rfl ?_
    refine va_get (D := (dC, dI)) (ci := 2) (C := RX2) (T := TX2) (N := 9) hx hb hts in_X10_day_X2 hown hK hP 10 rfl rfl 6 (by decide) (hts (.fieldLink RX10 142 "MilkRound$Course" "days" "I") (List.mem_of_getElem? (i := 3) rfl)) (fun _ h9 => h9) rfl dX10_day_35 ?_
    refine lv_iconst (v := nI (1)) hx hb dX10_day_38 (by decide) ?_
    refine lv_iadd hx hb dX10_day_39 ?_
    refine va_put (D := (dC, dI)) (ci := 2) (ty := tyX2 6) (C := RX2) (T := TX2) (N := 9) hx hb hts in_X10_day_X2 tyX2 tyX2_ok nmX2 hown hK hP (ad_D hA0 rfl) hS 10 rfl rfl 6 (by decide) (hts (.fieldLink RX10 142 "MilkRound$Course" "days" "I") (List.mem_of_getElem? (i := 3) rfl)) (fun _ h9 => h9) rfl (tyX2_ok 6 (by decide)) rfl rfl (Nat.le_of_ble_eq_true rfl) dX10_day_40 (fun H locs hP _ hS => ?_)
    have hP : va_P (dC, dI) vwCl (MW y a rn n lo kp (dy + (nI (1))) so he kn ak pl im lo2 dy2 so2 he2 kn2 u_11.2 kd len ord kh km pg len2 ord2 kh2 km2 u_11.1 tl tO bO lf wo) H := hP
    refine lv_aload_n hx hb dX10_day_43 rfl (lv_at hl 2 rfl) ?_
    refine va_get (D := (dC, dI)) (ci := 10) (C := RX10) (T := TX10) (N := 12) hx hb hts in_X10_day_X10 hown hK hP 0 rfl rfl 2 (by decide) (hts (.fieldLink RX10 26 "MilkRound" "now" "LMilkRound$Course;") (List.mem_of_getElem? (i := 2) rfl)) (fun _ h9 => h9) rfl dX10_day_44 ?_
    refine lv_dup hx hb dX10_day_47 rfl ?_
    refine va_get (D := (dC, dI)) (ci := 2) (C := RX2) (T := TX2) (N := 9) hx hb hts in_X10_day_X2 hown hK hP 10 rfl rfl 7 (by decide) (hts (.fieldLink RX10 145 "MilkRound$Course" "soured" "I") (List.mem_of_getElem? (i := 4) rfl)) (fun _ h9 => h9) rfl dX10_day_48 ?_
    refine lv_iload_n hx hb dX10_day_51 rfl (lv_at hl 1 rfl) ?_
    refine lv_iadd hx hb dX10_day_52 ?_
    refine va_put (D := (dC, dI)) (ci := 2) (ty := tyX2 7) (C := RX2) (T := TX2) (N := 9) hx hb hts in_X10_day_X2 tyX2 tyX2_ok nmX2 hown hK hP (ad_D hA0 rfl) hS 10 rfl rfl 7 (by decide) (hts (.fieldLink RX10 145 "MilkRound$Course" "soured" "I") (List.mem_of_getElem? (i := 4) rfl)) (fun _ h9 => h9) rfl (tyX2_ok 7 (by decide)) rfl rfl (Nat.le_of_ble_eq_true rfl) dX10_day_53 (fun H locs hP _ hS => ?_)
    have hP : va_P (dC, dI) vwCl (MW y a rn n lo kp (dy + (nI (1))) (so + (nI (scF n kp kd len lo ord))) he kn ak pl im lo2 dy2 so2 he2 kn2 u_11.2 kd len ord kh km pg len2 ord2 kh2 km2 u_11.1 tl tO bO lf wo) H := hP
    refine lv_aload_n hx hb dX10_day_56 rfl (lv_at hl 2 rfl) ?_
    refine va_get (D := (dC, dI)) (ci := 10) (C := RX10) (T := TX10) (N := 12) hx hb hts in_X10_day_X10 hown hK hP 0 rfl rfl 2 (by decide) (hts (.fieldLink RX10 26 "MilkRound" "now" "LMilkRound$Course;") (List.mem_of_getElem? (i := 2) rfl)) (fun _ h9 => h9) rfl dX10_day_57 ?_
    refine lv_dup hx hb dX10_day_60 rfl ?_
    refine va_get (D := (dC, dI)) (ci := 2) (C := RX2) (T := TX2) (N := 9) hx hb hts in_X10_day_X2 hown hK hP 10 rfl rfl 8 (by decide) (hts (.fieldLink RX10 148 "MilkRound$Course" "heard" "I") (List.mem_of_getElem? (i := 5) rfl)) (fun _ h9 => h9) rfl dX10_day_61 ?_
    refine lv_iload_n hx hb dX10_day_64 rfl (lv_at hl 0 rfl) ?_
    refine lv_iadd hx hb dX10_day_65 ?_
    refine va_put (D := (dC, dI)) (ci := 2) (ty := tyX2 8) (C := RX2) (T := TX2) (N := 9) hx hb hts in_X10_day_X2 tyX2 tyX2_ok nmX2 hown hK hP (ad_D hA0 rfl) hS 10 rfl rfl 8 (by decide) (hts (.fieldLink RX10 148 "MilkRound$Course" "heard" "I") (List.mem_of_getElem? (i := 5) rfl)) (fun _ h9 => h9) rfl (tyX2_ok 8 (by decide)) rfl rfl (Nat.le_of_ble_eq_true rfl) dX10_day_66 (fun H locs hP _ hS => ?_)
    have hP : va_P (dC, dI) vwCl (MW y a rn n lo kp (dy + (nI (1))) (so + (nI (scF n kp kd len lo ord))) (he + (nI (hcF n kd len lo ord))) kn ak pl im lo2 dy2 so2 he2 kn2 u_11.2 kd len ord kh km pg len2 ord2 kh2 km2 u_11.1 tl tO bO lf wo) H := hP
    refine lv_iconst (v := nI (0)) hx hb dX10_day_69 (by decide) ?_
    refine lv_istore_n (lv' := [(3, .int (nI (0))), (2, .int (nI (hcF n kd len lo ord))), (1, .int (nI (scF n kp kd len lo ord))), (0, .ref (a 0))]) hx hb dX10_day_70 rfl hl (by decide) rfl (fun ls hl => ?_)
    have loop_71 : ∀ (dd_71 : Nat) (k : Nat) (hk : k ≤ n), n - k < dd_71 → ∀ (H : Heap) (locs : List Loc) (ls : Array Slot), va_P (dC, dI) vwCl (MW y a rn n lo kp (dy + (nI (1))) (so + (nI (scF n kp kd len lo ord))) (he + (nI (hcF n kd len lo ord))) kn ak pl im lo2 dy2 so2 he2 kn2 u_11.2 kd (mixF k (dayG kd len) len) ord kh km pg len2 ord2 kh2 km2 u_11.1 tl tO bO lf wo) H → va_S A s.heap H locs → lv_has ls 4 [(3, .int (nI (k))), (2, .int (nI (hcF n kd len lo ord))), (1, .int (nI (scF n kp kd len lo ord))), (0, .ref (a 0))] → W p l e (headSpec wsX10_day ({ frames := 5, cells := 0, slots := 0, locals := 112 } : Room)).room s m [.ref (a 0)].toArray below meth c H locs 0 0 (MQ below (va_Qi (fun (r : Int32) (u : (Nat → Nat) × Nat) => r = (bif decide (n = 0) then -103 else nI (wrg n kp kd len lo ord)) ∧ ∀ j, u.1 j ≤ 126) (c_B (dC, dI) vwCl (TY y) (fun (u : (Nat → Nat) × Nat) => (MW y a rn n lo kp (bif decide (n = 0) then dy else dy + nI 1) (bif decide (n = 0) then so else so + nI (scF n kp kd len lo ord)) (bif decide (n = 0) then he else he + nI (hcF n kd len lo ord)) kn ak pl im lo2 dy2 so2 he2 kn2 u.2 kd (bif decide (n = 0) then len else dayL n kd len) ord kh km pg len2 ord2 kh2 km2 u.1 tl tO bO lf wo))) A) [.ref (a 0)].toArray s 0 0 A) (F0 m 71 ls []) := by
      intro dd_71
      induction dd_71 with
      | zero => intro k hk hd; exact absurd hd (Nat.not_lt_zero _)
      | succ dd_71 ih_71 =>
        intro k hk hd_71 H locs ls hP hS hl
        refine lv_iload_n hx hb dX10_day_71 rfl (lv_at hl 0 rfl) ?_
        refine lv_aload_n hx hb dX10_day_72 rfl (lv_at hl 3 rfl) ?_
        refine va_get (D := (dC, dI)) (ci := 10) (C := RX10) (T := TX10) (N := 12) hx hb hts in_X10_day_X10 hown hK hP 0 rfl rfl 1 (by decide) (hts (.fieldLink RX10 19 "MilkRound" "street" "LMilkRound$Street;") (List.mem_of_getElem? (i := 6) rfl)) (fun _ h9 => h9) rfl dX10_day_73 ?_
        refine va_get (D := (dC, dI)) (ci := 6) (C := RX6) (T := TX6) (N := 8) hx hb hts in_X10_day_X6 hown hK hP 3 rfl rfl 6 (by decide) (hts (.fieldLink RX10 89 "MilkRound$Street" "size" "I") (List.mem_of_getElem? (i := 7) rfl)) (fun _ h9 => h9) rfl dX10_day_76 ?_
        refine n_icmp_ge (tgt := 118) hx hb dX10_day_79 (by decide) (by omega) (by omega) (fun c_79 => ?_) (fun c_79 => ?_)
        · refine lv_iload_n hx hb dX10_day_118 rfl (lv_at hl 2 rfl) ?_
          refine lv_iload_n hx hb dX10_day_119 rfl (lv_at hl 1 rfl) ?_
          refine n_iadd hx hb dX10_day_120 ?_
          have hP : va_P (dC, dI) vwCl (MW y a rn n lo kp (bif decide (n = 0) then dy else dy + nI 1) (bif decide (n = 0) then so else so + nI (scF n kp kd len lo ord)) (bif decide (n = 0) then he else he + nI (hcF n kd len lo ord)) kn ak pl im lo2 dy2 so2 he2 kn2 u_11.2 kd (bif decide (n = 0) then len else dayL n kd len) ord kh km pg len2 ord2 kh2 km2 u_11.1 tl tO bO lf wo) H := by
            have hkn : k = n := by omega
            subst hkn
            rw [c_4]
            exact hP
          exact c_iret hx hb hr hlocks hK hS u_11 hP ⟨by rw [c_4]; rfl, hw_11.1.2⟩ dX10_day_121
        · have hkk := hkd k
          have hlk := hlen k
          refine lv_aload_n hx hb dX10_day_82 rfl (lv_at hl 3 rfl) ?_
          refine va_get (D := (dC, dI)) (ci := 10) (C := RX10) (T := TX10) (N := 12) hx hb hts in_X10_day_X10 hown hK hP 0 rfl rfl 2 (by decide) (hts (.fieldLink RX10 26 "MilkRound" "now" "LMilkRound$Course;") (List.mem_of_getElem? (i := 2) rfl)) (fun _ h9 => h9) rfl dX10_day_83 ?_
          refine va_get (D := (dC, dI)) (ci := 2) (C := RX2) (T := TX2) (N := 9) hx hb hts in_X10_day_X2 hown hK hP 10 rfl rfl 0 (by decide) (hts (.fieldLink RX10 110 "MilkRound$Course" "lengths" "[I") (List.mem_of_getElem? (i := 8) rfl)) (fun _ h9 => h9) rfl dX10_day_86 ?_
          refine lv_iload_n hx hb dX10_day_89 rfl (lv_at hl 0 rfl) ?_
          refine lv_aload_n hx hb dX10_day_90 rfl (lv_at hl 3 rfl) ?_
          refine va_get (D := (dC, dI)) (ci := 10) (C := RX10) (T := TX10) (N := 12) hx hb hts in_X10_day_X10 hown hK hP 0 rfl rfl 1 (by decide) (hts (.fieldLink RX10 19 "MilkRound" "street" "LMilkRound$Street;") (List.mem_of_getElem? (i := 6) rfl)) (fun _ h9 => h9) rfl dX10_day_91 ?_
          refine va_get (D := (dC, dI)) (ci := 6) (C := RX6) (T := TX6) (N := 8) hx hb hts in_X10_day_X6 hown hK hP 3 rfl rfl 5 (by decide) (hts (.fieldLink RX10 102 "MilkRound$Street" "houses" "[LMilkRound$House;") (List.mem_of_getElem? (i := 9) rfl)) (fun _ h9 => h9) rfl dX10_day_94 ?_
          refine lv_iload_n hx hb dX10_day_97 rfl (lv_at hl 0 rfl) ?_
          refine n_aldr hx hb hK hP 9 3 rfl rfl (by omega) (by decide) rfl dX10_day_98 ?_
          rcases (show kd k = 0 ∨ kd k = 1 ∨ kd k = 2 ∨ kd k = 3 ∨ kd k = 4 by omega) with ek_99 | ek_99 | ek_99 | ek_99 | ek_99
          · refine n_topr (z := a (4 + 0)) (by rw [ek_99]) ?_
            refine lv_aload_n hx hb dX10_day_99 rfl (lv_at hl 3 rfl) ?_
            refine va_get (D := (dC, dI)) (ci := 10) (C := RX10) (T := TX10) (N := 12) hx hb hts in_X10_day_X10 hown hK hP 0 rfl rfl 2 (by decide) (hts (.fieldLink RX10 26 "MilkRound" "now" "LMilkRound$Course;") (List.mem_of_getElem? (i := 2) rfl)) (fun _ h9 => h9) rfl dX10_day_100 ?_
            refine va_get (D := (dC, dI)) (ci := 2) (C := RX2) (T := TX2) (N := 9) hx hb hts in_X10_day_X2 hown hK hP 10 rfl rfl 0 (by decide) (hts (.fieldLink RX10 110 "MilkRound$Course" "lengths" "[I") (List.mem_of_getElem? (i := 8) rfl)) (fun _ h9 => h9) rfl dX10_day_103 ?_
            refine lv_iload_n hx hb dX10_day_106 rfl (lv_at hl 0 rfl) ?_
            refine n_iald hx hb hK hP 11 0 rfl rfl (by omega) (by decide) dX10_day_107 ?_
            refine n_top (y := nI (len k)) (by rw [mixF_out (Nat.lt_irrefl k)]) ?_
            refine c_calli (va_runV (As := [.int (nI (len k))]) (rest := [.int (nI (k)), .ref (a 11)]) ⟨hx, hb, hml, hown, hts⟩ (k_X3_lengthBehindDay l dC dI y A (MW y a rn n lo kp (dy + (nI (1))) (so + (nI (scF n kp kd len lo ord))) (he + (nI (hcF n kd len lo ord))) kn ak pl im lo2 dy2 so2 he2 kn2 u_11.2 kd (mixF k (dayG kd len) len) ord kh km pg len2 ord2 kh2 km2 u_11.1 tl tO bO lf wo) (EV xK xV A) (a (4 + 0)) (len k) ) (cwV 1 hts gX10_day_X3_lengthBehindDay rfl rfl rfl (by decide +kernel) ⟨Nat.le_of_ble_eq_true rfl, Nat.le_of_ble_eq_true rfl⟩) (c_preV (evN xK xV A) hK hE hS hP (va_recv hK hP (ci := 3) (q0 := 4) rfl rfl)) rfl rfl hl.1 rfl (lv_room (Nat.le_of_ble_eq_true rfl)) dX10_day_108 ⟨Nat.le_refl _, Nat.le_refl _⟩) hS (fun r_108 u_108 H locs hw_108 hP hS => ?_)
            obtain rfl := hw_108
            refine n_iast hx hb hK hP (ad_D hA0 rfl) hS 11 0 rfl rfl (by omega) (by decide) dX10_day_111 (fun H locs hP hS => ?_)
            have hP : va_P (dC, dI) vwCl (MW y a rn n lo kp (dy + (nI (1))) (so + (nI (scF n kp kd len lo ord))) (he + (nI (hcF n kd len lo ord))) kn ak pl im lo2 dy2 so2 he2 kn2 u_11.2 kd (va_up (mixF k (dayG kd len) len) k 0) ord kh km pg len2 ord2 kh2 km2 u_11.1 tl tO bO lf wo) H := hP
            refine lv_iinc (v := nI (k + 1)) (lv' := [(3, .int (nI (k + 1))), (2, .int (nI (hcF n kd len lo ord))), (1, .int (nI (scF n kp kd len lo ord))), (0, .ref (a 0))]) hx hb dX10_day_112 hl (k := 0) rfl (mr_inc _) (by decide) rfl (fun ls hl => ?_)
            refine lv_goto (tgt := 71) hx hb dX10_day_115 (by decide) ?_
            exact ih_71 (k + 1) (by omega) (by omega) _ _ _ (by rw [← mixF_s, dayG_f (by omega)]; exact hP) hS (lv_sub hl [0, 1, 2, 3] rfl)
          · refine n_topr (z := a (4 + 1)) (by rw [ek_99]) ?_
            refine lv_aload_n hx hb dX10_day_99 rfl (lv_at hl 3 rfl) ?_
            refine va_get (D := (dC, dI)) (ci := 10) (C := RX10) (T := TX10) (N := 12) hx hb hts in_X10_day_X10 hown hK hP 0 rfl rfl 2 (by decide) (hts (.fieldLink RX10 26 "MilkRound" "now" "LMilkRound$Course;") (List.mem_of_getElem? (i := 2) rfl)) (fun _ h9 => h9) rfl dX10_day_100 ?_
            refine va_get (D := (dC, dI)) (ci := 2) (C := RX2) (T := TX2) (N := 9) hx hb hts in_X10_day_X2 hown hK hP 10 rfl rfl 0 (by decide) (hts (.fieldLink RX10 110 "MilkRound$Course" "lengths" "[I") (List.mem_of_getElem? (i := 8) rfl)) (fun _ h9 => h9) rfl dX10_day_103 ?_
            refine lv_iload_n hx hb dX10_day_106 rfl (lv_at hl 0 rfl) ?_
            refine n_iald hx hb hK hP 11 0 rfl rfl (by omega) (by decide) dX10_day_107 ?_
            refine n_top (y := nI (len k)) (by rw [mixF_out (Nat.lt_irrefl k)]) ?_
            refine c_calli (va_runU (As := [.int (nI (len k))]) (rest := [.int (nI (k)), .ref (a 11)]) ⟨hx, hb, hml, hown, hts⟩ (k_X3_lengthBehindDay l dC dI y A (MW y a rn n lo kp (dy + (nI (1))) (so + (nI (scF n kp kd len lo ord))) (he + (nI (hcF n kd len lo ord))) kn ak pl im lo2 dy2 so2 he2 kn2 u_11.2 kd (mixF k (dayG kd len) len) ord kh km pg len2 ord2 kh2 km2 u_11.1 tl tO bO lf wo) (EV xK xV A) (a (4 + 1)) (len k) ) (va_cwU 1 hts gX10_day_X3_lengthBehindDay_u151X5 rfl rfl rfl rfl (by decide +kernel) ⟨Nat.le_of_ble_eq_true rfl, Nat.le_of_ble_eq_true rfl⟩) (c_preV (evN xK xV A) hK hE hS hP (va_recv hK hP (ci := 5) (q0 := 5) rfl rfl)) rfl rfl hl.1 rfl (lv_room (Nat.le_of_ble_eq_true rfl)) dX10_day_108 ⟨Nat.le_refl _, Nat.le_refl _⟩) hS (fun r_108 u_108 H locs hw_108 hP hS => ?_)
            obtain rfl := hw_108
            refine n_iast hx hb hK hP (ad_D hA0 rfl) hS 11 0 rfl rfl (by omega) (by decide) dX10_day_111 (fun H locs hP hS => ?_)
            have hP : va_P (dC, dI) vwCl (MW y a rn n lo kp (dy + (nI (1))) (so + (nI (scF n kp kd len lo ord))) (he + (nI (hcF n kd len lo ord))) kn ak pl im lo2 dy2 so2 he2 kn2 u_11.2 kd (va_up (mixF k (dayG kd len) len) k 0) ord kh km pg len2 ord2 kh2 km2 u_11.1 tl tO bO lf wo) H := hP
            refine lv_iinc (v := nI (k + 1)) (lv' := [(3, .int (nI (k + 1))), (2, .int (nI (hcF n kd len lo ord))), (1, .int (nI (scF n kp kd len lo ord))), (0, .ref (a 0))]) hx hb dX10_day_112 hl (k := 0) rfl (mr_inc _) (by decide) rfl (fun ls hl => ?_)
            refine lv_goto (tgt := 71) hx hb dX10_day_115 (by decide) ?_
            exact ih_71 (k + 1) (by omega) (by omega) _ _ _ (by rw [← mixF_s, dayG_f (by omega)]; exact hP) hS (lv_sub hl [0, 1, 2, 3] rfl)
          · refine n_topr (z := a (4 + 2)) (by rw [ek_99]) ?_
            refine lv_aload_n hx hb dX10_day_99 rfl (lv_at hl 3 rfl) ?_
            refine va_get (D := (dC, dI)) (ci := 10) (C := RX10) (T := TX10) (N := 12) hx hb hts in_X10_day_X10 hown hK hP 0 rfl rfl 2 (by decide) (hts (.fieldLink RX10 26 "MilkRound" "now" "LMilkRound$Course;") (List.mem_of_getElem? (i := 2) rfl)) (fun _ h9 => h9) rfl dX10_day_100 ?_
            refine va_get (D := (dC, dI)) (ci := 2) (C := RX2) (T := TX2) (N := 9) hx hb hts in_X10_day_X2 hown hK hP 10 rfl rfl 0 (by decide) (hts (.fieldLink RX10 110 "MilkRound$Course" "lengths" "[I") (List.mem_of_getElem? (i := 8) rfl)) (fun _ h9 => h9) rfl dX10_day_103 ?_
            refine lv_iload_n hx hb dX10_day_106 rfl (lv_at hl 0 rfl) ?_
            refine n_iald hx hb hK hP 11 0 rfl rfl (by omega) (by decide) dX10_day_107 ?_
            refine n_top (y := nI (len k)) (by rw [mixF_out (Nat.lt_irrefl k)]) ?_
            refine c_calli (va_runU (As := [.int (nI (len k))]) (rest := [.int (nI (k)), .ref (a 11)]) ⟨hx, hb, hml, hown, hts⟩ (k_X3_lengthBehindDay l dC dI y A (MW y a rn n lo kp (dy + (nI (1))) (so + (nI (scF n kp kd len lo ord))) (he + (nI (hcF n kd len lo ord))) kn ak pl im lo2 dy2 so2 he2 kn2 u_11.2 kd (mixF k (dayG kd len) len) ord kh km pg len2 ord2 kh2 km2 u_11.1 tl tO bO lf wo) (EV xK xV A) (a (4 + 2)) (len k) ) (va_cwU 1 hts gX10_day_X3_lengthBehindDay_u151X0 rfl rfl rfl rfl (by decide +kernel) ⟨Nat.le_of_ble_eq_true rfl, Nat.le_of_ble_eq_true rfl⟩) (c_preV (evN xK xV A) hK hE hS hP (va_recv hK hP (ci := 0) (q0 := 6) rfl rfl)) rfl rfl hl.1 rfl (lv_room (Nat.le_of_ble_eq_true rfl)) dX10_day_108 ⟨Nat.le_refl _, Nat.le_refl _⟩) hS (fun r_108 u_108 H locs hw_108 hP hS => ?_)
            obtain rfl := hw_108
            refine n_iast hx hb hK hP (ad_D hA0 rfl) hS 11 0 rfl rfl (by omega) (by decide) dX10_day_111 (fun H locs hP hS => ?_)
            have hP : va_P (dC, dI) vwCl (MW y a rn n lo kp (dy + (nI (1))) (so + (nI (scF n kp kd len lo ord))) (he + (nI (hcF n kd len lo ord))) kn ak pl im lo2 dy2 so2 he2 kn2 u_11.2 kd (va_up (mixF k (dayG kd len) len) k 0) ord kh km pg len2 ord2 kh2 km2 u_11.1 tl tO bO lf wo) H := hP
            refine lv_iinc (v := nI (k + 1)) (lv' := [(3, .int (nI (k + 1))), (2, .int (nI (hcF n kd len lo ord))), (1, .int (nI (scF n kp kd len lo ord))), (0, .ref (a 0))]) hx hb dX10_day_112 hl (k := 0) rfl (mr_inc _) (by decide) rfl (fun ls hl => ?_)
            refine lv_goto (tgt := 71) hx hb dX10_day_115 (by decide) ?_
            exact ih_71 (k + 1) (by omega) (by omega) _ _ _ (by rw [← mixF_s, dayG_f (by omega)]; exact hP) hS (lv_sub hl [0, 1, 2, 3] rfl)
          · refine n_topr (z := a (4 + 3)) (by rw [ek_99]) ?_
            refine lv_aload_n hx hb dX10_day_99 rfl (lv_at hl 3 rfl) ?_
            refine va_get (D := (dC, dI)) (ci := 10) (C := RX10) (T := TX10) (N := 12) hx hb hts in_X10_day_X10 hown hK hP 0 rfl rfl 2 (by decide) (hts (.fieldLink RX10 26 "MilkRound" "now" "LMilkRound$Course;") (List.mem_of_getElem? (i := 2) rfl)) (fun _ h9 => h9) rfl dX10_day_100 ?_
            refine va_get (D := (dC, dI)) (ci := 2) (C := RX2) (T := TX2) (N := 9) hx hb hts in_X10_day_X2 hown hK hP 10 rfl rfl 0 (by decide) (hts (.fieldLink RX10 110 "MilkRound$Course" "lengths" "[I") (List.mem_of_getElem? (i := 8) rfl)) (fun _ h9 => h9) rfl dX10_day_103 ?_
            refine lv_iload_n hx hb dX10_day_106 rfl (lv_at hl 0 rfl) ?_
            refine n_iald hx hb hK hP 11 0 rfl rfl (by omega) (by decide) dX10_day_107 ?_
            refine n_top (y := nI (len k)) (by rw [mixF_out (Nat.lt_irrefl k)]) ?_
            refine c_calli (va_runU (As := [.int (nI (len k))]) (rest := [.int (nI (k)), .ref (a 11)]) ⟨hx, hb, hml, hown, hts⟩ (k_X1_lengthBehindDay l dC dI y A (MW y a rn n lo kp (dy + (nI (1))) (so + (nI (scF n kp kd len lo ord))) (he + (nI (hcF n kd len lo ord))) kn ak pl im lo2 dy2 so2 he2 kn2 u_11.2 kd (mixF k (dayG kd len) len) ord kh km pg len2 ord2 kh2 km2 u_11.1 tl tO bO lf wo) (EV xK xV A) (a (4 + 3)) (len k) hlk) (va_cwO 1 hts gX10_day_X1_lengthBehindDay_u151X1 rfl rfl rfl (List.mem_of_getElem? (i := 122) rfl) (by decide +kernel) ⟨Nat.le_of_ble_eq_true rfl, Nat.le_of_ble_eq_true rfl⟩) (c_preV (evN xK xV A) hK hE hS hP (va_recv hK hP (ci := 1) (q0 := 7) rfl rfl)) rfl rfl hl.1 rfl (lv_room (Nat.le_of_ble_eq_true rfl)) dX10_day_108 ⟨Nat.le_refl _, Nat.le_refl _⟩) hS (fun r_108 u_108 H locs hw_108 hP hS => ?_)
            obtain rfl := hw_108
            refine n_iast hx hb hK hP (ad_D hA0 rfl) hS 11 0 rfl rfl (by omega) (by decide) dX10_day_111 (fun H locs hP hS => ?_)
            have hP : va_P (dC, dI) vwCl (MW y a rn n lo kp (dy + (nI (1))) (so + (nI (scF n kp kd len lo ord))) (he + (nI (hcF n kd len lo ord))) kn ak pl im lo2 dy2 so2 he2 kn2 u_11.2 kd (va_up (mixF k (dayG kd len) len) k ((len k) / 2)) ord kh km pg len2 ord2 kh2 km2 u_11.1 tl tO bO lf wo) H := hP
            refine lv_iinc (v := nI (k + 1)) (lv' := [(3, .int (nI (k + 1))), (2, .int (nI (hcF n kd len lo ord))), (1, .int (nI (scF n kp kd len lo ord))), (0, .ref (a 0))]) hx hb dX10_day_112 hl (k := 0) rfl (mr_inc _) (by decide) rfl (fun ls hl => ?_)
            refine lv_goto (tgt := 71) hx hb dX10_day_115 (by decide) ?_
            exact ih_71 (k + 1) (by omega) (by omega) _ _ _ (by rw [← mixF_s, dayG_t (by omega)]; exact hP) hS (lv_sub hl [0, 1, 2, 3] rfl)
          · refine n_topr (z := a (4 + 4)) (by rw [ek_99]) ?_
            refine lv_aload_n hx hb dX10_day_99 rfl (lv_at hl 3 rfl) ?_
            refine va_get (D := (dC, dI)) (ci := 10) (C := RX10) (T := TX10) (N := 12) hx hb hts in_X10_day_X10 hown hK hP 0 rfl rfl 2 (by decide) (hts (.fieldLink RX10 26 "MilkRound" "now" "LMilkRound$Course;") (List.mem_of_getElem? (i := 2) rfl)) (fun _ h9 => h9) rfl dX10_day_100 ?_
            refine va_get (D := (dC, dI)) (ci := 2) (C := RX2) (T := TX2) (N := 9) hx hb hts in_X10_day_X2 hown hK hP 10 rfl rfl 0 (by decide) (hts (.fieldLink RX10 110 "MilkRound$Course" "lengths" "[I") (List.mem_of_getElem? (i := 8) rfl)) (fun _ h9 => h9) rfl dX10_day_103 ?_
            refine lv_iload_n hx hb dX10_day_106 rfl (lv_at hl 0 rfl) ?_
            refine n_iald hx hb hK hP 11 0 rfl rfl (by omega) (by decide) dX10_day_107 ?_
            refine n_top (y := nI (len k)) (by rw [mixF_out (Nat.lt_irrefl k)]) ?_
            refine c_calli (va_runU (As := [.int (nI (len k))]) (rest := [.int (nI (k)), .ref (a 11)]) ⟨hx, hb, hml, hown, hts⟩ (k_X3_lengthBehindDay l dC dI y A (MW y a rn n lo kp (dy + (nI (1))) (so + (nI (scF n kp kd len lo ord))) (he + (nI (hcF n kd len lo ord))) kn ak pl im lo2 dy2 so2 he2 kn2 u_11.2 kd (mixF k (dayG kd len) len) ord kh km pg len2 ord2 kh2 km2 u_11.1 tl tO bO lf wo) (EV xK xV A) (a (4 + 4)) (len k) ) (va_cwU 1 hts gX10_day_X3_lengthBehindDay_u151X9 rfl rfl rfl rfl (by decide +kernel) ⟨Nat.le_of_ble_eq_true rfl, Nat.le_of_ble_eq_true rfl⟩) (c_preV (evN xK xV A) hK hE hS hP (va_recv hK hP (ci := 9) (q0 := 8) rfl rfl)) rfl rfl hl.1 rfl (lv_room (Nat.le_of_ble_eq_true rfl)) dX10_day_108 ⟨Nat.le_refl _, Nat.le_refl _⟩) hS (fun r_108 u_108 H locs hw_108 hP hS => ?_)
            obtain rfl := hw_108
            refine n_iast hx hb hK hP (ad_D hA0 rfl) hS 11 0 rfl rfl (by omega) (by decide) dX10_day_111 (fun H locs hP hS => ?_)
            have hP : va_P (dC, dI) vwCl (MW y a rn n lo kp (dy + (nI (1))) (so + (nI (scF n kp kd len lo ord))) (he + (nI (hcF n kd len lo ord))) kn ak pl im lo2 dy2 so2 he2 kn2 u_11.2 kd (va_up (mixF k (dayG kd len) len) k 0) ord kh km pg len2 ord2 kh2 km2 u_11.1 tl tO bO lf wo) H := hP
            refine lv_iinc (v := nI (k + 1)) (lv' := [(3, .int (nI (k + 1))), (2, .int (nI (hcF n kd len lo ord))), (1, .int (nI (scF n kp kd len lo ord))), (0, .ref (a 0))]) hx hb dX10_day_112 hl (k := 0) rfl (mr_inc _) (by decide) rfl (fun ls hl => ?_)
            refine lv_goto (tgt := 71) hx hb dX10_day_115 (by decide) ?_
            exact ih_71 (k + 1) (by omega) (by omega) _ _ _ (by rw [← mixF_s, dayG_f (by omega)]; exact hP) hS (lv_sub hl [0, 1, 2, 3] rfl)
    exact loop_71 _ 0 (Nat.zero_le _) (Nat.lt_succ_self _) _ _ _ (by rw [mixF_0]; exact hP) hS (lv_sub hl [0, 1, 2, 3] rfl)
  · refine lv_bipush (v := (-103)) hx hb dX10_day_7 (by decide) ?_
    have hP : va_P (dC, dI) vwCl (MW y a rn n lo kp (bif decide (n = 0) then dy else dy + nI 1) (bif decide (n = 0) then so else so + nI (scF n kp kd len lo ord)) (bif decide (n = 0) then he else he + nI (hcF n kd len lo ord)) kn ak pl im lo2 dy2 so2 he2 kn2 ((cw, ma).2) kd (bif decide (n = 0) then len else dayL n kd len) ord kh km pg len2 ord2 kh2 km2 ((cw, ma).1) tl tO bO lf wo) H := by
      rw [c_4]
      exact hP
    exact c_iret hx hb hr hlocks hK hS (cw, ma) hP ⟨by rw [c_4]; rfl, hcw⟩ dX10_day_9
theorem in_X10_canHaveBeen_X10 : ∀ w ∈ wsX100, w ∈ wsX10_canHaveBeen := fun w h => List.mem_cons_of_mem _ (List.mem_append_left _ (List.mem_append_left _ (List.mem_append_left _ (List.mem_append_right _ h))))
theorem in_X10_canHaveBeen_X2 : ∀ w ∈ wsX20, w ∈ wsX10_canHaveBeen := fun w h => List.mem_cons_of_mem _ (List.mem_append_left _ (List.mem_append_left _ (List.mem_append_right _ h)))
theorem in_X10_canHaveBeen_X8 : ∀ w ∈ wsX80, w ∈ wsX10_canHaveBeen := fun w h => List.mem_cons_of_mem _ (List.mem_append_left _ (List.mem_append_right _ h))
set_option maxHeartbeats 4000000 in
set_option maxRecDepth 100000 in
theorem k_X10_canHaveBeen (l : Launch) (dC : Nat → ClassId) (dI : Nat → Nat → Nat) (y : Nat → ClassId) (A : Nat → Prop) (a : Nat → Nat) (hA0 : ad_ok A a 34) (xK : Nat → Nat) (xV : Nat → Nat) (rn : Nat) (n : Nat) (lo : Int32) (kp : Nat) (dy : Int32) (so : Int32) (he : Int32) (kn : Nat) (ak : Nat) (pl : Nat) (im : Bool) (lo2 : Int32) (dy2 : Int32) (so2 : Int32) (he2 : Int32) (kn2 : Nat) (ma : Nat) (kd : Nat → Nat) (len : Nat → Nat) (ord : Nat → Nat) (kh : Nat → Nat) (km : Nat → Nat) (pg : Nat → Nat) (len2 : Nat → Nat) (ord2 : Nat → Nat) (kh2 : Nat → Nat) (km2 : Nat → Nat) (cw : Nat → Nat) (tl : Nat → Nat) (tO : Nat → Nat) (bO : Nat → Nat) (lf : Nat → Nat → Nat) (wo : Nat → Nat) (sx : Int32) (hn : n ≤ 6) (hord : PermOn n ord) (hlen : ∀ j, len j ≤ 9) (hkd : ∀ j, kd j ≤ 4) (hcw : ∀ j, cw j ≤ 126) (hkn : kn ≤ 6) (hkh : ∀ i, i < kn → kh i < n) (hkm : ∀ i, km i ≤ 150) : Met l yX10_canHaveBeen wsX10_canHaveBeen ({ frames := 4, cells := 0, slots := 0, locals := 92 } : Room) (c_P (dC, dI) vwCl (TY y) (EV xK xV A) (MW y a rn n lo kp dy so he kn ak pl im lo2 dy2 so2 he2 kn2 ma kd len ord kh km pg len2 ord2 kh2 km2 cw tl tO bO lf wo) [.ref (a 0), .int (sx)]) (va_Qi (fun (r : Int32) (u : (Nat → Nat) × Nat) => r = bI (knB n kd len ord kn kh km sx) ∧ CamOk kd len sx ord n u.1) (c_B (dC, dI) vwCl (TY y) (fun (u : (Nat → Nat) × Nat) => (MW y a rn n lo kp dy so he kn ak pl im lo2 dy2 so2 he2 kn2 u.2 kd len ord kh km pg len2 ord2 kh2 km2 u.1 tl tO bO lf wo))) A) 0 0 A := by
  refine Met.ofW (cc := cX10_canHaveBeen) (maxL := 4) (ret := (some .boolean)) (by decide) rfl ?_
  intro p e s m args below meth c s₁ BB hml hv
  obtain ⟨rfl, hP, hK, hE⟩ := hv
  have hx := BB.exec
  have hb := BB.bytes
  have hr := BB.returns
  have hts := atoms_spec (ws := wsX10_canHaveBeen) BB.pre
  have hown : s.vm.findClass RX10 = some m.cls := findClass_of_methodNamed BB.named
  have hlocks := BB.notSynchronized
  have hS : va_S A s.heap s.heap [] := va_S.rf
  have hl := lv_entry ([.ref (a 0), .int (sx)]) (n := 4) (Nat.le_of_ble_eq_true rfl)
  rw [lg_entry_eq]
  generalize (lg_sl ([.ref (a 0), .int (sx)]) ++ List.replicate (4 - (lg_sl ([.ref (a 0), .int (sx)])).length) Slot.unset).toArray = ls at hl ⊢
  have hl : lv_has ls 4 [(0, .ref (a 0)), (1, .int (sx))] := hl
  refine lv_aload_n hx hb dX10_canHaveBeen_0 rfl (lv_at hl 0 rfl) ?_
  refine va_get (D := (dC, dI)) (ci := 10) (C := RX10) (T := TX10) (N := 12) hx hb hts in_X10_canHaveBeen_X10 hown hK hP 0 rfl rfl 4 (by decide) (hts (.fieldLink RX10 38 "MilkRound" "walk" "LMilkRound$Walk;") (List.mem_of_getElem? (i := 1) rfl)) (fun _ h9 => h9) rfl dX10_canHaveBeen_1 ?_
  refine lv_aload_n hx hb dX10_canHaveBeen_4 rfl (lv_at hl 0 rfl) ?_
  refine va_get (D := (dC, dI)) (ci := 10) (C := RX10) (T := TX10) (N := 12) hx hb hts in_X10_canHaveBeen_X10 hown hK hP 0 rfl rfl 2 (by decide) (hts (.fieldLink RX10 26 "MilkRound" "now" "LMilkRound$Course;") (List.mem_of_getElem? (i := 2) rfl)) (fun _ h9 => h9) rfl dX10_canHaveBeen_5 ?_
  refine va_get (D := (dC, dI)) (ci := 2) (C := RX2) (T := TX2) (N := 9) hx hb hts in_X10_canHaveBeen_X2 hown hK hP 10 rfl rfl 0 (by decide) (hts (.fieldLink RX10 110 "MilkRound$Course" "lengths" "[I") (List.mem_of_getElem? (i := 3) rfl)) (fun _ h9 => h9) rfl dX10_canHaveBeen_8 ?_
  refine lv_aload_n hx hb dX10_canHaveBeen_11 rfl (lv_at hl 0 rfl) ?_
  refine va_get (D := (dC, dI)) (ci := 10) (C := RX10) (T := TX10) (N := 12) hx hb hts in_X10_canHaveBeen_X10 hown hK hP 0 rfl rfl 2 (by decide) (hts (.fieldLink RX10 26 "MilkRound" "now" "LMilkRound$Course;") (List.mem_of_getElem? (i := 2) rfl)) (fun _ h9 => h9) rfl dX10_canHaveBeen_12 ?_
  refine va_get (D := (dC, dI)) (ci := 2) (C := RX2) (T := TX2) (N := 9) hx hb hts in_X10_canHaveBeen_X2 hown hK hP 10 rfl rfl 1 (by decide) (hts (.fieldLink RX10 123 "MilkRound$Course" "order" "[I") (List.mem_of_getElem? (i := 4) rfl)) (fun _ h9 => h9) rfl dX10_canHaveBeen_15 ?_
  refine lv_iload_n hx hb dX10_canHaveBeen_18 rfl (lv_at hl 1 rfl) ?_
  refine c_callv (va_runV (As := [.ref (a 11), .ref (a 12), .int (sx)]) (rest := []) ⟨hx, hb, hml, hown, hts⟩ (k_X8_go_a l dC dI y A a hA0 xK xV rn n lo kp dy so he kn ak pl im lo2 dy2 so2 he2 kn2 ma kd len ord kh km pg len2 ord2 kh2 km2 cw tl tO bO lf wo sx hn hord hlen hkd hcw) (cwV 3 hts gX10_canHaveBeen_X8_go rfl rfl rfl (by decide +kernel) ⟨Nat.le_of_ble_eq_true rfl, Nat.le_of_ble_eq_true rfl⟩) (c_preV (evN xK xV A) hK hE hS hP (va_recv hK hP (ci := 8) (q0 := 20) rfl rfl)) rfl rfl hl.1 rfl (lv_room (Nat.le_of_ble_eq_true rfl)) dX10_canHaveBeen_19 ⟨Nat.le_refl _, Nat.le_refl _⟩) hS (fun u_19 H locs hw_19 hP hS => ?_)
  have hP : va_P (dC, dI) vwCl (MW y a rn n lo kp dy so he kn ak pl im lo2 dy2 so2 he2 kn2 u_19.2 kd len ord kh km pg len2 ord2 kh2 km2 u_19.1 tl tO bO lf wo) H := hP
  refine lv_iconst (v := nI (0)) hx hb dX10_canHaveBeen_22 (by decide) ?_
  refine lv_istore_n (lv' := [(2, .int (nI (0))), (0, .ref (a 0)), (1, .int (sx))]) hx hb dX10_canHaveBeen_23 rfl hl (by decide) rfl (fun ls hl => ?_)
  have loop_24 : ∀ (dd_24 : Nat) (k : Nat) (hk : k ≤ kn) (hal : allB (knP n kd len ord kh km sx) k = true), kn - k < dd_24 → ∀ (H : Heap) (locs : List Loc) (ls : Array Slot), va_P (dC, dI) vwCl (MW y a rn n lo kp dy so he kn ak pl im lo2 dy2 so2 he2 kn2 u_19.2 kd len ord kh km pg len2 ord2 kh2 km2 u_19.1 tl tO bO lf wo) H → va_S A s.heap H locs → lv_has ls 4 [(2, .int (nI (k))), (0, .ref (a 0)), (1, .int (sx))] → W p l e (headSpec wsX10_canHaveBeen ({ frames := 4, cells := 0, slots := 0, locals := 92 } : Room)).room s m [.ref (a 0), .int (sx)].toArray below meth c H locs 0 0 (MQ below (va_Qi (fun (r : Int32) (u : (Nat → Nat) × Nat) => r = bI (knB n kd len ord kn kh km sx) ∧ CamOk kd len sx ord n u.1) (c_B (dC, dI) vwCl (TY y) (fun (u : (Nat → Nat) × Nat) => (MW y a rn n lo kp dy so he kn ak pl im lo2 dy2 so2 he2 kn2 u.2 kd len ord kh km pg len2 ord2 kh2 km2 u.1 tl tO bO lf wo))) A) [.ref (a 0), .int (sx)].toArray s 0 0 A) (F0 m 24 ls []) := by
    intro dd_24
    induction dd_24 with
    | zero => intro k hk hal hd; exact absurd hd (Nat.not_lt_zero _)
    | succ dd_24 ih_24 =>
      intro k hk hal hd_24 H locs ls hP hS hl
      refine lv_iload_n hx hb dX10_canHaveBeen_24 rfl (lv_at hl 0 rfl) ?_
      refine lv_aload_n hx hb dX10_canHaveBeen_25 rfl (lv_at hl 1 rfl) ?_
      refine va_get (D := (dC, dI)) (ci := 10) (C := RX10) (T := TX10) (N := 12) hx hb hts in_X10_canHaveBeen_X10 hown hK hP 0 rfl rfl 2 (by decide) (hts (.fieldLink RX10 26 "MilkRound" "now" "LMilkRound$Course;") (List.mem_of_getElem? (i := 2) rfl)) (fun _ h9 => h9) rfl dX10_canHaveBeen_26 ?_
      refine va_get (D := (dC, dI)) (ci := 2) (C := RX2) (T := TX2) (N := 9) hx hb hts in_X10_canHaveBeen_X2 hown hK hP 10 rfl rfl 4 (by decide) (hts (.fieldLink RX10 163 "MilkRound$Course" "knownSize" "I") (List.mem_of_getElem? (i := 5) rfl)) (fun _ h9 => h9) rfl dX10_canHaveBeen_29 ?_
      refine n_icmp_ge (tgt := 85) hx hb dX10_canHaveBeen_32 (by decide) (by omega) (by omega) (fun c_32 => ?_) (fun c_32 => ?_)
      · refine lv_iconst (v := nI (1)) hx hb dX10_canHaveBeen_85 (by decide) ?_
        exact c_zret hx hb hr hlocks hK hS u_19 rfl hP ⟨bI_1 ((show k = kn by omega) ▸ hal), hw_19.1⟩ dX10_canHaveBeen_86
      · have hkk := hkh k (by omega)
        have hc9 := hw_19.1.1 (kh k) hkk
        have hc8 := hw_19.1.2 (kh k)
        have hc7 := hkm k
        refine lv_aload_n hx hb dX10_canHaveBeen_35 rfl (lv_at hl 1 rfl) ?_
        refine va_get (D := (dC, dI)) (ci := 10) (C := RX10) (T := TX10) (N := 12) hx hb hts in_X10_canHaveBeen_X10 hown hK hP 0 rfl rfl 2 (by decide) (hts (.fieldLink RX10 26 "MilkRound" "now" "LMilkRound$Course;") (List.mem_of_getElem? (i := 2) rfl)) (fun _ h9 => h9) rfl dX10_canHaveBeen_36 ?_
        refine va_get (D := (dC, dI)) (ci := 2) (C := RX2) (T := TX2) (N := 9) hx hb hts in_X10_canHaveBeen_X2 hown hK hP 10 rfl rfl 2 (by decide) (hts (.fieldLink RX10 243 "MilkRound$Course" "knownHouses" "[I") (List.mem_of_getElem? (i := 6) rfl)) (fun _ h9 => h9) rfl dX10_canHaveBeen_39 ?_
        refine lv_iload_n hx hb dX10_canHaveBeen_42 rfl (lv_at hl 0 rfl) ?_
        refine n_iald hx hb hK hP 13 0 rfl rfl (by omega) (by decide) dX10_canHaveBeen_43 ?_
        refine lv_istore_n (lv' := [(3, .int (nI (kh k))), (2, .int (nI (k))), (0, .ref (a 0)), (1, .int (sx))]) hx hb dX10_canHaveBeen_44 rfl hl (by decide) rfl (fun ls hl => ?_)
        refine lv_aload_n hx hb dX10_canHaveBeen_45 rfl (lv_at hl 2 rfl) ?_
        refine va_get (D := (dC, dI)) (ci := 10) (C := RX10) (T := TX10) (N := 12) hx hb hts in_X10_canHaveBeen_X10 hown hK hP 0 rfl rfl 1 (by decide) (hts (.fieldLink RX10 19 "MilkRound" "street" "LMilkRound$Street;") (List.mem_of_getElem? (i := 7) rfl)) (fun _ h9 => h9) rfl dX10_canHaveBeen_46 ?_
        refine lv_iload_n hx hb dX10_canHaveBeen_49 rfl (lv_at hl 0 rfl) ?_
        refine c_calli (va_runV (As := [.int (nI (kh k))]) (rest := []) ⟨hx, hb, hml, hown, hts⟩ (k_X6_has l dC dI y A a hA0 xK xV rn n lo kp dy so he kn ak pl im lo2 dy2 so2 he2 kn2 u_19.2 kd len ord kh km pg len2 ord2 kh2 km2 u_19.1 tl tO bO lf wo (nI (kh k)) ) (cwV 1 hts gX10_canHaveBeen_X6_has rfl rfl rfl (by decide +kernel) ⟨Nat.le_of_ble_eq_true rfl, Nat.le_of_ble_eq_true rfl⟩) (c_preV (evN xK xV A) hK hE hS hP (va_recv hK hP (ci := 6) (q0 := 3) rfl rfl)) rfl rfl hl.1 rfl (lv_room (Nat.le_of_ble_eq_true rfl)) dX10_canHaveBeen_50 ⟨Nat.le_refl _, Nat.le_refl _⟩) hS (fun r_50 u_50 H locs hw_50 hP hS => ?_)
        obtain rfl := hw_50
        refine n_bif_eq (tgt := 77) hx hb dX10_canHaveBeen_53 (by decide) (fun c_53 => ?_) (fun c_53 => ?_)
        · exact absurd c_53 (by rw [isH_nat (by omega) (by omega), decide_eq_true hkk]; decide)
        · refine lv_aload_n hx hb dX10_canHaveBeen_56 rfl (lv_at hl 2 rfl) ?_
          refine va_get (D := (dC, dI)) (ci := 10) (C := RX10) (T := TX10) (N := 12) hx hb hts in_X10_canHaveBeen_X10 hown hK hP 0 rfl rfl 4 (by decide) (hts (.fieldLink RX10 38 "MilkRound" "walk" "LMilkRound$Walk;") (List.mem_of_getElem? (i := 1) rfl)) (fun _ h9 => h9) rfl dX10_canHaveBeen_57 ?_
          refine va_get (D := (dC, dI)) (ci := 8) (C := RX8) (T := TX8) (N := 3) hx hb hts in_X10_canHaveBeen_X8 hown hK hP 20 rfl rfl 1 (by decide) (hts (.fieldLink RX10 204 "MilkRound$Walk" "came" "[I") (List.mem_of_getElem? (i := 8) rfl)) (fun _ h9 => h9) rfl dX10_canHaveBeen_60 ?_
          refine lv_iload_n hx hb dX10_canHaveBeen_63 rfl (lv_at hl 0 rfl) ?_
          refine n_iald hx hb hK hP 21 0 rfl rfl (by omega) (by decide) dX10_canHaveBeen_64 ?_
          refine lv_aload_n hx hb dX10_canHaveBeen_65 rfl (lv_at hl 2 rfl) ?_
          refine va_get (D := (dC, dI)) (ci := 10) (C := RX10) (T := TX10) (N := 12) hx hb hts in_X10_canHaveBeen_X10 hown hK hP 0 rfl rfl 2 (by decide) (hts (.fieldLink RX10 26 "MilkRound" "now" "LMilkRound$Course;") (List.mem_of_getElem? (i := 2) rfl)) (fun _ h9 => h9) rfl dX10_canHaveBeen_66 ?_
          refine va_get (D := (dC, dI)) (ci := 2) (C := RX2) (T := TX2) (N := 9) hx hb hts in_X10_canHaveBeen_X2 hown hK hP 10 rfl rfl 3 (by decide) (hts (.fieldLink RX10 246 "MilkRound$Course" "knownMinutes" "[I") (List.mem_of_getElem? (i := 9) rfl)) (fun _ h9 => h9) rfl dX10_canHaveBeen_69 ?_
          refine lv_iload_n hx hb dX10_canHaveBeen_72 rfl (lv_at hl 1 rfl) ?_
          refine n_iald hx hb hK hP 14 0 rfl rfl (by omega) (by decide) dX10_canHaveBeen_73 ?_
          refine n_icmp_eq (tgt := 79) hx hb dX10_canHaveBeen_74 (by decide) (by omega) (by omega) (fun c_74 => ?_) (fun c_74 => ?_)
          · refine lv_iinc (v := nI (k + 1)) (lv' := [(2, .int (nI (k + 1))), (3, .int (nI (kh k))), (0, .ref (a 0)), (1, .int (sx))]) hx hb dX10_canHaveBeen_79 hl (k := 1) rfl (mr_inc _) (by decide) rfl (fun ls hl => ?_)
            refine lv_goto (tgt := 24) hx hb dX10_canHaveBeen_82 (by decide) ?_
            exact ih_24 (k + 1) (by omega) (by show (allB (knP n kd len ord kh km sx) k && knP n kd len ord kh km sx k) = true; rw [hal]; exact decide_eq_true (by rw [← hc9]; exact c_74)) (by omega) _ _ _ hP hS (lv_sub hl [0, 2, 3] rfl)
          · refine lv_iconst (v := nI (0)) hx hb dX10_canHaveBeen_77 (by decide) ?_
            exact c_zret hx hb hr hlocks hK hS u_19 rfl hP ⟨bI_0 (allB_false (k := k) (decide_eq_false (fun q => c_74 (by rw [hc9]; exact q))) kn (by omega)), hw_19.1⟩ dX10_canHaveBeen_78
  exact loop_24 _ 0 (Nat.zero_le _) rfl (Nat.lt_succ_self _) _ _ _ hP hS (lv_sub hl [0, 1, 2] rfl)
theorem in_X10_howManySets_X10 : ∀ w ∈ wsX100, w ∈ wsX10_howManySets := fun w h => List.mem_cons_of_mem _ (List.mem_append_left _ (List.mem_append_left _ (List.mem_append_left _ (List.mem_append_right _ h))))
theorem in_X10_howManySets_X6 : ∀ w ∈ wsX60, w ∈ wsX10_howManySets := fun w h => List.mem_cons_of_mem _ (List.mem_append_left _ (List.mem_append_left _ (List.mem_append_right _ h)))
set_option maxHeartbeats 4000000 in
set_option maxRecDepth 100000 in
theorem k_X10_howManySets (l : Launch) (dC : Nat → ClassId) (dI : Nat → Nat → Nat) (y : Nat → ClassId) (A : Nat → Prop) (a : Nat → Nat) (hA0 : ad_ok A a 34) (xK : Nat → Nat) (xV : Nat → Nat) (rn : Nat) (n : Nat) (lo : Int32) (kp : Nat) (dy : Int32) (so : Int32) (he : Int32) (kn : Nat) (ak : Nat) (pl : Nat) (im : Bool) (lo2 : Int32) (dy2 : Int32) (so2 : Int32) (he2 : Int32) (kn2 : Nat) (ma : Nat) (kd : Nat → Nat) (len : Nat → Nat) (ord : Nat → Nat) (kh : Nat → Nat) (km : Nat → Nat) (pg : Nat → Nat) (len2 : Nat → Nat) (ord2 : Nat → Nat) (kh2 : Nat → Nat) (km2 : Nat → Nat) (cw : Nat → Nat) (tl : Nat → Nat) (tO : Nat → Nat) (bO : Nat → Nat) (lf : Nat → Nat → Nat) (wo : Nat → Nat) (hn : n ≤ 6) (hord : PermOn n ord) (hlen : ∀ j, len j ≤ 9) (hkd : ∀ j, kd j ≤ 4) (hcw : ∀ j, cw j ≤ 126) (hkn : kn ≤ 6) (hkh : ∀ i, i < kn → kh i < n) (hkm : ∀ i, km i ≤ 150) : Met l yX10_howManySets wsX10_howManySets ({ frames := 5, cells := 0, slots := 0, locals := 115 } : Room) (c_P (dC, dI) vwCl (TY y) (EV xK xV A) (MW y a rn n lo kp dy so he kn ak pl im lo2 dy2 so2 he2 kn2 ma kd len ord kh km pg len2 ord2 kh2 km2 cw tl tO bO lf wo) [.ref (a 0)]) (va_Qi (fun (r : Int32) (u : (Nat → Nat) × Nat) => r = nI (ctB (okS n kd len ord kn kh km) (2 ^ n)) ∧ ∀ j, u.1 j ≤ 126) (c_B (dC, dI) vwCl (TY y) (fun (u : (Nat → Nat) × Nat) => (MW y a rn n lo kp dy so he kn ak pl im lo2 dy2 so2 he2 kn2 u.2 kd len ord kh km pg len2 ord2 kh2 km2 u.1 tl tO bO lf wo))) A) 0 0 A := by
  refine Met.ofW (cc := cX10_howManySets) (maxL := 3) (ret := (some .int)) (by decide) rfl ?_
  intro p e s m args below meth c s₁ BB hml hv
  obtain ⟨rfl, hP, hK, hE⟩ := hv
  have hx := BB.exec
  have hb := BB.bytes
  have hr := BB.returns
  have hts := atoms_spec (ws := wsX10_howManySets) BB.pre
  have hown : s.vm.findClass RX10 = some m.cls := findClass_of_methodNamed BB.named
  have hlocks := BB.notSynchronized
  have hS : va_S A s.heap s.heap [] := va_S.rf
  have hl := lv_entry ([.ref (a 0)]) (n := 3) (Nat.le_of_ble_eq_true rfl)
  rw [lg_entry_eq]
  generalize (lg_sl ([.ref (a 0)]) ++ List.replicate (3 - (lg_sl ([.ref (a 0)])).length) Slot.unset).toArray = ls at hl ⊢
  have hl : lv_has ls 3 [(0, .ref (a 0))] := hl
  have hp6 := pow_le6 n hn
  refine lv_iconst (v := nI (0)) hx hb dX10_howManySets_0 (by decide) ?_
  refine lv_istore_n (lv' := [(1, .int (nI (0))), (0, .ref (a 0))]) hx hb dX10_howManySets_1 rfl hl (by decide) rfl (fun ls hl => ?_)
  refine lv_iconst (v := nI (0)) hx hb dX10_howManySets_2 (by decide) ?_
  refine lv_istore_n (lv' := [(2, .int (nI (0))), (1, .int (nI (0))), (0, .ref (a 0))]) hx hb dX10_howManySets_3 rfl hl (by decide) rfl (fun ls hl => ?_)
  have loop_4 : ∀ (dd_4 : Nat) (k : Nat) (mm : Nat) (f : Nat → Nat) (m9 : Nat) (hk : k ≤ 2 ^ n) (hf : ∀ j, f j ≤ 126) (hm : mm = ctB (okS n kd len ord kn kh km) k), 2 ^ n - k < dd_4 → ∀ (H : Heap) (locs : List Loc) (ls : Array Slot), va_P (dC, dI) vwCl (MW y a rn n lo kp dy so he kn ak pl im lo2 dy2 so2 he2 kn2 m9 kd len ord kh km pg len2 ord2 kh2 km2 f tl tO bO lf wo) H → va_S A s.heap H locs → lv_has ls 3 [(2, .int (nI (k))), (1, .int (nI (mm))), (0, .ref (a 0))] → W p l e (headSpec wsX10_howManySets ({ frames := 5, cells := 0, slots := 0, locals := 115 } : Room)).room s m [.ref (a 0)].toArray below meth c H locs 0 0 (MQ below (va_Qi (fun (r : Int32) (u : (Nat → Nat) × Nat) => r = nI (ctB (okS n kd len ord kn kh km) (2 ^ n)) ∧ ∀ j, u.1 j ≤ 126) (c_B (dC, dI) vwCl (TY y) (fun (u : (Nat → Nat) × Nat) => (MW y a rn n lo kp dy so he kn ak pl im lo2 dy2 so2 he2 kn2 u.2 kd len ord kh km pg len2 ord2 kh2 km2 u.1 tl tO bO lf wo))) A) [.ref (a 0)].toArray s 0 0 A) (F0 m 4 ls []) := by
    intro dd_4
    induction dd_4 with
    | zero => intro k mm f m9 hk hf hm hd; exact absurd hd (Nat.not_lt_zero _)
    | succ dd_4 ih_4 =>
      intro k mm f m9 hk hf hm hd_4 H locs ls hP hS hl
      refine lv_iload_n hx hb dX10_howManySets_4 rfl (lv_at hl 0 rfl) ?_
      refine lv_iconst (v := nI (1)) hx hb dX10_howManySets_5 (by decide) ?_
      refine lv_aload_n hx hb dX10_howManySets_6 rfl (lv_at hl 2 rfl) ?_
      refine va_get (D := (dC, dI)) (ci := 10) (C := RX10) (T := TX10) (N := 12) hx hb hts in_X10_howManySets_X10 hown hK hP 0 rfl rfl 1 (by decide) (hts (.fieldLink RX10 19 "MilkRound" "street" "LMilkRound$Street;") (List.mem_of_getElem? (i := 1) rfl)) (fun _ h9 => h9) rfl dX10_howManySets_7 ?_
      refine va_get (D := (dC, dI)) (ci := 6) (C := RX6) (T := TX6) (N := 8) hx hb hts in_X10_howManySets_X6 hown hK hP 3 rfl rfl 6 (by decide) (hts (.fieldLink RX10 89 "MilkRound$Street" "size" "I") (List.mem_of_getElem? (i := 2) rfl)) (fun _ h9 => h9) rfl dX10_howManySets_10 ?_
      refine lv_ishl hx hb dX10_howManySets_13 ?_
      refine n_top (y := nI (2 ^ n)) (shl1 n hn) ?_
      refine n_icmp_ge (tgt := 34) hx hb dX10_howManySets_14 (by decide) (by omega) (by omega) (fun c_14 => ?_) (fun c_14 => ?_)
      · refine lv_iload_n hx hb dX10_howManySets_34 rfl (lv_at hl 1 rfl) ?_
        have hke : k = 2 ^ n := by omega
        exact c_iret hx hb hr hlocks hK hS (f, m9) hP ⟨by rw [hm, hke], hf⟩ dX10_howManySets_35
      · refine lv_aload_n hx hb dX10_howManySets_17 rfl (lv_at hl 2 rfl) ?_
        refine lv_iload_n hx hb dX10_howManySets_18 rfl (lv_at hl 0 rfl) ?_
        refine c_calli (va_runV (As := [.int (nI (k))]) (rest := []) ⟨hx, hb, hml, hown, hts⟩ (k_X10_canHaveBeen l dC dI y A a hA0 xK xV rn n lo kp dy so he kn ak pl im lo2 dy2 so2 he2 kn2 m9 kd len ord kh km pg len2 ord2 kh2 km2 f tl tO bO lf wo (nI k) hn hord hlen hkd hf hkn hkh hkm) (cwV 1 hts gX10_howManySets_X10_canHaveBeen rfl rfl rfl (by decide +kernel) ⟨Nat.le_of_ble_eq_true rfl, Nat.le_of_ble_eq_true rfl⟩) (c_preV (evN xK xV A) hK hE hS hP (va_recv hK hP (ci := 10) (q0 := 0) rfl rfl)) rfl rfl hl.1 rfl (lv_room (Nat.le_of_ble_eq_true rfl)) dX10_howManySets_19 ⟨Nat.le_refl _, Nat.le_refl _⟩) hS (fun r_19 u_19 H locs hw_19 hP hS => ?_)
        have hP : va_P (dC, dI) vwCl (MW y a rn n lo kp dy so he kn ak pl im lo2 dy2 so2 he2 kn2 u_19.2 kd len ord kh km pg len2 ord2 kh2 km2 u_19.1 tl tO bO lf wo) H := hP
        obtain ⟨rfl, hw_19⟩ := hw_19
        refine n_bif_eq (tgt := 28) hx hb dX10_howManySets_22 (by decide) (fun c_22 => ?_) (fun c_22 => ?_)
        · refine lv_iinc (v := nI (k + 1)) (lv' := [(2, .int (nI (k + 1))), (1, .int (nI (mm))), (0, .ref (a 0))]) hx hb dX10_howManySets_28 hl (k := 0) rfl (mr_inc _) (by decide) rfl (fun ls hl => ?_)
          refine lv_goto (tgt := 4) hx hb dX10_howManySets_31 (by decide) ?_
          exact ih_4 (k + 1) mm u_19.1 u_19.2 (by omega) hw_19.2 (by rw [hm, ctB_f (p := okS n kd len ord kn kh km) c_22]) (by omega) _ _ _ hP hS (lv_sub hl [0, 1, 2] rfl)
        · refine lv_iinc (v := nI (mm + 1)) (lv' := [(1, .int (nI (mm + 1))), (2, .int (nI (k))), (0, .ref (a 0))]) hx hb dX10_howManySets_25 hl (k := 1) rfl (mr_inc _) (by decide) rfl (fun ls hl => ?_)
          refine lv_iinc (v := nI (k + 1)) (lv' := [(2, .int (nI (k + 1))), (1, .int (nI (mm + 1))), (0, .ref (a 0))]) hx hb dX10_howManySets_28 hl (k := 1) rfl (mr_inc _) (by decide) rfl (fun ls hl => ?_)
          refine lv_goto (tgt := 4) hx hb dX10_howManySets_31 (by decide) ?_
          exact ih_4 (k + 1) (mm + 1) u_19.1 u_19.2 (by omega) hw_19.2 (by rw [hm, ctB_t (p := okS n kd len ord kn kh km) c_22]) (by omega) _ _ _ hP hS (lv_sub hl [0, 1, 2] rfl)
  exact loop_4 _ 0 0 cw ma (Nat.zero_le _) hcw rfl (Nat.lt_succ_self _) _ _ _ hP hS (lv_sub hl [0, 1, 2] rfl)
theorem in_X10_leastSet_X10 : ∀ w ∈ wsX100, w ∈ wsX10_leastSet := fun w h => List.mem_cons_of_mem _ (List.mem_append_left _ (List.mem_append_left _ (List.mem_append_left _ (List.mem_append_right _ h))))
theorem in_X10_leastSet_X6 : ∀ w ∈ wsX60, w ∈ wsX10_leastSet := fun w h => List.mem_cons_of_mem _ (List.mem_append_left _ (List.mem_append_left _ (List.mem_append_right _ h)))
set_option maxHeartbeats 4000000 in
set_option maxRecDepth 100000 in
theorem k_X10_leastSet (l : Launch) (dC : Nat → ClassId) (dI : Nat → Nat → Nat) (y : Nat → ClassId) (A : Nat → Prop) (a : Nat → Nat) (hA0 : ad_ok A a 34) (xK : Nat → Nat) (xV : Nat → Nat) (rn : Nat) (n : Nat) (lo : Int32) (kp : Nat) (dy : Int32) (so : Int32) (he : Int32) (kn : Nat) (ak : Nat) (pl : Nat) (im : Bool) (lo2 : Int32) (dy2 : Int32) (so2 : Int32) (he2 : Int32) (kn2 : Nat) (ma : Nat) (kd : Nat → Nat) (len : Nat → Nat) (ord : Nat → Nat) (kh : Nat → Nat) (km : Nat → Nat) (pg : Nat → Nat) (len2 : Nat → Nat) (ord2 : Nat → Nat) (kh2 : Nat → Nat) (km2 : Nat → Nat) (cw : Nat → Nat) (tl : Nat → Nat) (tO : Nat → Nat) (bO : Nat → Nat) (lf : Nat → Nat → Nat) (wo : Nat → Nat) (hn : n ≤ 6) (hord : PermOn n ord) (hlen : ∀ j, len j ≤ 9) (hkd : ∀ j, kd j ≤ 4) (hcw : ∀ j, cw j ≤ 126) (hkn : kn ≤ 6) (hkh : ∀ i, i < kn → kh i < n) (hkm : ∀ i, km i ≤ 150) : Met l yX10_leastSet wsX10_leastSet ({ frames := 5, cells := 0, slots := 0, locals := 115 } : Room) (c_P (dC, dI) vwCl (TY y) (EV xK xV A) (MW y a rn n lo kp dy so he kn ak pl im lo2 dy2 so2 he2 kn2 ma kd len ord kh km pg len2 ord2 kh2 km2 cw tl tO bO lf wo) [.ref (a 0)]) (va_Qi (fun (r : Int32) (u : (Nat → Nat) × Nat) => r = lsF (okS n kd len ord kn kh km) 0 (2 ^ n) ∧ ∀ j, u.1 j ≤ 126) (c_B (dC, dI) vwCl (TY y) (fun (u : (Nat → Nat) × Nat) => (MW y a rn n lo kp dy so he kn ak pl im lo2 dy2 so2 he2 kn2 u.2 kd len ord kh km pg len2 ord2 kh2 km2 u.1 tl tO bO lf wo))) A) 0 0 A := by
  refine Met.ofW (cc := cX10_leastSet) (maxL := 2) (ret := (some .int)) (by decide) rfl ?_
  intro p e s m args below meth c s₁ BB hml hv
  obtain ⟨rfl, hP, hK, hE⟩ := hv
  have hx := BB.exec
  have hb := BB.bytes
  have hr := BB.returns
  have hts := atoms_spec (ws := wsX10_leastSet) BB.pre
  have hown : s.vm.findClass RX10 = some m.cls := findClass_of_methodNamed BB.named
  have hlocks := BB.notSynchronized
  have hS : va_S A s.heap s.heap [] := va_S.rf
  have hl := lv_entry ([.ref (a 0)]) (n := 2) (Nat.le_of_ble_eq_true rfl)
  rw [lg_entry_eq]
  generalize (lg_sl ([.ref (a 0)]) ++ List.replicate (2 - (lg_sl ([.ref (a 0)])).length) Slot.unset).toArray = ls at hl ⊢
  have hl : lv_has ls 2 [(0, .ref (a 0))] := hl
  have hp6 := pow_le6 n hn
  refine lv_iconst (v := nI (0)) hx hb dX10_leastSet_0 (by decide) ?_
  refine lv_istore_n (lv' := [(1, .int (nI (0))), (0, .ref (a 0))]) hx hb dX10_leastSet_1 rfl hl (by decide) rfl (fun ls hl => ?_)
  have loop_2 : ∀ (dd_2 : Nat) (k : Nat) (f : Nat → Nat) (m9 : Nat) (hk : k ≤ 2 ^ n) (hf : ∀ j, f j ≤ 126) (hls : lsF (okS n kd len ord kn kh km) 0 (2 ^ n) = lsF (okS n kd len ord kn kh km) k (2 ^ n - k)), 2 ^ n - k < dd_2 → ∀ (H : Heap) (locs : List Loc) (ls : Array Slot), va_P (dC, dI) vwCl (MW y a rn n lo kp dy so he kn ak pl im lo2 dy2 so2 he2 kn2 m9 kd len ord kh km pg len2 ord2 kh2 km2 f tl tO bO lf wo) H → va_S A s.heap H locs → lv_has ls 2 [(1, .int (nI (k))), (0, .ref (a 0))] → W p l e (headSpec wsX10_leastSet ({ frames := 5, cells := 0, slots := 0, locals := 115 } : Room)).room s m [.ref (a 0)].toArray below meth c H locs 0 0 (MQ below (va_Qi (fun (r : Int32) (u : (Nat → Nat) × Nat) => r = lsF (okS n kd len ord kn kh km) 0 (2 ^ n) ∧ ∀ j, u.1 j ≤ 126) (c_B (dC, dI) vwCl (TY y) (fun (u : (Nat → Nat) × Nat) => (MW y a rn n lo kp dy so he kn ak pl im lo2 dy2 so2 he2 kn2 u.2 kd len ord kh km pg len2 ord2 kh2 km2 u.1 tl tO bO lf wo))) A) [.ref (a 0)].toArray s 0 0 A) (F0 m 2 ls []) := by
    intro dd_2
    induction dd_2 with
    | zero => intro k f m9 hk hf hls hd; exact absurd hd (Nat.not_lt_zero _)
    | succ dd_2 ih_2 =>
      intro k f m9 hk hf hls hd_2 H locs ls hP hS hl
      refine lv_iload_n hx hb dX10_leastSet_2 rfl (lv_at hl 0 rfl) ?_
      refine lv_iconst (v := nI (1)) hx hb dX10_leastSet_3 (by decide) ?_
      refine lv_aload_n hx hb dX10_leastSet_4 rfl (lv_at hl 1 rfl) ?_
      refine va_get (D := (dC, dI)) (ci := 10) (C := RX10) (T := TX10) (N := 12) hx hb hts in_X10_leastSet_X10 hown hK hP 0 rfl rfl 1 (by decide) (hts (.fieldLink RX10 19 "MilkRound" "street" "LMilkRound$Street;") (List.mem_of_getElem? (i := 1) rfl)) (fun _ h9 => h9) rfl dX10_leastSet_5 ?_
      refine va_get (D := (dC, dI)) (ci := 6) (C := RX6) (T := TX6) (N := 8) hx hb hts in_X10_leastSet_X6 hown hK hP 3 rfl rfl 6 (by decide) (hts (.fieldLink RX10 89 "MilkRound$Street" "size" "I") (List.mem_of_getElem? (i := 2) rfl)) (fun _ h9 => h9) rfl dX10_leastSet_8 ?_
      refine lv_ishl hx hb dX10_leastSet_11 ?_
      refine n_top (y := nI (2 ^ n)) (shl1 n hn) ?_
      refine n_icmp_ge (tgt := 31) hx hb dX10_leastSet_12 (by decide) (by omega) (by omega) (fun c_12 => ?_) (fun c_12 => ?_)
      · refine lv_iconst (v := (-1)) hx hb dX10_leastSet_31 (by decide) ?_
        exact c_iret hx hb hr hlocks hK hS (f, m9) hP ⟨by rw [hls, show 2 ^ n - k = 0 by omega]; rfl, hf⟩ dX10_leastSet_32
      · refine lv_aload_n hx hb dX10_leastSet_15 rfl (lv_at hl 1 rfl) ?_
        refine lv_iload_n hx hb dX10_leastSet_16 rfl (lv_at hl 0 rfl) ?_
        refine c_calli (va_runV (As := [.int (nI (k))]) (rest := []) ⟨hx, hb, hml, hown, hts⟩ (k_X10_canHaveBeen l dC dI y A a hA0 xK xV rn n lo kp dy so he kn ak pl im lo2 dy2 so2 he2 kn2 m9 kd len ord kh km pg len2 ord2 kh2 km2 f tl tO bO lf wo (nI k) hn hord hlen hkd hf hkn hkh hkm) (cwV 1 hts gX10_leastSet_X10_canHaveBeen rfl rfl rfl (by decide +kernel) ⟨Nat.le_of_ble_eq_true rfl, Nat.le_of_ble_eq_true rfl⟩) (c_preV (evN xK xV A) hK hE hS hP (va_recv hK hP (ci := 10) (q0 := 0) rfl rfl)) rfl rfl hl.1 rfl (lv_room (Nat.le_of_ble_eq_true rfl)) dX10_leastSet_17 ⟨Nat.le_refl _, Nat.le_refl _⟩) hS (fun r_17 u_17 H locs hw_17 hP hS => ?_)
        have hP : va_P (dC, dI) vwCl (MW y a rn n lo kp dy so he kn ak pl im lo2 dy2 so2 he2 kn2 u_17.2 kd len ord kh km pg len2 ord2 kh2 km2 u_17.1 tl tO bO lf wo) H := hP
        obtain ⟨rfl, hw_17⟩ := hw_17
        refine n_bif_eq (tgt := 25) hx hb dX10_leastSet_20 (by decide) (fun c_20 => ?_) (fun c_20 => ?_)
        · refine lv_iinc (v := nI (k + 1)) (lv' := [(1, .int (nI (k + 1))), (0, .ref (a 0))]) hx hb dX10_leastSet_25 hl (k := 0) rfl (mr_inc _) (by decide) rfl (fun ls hl => ?_)
          refine lv_goto (tgt := 2) hx hb dX10_leastSet_28 (by decide) ?_
          have hd9 : 2 ^ n - k = (2 ^ n - (k + 1)) + 1 := by omega
          exact ih_2 (k + 1) u_17.1 u_17.2 (by omega) hw_17.2 (by rw [hls, hd9, lsF_f (p := okS n kd len ord kn kh km) c_20]) (by omega) _ _ _ hP hS (lv_sub hl [0, 1] rfl)
        · refine lv_iload_n hx hb dX10_leastSet_23 rfl (lv_at hl 0 rfl) ?_
          exact c_iret hx hb hr hlocks hK hS (u_17.1, u_17.2) hP ⟨by rw [hls, show 2 ^ n - k = (2 ^ n - (k + 1)) + 1 by omega, lsF_t (p := okS n kd len ord kn kh km) c_20], hw_17.2⟩ dX10_leastSet_24
  exact loop_2 _ 0 cw ma (Nat.zero_le _) hcw (by rw [Nat.sub_zero]) (Nat.lt_succ_self _) _ _ _ hP hS (lv_sub hl [0, 1] rfl)
set_option maxHeartbeats 4000000 in
set_option maxRecDepth 100000 in
theorem k_X10_sets (l : Launch) (dC : Nat → ClassId) (dI : Nat → Nat → Nat) (y : Nat → ClassId) (A : Nat → Prop) (a : Nat → Nat) (hA0 : ad_ok A a 34) (xK : Nat → Nat) (xV : Nat → Nat) (rn : Nat) (n : Nat) (lo : Int32) (kp : Nat) (dy : Int32) (so : Int32) (he : Int32) (kn : Nat) (ak : Nat) (pl : Nat) (im : Bool) (lo2 : Int32) (dy2 : Int32) (so2 : Int32) (he2 : Int32) (kn2 : Nat) (ma : Nat) (kd : Nat → Nat) (len : Nat → Nat) (ord : Nat → Nat) (kh : Nat → Nat) (km : Nat → Nat) (pg : Nat → Nat) (len2 : Nat → Nat) (ord2 : Nat → Nat) (kh2 : Nat → Nat) (km2 : Nat → Nat) (cw : Nat → Nat) (tl : Nat → Nat) (tO : Nat → Nat) (bO : Nat → Nat) (lf : Nat → Nat → Nat) (wo : Nat → Nat) (w : Int32) (hn : n ≤ 6) (hord : PermOn n ord) (hlen : ∀ j, len j ≤ 9) (hkd : ∀ j, kd j ≤ 4) (hcw : ∀ j, cw j ≤ 126) (hkn : kn ≤ 6) (hkh : ∀ i, i < kn → kh i < n) (hkm : ∀ i, km i ≤ 150) : Met l yX10_sets wsX10_sets ({ frames := 6, cells := 0, slots := 0, locals := 137 } : Room) (c_P (dC, dI) vwCl (TY y) (EV xK xV A) (MW y a rn n lo kp dy so he kn ak pl im lo2 dy2 so2 he2 kn2 ma kd len ord kh km pg len2 ord2 kh2 km2 cw tl tO bO lf wo) [.ref (a 0), .int (w)]) (va_Qi (fun (r : Int32) (u : (Nat → Nat) × Nat) => r = rSets n kd len ord kn kh km w ∧ ∀ j, u.1 j ≤ 126) (c_B (dC, dI) vwCl (TY y) (fun (u : (Nat → Nat) × Nat) => (MW y a rn n lo kp dy so he kn ak pl im lo2 dy2 so2 he2 kn2 u.2 kd len ord kh km pg len2 ord2 kh2 km2 u.1 tl tO bO lf wo))) A) 0 0 A := by
  refine Met.ofW (cc := cX10_sets) (maxL := 2) (ret := (some .int)) (by decide) rfl ?_
  intro p e s m args below meth c s₁ BB hml hv
  obtain ⟨rfl, hP, hK, hE⟩ := hv
  have hx := BB.exec
  have hb := BB.bytes
  have hr := BB.returns
  have hts := atoms_spec (ws := wsX10_sets) BB.pre
  have hown : s.vm.findClass RX10 = some m.cls := findClass_of_methodNamed BB.named
  have hlocks := BB.notSynchronized
  have hS : va_S A s.heap s.heap [] := va_S.rf
  have hl := lv_entry ([.ref (a 0), .int (w)]) (n := 2) (Nat.le_of_ble_eq_true rfl)
  rw [lg_entry_eq]
  generalize (lg_sl ([.ref (a 0), .int (w)]) ++ List.replicate (2 - (lg_sl ([.ref (a 0), .int (w)])).length) Slot.unset).toArray = ls at hl ⊢
  have hl : lv_has ls 2 [(0, .ref (a 0)), (1, .int (w))] := hl
  refine lv_iload_n hx hb dX10_sets_0 rfl (lv_at hl 1 rfl) ?_
  refine lv_if_lt (tgt := 9) hx hb dX10_sets_1 (by decide) (fun c_1 => ?_) (fun c_1 => ?_)
  · refine lv_bipush (v := (-102)) hx hb dX10_sets_9 (by decide) ?_
    exact c_iret hx hb hr hlocks hK hS (cw, ma) hP ⟨by unfold rSets; rw [inR_no1 c_1]; rfl, hcw⟩ dX10_sets_11
  · refine lv_iload_n hx hb dX10_sets_4 rfl (lv_at hl 1 rfl) ?_
    refine lv_iconst (v := nI (1)) hx hb dX10_sets_5 (by decide) ?_
    refine lv_icmp_le (tgt := 12) hx hb dX10_sets_6 (by decide) (fun c_6 => ?_) (fun c_6 => ?_)
    · obtain ⟨k, hk, ek⟩ := inR_of (m := 1) (by decide) (inR_mk c_1 c_6)
      rw [ek] at hl
      have hl : lv_has ls 2 [(0, .ref (a 0)), (1, .int (nI (k)))] := hl
      refine lv_aload_n hx hb dX10_sets_12 rfl (lv_at hl 0 rfl) ?_
      refine c_calli (va_runV (As := []) (rest := []) ⟨hx, hb, hml, hown, hts⟩ (k_X10_hasNoRound l dC dI y A a hA0 xK xV rn n lo kp dy so he kn ak pl im lo2 dy2 so2 he2 kn2 ma kd len ord kh km pg len2 ord2 kh2 km2 cw tl tO bO lf wo  hn) (cwV 0 hts gX10_sets_X10_hasNoRound rfl rfl rfl (by decide +kernel) ⟨Nat.le_of_ble_eq_true rfl, Nat.le_of_ble_eq_true rfl⟩) (c_preV (evN xK xV A) hK hE hS hP (va_recv hK hP (ci := 10) (q0 := 0) rfl rfl)) rfl rfl hl.1 rfl (lv_room (Nat.le_of_ble_eq_true rfl)) dX10_sets_13 ⟨Nat.le_refl _, Nat.le_refl _⟩) hS (fun r_13 u_13 H locs hw_13 hP hS => ?_)
      obtain rfl := hw_13
      refine n_bif_eq (tgt := 22) hx hb dX10_sets_16 (by decide) (fun c_16 => ?_) (fun c_16 => ?_)
      · refine lv_iload_n hx hb dX10_sets_22 rfl (lv_at hl 1 rfl) ?_
        refine n_if_ne (tgt := 33) hx hb dX10_sets_23 (by decide) (by omega) (fun c_23 => ?_) (fun c_23 => ?_)
        · refine lv_aload_n hx hb dX10_sets_33 rfl (lv_at hl 0 rfl) ?_
          refine c_calli (va_runV (As := []) (rest := []) ⟨hx, hb, hml, hown, hts⟩ (k_X10_leastSet l dC dI y A a hA0 xK xV rn n lo kp dy so he kn ak pl im lo2 dy2 so2 he2 kn2 ma kd len ord kh km pg len2 ord2 kh2 km2 cw tl tO bO lf wo  hn hord hlen hkd hcw hkn hkh hkm) (cwV 0 hts gX10_sets_X10_leastSet rfl rfl rfl (by decide +kernel) ⟨Nat.le_of_ble_eq_true rfl, Nat.le_of_ble_eq_true rfl⟩) (c_preV (evN xK xV A) hK hE hS hP (va_recv hK hP (ci := 10) (q0 := 0) rfl rfl)) rfl rfl hl.1 rfl (lv_room (Nat.le_of_ble_eq_true rfl)) dX10_sets_34 ⟨Nat.le_refl _, Nat.le_refl _⟩) hS (fun r_34 u_34 H locs hw_34 hP hS => ?_)
          have hP : va_P (dC, dI) vwCl (MW y a rn n lo kp dy so he kn ak pl im lo2 dy2 so2 he2 kn2 u_34.2 kd len ord kh km pg len2 ord2 kh2 km2 u_34.1 tl tO bO lf wo) H := hP
          obtain ⟨rfl, hw_34⟩ := hw_34
          exact c_iret hx hb hr hlocks hK hS u_34 hP ⟨by unfold rSets; rw [inR_mk c_1 c_6, if_neg (of_decide_eq_false c_16), ek, nI_clamp (by omega), stsF, if_neg c_23]; rfl, hw_34⟩ dX10_sets_37
        · refine lv_aload_n hx hb dX10_sets_26 rfl (lv_at hl 0 rfl) ?_
          refine c_calli (va_runV (As := []) (rest := []) ⟨hx, hb, hml, hown, hts⟩ (k_X10_howManySets l dC dI y A a hA0 xK xV rn n lo kp dy so he kn ak pl im lo2 dy2 so2 he2 kn2 ma kd len ord kh km pg len2 ord2 kh2 km2 cw tl tO bO lf wo  hn hord hlen hkd hcw hkn hkh hkm) (cwV 0 hts gX10_sets_X10_howManySets rfl rfl rfl (by decide +kernel) ⟨Nat.le_of_ble_eq_true rfl, Nat.le_of_ble_eq_true rfl⟩) (c_preV (evN xK xV A) hK hE hS hP (va_recv hK hP (ci := 10) (q0 := 0) rfl rfl)) rfl rfl hl.1 rfl (lv_room (Nat.le_of_ble_eq_true rfl)) dX10_sets_27 ⟨Nat.le_refl _, Nat.le_refl _⟩) hS (fun r_27 u_27 H locs hw_27 hP hS => ?_)
          have hP : va_P (dC, dI) vwCl (MW y a rn n lo kp dy so he kn ak pl im lo2 dy2 so2 he2 kn2 u_27.2 kd len ord kh km pg len2 ord2 kh2 km2 u_27.1 tl tO bO lf wo) H := hP
          obtain ⟨rfl, hw_27⟩ := hw_27
          refine lv_goto (tgt := 37) hx hb dX10_sets_30 (by decide) ?_
          exact c_iret hx hb hr hlocks hK hS u_27 hP ⟨by unfold rSets; rw [inR_mk c_1 c_6, if_neg (of_decide_eq_false c_16), ek, nI_clamp (by omega), stsF, if_pos c_23]; rfl, hw_27⟩ dX10_sets_37
      · refine lv_bipush (v := (-103)) hx hb dX10_sets_19 (by decide) ?_
        exact c_iret hx hb hr hlocks hK hS (cw, ma) hP ⟨by unfold rSets; rw [inR_mk c_1 c_6, if_pos (of_decide_eq_true c_16)]; rfl, hcw⟩ dX10_sets_21
    · refine lv_bipush (v := (-102)) hx hb dX10_sets_9 (by decide) ?_
      exact c_iret hx hb hr hlocks hK hS (cw, ma) hP ⟨by unfold rSets; rw [inR_no2 c_6]; rfl, hcw⟩ dX10_sets_11
