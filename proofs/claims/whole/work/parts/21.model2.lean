theorem in_X11_mostOf_X11 : ∀ w ∈ wsX110, w ∈ wsX11_mostOf := fun w h => List.mem_cons_of_mem _ (List.mem_append_right _ h)
set_option maxHeartbeats 4000000 in
set_option maxRecDepth 100000 in
theorem k_X11_mostOf (l : Launch) (dC : Nat → ClassId) (dI : Nat → Nat → Nat) (y : Nat → ClassId) (A : Nat → Prop) (b : Nat → Nat) (hA0 : ad_ok A b 16) (rn : Nat) (n : Nat) (lo : Int32) (kp : Nat) (dy : Int32) (so : Int32) (he : Int32) (kn : Nat) (ak : Nat) (pl : Nat) (iw : Bool) (nm : Nat) (sd : Int64) (ik : Bool) (kr : Nat) (lo2 : Int32) (dy2 : Int32) (so2 : Int32) (he2 : Int32) (kn2 : Nat) (dgv : Int64) (kd : Nat → Nat) (len : Nat → Nat) (ord : Nat → Nat) (kh : Nat → Nat) (km : Nat → Nat) (pg : Nat → Nat) (cm : Nat → Nat) (sav : Nat → Nat) (bo : Nat → Nat) (cb : Nat → Nat) (sl : Nat → Nat) (len2 : Nat → Nat) (ord2 : Nat → Nat) (kh2 : Nat → Nat) (km2 : Nat → Nat) (h : Nat) (hn : n ≤ 6) (hord : PermOn n ord) (hlen : ∀ j, len j ≤ 9) (hkd : ∀ j, kd j ≤ 4) (hcm : ∀ j, cm j ≤ 126) (hkp : kp ≤ 9) (hh : h < 6) : Met l yX11_mostOf wsX11_mostOf ({ frames := 6, cells := 0, slots := 0, locals := 128 } : Room) (c_P (dC, dI) vwCl (TY y) (fun _ => True) (DW y b rn n lo kp dy so he kn ak pl iw nm sd ik kr lo2 dy2 so2 he2 kn2 dgv kd len ord kh km pg cm sav bo cb sl len2 ord2 kh2 km2) [.ref (b 0), .int (nI (h))]) (va_Qi (fun (r : Int32) (u : Nat → Nat) => r = nI (mostF n kp kd len lo ord h 9) ∧ ∀ j, u j ≤ 126) (c_B (dC, dI) vwCl (TY y) (fun (u : Nat → Nat) => (DW y b rn n lo kp dy so he kn ak pl iw nm sd ik kr lo2 dy2 so2 he2 kn2 dgv kd len ord kh km pg u sav bo cb sl len2 ord2 kh2 km2))) A) 0 0 A := by
  refine Met.ofW (cc := cX11_mostOf) (maxL := 6) (ret := (some .int)) (by decide) rfl ?_
  intro p e s m args below meth c s₁ BB hml hv
  obtain ⟨rfl, hP, hK, hE⟩ := hv
  have hx := BB.exec
  have hb := BB.bytes
  have hr := BB.returns
  have hts := atoms_spec (ws := wsX11_mostOf) BB.pre
  have hown : s.vm.findClass RX11 = some m.cls := findClass_of_methodNamed BB.named
  have hlocks := BB.notSynchronized
  have hS : va_S A s.heap s.heap [] := va_S.rf
  have hl := lv_entry ([.ref (b 0), .int (nI (h))]) (n := 6) (Nat.le_of_ble_eq_true rfl)
  rw [lg_entry_eq]
  generalize (lg_sl ([.ref (b 0), .int (nI (h))]) ++ List.replicate (6 - (lg_sl ([.ref (b 0), .int (nI (h))])).length) Slot.unset).toArray = ls at hl ⊢
  have hl : lv_has ls 6 [(0, .ref (b 0)), (1, .int (nI (h)))] := hl
  refine lv_aload_n hx hb dX11_mostOf_0 rfl (lv_at hl 0 rfl) ?_
  refine va_get (D := (dC, dI)) (ci := 11) (C := RX11) (T := TX11) (N := 36) hx hb hts in_X11_mostOf_X11 hown hK hP 0 rfl rfl 3 (by decide) (hts (.fieldLink RX11 13 "MilkRoundModel" "longOf" "[I") (List.mem_of_getElem? (i := 1) rfl)) (fun _ h9 => h9) rfl dX11_mostOf_1 ?_
  refine lv_iload_n hx hb dX11_mostOf_4 rfl (lv_at hl 1 rfl) ?_
  refine n_iald hx hb hK hP 2 0 rfl rfl (by omega) (by decide) dX11_mostOf_5 ?_
  have hb_5 := hlen h
  refine lv_istore_n (lv' := [(2, .int (nI (len h))), (0, .ref (b 0)), (1, .int (nI (h)))]) hx hb dX11_mostOf_6 rfl hl (by decide) rfl (fun ls hl => ?_)
  refine lv_aload_n hx hb dX11_mostOf_7 rfl (lv_at hl 1 rfl) ?_
  refine va_get (D := (dC, dI)) (ci := 11) (C := RX11) (T := TX11) (N := 36) hx hb hts in_X11_mostOf_X11 hown hK hP 0 rfl rfl 3 (by decide) (hts (.fieldLink RX11 13 "MilkRoundModel" "longOf" "[I") (List.mem_of_getElem? (i := 1) rfl)) (fun _ h9 => h9) rfl dX11_mostOf_8 ?_
  refine lv_iload_n hx hb dX11_mostOf_11 rfl (lv_at hl 2 rfl) ?_
  refine lv_iconst (v := nI (0)) hx hb dX11_mostOf_12 (by decide) ?_
  refine n_iast hx hb hK hP (ad_D hA0 rfl) hS 2 0 rfl rfl (by omega) (by decide) dX11_mostOf_13 (fun H locs hP hS => ?_)
  have hP : va_P (dC, dI) vwCl (DW y b rn n lo kp dy so he kn ak pl iw nm sd ik kr lo2 dy2 so2 he2 kn2 dgv kd (va_up len h 0) ord kh km pg cm sav bo cb sl len2 ord2 kh2 km2) H := hP
  refine lv_aload_n hx hb dX11_mostOf_14 rfl (lv_at hl 1 rfl) ?_
  refine c_calli (va_runV (As := []) (rest := []) ⟨hx, hb, hml, hown, hts⟩ (k_X11_wrongNow l dC dI y A b hA0 rn n lo kp dy so he kn ak pl iw nm sd ik kr lo2 dy2 so2 he2 kn2 dgv kd (va_up len h 0) ord kh km pg cm sav bo cb sl len2 ord2 kh2 km2  hn hord (up_le hlen (Nat.zero_le _)) hkd hcm hkp) (cwV 0 hts gX11_mostOf_X11_wrongNow rfl rfl rfl (by decide +kernel) ⟨Nat.le_of_ble_eq_true rfl, Nat.le_of_ble_eq_true rfl⟩) (c_preV (c_N0 A) hK hE hS hP (va_recv hK hP (ci := 11) (q0 := 0) rfl rfl)) rfl rfl hl.1 rfl (lv_room (Nat.le_of_ble_eq_true rfl)) dX11_mostOf_15 ⟨Nat.le_refl _, Nat.le_refl _⟩) hS (fun r_15 u_15 H locs hw_15 hP hS => ?_)
  have hP : va_P (dC, dI) vwCl (DW y b rn n lo kp dy so he kn ak pl iw nm sd ik kr lo2 dy2 so2 he2 kn2 dgv kd (va_up len h 0) ord kh km pg u_15 sav bo cb sl len2 ord2 kh2 km2) H := hP
  obtain ⟨rfl, hw_15⟩ := hw_15
  have hwr_15 := wrg_le (n := n) (kp := kp) (kd := kd) (len := va_up len h 0) (lo := lo) (ord := ord)
  refine lv_istore_n (lv' := [(3, .int (nI (wrg n kp kd (va_up len h 0) lo ord))), (2, .int (nI (len h))), (0, .ref (b 0)), (1, .int (nI (h)))]) hx hb dX11_mostOf_18 rfl hl (by decide) rfl (fun ls hl => ?_)
  refine lv_iconst (v := nI (0)) hx hb dX11_mostOf_19 (by decide) ?_
  refine lv_istore (lv' := [(4, .int (nI (0))), (3, .int (nI (wrg n kp kd (va_up len h 0) lo ord))), (2, .int (nI (len h))), (0, .ref (b 0)), (1, .int (nI (h)))]) hx hb dX11_mostOf_20 hl (by decide) rfl (fun ls hl => ?_)
  refine lv_iconst (v := nI (1)) hx hb dX11_mostOf_22 (by decide) ?_
  refine lv_istore (lv' := [(5, .int (nI (1))), (4, .int (nI (0))), (3, .int (nI (wrg n kp kd (va_up len h 0) lo ord))), (2, .int (nI (len h))), (0, .ref (b 0)), (1, .int (nI (h)))]) hx hb dX11_mostOf_23 hl (by decide) rfl (fun ls hl => ?_)
  have loop_25 : ∀ (dd_25 : Nat) (L : Nat) (mo : Nat) (x9 : Nat) (f : Nat → Nat) (hL1 : 1 ≤ L) (hL : L ≤ 10) (hx9 : x9 ≤ 9) (hf : ∀ j, f j ≤ 126) (hmo : mo = mostF n kp kd len lo ord h (L - 1)), 10 - L < dd_25 → ∀ (H : Heap) (locs : List Loc) (ls : Array Slot), va_P (dC, dI) vwCl (DW y b rn n lo kp dy so he kn ak pl iw nm sd ik kr lo2 dy2 so2 he2 kn2 dgv kd (va_up len h x9) ord kh km pg f sav bo cb sl len2 ord2 kh2 km2) H → va_S A s.heap H locs → lv_has ls 6 [(5, .int (nI (L))), (4, .int (nI (mo))), (3, .int (nI (wrg n kp kd (va_up len h 0) lo ord))), (2, .int (nI (len h))), (0, .ref (b 0)), (1, .int (nI (h)))] → W p l e (headSpec wsX11_mostOf ({ frames := 6, cells := 0, slots := 0, locals := 128 } : Room)).room s m [.ref (b 0), .int (nI (h))].toArray below meth c H locs 0 0 (MQ below (va_Qi (fun (r : Int32) (u : Nat → Nat) => r = nI (mostF n kp kd len lo ord h 9) ∧ ∀ j, u j ≤ 126) (c_B (dC, dI) vwCl (TY y) (fun (u : Nat → Nat) => (DW y b rn n lo kp dy so he kn ak pl iw nm sd ik kr lo2 dy2 so2 he2 kn2 dgv kd len ord kh km pg u sav bo cb sl len2 ord2 kh2 km2))) A) [.ref (b 0), .int (nI (h))].toArray s 0 0 A) (F0 m 25 ls []) := by
    intro dd_25
    induction dd_25 with
    | zero => intro L mo x9 f hL1 hL hx9 hf hmo hd; exact absurd hd (Nat.not_lt_zero _)
    | succ dd_25 ih_25 =>
      intro L mo x9 f hL1 hL hx9 hf hmo hd_25 H locs ls hP hS hl
      refine lv_iload hx hb dX11_mostOf_25 (lv_at hl 0 rfl) ?_
      refine lv_bipush (v := nI (9)) hx hb dX11_mostOf_27 (by decide) ?_
      refine n_icmp_gt (tgt := 63) hx hb dX11_mostOf_29 (by decide) (by omega) (by omega) (fun c_29 => ?_) (fun c_29 => ?_)
      · refine lv_aload_n hx hb dX11_mostOf_63 rfl (lv_at hl 4 rfl) ?_
        refine va_get (D := (dC, dI)) (ci := 11) (C := RX11) (T := TX11) (N := 36) hx hb hts in_X11_mostOf_X11 hown hK hP 0 rfl rfl 3 (by decide) (hts (.fieldLink RX11 13 "MilkRoundModel" "longOf" "[I") (List.mem_of_getElem? (i := 1) rfl)) (fun _ h9 => h9) rfl dX11_mostOf_64 ?_
        refine lv_iload_n hx hb dX11_mostOf_67 rfl (lv_at hl 5 rfl) ?_
        refine lv_iload_n hx hb dX11_mostOf_68 rfl (lv_at hl 3 rfl) ?_
        refine n_iast hx hb hK hP (ad_D hA0 rfl) hS 2 0 rfl rfl (by omega) (by decide) dX11_mostOf_69 (fun H locs hP hS => ?_)
        have hP : va_P (dC, dI) vwCl (DW y b rn n lo kp dy so he kn ak pl iw nm sd ik kr lo2 dy2 so2 he2 kn2 dgv kd (va_up (va_up len h x9) h (len h)) ord kh km pg f sav bo cb sl len2 ord2 kh2 km2) H := hP
        rw [bx_uu, up_self] at hP
        have hP : va_P (dC, dI) vwCl (DW y b rn n lo kp dy so he kn ak pl iw nm sd ik kr lo2 dy2 so2 he2 kn2 dgv kd len ord kh km pg f sav bo cb sl len2 ord2 kh2 km2) H := hP
        refine lv_iload hx hb dX11_mostOf_70 (lv_at hl 1 rfl) ?_
        have hLe : L = 10 := by omega
        exact c_iret hx hb hr hlocks hK hS f hP ⟨by rw [hmo, hLe], hf⟩ dX11_mostOf_72
      · refine lv_aload_n hx hb dX11_mostOf_32 rfl (lv_at hl 4 rfl) ?_
        refine va_get (D := (dC, dI)) (ci := 11) (C := RX11) (T := TX11) (N := 36) hx hb hts in_X11_mostOf_X11 hown hK hP 0 rfl rfl 3 (by decide) (hts (.fieldLink RX11 13 "MilkRoundModel" "longOf" "[I") (List.mem_of_getElem? (i := 1) rfl)) (fun _ h9 => h9) rfl dX11_mostOf_33 ?_
        refine lv_iload_n hx hb dX11_mostOf_36 rfl (lv_at hl 5 rfl) ?_
        refine lv_iload hx hb dX11_mostOf_37 (lv_at hl 0 rfl) ?_
        refine n_iast hx hb hK hP (ad_D hA0 rfl) hS 2 0 rfl rfl (by omega) (by decide) dX11_mostOf_39 (fun H locs hP hS => ?_)
        have hP : va_P (dC, dI) vwCl (DW y b rn n lo kp dy so he kn ak pl iw nm sd ik kr lo2 dy2 so2 he2 kn2 dgv kd (va_up (va_up len h x9) h L) ord kh km pg f sav bo cb sl len2 ord2 kh2 km2) H := hP
        rw [bx_uu] at hP
        have hP : va_P (dC, dI) vwCl (DW y b rn n lo kp dy so he kn ak pl iw nm sd ik kr lo2 dy2 so2 he2 kn2 dgv kd (va_up len h L) ord kh km pg f sav bo cb sl len2 ord2 kh2 km2) H := hP
        refine lv_aload_n hx hb dX11_mostOf_40 rfl (lv_at hl 4 rfl) ?_
        refine c_calli (va_runV (As := []) (rest := []) ⟨hx, hb, hml, hown, hts⟩ (k_X11_wrongNow l dC dI y A b hA0 rn n lo kp dy so he kn ak pl iw nm sd ik kr lo2 dy2 so2 he2 kn2 dgv kd (va_up len h L) ord kh km pg f sav bo cb sl len2 ord2 kh2 km2  hn hord (up_le hlen (by omega)) hkd hf hkp) (cwV 0 hts gX11_mostOf_X11_wrongNow rfl rfl rfl (by decide +kernel) ⟨Nat.le_of_ble_eq_true rfl, Nat.le_of_ble_eq_true rfl⟩) (c_preV (c_N0 A) hK hE hS hP (va_recv hK hP (ci := 11) (q0 := 0) rfl rfl)) rfl rfl hl.1 rfl (lv_room (Nat.le_of_ble_eq_true rfl)) dX11_mostOf_41 ⟨Nat.le_refl _, Nat.le_refl _⟩) hS (fun r_41 u_41 H locs hw_41 hP hS => ?_)
        have hP : va_P (dC, dI) vwCl (DW y b rn n lo kp dy so he kn ak pl iw nm sd ik kr lo2 dy2 so2 he2 kn2 dgv kd (va_up len h L) ord kh km pg u_41 sav bo cb sl len2 ord2 kh2 km2) H := hP
        obtain ⟨rfl, hw_41⟩ := hw_41
        have hwr_41 := wrg_le (n := n) (kp := kp) (kd := kd) (len := va_up len h L) (lo := lo) (ord := ord)
        refine lv_iload_n hx hb dX11_mostOf_44 rfl (lv_at hl 2 rfl) ?_
        refine n_icmp_gt (tgt := 53) hx hb dX11_mostOf_45 (by decide) (by omega) (by omega) (fun c_45 => ?_) (fun c_45 => ?_)
        · refine lv_iload hx hb dX11_mostOf_53 (lv_at hl 1 rfl) ?_
          refine lv_istore (lv' := [(4, .int (nI (mo))), (5, .int (nI (L))), (3, .int (nI (wrg n kp kd (va_up len h 0) lo ord))), (2, .int (nI (len h))), (0, .ref (b 0)), (1, .int (nI (h)))]) hx hb dX11_mostOf_55 hl (by decide) rfl (fun ls hl => ?_)
          refine lv_iinc (v := nI (L + 1)) (lv' := [(5, .int (nI (L + 1))), (4, .int (nI (mo))), (3, .int (nI (wrg n kp kd (va_up len h 0) lo ord))), (2, .int (nI (len h))), (0, .ref (b 0)), (1, .int (nI (h)))]) hx hb dX11_mostOf_57 hl (k := 1) rfl (mr_inc _) (by decide) rfl (fun ls hl => ?_)
          refine lv_goto (tgt := 25) hx hb dX11_mostOf_60 (by decide) ?_
          exact ih_25 (L + 1) mo L u_41 (by omega) (by omega) (by omega) hw_41.2 (by obtain ⟨q, rfl⟩ : ∃ q, L = q + 1 := ⟨L - 1, by omega⟩; rw [Nat.add_sub_cancel] at hmo ⊢; unfold mostF; rw [if_neg (by omega)]; exact hmo) (by omega) _ _ _ hP hS (lv_sub hl [0, 1, 2, 3, 4, 5] rfl)
        · refine lv_iload hx hb dX11_mostOf_48 (lv_at hl 0 rfl) ?_
          refine lv_goto (tgt := 55) hx hb dX11_mostOf_50 (by decide) ?_
          refine lv_istore (lv' := [(4, .int (nI (L))), (5, .int (nI (L))), (3, .int (nI (wrg n kp kd (va_up len h 0) lo ord))), (2, .int (nI (len h))), (0, .ref (b 0)), (1, .int (nI (h)))]) hx hb dX11_mostOf_55 hl (by decide) rfl (fun ls hl => ?_)
          refine lv_iinc (v := nI (L + 1)) (lv' := [(5, .int (nI (L + 1))), (4, .int (nI (L))), (3, .int (nI (wrg n kp kd (va_up len h 0) lo ord))), (2, .int (nI (len h))), (0, .ref (b 0)), (1, .int (nI (h)))]) hx hb dX11_mostOf_57 hl (k := 1) rfl (mr_inc _) (by decide) rfl (fun ls hl => ?_)
          refine lv_goto (tgt := 25) hx hb dX11_mostOf_60 (by decide) ?_
          exact ih_25 (L + 1) L L u_41 (by omega) (by omega) (by omega) hw_41.2 (by obtain ⟨q, rfl⟩ : ∃ q, L = q + 1 := ⟨L - 1, by omega⟩; rw [Nat.add_sub_cancel]; unfold mostF; rw [if_pos (by omega)]) (by omega) _ _ _ hP hS (lv_sub hl [0, 1, 2, 3, 4, 5] rfl)
  exact loop_25 _ 1 0 0 u_15 (by decide) (by decide) (by decide) hw_15.2 rfl (Nat.lt_succ_self _) _ _ _ hP hS (lv_sub hl [0, 1, 2, 3, 4, 5] rfl)
theorem in_X11_houseNow_X11 : ∀ w ∈ wsX110, w ∈ wsX11_houseNow := fun w h => List.mem_cons_of_mem _ (List.mem_append_right _ h)
set_option maxHeartbeats 4000000 in
set_option maxRecDepth 100000 in
theorem k_X11_houseNow (l : Launch) (dC : Nat → ClassId) (dI : Nat → Nat → Nat) (y : Nat → ClassId) (A : Nat → Prop) (b : Nat → Nat) (hA0 : ad_ok A b 16) (rn : Nat) (n : Nat) (lo : Int32) (kp : Nat) (dy : Int32) (so : Int32) (he : Int32) (kn : Nat) (ak : Nat) (pl : Nat) (iw : Bool) (nm : Nat) (sd : Int64) (ik : Bool) (kr : Nat) (lo2 : Int32) (dy2 : Int32) (so2 : Int32) (he2 : Int32) (kn2 : Nat) (dgv : Int64) (kd : Nat → Nat) (len : Nat → Nat) (ord : Nat → Nat) (kh : Nat → Nat) (km : Nat → Nat) (pg : Nat → Nat) (cm : Nat → Nat) (sav : Nat → Nat) (bo : Nat → Nat) (cb : Nat → Nat) (sl : Nat → Nat) (len2 : Nat → Nat) (ord2 : Nat → Nat) (kh2 : Nat → Nat) (km2 : Nat → Nat) (h : Nat) (w : Nat) (hn : n ≤ 6) (hord : PermOn n ord) (hlen : ∀ j, len j ≤ 9) (hkd : ∀ j, kd j ≤ 4) (hcm : ∀ j, cm j ≤ 126) (hkp : kp ≤ 9) (hh : h < n) (hw : w ≤ 8) : Met l yX11_houseNow wsX11_houseNow ({ frames := 7, cells := 0, slots := 0, locals := 153 } : Room) (c_P (dC, dI) vwCl (TY y) (fun _ => True) (DW y b rn n lo kp dy so he kn ak pl iw nm sd ik kr lo2 dy2 so2 he2 kn2 dgv kd len ord kh km pg cm sav bo cb sl len2 ord2 kh2 km2) [.ref (b 0), .int (nI (h)), .int (nI (w))]) (va_Qi (fun (r : Int32) (u : Nat → Nat) => r = hvF n kp kd len lo ord h w ∧ ∀ j, u j ≤ 126) (c_B (dC, dI) vwCl (TY y) (fun (u : Nat → Nat) => (DW y b rn n lo kp dy so he kn ak pl iw nm sd ik kr lo2 dy2 so2 he2 kn2 dgv kd len ord kh km pg u sav bo cb sl len2 ord2 kh2 km2))) A) 0 0 A := by
  refine Met.ofW (cc := cX11_houseNow) (maxL := 3) (ret := (some .int)) (by decide) rfl ?_
  intro p e s m args below meth c s₁ BB hml hv
  obtain ⟨rfl, hP, hK, hE⟩ := hv
  have hx := BB.exec
  have hb := BB.bytes
  have hr := BB.returns
  have hts := atoms_spec (ws := wsX11_houseNow) BB.pre
  have hown : s.vm.findClass RX11 = some m.cls := findClass_of_methodNamed BB.named
  have hlocks := BB.notSynchronized
  have hS : va_S A s.heap s.heap [] := va_S.rf
  have hl := lv_entry ([.ref (b 0), .int (nI (h)), .int (nI (w))]) (n := 3) (Nat.le_of_ble_eq_true rfl)
  rw [lg_entry_eq]
  generalize (lg_sl ([.ref (b 0), .int (nI (h)), .int (nI (w))]) ++ List.replicate (3 - (lg_sl ([.ref (b 0), .int (nI (h)), .int (nI (w))])).length) Slot.unset).toArray = ls at hl ⊢
  have hl : lv_has ls 3 [(0, .ref (b 0)), (1, .int (nI (h))), (2, .int (nI (w)))] := hl
  refine lv_aload_n hx hb dX11_houseNow_0 rfl (lv_at hl 0 rfl) ?_
  refine c_callv (va_runV (As := []) (rest := []) ⟨hx, hb, hml, hown, hts⟩ (k_X11_go l dC dI y A b hA0 rn n lo kp dy so he kn ak pl iw nm sd ik kr lo2 dy2 so2 he2 kn2 dgv kd len ord kh km pg cm sav bo cb sl len2 ord2 kh2 km2  hn hord hlen hkd hcm) (cwV 0 hts gX11_houseNow_X11_go rfl rfl rfl (by decide +kernel) ⟨Nat.le_of_ble_eq_true rfl, Nat.le_of_ble_eq_true rfl⟩) (c_preV (c_N0 A) hK hE hS hP (va_recv hK hP (ci := 11) (q0 := 0) rfl rfl)) rfl rfl hl.1 rfl (lv_room (Nat.le_of_ble_eq_true rfl)) dX11_houseNow_1 ⟨Nat.le_refl _, Nat.le_refl _⟩) hS (fun u_1 H locs hw_1 hP hS => ?_)
  have hP : va_P (dC, dI) vwCl (DW y b rn n lo kp dy so he kn ak pl iw nm sd ik kr lo2 dy2 so2 he2 kn2 dgv kd len ord kh km pg u_1 sav bo cb sl len2 ord2 kh2 km2) H := hP
  refine lv_iload_n hx hb dX11_houseNow_4 rfl (lv_at hl 2 rfl) ?_
  rcases (show w = 0 ∨ w = 1 ∨ w = 2 ∨ w = 3 ∨ w = 4 ∨ w = 5 ∨ w = 6 ∨ w = 7 ∨ 7 < w by omega) with k_5 | k_5 | k_5 | k_5 | k_5 | k_5 | k_5 | k_5 | k_5
  · refine n_top (y := nI 0) (by rw [k_5]) ?_
    refine lv_tableIn (off := 47) (tgt := 52) hx hb dX11_houseNow_5 (by decide) (by decide) (by decide) (by decide) ?_
    refine lv_aload_n hx hb dX11_houseNow_52 rfl (lv_at hl 0 rfl) ?_
    refine va_get (D := (dC, dI)) (ci := 11) (C := RX11) (T := TX11) (N := 36) hx hb hts in_X11_houseNow_X11 hown hK hP 0 rfl rfl 2 (by decide) (hts (.fieldLink RX11 7 "MilkRoundModel" "kindOf" "[I") (List.mem_of_getElem? (i := 1) rfl)) (fun _ h9 => h9) rfl dX11_houseNow_53 ?_
    refine lv_iload_n hx hb dX11_houseNow_56 rfl (lv_at hl 1 rfl) ?_
    refine n_iald hx hb hK hP 1 0 rfl rfl (by omega) (by decide) dX11_houseNow_57 ?_
    exact c_iret hx hb hr hlocks hK hS u_1 hP ⟨(by rw [k_5, hvF, if_pos rfl]), hw_1.2⟩ dX11_houseNow_58
  · refine n_top (y := nI 1) (by rw [k_5]) ?_
    refine lv_tableIn (off := 54) (tgt := 59) hx hb dX11_houseNow_5 (by decide) (by decide) (by decide) (by decide) ?_
    refine lv_aload_n hx hb dX11_houseNow_59 rfl (lv_at hl 0 rfl) ?_
    refine va_get (D := (dC, dI)) (ci := 11) (C := RX11) (T := TX11) (N := 36) hx hb hts in_X11_houseNow_X11 hown hK hP 0 rfl rfl 3 (by decide) (hts (.fieldLink RX11 13 "MilkRoundModel" "longOf" "[I") (List.mem_of_getElem? (i := 2) rfl)) (fun _ h9 => h9) rfl dX11_houseNow_60 ?_
    refine lv_iload_n hx hb dX11_houseNow_63 rfl (lv_at hl 1 rfl) ?_
    refine n_iald hx hb hK hP 2 0 rfl rfl (by omega) (by decide) dX11_houseNow_64 ?_
    exact c_iret hx hb hr hlocks hK hS u_1 hP ⟨(by rw [k_5, hvF, if_neg (by decide), if_pos rfl]), hw_1.2⟩ dX11_houseNow_65
  · refine n_top (y := nI 2) (by rw [k_5]) ?_
    refine lv_tableIn (off := 61) (tgt := 66) hx hb dX11_houseNow_5 (by decide) (by decide) (by decide) (by decide) ?_
    refine lv_aload_n hx hb dX11_houseNow_66 rfl (lv_at hl 0 rfl) ?_
    refine va_get (D := (dC, dI)) (ci := 11) (C := RX11) (T := TX11) (N := 36) hx hb hts in_X11_houseNow_X11 hown hK hP 0 rfl rfl 5 (by decide) (hts (.fieldLink RX11 91 "MilkRoundModel" "leftOut" "I") (List.mem_of_getElem? (i := 3) rfl)) (fun _ h9 => h9) rfl dX11_houseNow_67 ?_
    refine lv_iload_n hx hb dX11_houseNow_70 rfl (lv_at hl 1 rfl) ?_
    refine lv_ishr hx hb dX11_houseNow_71 ?_
    refine lv_iconst (v := nI (1)) hx hb dX11_houseNow_72 (by decide) ?_
    refine lv_iand hx hb dX11_houseNow_73 ?_
    exact c_iret hx hb hr hlocks hK hS u_1 hP ⟨(by rw [k_5, hvF, if_neg (by decide), if_neg (by decide), if_pos rfl]; rfl), hw_1.2⟩ dX11_houseNow_74
  · refine n_top (y := nI 3) (by rw [k_5]) ?_
    refine lv_tableIn (off := 70) (tgt := 75) hx hb dX11_houseNow_5 (by decide) (by decide) (by decide) (by decide) ?_
    refine lv_aload_n hx hb dX11_houseNow_75 rfl (lv_at hl 0 rfl) ?_
    refine lv_iload_n hx hb dX11_houseNow_76 rfl (lv_at hl 1 rfl) ?_
    refine c_calli (va_runV (As := [.int (nI (h))]) (rest := []) ⟨hx, hb, hml, hown, hts⟩ (k_X11_reads l dC dI y A b hA0 rn n lo kp dy so he kn ak pl iw nm sd ik kr lo2 dy2 so2 he2 kn2 dgv kd len ord kh km pg u_1 sav bo cb sl len2 ord2 kh2 km2 h (by omega) hlen hkd) (cwV 1 hts gX11_houseNow_X11_reads rfl rfl rfl (by decide +kernel) ⟨Nat.le_of_ble_eq_true rfl, Nat.le_of_ble_eq_true rfl⟩) (c_preV (c_N0 A) hK hE hS hP (va_recv hK hP (ci := 11) (q0 := 0) rfl rfl)) rfl rfl hl.1 rfl (lv_room (Nat.le_of_ble_eq_true rfl)) dX11_houseNow_77 ⟨Nat.le_refl _, Nat.le_refl _⟩) hS (fun r_77 u_77 H locs hw_77 hP hS => ?_)
    obtain rfl := hw_77
    exact c_iret hx hb hr hlocks hK hS u_1 hP ⟨(by rw [k_5, hvF, if_neg (by decide), if_neg (by decide), if_neg (by decide), if_pos rfl]), hw_1.2⟩ dX11_houseNow_80
  · refine n_top (y := nI 4) (by rw [k_5]) ?_
    refine lv_tableIn (off := 76) (tgt := 81) hx hb dX11_houseNow_5 (by decide) (by decide) (by decide) (by decide) ?_
    refine lv_aload_n hx hb dX11_houseNow_81 rfl (lv_at hl 0 rfl) ?_
    refine lv_iload_n hx hb dX11_houseNow_82 rfl (lv_at hl 1 rfl) ?_
    obtain ⟨kk, hkk, hek⟩ := hord.onto hh
    refine c_calli (va_runV (As := [.int (nI (h))]) (rest := []) ⟨hx, hb, hml, hown, hts⟩ (k_X11_placeOf l dC dI y A b hA0 rn n lo kp dy so he kn ak pl iw nm sd ik kr lo2 dy2 so2 he2 kn2 dgv kd len ord kh km pg u_1 sav bo cb sl len2 ord2 kh2 km2 h kk hn hord hkk hek) (cwV 1 hts gX11_houseNow_X11_placeOf rfl rfl rfl (by decide +kernel) ⟨Nat.le_of_ble_eq_true rfl, Nat.le_of_ble_eq_true rfl⟩) (c_preV (c_N0 A) hK hE hS hP (va_recv hK hP (ci := 11) (q0 := 0) rfl rfl)) rfl rfl hl.1 rfl (lv_room (Nat.le_of_ble_eq_true rfl)) dX11_houseNow_83 ⟨Nat.le_refl _, Nat.le_refl _⟩) hS (fun r_83 u_83 H locs hw_83 hP hS => ?_)
    obtain rfl := hw_83
    exact c_iret hx hb hr hlocks hK hS u_1 hP ⟨(by rw [k_5, hvF, if_neg (by decide), if_neg (by decide), if_neg (by decide), if_neg (by decide), if_pos rfl]; rw [posF_eq hord hkk hek]), hw_1.2⟩ dX11_houseNow_86
  · refine n_top (y := nI 5) (by rw [k_5]) ?_
    refine lv_tableIn (off := 82) (tgt := 87) hx hb dX11_houseNow_5 (by decide) (by decide) (by decide) (by decide) ?_
    refine lv_aload_n hx hb dX11_houseNow_87 rfl (lv_at hl 0 rfl) ?_
    refine va_get (D := (dC, dI)) (ci := 11) (C := RX11) (T := TX11) (N := 36) hx hb hts in_X11_houseNow_X11 hown hK hP 0 rfl rfl 18 (by decide) (hts (.fieldLink RX11 29 "MilkRoundModel" "comesAt" "[I") (List.mem_of_getElem? (i := 4) rfl)) (fun _ h9 => h9) rfl dX11_houseNow_88 ?_
    refine lv_iload_n hx hb dX11_houseNow_91 rfl (lv_at hl 1 rfl) ?_
    refine n_iald hx hb hK hP 7 0 rfl rfl (by omega) (by decide) dX11_houseNow_92 ?_
    exact c_iret hx hb hr hlocks hK hS u_1 hP ⟨(by rw [k_5, hvF, if_neg (by decide), if_neg (by decide), if_neg (by decide), if_neg (by decide), if_neg (by decide), if_pos rfl]; rw [hw_1.1 h (by omega)]), hw_1.2⟩ dX11_houseNow_93
  · refine n_top (y := nI 6) (by rw [k_5]) ?_
    refine lv_tableIn (off := 89) (tgt := 94) hx hb dX11_houseNow_5 (by decide) (by decide) (by decide) (by decide) ?_
    refine lv_aload_n hx hb dX11_houseNow_94 rfl (lv_at hl 0 rfl) ?_
    refine lv_iload_n hx hb dX11_houseNow_95 rfl (lv_at hl 1 rfl) ?_
    refine c_calli (va_runV (As := [.int (nI (h))]) (rest := []) ⟨hx, hb, hml, hown, hts⟩ (k_X11_isSour l dC dI y A b hA0 rn n lo kp dy so he kn ak pl iw nm sd ik kr lo2 dy2 so2 he2 kn2 dgv kd len ord kh km pg u_1 sav bo cb sl len2 ord2 kh2 km2 h (by omega) hkp hw_1.2 hkd) (cwV 1 hts gX11_houseNow_X11_isSour rfl rfl rfl (by decide +kernel) ⟨Nat.le_of_ble_eq_true rfl, Nat.le_of_ble_eq_true rfl⟩) (c_preV (c_N0 A) hK hE hS hP (va_recv hK hP (ci := 11) (q0 := 0) rfl rfl)) rfl rfl hl.1 rfl (lv_room (Nat.le_of_ble_eq_true rfl)) dX11_houseNow_96 ⟨Nat.le_refl _, Nat.le_refl _⟩) hS (fun r_96 u_96 H locs hw_96 hP hS => ?_)
    obtain rfl := hw_96
    refine n_bif_eq (tgt := 106) hx hb dX11_houseNow_99 (by decide) (fun c_99 => ?_) (fun c_99 => ?_)
    · refine lv_iconst (v := nI (0)) hx hb dX11_houseNow_106 (by decide) ?_
      exact c_iret hx hb hr hlocks hK hS u_1 hP ⟨(by rw [k_5, hvF, if_neg (by decide), if_neg (by decide), if_neg (by decide), if_neg (by decide), if_neg (by decide), if_neg (by decide), if_pos rfl]; rw [← (sourB_cong (hw_1.1 h (by omega))), c_99]; rfl), hw_1.2⟩ dX11_houseNow_107
    · refine lv_iconst (v := nI (1)) hx hb dX11_houseNow_102 (by decide) ?_
      refine lv_goto (tgt := 107) hx hb dX11_houseNow_103 (by decide) ?_
      exact c_iret hx hb hr hlocks hK hS u_1 hP ⟨(by rw [k_5, hvF, if_neg (by decide), if_neg (by decide), if_neg (by decide), if_neg (by decide), if_neg (by decide), if_neg (by decide), if_pos rfl]; rw [← (sourB_cong (hw_1.1 h (by omega))), c_99]; rfl), hw_1.2⟩ dX11_houseNow_107
  · refine n_top (y := nI 7) (by rw [k_5]) ?_
    refine lv_tableIn (off := 103) (tgt := 108) hx hb dX11_houseNow_5 (by decide) (by decide) (by decide) (by decide) ?_
    refine lv_aload_n hx hb dX11_houseNow_108 rfl (lv_at hl 0 rfl) ?_
    refine lv_iload_n hx hb dX11_houseNow_109 rfl (lv_at hl 1 rfl) ?_
    refine c_calli (va_runV (As := [.int (nI (h))]) (rest := []) ⟨hx, hb, hml, hown, hts⟩ (k_X11_hears l dC dI y A b hA0 rn n lo kp dy so he kn ak pl iw nm sd ik kr lo2 dy2 so2 he2 kn2 dgv kd len ord kh km pg u_1 sav bo cb sl len2 ord2 kh2 km2 h (by omega) hn hw_1.2 hkd) (cwV 1 hts gX11_houseNow_X11_hears rfl rfl rfl (by decide +kernel) ⟨Nat.le_of_ble_eq_true rfl, Nat.le_of_ble_eq_true rfl⟩) (c_preV (c_N0 A) hK hE hS hP (va_recv hK hP (ci := 11) (q0 := 0) rfl rfl)) rfl rfl hl.1 rfl (lv_room (Nat.le_of_ble_eq_true rfl)) dX11_houseNow_110 ⟨Nat.le_refl _, Nat.le_refl _⟩) hS (fun r_110 u_110 H locs hw_110 hP hS => ?_)
    obtain rfl := hw_110
    refine n_bif_eq (tgt := 120) hx hb dX11_houseNow_113 (by decide) (fun c_113 => ?_) (fun c_113 => ?_)
    · refine lv_iconst (v := nI (0)) hx hb dX11_houseNow_120 (by decide) ?_
      exact c_iret hx hb hr hlocks hK hS u_1 hP ⟨(by rw [k_5, hvF, if_neg (by decide), if_neg (by decide), if_neg (by decide), if_neg (by decide), if_neg (by decide), if_neg (by decide), if_neg (by decide), if_pos rfl]; rw [← (hearB_cong (by omega) hw_1.1), c_113]; rfl), hw_1.2⟩ dX11_houseNow_121
    · refine lv_iconst (v := nI (1)) hx hb dX11_houseNow_116 (by decide) ?_
      refine lv_goto (tgt := 121) hx hb dX11_houseNow_117 (by decide) ?_
      exact c_iret hx hb hr hlocks hK hS u_1 hP ⟨(by rw [k_5, hvF, if_neg (by decide), if_neg (by decide), if_neg (by decide), if_neg (by decide), if_neg (by decide), if_neg (by decide), if_neg (by decide), if_pos rfl]; rw [← (hearB_cong (by omega) hw_1.1), c_113]; rfl), hw_1.2⟩ dX11_houseNow_121
  · refine lv_tableOut (tgt := 122) hx hb dX11_houseNow_5 (by rw [nI_toInt (by omega)]; omega) (by decide) ?_
    refine lv_aload_n hx hb dX11_houseNow_122 rfl (lv_at hl 0 rfl) ?_
    refine lv_iload_n hx hb dX11_houseNow_123 rfl (lv_at hl 1 rfl) ?_
    refine c_calli (va_runV (As := [.int (nI (h))]) (rest := []) ⟨hx, hb, hml, hown, hts⟩ (k_X11_mostOf l dC dI y A b hA0 rn n lo kp dy so he kn ak pl iw nm sd ik kr lo2 dy2 so2 he2 kn2 dgv kd len ord kh km pg u_1 sav bo cb sl len2 ord2 kh2 km2 h hn hord hlen hkd hw_1.2 hkp (by omega)) (cwV 1 hts gX11_houseNow_X11_mostOf rfl rfl rfl (by decide +kernel) ⟨Nat.le_of_ble_eq_true rfl, Nat.le_of_ble_eq_true rfl⟩) (c_preV (c_N0 A) hK hE hS hP (va_recv hK hP (ci := 11) (q0 := 0) rfl rfl)) rfl rfl hl.1 rfl (lv_room (Nat.le_of_ble_eq_true rfl)) dX11_houseNow_124 ⟨Nat.le_refl _, Nat.le_refl _⟩) hS (fun r_124 u_124 H locs hw_124 hP hS => ?_)
    have hP : va_P (dC, dI) vwCl (DW y b rn n lo kp dy so he kn ak pl iw nm sd ik kr lo2 dy2 so2 he2 kn2 dgv kd len ord kh km pg u_124 sav bo cb sl len2 ord2 kh2 km2) H := hP
    obtain ⟨rfl, hw_124⟩ := hw_124
    exact c_iret hx hb hr hlocks hK hS u_124 hP ⟨(by rw [hvF, if_neg (by omega), if_neg (by omega), if_neg (by omega), if_neg (by omega), if_neg (by omega), if_neg (by omega), if_neg (by omega), if_neg (by omega)]), hw_124⟩ dX11_houseNow_127
set_option maxHeartbeats 4000000 in
set_option maxRecDepth 100000 in
theorem k_X11_about (l : Launch) (dC : Nat → ClassId) (dI : Nat → Nat → Nat) (y : Nat → ClassId) (A : Nat → Prop) (b : Nat → Nat) (hA0 : ad_ok A b 16) (rn : Nat) (n : Nat) (lo : Int32) (kp : Nat) (dy : Int32) (so : Int32) (he : Int32) (kn : Nat) (ak : Nat) (pl : Nat) (iw : Bool) (nm : Nat) (sd : Int64) (ik : Bool) (kr : Nat) (lo2 : Int32) (dy2 : Int32) (so2 : Int32) (he2 : Int32) (kn2 : Nat) (dgv : Int64) (kd : Nat → Nat) (len : Nat → Nat) (ord : Nat → Nat) (kh : Nat → Nat) (km : Nat → Nat) (pg : Nat → Nat) (cm : Nat → Nat) (sav : Nat → Nat) (bo : Nat → Nat) (cb : Nat → Nat) (sl : Nat → Nat) (len2 : Nat → Nat) (ord2 : Nat → Nat) (kh2 : Nat → Nat) (km2 : Nat → Nat) (h : Int32) (w : Int32) (hn : n ≤ 6) (hord : PermOn n ord) (hlen : ∀ j, len j ≤ 9) (hkd : ∀ j, kd j ≤ 4) (hcm : ∀ j, cm j ≤ 126) (hkp : kp ≤ 9) : Met l yX11_about wsX11_about ({ frames := 8, cells := 0, slots := 0, locals := 175 } : Room) (c_P (dC, dI) vwCl (TY y) (fun _ => True) (DW y b rn n lo kp dy so he kn ak pl iw nm sd ik kr lo2 dy2 so2 he2 kn2 dgv kd len ord kh km pg cm sav bo cb sl len2 ord2 kh2 km2) [.ref (b 0), .int (h), .int (w)]) (va_Qi (fun (r : Int32) (u : Nat → Nat) => r = rAbout n kp kd len lo ord h w ∧ ∀ j, u j ≤ 126) (c_B (dC, dI) vwCl (TY y) (fun (u : Nat → Nat) => (DW y b rn n lo kp dy so he kn ak pl iw nm sd ik kr lo2 dy2 so2 he2 kn2 dgv kd len ord kh km pg u sav bo cb sl len2 ord2 kh2 km2))) A) 0 0 A := by
  refine Met.ofW (cc := cX11_about) (maxL := 3) (ret := (some .int)) (by decide) rfl ?_
  intro p e s m args below meth c s₁ BB hml hv
  obtain ⟨rfl, hP, hK, hE⟩ := hv
  have hx := BB.exec
  have hb := BB.bytes
  have hr := BB.returns
  have hts := atoms_spec (ws := wsX11_about) BB.pre
  have hown : s.vm.findClass RX11 = some m.cls := findClass_of_methodNamed BB.named
  have hlocks := BB.notSynchronized
  have hS : va_S A s.heap s.heap [] := va_S.rf
  have hl := lv_entry ([.ref (b 0), .int (h), .int (w)]) (n := 3) (Nat.le_of_ble_eq_true rfl)
  rw [lg_entry_eq]
  generalize (lg_sl ([.ref (b 0), .int (h), .int (w)]) ++ List.replicate (3 - (lg_sl ([.ref (b 0), .int (h), .int (w)])).length) Slot.unset).toArray = ls at hl ⊢
  have hl : lv_has ls 3 [(0, .ref (b 0)), (1, .int (h)), (2, .int (w))] := hl
  refine lv_aload_n hx hb dX11_about_0 rfl (lv_at hl 0 rfl) ?_
  refine lv_iload_n hx hb dX11_about_1 rfl (lv_at hl 1 rfl) ?_
  refine c_calli (va_runV (As := [.int (h)]) (rest := []) ⟨hx, hb, hml, hown, hts⟩ (k_X11_isHouse l dC dI y A b hA0 rn n lo kp dy so he kn ak pl iw nm sd ik kr lo2 dy2 so2 he2 kn2 dgv kd len ord kh km pg cm sav bo cb sl len2 ord2 kh2 km2 h (by omega)) (cwV 1 hts gX11_about_X11_isHouse rfl rfl rfl (by decide +kernel) ⟨Nat.le_of_ble_eq_true rfl, Nat.le_of_ble_eq_true rfl⟩) (c_preV (c_N0 A) hK hE hS hP (va_recv hK hP (ci := 11) (q0 := 0) rfl rfl)) rfl rfl hl.1 rfl (lv_room (Nat.le_of_ble_eq_true rfl)) dX11_about_2 ⟨Nat.le_refl _, Nat.le_refl _⟩) hS (fun r_2 u_2 H locs hw_2 hP hS => ?_)
  obtain rfl := hw_2
  refine n_bif_ne (tgt := 13) hx hb dX11_about_5 (by decide) (fun c_5 => ?_) (fun c_5 => ?_)
  · obtain ⟨j, hj, ej⟩ := isH_of (by omega) c_5
    rw [ej] at hl
    have hl : lv_has ls 3 [(0, .ref (b 0)), (1, .int (nI (j))), (2, .int (w))] := hl
    refine lv_iload_n hx hb dX11_about_13 rfl (lv_at hl 2 rfl) ?_
    refine lv_iconst (v := nI (0)) hx hb dX11_about_14 (by decide) ?_
    refine lv_bipush (v := nI (8)) hx hb dX11_about_15 (by decide) ?_
    refine c_calli (va_runS (As := [.int (w), .int (nI (0)), .int (nI (8))]) (rest := []) ⟨hx, hb, hml, hown, hts⟩ (k_X11_within l dC dI y A (DW y b rn n lo kp dy so he kn ak pl iw nm sd ik kr lo2 dy2 so2 he2 kn2 dgv kd len ord kh km pg cm sav bo cb sl len2 ord2 kh2 km2) (fun _ => True) w (nI (0)) (nI (8)) ) (va_cwS 3 hts gX11_about_X11_within rfl rfl rfl (by decide +kernel) ⟨Nat.le_of_ble_eq_true rfl, Nat.le_of_ble_eq_true rfl⟩) (c_preS (c_N0 A) hK hE hS hP) rfl rfl hl.1 rfl (lv_room (Nat.le_of_ble_eq_true rfl)) dX11_about_17 ⟨Nat.le_refl _, Nat.le_refl _⟩) hS (fun r_17 u_17 H locs hw_17 hP hS => ?_)
    obtain rfl := hw_17
    refine n_bif_eq (tgt := 32) hx hb dX11_about_20 (by decide) (fun c_20 => ?_) (fun c_20 => ?_)
    · refine lv_bipush (v := (-102)) hx hb dX11_about_32 (by decide) ?_
      exact c_iret hx hb hr hlocks hK hS cm hP ⟨by unfold rAbout; rw [c_5, show inR w 8 = false from c_20]; rfl, hcm⟩ dX11_about_34
    · obtain ⟨k, hk, ek⟩ := inR_of (m := 8) (by decide) c_20
      rw [ek] at hl
      have hl : lv_has ls 3 [(0, .ref (b 0)), (1, .int (nI (j))), (2, .int (nI (k)))] := hl
      refine lv_aload_n hx hb dX11_about_23 rfl (lv_at hl 0 rfl) ?_
      refine lv_iload_n hx hb dX11_about_24 rfl (lv_at hl 1 rfl) ?_
      refine lv_iload_n hx hb dX11_about_25 rfl (lv_at hl 2 rfl) ?_
      refine c_calli (va_runV (As := [.int (nI (j)), .int (nI (k))]) (rest := []) ⟨hx, hb, hml, hown, hts⟩ (k_X11_houseNow l dC dI y A b hA0 rn n lo kp dy so he kn ak pl iw nm sd ik kr lo2 dy2 so2 he2 kn2 dgv kd len ord kh km pg cm sav bo cb sl len2 ord2 kh2 km2 j k hn hord hlen hkd hcm hkp hj hk) (cwV 2 hts gX11_about_X11_houseNow rfl rfl rfl (by decide +kernel) ⟨Nat.le_of_ble_eq_true rfl, Nat.le_of_ble_eq_true rfl⟩) (c_preV (c_N0 A) hK hE hS hP (va_recv hK hP (ci := 11) (q0 := 0) rfl rfl)) rfl rfl hl.1 rfl (lv_room (Nat.le_of_ble_eq_true rfl)) dX11_about_26 ⟨Nat.le_refl _, Nat.le_refl _⟩) hS (fun r_26 u_26 H locs hw_26 hP hS => ?_)
      have hP : va_P (dC, dI) vwCl (DW y b rn n lo kp dy so he kn ak pl iw nm sd ik kr lo2 dy2 so2 he2 kn2 dgv kd len ord kh km pg u_26 sav bo cb sl len2 ord2 kh2 km2) H := hP
      obtain ⟨rfl, hw_26⟩ := hw_26
      refine lv_goto (tgt := 34) hx hb dX11_about_29 (by decide) ?_
      exact c_iret hx hb hr hlocks hK hS u_26 hP ⟨by unfold rAbout; rw [c_5, show inR w 8 = true from c_20, ej, ek, nI_clamp (by omega), nI_clamp (by omega)]; rfl, hw_26⟩ dX11_about_34
  · refine lv_bipush (v := (-101)) hx hb dX11_about_8 (by decide) ?_
    refine lv_goto (tgt := 34) hx hb dX11_about_10 (by decide) ?_
    exact c_iret hx hb hr hlocks hK hS cm hP ⟨by unfold rAbout; rw [c_5]; rfl, hcm⟩ dX11_about_34
theorem in_X11_as_X11 : ∀ w ∈ wsX110, w ∈ wsX11_as := fun w h => List.mem_cons_of_mem _ (List.mem_append_right _ h)
set_option maxHeartbeats 4000000 in
set_option maxRecDepth 100000 in
theorem k_X11_as (l : Launch) (dC : Nat → ClassId) (dI : Nat → Nat → Nat) (y : Nat → ClassId) (A : Nat → Prop) (b : Nat → Nat) (hA0 : ad_ok A b 16) (rn : Nat) (n : Nat) (lo : Int32) (kp : Nat) (dy : Int32) (so : Int32) (he : Int32) (kn : Nat) (ak : Nat) (pl : Nat) (iw : Bool) (nm : Nat) (sd : Int64) (ik : Bool) (kr : Nat) (lo2 : Int32) (dy2 : Int32) (so2 : Int32) (he2 : Int32) (kn2 : Nat) (dgv : Int64) (kd : Nat → Nat) (len : Nat → Nat) (ord : Nat → Nat) (kh : Nat → Nat) (km : Nat → Nat) (pg : Nat → Nat) (cm : Nat → Nat) (sav : Nat → Nat) (bo : Nat → Nat) (cb : Nat → Nat) (sl : Nat → Nat) (len2 : Nat → Nat) (ord2 : Nat → Nat) (kh2 : Nat → Nat) (km2 : Nat → Nat) (h : Int32) (w : Int32) (hn : n ≤ 6) (hkd : ∀ j, kd j ≤ 4) : Met l yX11_as wsX11_as ({ frames := 2, cells := 0, slots := 0, locals := 43 } : Room) (c_P (dC, dI) vwCl (TY y) (fun _ => True) (DW y b rn n lo kp dy so he kn ak pl iw nm sd ik kr lo2 dy2 so2 he2 kn2 dgv kd len ord kh km pg cm sav bo cb sl len2 ord2 kh2 km2) [.ref (b 0), .int (h), .int (w)]) (va_Qi (fun (r : Int32) (u : Unit) => r = rAs n kd h w) (c_B (dC, dI) vwCl (TY y) (fun (u : Unit) => (DW y b rn n lo kp dy so he kn ak pl iw nm sd ik kr lo2 dy2 so2 he2 kn2 dgv kd len ord kh km pg cm sav bo cb sl len2 ord2 kh2 km2))) A) 0 0 A := by
  refine Met.ofW (cc := cX11_as) (maxL := 4) (ret := (some .int)) (by decide) rfl ?_
  intro p e s m args below meth c s₁ BB hml hv
  obtain ⟨rfl, hP, hK, hE⟩ := hv
  have hx := BB.exec
  have hb := BB.bytes
  have hr := BB.returns
  have hts := atoms_spec (ws := wsX11_as) BB.pre
  have hown : s.vm.findClass RX11 = some m.cls := findClass_of_methodNamed BB.named
  have hlocks := BB.notSynchronized
  have hS : va_S A s.heap s.heap [] := va_S.rf
  have hl := lv_entry ([.ref (b 0), .int (h), .int (w)]) (n := 4) (Nat.le_of_ble_eq_true rfl)
  rw [lg_entry_eq]
  generalize (lg_sl ([.ref (b 0), .int (h), .int (w)]) ++ List.replicate (4 - (lg_sl ([.ref (b 0), .int (h), .int (w)])).length) Slot.unset).toArray = ls at hl ⊢
  have hl : lv_has ls 4 [(0, .ref (b 0)), (1, .int (h)), (2, .int (w))] := hl
  refine lv_aload_n hx hb dX11_as_0 rfl (lv_at hl 0 rfl) ?_
  refine lv_iload_n hx hb dX11_as_1 rfl (lv_at hl 1 rfl) ?_
  refine c_calli (va_runV (As := [.int (h)]) (rest := []) ⟨hx, hb, hml, hown, hts⟩ (k_X11_isHouse l dC dI y A b hA0 rn n lo kp dy so he kn ak pl iw nm sd ik kr lo2 dy2 so2 he2 kn2 dgv kd len ord kh km pg cm sav bo cb sl len2 ord2 kh2 km2 h (by omega)) (cwV 1 hts gX11_as_X11_isHouse rfl rfl rfl (by decide +kernel) ⟨Nat.le_of_ble_eq_true rfl, Nat.le_of_ble_eq_true rfl⟩) (c_preV (c_N0 A) hK hE hS hP (va_recv hK hP (ci := 11) (q0 := 0) rfl rfl)) rfl rfl hl.1 rfl (lv_room (Nat.le_of_ble_eq_true rfl)) dX11_as_2 ⟨Nat.le_refl _, Nat.le_refl _⟩) hS (fun r_2 u_2 H locs hw_2 hP hS => ?_)
  obtain rfl := hw_2
  refine n_bif_ne (tgt := 11) hx hb dX11_as_5 (by decide) (fun c_5 => ?_) (fun c_5 => ?_)
  · obtain ⟨j, hj, ej⟩ := isH_of (by omega) c_5
    rw [ej] at hl
    have hl : lv_has ls 4 [(0, .ref (b 0)), (1, .int (nI (j))), (2, .int (w))] := hl
    refine lv_iload_n hx hb dX11_as_11 rfl (lv_at hl 2 rfl) ?_
    refine lv_iconst (v := nI (0)) hx hb dX11_as_12 (by decide) ?_
    refine lv_iconst (v := nI (4)) hx hb dX11_as_13 (by decide) ?_
    refine c_calli (va_runS (As := [.int (w), .int (nI (0)), .int (nI (4))]) (rest := []) ⟨hx, hb, hml, hown, hts⟩ (k_X11_within l dC dI y A (DW y b rn n lo kp dy so he kn ak pl iw nm sd ik kr lo2 dy2 so2 he2 kn2 dgv kd len ord kh km pg cm sav bo cb sl len2 ord2 kh2 km2) (fun _ => True) w (nI (0)) (nI (4)) ) (va_cwS 3 hts gX11_as_X11_within rfl rfl rfl (by decide +kernel) ⟨Nat.le_of_ble_eq_true rfl, Nat.le_of_ble_eq_true rfl⟩) (c_preS (c_N0 A) hK hE hS hP) rfl rfl hl.1 rfl (lv_room (Nat.le_of_ble_eq_true rfl)) dX11_as_14 ⟨Nat.le_refl _, Nat.le_refl _⟩) hS (fun r_14 u_14 H locs hw_14 hP hS => ?_)
    obtain rfl := hw_14
    refine n_bif_ne (tgt := 23) hx hb dX11_as_17 (by decide) (fun c_17 => ?_) (fun c_17 => ?_)
    · obtain ⟨k, hk, ek⟩ := inR_of (m := 4) (by decide) c_17
      rw [ek] at hl
      have hl : lv_has ls 4 [(0, .ref (b 0)), (1, .int (nI (j))), (2, .int (nI (k)))] := hl
      refine lv_aload_n hx hb dX11_as_23 rfl (lv_at hl 0 rfl) ?_
      refine va_get (D := (dC, dI)) (ci := 11) (C := RX11) (T := TX11) (N := 36) hx hb hts in_X11_as_X11 hown hK hP 0 rfl rfl 2 (by decide) (hts (.fieldLink RX11 7 "MilkRoundModel" "kindOf" "[I") (List.mem_of_getElem? (i := 1) rfl)) (fun _ h9 => h9) rfl dX11_as_24 ?_
      refine lv_iload_n hx hb dX11_as_27 rfl (lv_at hl 1 rfl) ?_
      refine n_iald hx hb hK hP 1 0 rfl rfl (by omega) (by decide) dX11_as_28 ?_
      have hb_28 := hkd j
      refine lv_istore_n (lv' := [(3, .int (nI (kd j))), (0, .ref (b 0)), (1, .int (nI (j))), (2, .int (nI (k)))]) hx hb dX11_as_29 rfl hl (by decide) rfl (fun ls hl => ?_)
      refine lv_iload_n hx hb dX11_as_30 rfl (lv_at hl 3 rfl) ?_
      refine n_if_eq (tgt := 49) hx hb dX11_as_31 (by decide) (by omega) (fun c_31 => ?_) (fun c_31 => ?_)
      · refine lv_iload_n hx hb dX11_as_49 rfl (lv_at hl 2 rfl) ?_
        refine lv_goto (tgt := 54) hx hb dX11_as_50 (by decide) ?_
        exact c_iret hx hb hr hlocks hK hS () hP (by unfold rAs; rw [c_5, show inR w 4 = true from c_17, ej, ek, nI_clamp (by omega), nI_clamp (by omega), show asOk (kd j) k = true from decide_eq_true (by omega)]; rfl) dX11_as_54
      · refine lv_iload_n hx hb dX11_as_34 rfl (lv_at hl 0 rfl) ?_
        refine lv_iload_n hx hb dX11_as_35 rfl (lv_at hl 3 rfl) ?_
        refine n_icmp_eq (tgt := 49) hx hb dX11_as_36 (by decide) (by omega) (by omega) (fun c_36 => ?_) (fun c_36 => ?_)
        · refine lv_iload_n hx hb dX11_as_49 rfl (lv_at hl 2 rfl) ?_
          refine lv_goto (tgt := 54) hx hb dX11_as_50 (by decide) ?_
          exact c_iret hx hb hr hlocks hK hS () hP (by unfold rAs; rw [c_5, show inR w 4 = true from c_17, ej, ek, nI_clamp (by omega), nI_clamp (by omega), show asOk (kd j) k = true from decide_eq_true (by omega)]; rfl) dX11_as_54
        · refine lv_iload_n hx hb dX11_as_39 rfl (lv_at hl 3 rfl) ?_
          refine lv_iconst (v := nI (1)) hx hb dX11_as_40 (by decide) ?_
          refine n_icmp_ne (tgt := 53) hx hb dX11_as_41 (by decide) (by omega) (by omega) (fun c_41 => ?_) (fun c_41 => ?_)
          · refine lv_iconst (v := (-1)) hx hb dX11_as_53 (by decide) ?_
            exact c_iret hx hb hr hlocks hK hS () hP (by unfold rAs; rw [c_5, show inR w 4 = true from c_17, ej, ek, nI_clamp (by omega), nI_clamp (by omega), show asOk (kd j) k = false from decide_eq_false (by omega)]; rfl) dX11_as_54
          · refine lv_iload_n hx hb dX11_as_44 rfl (lv_at hl 0 rfl) ?_
            refine lv_iconst (v := nI (4)) hx hb dX11_as_45 (by decide) ?_
            refine n_icmp_ne (tgt := 53) hx hb dX11_as_46 (by decide) (by omega) (by omega) (fun c_46 => ?_) (fun c_46 => ?_)
            · refine lv_iconst (v := (-1)) hx hb dX11_as_53 (by decide) ?_
              exact c_iret hx hb hr hlocks hK hS () hP (by unfold rAs; rw [c_5, show inR w 4 = true from c_17, ej, ek, nI_clamp (by omega), nI_clamp (by omega), show asOk (kd j) k = false from decide_eq_false (by omega)]; rfl) dX11_as_54
            · refine lv_iload_n hx hb dX11_as_49 rfl (lv_at hl 2 rfl) ?_
              refine lv_goto (tgt := 54) hx hb dX11_as_50 (by decide) ?_
              exact c_iret hx hb hr hlocks hK hS () hP (by unfold rAs; rw [c_5, show inR w 4 = true from c_17, ej, ek, nI_clamp (by omega), nI_clamp (by omega), show asOk (kd j) k = true from decide_eq_true (by omega)]; rfl) dX11_as_54
    · refine lv_bipush (v := (-102)) hx hb dX11_as_20 (by decide) ?_
      exact c_iret hx hb hr hlocks hK hS () hP (by unfold rAs; rw [c_5, show inR w 4 = false from c_17]; rfl) dX11_as_22
  · refine lv_bipush (v := (-101)) hx hb dX11_as_8 (by decide) ?_
    exact c_iret hx hb hr hlocks hK hS () hP (by unfold rAs; rw [c_5]; rfl) dX11_as_10
theorem in_X11_letters_X11 : ∀ w ∈ wsX110, w ∈ wsX11_letters := fun w h => List.mem_cons_of_mem _ (List.mem_append_right _ h)
set_option maxHeartbeats 4000000 in
set_option maxRecDepth 100000 in
theorem k_X11_letters (l : Launch) (dC : Nat → ClassId) (dI : Nat → Nat → Nat) (y : Nat → ClassId) (A : Nat → Prop) (b : Nat → Nat) (hA0 : ad_ok A b 16) (rn : Nat) (n : Nat) (lo : Int32) (kp : Nat) (dy : Int32) (so : Int32) (he : Int32) (kn : Nat) (ak : Nat) (pl : Nat) (iw : Bool) (nm : Nat) (sd : Int64) (ik : Bool) (kr : Nat) (lo2 : Int32) (dy2 : Int32) (so2 : Int32) (he2 : Int32) (kn2 : Nat) (dgv : Int64) (kd : Nat → Nat) (len : Nat → Nat) (ord : Nat → Nat) (kh : Nat → Nat) (km : Nat → Nat) (pg : Nat → Nat) (cm : Nat → Nat) (sav : Nat → Nat) (bo : Nat → Nat) (cb : Nat → Nat) (sl : Nat → Nat) (len2 : Nat → Nat) (ord2 : Nat → Nat) (kh2 : Nat → Nat) (km2 : Nat → Nat) (h : Int32) (w : Int32) (hn : n ≤ 6) : Met l yX11_letters wsX11_letters ({ frames := 2, cells := 0, slots := 0, locals := 43 } : Room) (c_P (dC, dI) vwCl (TY y) (fun _ => True) (DW y b rn n lo kp dy so he kn ak pl iw nm sd ik kr lo2 dy2 so2 he2 kn2 dgv kd len ord kh km pg cm sav bo cb sl len2 ord2 kh2 km2) [.ref (b 0), .int (h), .int (w)]) (va_Qi (fun (r : Int32) (u : Unit) => r = rLetters n len h w) (c_B (dC, dI) vwCl (TY y) (fun (u : Unit) => (DW y b rn n lo kp dy so he kn ak pl iw nm sd ik kr lo2 dy2 so2 he2 kn2 dgv kd (sLetters n len h w) ord kh km pg cm sav bo cb sl len2 ord2 kh2 km2))) A) 0 0 A := by
  refine Met.ofW (cc := cX11_letters) (maxL := 4) (ret := (some .int)) (by decide) rfl ?_
  intro p e s m args below meth c s₁ BB hml hv
  obtain ⟨rfl, hP, hK, hE⟩ := hv
  have hx := BB.exec
  have hb := BB.bytes
  have hr := BB.returns
  have hts := atoms_spec (ws := wsX11_letters) BB.pre
  have hown : s.vm.findClass RX11 = some m.cls := findClass_of_methodNamed BB.named
  have hlocks := BB.notSynchronized
  have hS : va_S A s.heap s.heap [] := va_S.rf
  have hl := lv_entry ([.ref (b 0), .int (h), .int (w)]) (n := 4) (Nat.le_of_ble_eq_true rfl)
  rw [lg_entry_eq]
  generalize (lg_sl ([.ref (b 0), .int (h), .int (w)]) ++ List.replicate (4 - (lg_sl ([.ref (b 0), .int (h), .int (w)])).length) Slot.unset).toArray = ls at hl ⊢
  have hl : lv_has ls 4 [(0, .ref (b 0)), (1, .int (h)), (2, .int (w))] := hl
  refine lv_aload_n hx hb dX11_letters_0 rfl (lv_at hl 0 rfl) ?_
  refine lv_iload_n hx hb dX11_letters_1 rfl (lv_at hl 1 rfl) ?_
  refine c_calli (va_runV (As := [.int (h)]) (rest := []) ⟨hx, hb, hml, hown, hts⟩ (k_X11_isHouse l dC dI y A b hA0 rn n lo kp dy so he kn ak pl iw nm sd ik kr lo2 dy2 so2 he2 kn2 dgv kd len ord kh km pg cm sav bo cb sl len2 ord2 kh2 km2 h (by omega)) (cwV 1 hts gX11_letters_X11_isHouse rfl rfl rfl (by decide +kernel) ⟨Nat.le_of_ble_eq_true rfl, Nat.le_of_ble_eq_true rfl⟩) (c_preV (c_N0 A) hK hE hS hP (va_recv hK hP (ci := 11) (q0 := 0) rfl rfl)) rfl rfl hl.1 rfl (lv_room (Nat.le_of_ble_eq_true rfl)) dX11_letters_2 ⟨Nat.le_refl _, Nat.le_refl _⟩) hS (fun r_2 u_2 H locs hw_2 hP hS => ?_)
  obtain rfl := hw_2
  refine n_bif_ne (tgt := 11) hx hb dX11_letters_5 (by decide) (fun c_5 => ?_) (fun c_5 => ?_)
  · obtain ⟨j, hj, ej⟩ := isH_of (by omega) c_5
    rw [ej] at hl
    have hl : lv_has ls 4 [(0, .ref (b 0)), (1, .int (nI (j))), (2, .int (w))] := hl
    refine lv_iload_n hx hb dX11_letters_11 rfl (lv_at hl 2 rfl) ?_
    refine lv_iconst (v := nI (0)) hx hb dX11_letters_12 (by decide) ?_
    refine lv_bipush (v := nI (9)) hx hb dX11_letters_13 (by decide) ?_
    refine c_calli (va_runS (As := [.int (w), .int (nI (0)), .int (nI (9))]) (rest := []) ⟨hx, hb, hml, hown, hts⟩ (k_X11_within l dC dI y A (DW y b rn n lo kp dy so he kn ak pl iw nm sd ik kr lo2 dy2 so2 he2 kn2 dgv kd len ord kh km pg cm sav bo cb sl len2 ord2 kh2 km2) (fun _ => True) w (nI (0)) (nI (9)) ) (va_cwS 3 hts gX11_letters_X11_within rfl rfl rfl (by decide +kernel) ⟨Nat.le_of_ble_eq_true rfl, Nat.le_of_ble_eq_true rfl⟩) (c_preS (c_N0 A) hK hE hS hP) rfl rfl hl.1 rfl (lv_room (Nat.le_of_ble_eq_true rfl)) dX11_letters_15 ⟨Nat.le_refl _, Nat.le_refl _⟩) hS (fun r_15 u_15 H locs hw_15 hP hS => ?_)
    obtain rfl := hw_15
    refine n_bif_ne (tgt := 24) hx hb dX11_letters_18 (by decide) (fun c_18 => ?_) (fun c_18 => ?_)
    · obtain ⟨k, hk, ek⟩ := inR_of (m := 9) (by decide) c_18
      rw [ek] at hl
      have hl : lv_has ls 4 [(0, .ref (b 0)), (1, .int (nI (j))), (2, .int (nI (k)))] := hl
      refine lv_aload_n hx hb dX11_letters_24 rfl (lv_at hl 0 rfl) ?_
      refine va_get (D := (dC, dI)) (ci := 11) (C := RX11) (T := TX11) (N := 36) hx hb hts in_X11_letters_X11 hown hK hP 0 rfl rfl 3 (by decide) (hts (.fieldLink RX11 13 "MilkRoundModel" "longOf" "[I") (List.mem_of_getElem? (i := 1) rfl)) (fun _ h9 => h9) rfl dX11_letters_25 ?_
      refine lv_iload_n hx hb dX11_letters_28 rfl (lv_at hl 1 rfl) ?_
      refine n_iald hx hb hK hP 2 0 rfl rfl (by omega) (by decide) dX11_letters_29 ?_
      refine lv_istore_n (lv' := [(3, .int (nI (len j))), (0, .ref (b 0)), (1, .int (nI (j))), (2, .int (nI (k)))]) hx hb dX11_letters_30 rfl hl (by decide) rfl (fun ls hl => ?_)
      refine lv_aload_n hx hb dX11_letters_31 rfl (lv_at hl 1 rfl) ?_
      refine va_get (D := (dC, dI)) (ci := 11) (C := RX11) (T := TX11) (N := 36) hx hb hts in_X11_letters_X11 hown hK hP 0 rfl rfl 3 (by decide) (hts (.fieldLink RX11 13 "MilkRoundModel" "longOf" "[I") (List.mem_of_getElem? (i := 1) rfl)) (fun _ h9 => h9) rfl dX11_letters_32 ?_
      refine lv_iload_n hx hb dX11_letters_35 rfl (lv_at hl 2 rfl) ?_
      refine lv_iload_n hx hb dX11_letters_36 rfl (lv_at hl 3 rfl) ?_
      refine n_iast hx hb hK hP (ad_D hA0 rfl) hS 2 0 rfl rfl (by omega) (by decide) dX11_letters_37 (fun H locs hP hS => ?_)
      have hP : va_P (dC, dI) vwCl (DW y b rn n lo kp dy so he kn ak pl iw nm sd ik kr lo2 dy2 so2 he2 kn2 dgv kd (va_up len j k) ord kh km pg cm sav bo cb sl len2 ord2 kh2 km2) H := hP
      refine lv_iload_n hx hb dX11_letters_38 rfl (lv_at hl 0 rfl) ?_
      have hP : va_P (dC, dI) vwCl (DW y b rn n lo kp dy so he kn ak pl iw nm sd ik kr lo2 dy2 so2 he2 kn2 dgv kd (sLetters n len h w) ord kh km pg cm sav bo cb sl len2 ord2 kh2 km2) H := by
        unfold sLetters; rw [c_5, show inR w 9 = true from c_18, ej, ek, nI_clamp (by omega), nI_clamp (by omega)]
        exact hP
      exact c_iret hx hb hr hlocks hK hS () hP (by unfold rLetters; rw [c_5, show inR w 9 = true from c_18, ej, nI_clamp (by omega)]; rfl) dX11_letters_39
    · refine lv_bipush (v := (-102)) hx hb dX11_letters_21 (by decide) ?_
      have hP : va_P (dC, dI) vwCl (DW y b rn n lo kp dy so he kn ak pl iw nm sd ik kr lo2 dy2 so2 he2 kn2 dgv kd (sLetters n len h w) ord kh km pg cm sav bo cb sl len2 ord2 kh2 km2) H := by
        unfold sLetters; rw [c_5, show inR w 9 = false from c_18]
        exact hP
      exact c_iret hx hb hr hlocks hK hS () hP (by unfold rLetters; rw [c_5, show inR w 9 = false from c_18]; rfl) dX11_letters_23
  · refine lv_bipush (v := (-101)) hx hb dX11_letters_8 (by decide) ?_
    have hP : va_P (dC, dI) vwCl (DW y b rn n lo kp dy so he kn ak pl iw nm sd ik kr lo2 dy2 so2 he2 kn2 dgv kd (sLetters n len h w) ord kh km pg cm sav bo cb sl len2 ord2 kh2 km2) H := by
      unfold sLetters; rw [c_5]
      exact hP
    exact c_iret hx hb hr hlocks hK hS () hP (by unfold rLetters; rw [c_5]; rfl) dX11_letters_10
theorem in_X11_leave_X11 : ∀ w ∈ wsX110, w ∈ wsX11_leave := fun w h => List.mem_cons_of_mem _ (List.mem_append_right _ h)
set_option maxHeartbeats 4000000 in
set_option maxRecDepth 100000 in
theorem k_X11_leave (l : Launch) (dC : Nat → ClassId) (dI : Nat → Nat → Nat) (y : Nat → ClassId) (A : Nat → Prop) (b : Nat → Nat) (hA0 : ad_ok A b 16) (rn : Nat) (n : Nat) (lo : Int32) (kp : Nat) (dy : Int32) (so : Int32) (he : Int32) (kn : Nat) (ak : Nat) (pl : Nat) (iw : Bool) (nm : Nat) (sd : Int64) (ik : Bool) (kr : Nat) (lo2 : Int32) (dy2 : Int32) (so2 : Int32) (he2 : Int32) (kn2 : Nat) (dgv : Int64) (kd : Nat → Nat) (len : Nat → Nat) (ord : Nat → Nat) (kh : Nat → Nat) (km : Nat → Nat) (pg : Nat → Nat) (cm : Nat → Nat) (sav : Nat → Nat) (bo : Nat → Nat) (cb : Nat → Nat) (sl : Nat → Nat) (len2 : Nat → Nat) (ord2 : Nat → Nat) (kh2 : Nat → Nat) (km2 : Nat → Nat) (h : Int32) (o : Bool) (hn : n ≤ 6) : Met l yX11_leave wsX11_leave ({ frames := 2, cells := 0, slots := 0, locals := 43 } : Room) (c_P (dC, dI) vwCl (TY y) (fun _ => True) (DW y b rn n lo kp dy so he kn ak pl iw nm sd ik kr lo2 dy2 so2 he2 kn2 dgv kd len ord kh km pg cm sav bo cb sl len2 ord2 kh2 km2) [.ref (b 0), .int (h), .int (bI (o))]) (va_Qi (fun (r : Int32) (u : Unit) => r = rLeave n lo h) (c_B (dC, dI) vwCl (TY y) (fun (u : Unit) => (DW y b rn n (sLeave n lo h o) kp dy so he kn ak pl iw nm sd ik kr lo2 dy2 so2 he2 kn2 dgv kd len ord kh km pg cm sav bo cb sl len2 ord2 kh2 km2))) A) 0 0 A := by
  refine Met.ofW (cc := cX11_leave) (maxL := 4) (ret := (some .int)) (by decide) rfl ?_
  intro p e s m args below meth c s₁ BB hml hv
  obtain ⟨rfl, hP, hK, hE⟩ := hv
  have hx := BB.exec
  have hb := BB.bytes
  have hr := BB.returns
  have hts := atoms_spec (ws := wsX11_leave) BB.pre
  have hown : s.vm.findClass RX11 = some m.cls := findClass_of_methodNamed BB.named
  have hlocks := BB.notSynchronized
  have hS : va_S A s.heap s.heap [] := va_S.rf
  have hl := lv_entry ([.ref (b 0), .int (h), .int (bI (o))]) (n := 4) (Nat.le_of_ble_eq_true rfl)
  rw [lg_entry_eq]
  generalize (lg_sl ([.ref (b 0), .int (h), .int (bI (o))]) ++ List.replicate (4 - (lg_sl ([.ref (b 0), .int (h), .int (bI (o))])).length) Slot.unset).toArray = ls at hl ⊢
  have hl : lv_has ls 4 [(0, .ref (b 0)), (1, .int (h)), (2, .int (bI (o)))] := hl
  refine lv_aload_n hx hb dX11_leave_0 rfl (lv_at hl 0 rfl) ?_
  refine lv_iload_n hx hb dX11_leave_1 rfl (lv_at hl 1 rfl) ?_
  refine c_calli (va_runV (As := [.int (h)]) (rest := []) ⟨hx, hb, hml, hown, hts⟩ (k_X11_isHouse l dC dI y A b hA0 rn n lo kp dy so he kn ak pl iw nm sd ik kr lo2 dy2 so2 he2 kn2 dgv kd len ord kh km pg cm sav bo cb sl len2 ord2 kh2 km2 h (by omega)) (cwV 1 hts gX11_leave_X11_isHouse rfl rfl rfl (by decide +kernel) ⟨Nat.le_of_ble_eq_true rfl, Nat.le_of_ble_eq_true rfl⟩) (c_preV (c_N0 A) hK hE hS hP (va_recv hK hP (ci := 11) (q0 := 0) rfl rfl)) rfl rfl hl.1 rfl (lv_room (Nat.le_of_ble_eq_true rfl)) dX11_leave_2 ⟨Nat.le_refl _, Nat.le_refl _⟩) hS (fun r_2 u_2 H locs hw_2 hP hS => ?_)
  obtain rfl := hw_2
  refine n_bif_ne (tgt := 11) hx hb dX11_leave_5 (by decide) (fun c_5 => ?_) (fun c_5 => ?_)
  · obtain ⟨j, hj, ej⟩ := isH_of (by omega) c_5
    rw [ej] at hl
    have hl : lv_has ls 4 [(0, .ref (b 0)), (1, .int (nI (j))), (2, .int (bI (o)))] := hl
    refine lv_aload_n hx hb dX11_leave_11 rfl (lv_at hl 0 rfl) ?_
    refine va_get (D := (dC, dI)) (ci := 11) (C := RX11) (T := TX11) (N := 36) hx hb hts in_X11_leave_X11 hown hK hP 0 rfl rfl 5 (by decide) (hts (.fieldLink RX11 91 "MilkRoundModel" "leftOut" "I") (List.mem_of_getElem? (i := 1) rfl)) (fun _ h9 => h9) rfl dX11_leave_12 ?_
    refine lv_iload_n hx hb dX11_leave_15 rfl (lv_at hl 1 rfl) ?_
    refine lv_ishr hx hb dX11_leave_16 ?_
    refine lv_iconst (v := nI (1)) hx hb dX11_leave_17 (by decide) ?_
    refine lv_iand hx hb dX11_leave_18 ?_
    refine lv_istore_n (lv' := [(3, .int ((lo >>> ((nI (j)) &&& 31)) &&& (nI (1)))), (0, .ref (b 0)), (1, .int (nI (j))), (2, .int (bI (o)))]) hx hb dX11_leave_19 rfl hl (by decide) rfl (fun ls hl => ?_)
    refine lv_aload_n hx hb dX11_leave_20 rfl (lv_at hl 1 rfl) ?_
    refine lv_iload_n hx hb dX11_leave_21 rfl (lv_at hl 3 rfl) ?_
    refine n_bif_eq (tgt := 36) hx hb dX11_leave_22 (by decide) (fun c_22 => ?_) (fun c_22 => ?_)
    · refine lv_aload_n hx hb dX11_leave_36 rfl (lv_at hl 1 rfl) ?_
      refine va_get (D := (dC, dI)) (ci := 11) (C := RX11) (T := TX11) (N := 36) hx hb hts in_X11_leave_X11 hown hK hP 0 rfl rfl 5 (by decide) (hts (.fieldLink RX11 91 "MilkRoundModel" "leftOut" "I") (List.mem_of_getElem? (i := 1) rfl)) (fun _ h9 => h9) rfl dX11_leave_37 ?_
      refine lv_iconst (v := nI (1)) hx hb dX11_leave_40 (by decide) ?_
      refine lv_iload_n hx hb dX11_leave_41 rfl (lv_at hl 2 rfl) ?_
      refine lv_ishl hx hb dX11_leave_42 ?_
      refine lv_iconst (v := (-1)) hx hb dX11_leave_43 (by decide) ?_
      refine lv_ixor hx hb dX11_leave_44 ?_
      refine lv_iand hx hb dX11_leave_45 ?_
      refine va_put (D := (dC, dI)) (ci := 11) (ty := tyX11 5) (C := RX11) (T := TX11) (N := 36) hx hb hts in_X11_leave_X11 tyX11 tyX11_ok nmX11 hown hK hP (ad_D hA0 rfl) hS 0 rfl rfl 5 (by decide) (hts (.fieldLink RX11 91 "MilkRoundModel" "leftOut" "I") (List.mem_of_getElem? (i := 1) rfl)) (fun _ h9 => h9) rfl (tyX11_ok 5 (by decide)) rfl rfl (Nat.le_of_ble_eq_true rfl) dX11_leave_46 (fun H locs hP _ hS => ?_)
      have hP : va_P (dC, dI) vwCl (DW y b rn n (lo &&& (((nI (1)) <<< ((nI (j)) &&& 31)) ^^^ (-1))) kp dy so he kn ak pl iw nm sd ik kr lo2 dy2 so2 he2 kn2 dgv kd len ord kh km pg cm sav bo cb sl len2 ord2 kh2 km2) H := hP
      refine lv_iload_n hx hb dX11_leave_49 rfl (lv_at hl 0 rfl) ?_
      have hP : va_P (dC, dI) vwCl (DW y b rn n (sLeave n lo h o) kp dy so he kn ak pl iw nm sd ik kr lo2 dy2 so2 he2 kn2 dgv kd len ord kh km pg cm sav bo cb sl len2 ord2 kh2 km2) H := by
        unfold sLeave; rw [c_5, c_22, ej]
        exact hP
      exact c_iret hx hb hr hlocks hK hS () hP (by unfold rLeave; rw [c_5, ej, nI_clamp (by omega)]; rfl) dX11_leave_50
    · refine lv_aload_n hx hb dX11_leave_25 rfl (lv_at hl 1 rfl) ?_
      refine va_get (D := (dC, dI)) (ci := 11) (C := RX11) (T := TX11) (N := 36) hx hb hts in_X11_leave_X11 hown hK hP 0 rfl rfl 5 (by decide) (hts (.fieldLink RX11 91 "MilkRoundModel" "leftOut" "I") (List.mem_of_getElem? (i := 1) rfl)) (fun _ h9 => h9) rfl dX11_leave_26 ?_
      refine lv_iconst (v := nI (1)) hx hb dX11_leave_29 (by decide) ?_
      refine lv_iload_n hx hb dX11_leave_30 rfl (lv_at hl 2 rfl) ?_
      refine lv_ishl hx hb dX11_leave_31 ?_
      refine lv_ior hx hb dX11_leave_32 ?_
      refine lv_goto (tgt := 46) hx hb dX11_leave_33 (by decide) ?_
      refine va_put (D := (dC, dI)) (ci := 11) (ty := tyX11 5) (C := RX11) (T := TX11) (N := 36) hx hb hts in_X11_leave_X11 tyX11 tyX11_ok nmX11 hown hK hP (ad_D hA0 rfl) hS 0 rfl rfl 5 (by decide) (hts (.fieldLink RX11 91 "MilkRoundModel" "leftOut" "I") (List.mem_of_getElem? (i := 1) rfl)) (fun _ h9 => h9) rfl (tyX11_ok 5 (by decide)) rfl rfl (Nat.le_of_ble_eq_true rfl) dX11_leave_46 (fun H locs hP _ hS => ?_)
      have hP : va_P (dC, dI) vwCl (DW y b rn n (lo ||| ((nI (1)) <<< ((nI (j)) &&& 31))) kp dy so he kn ak pl iw nm sd ik kr lo2 dy2 so2 he2 kn2 dgv kd len ord kh km pg cm sav bo cb sl len2 ord2 kh2 km2) H := hP
      refine lv_iload_n hx hb dX11_leave_49 rfl (lv_at hl 0 rfl) ?_
      have hP : va_P (dC, dI) vwCl (DW y b rn n (sLeave n lo h o) kp dy so he kn ak pl iw nm sd ik kr lo2 dy2 so2 he2 kn2 dgv kd len ord kh km pg cm sav bo cb sl len2 ord2 kh2 km2) H := by
        unfold sLeave; rw [c_5, c_22, ej]
        exact hP
      exact c_iret hx hb hr hlocks hK hS () hP (by unfold rLeave; rw [c_5, ej, nI_clamp (by omega)]; rfl) dX11_leave_50
  · refine lv_bipush (v := (-101)) hx hb dX11_leave_8 (by decide) ?_
    have hP : va_P (dC, dI) vwCl (DW y b rn n (sLeave n lo h o) kp dy so he kn ak pl iw nm sd ik kr lo2 dy2 so2 he2 kn2 dgv kd len ord kh km pg cm sav bo cb sl len2 ord2 kh2 km2) H := by
      unfold sLeave; rw [c_5]
      exact hP
    exact c_iret hx hb hr hlocks hK hS () hP (by unfold rLeave; rw [c_5]; rfl) dX11_leave_10
theorem in_X11_swap_X11 : ∀ w ∈ wsX110, w ∈ wsX11_swap := fun w h => List.mem_cons_of_mem _ (List.mem_append_right _ h)
set_option maxHeartbeats 4000000 in
set_option maxRecDepth 100000 in
theorem k_X11_swap (l : Launch) (dC : Nat → ClassId) (dI : Nat → Nat → Nat) (y : Nat → ClassId) (A : Nat → Prop) (b : Nat → Nat) (hA0 : ad_ok A b 16) (rn : Nat) (n : Nat) (lo : Int32) (kp : Nat) (dy : Int32) (so : Int32) (he : Int32) (kn : Nat) (ak : Nat) (pl : Nat) (iw : Bool) (nm : Nat) (sd : Int64) (ik : Bool) (kr : Nat) (lo2 : Int32) (dy2 : Int32) (so2 : Int32) (he2 : Int32) (kn2 : Nat) (dgv : Int64) (kd : Nat → Nat) (len : Nat → Nat) (ord : Nat → Nat) (kh : Nat → Nat) (km : Nat → Nat) (pg : Nat → Nat) (cm : Nat → Nat) (sav : Nat → Nat) (bo : Nat → Nat) (cb : Nat → Nat) (sl : Nat → Nat) (len2 : Nat → Nat) (ord2 : Nat → Nat) (kh2 : Nat → Nat) (km2 : Nat → Nat) (g : Int32) (h : Int32) (hn : n ≤ 6) (hord : PermOn n ord) : Met l yX11_swap wsX11_swap ({ frames := 2, cells := 0, slots := 0, locals := 43 } : Room) (c_P (dC, dI) vwCl (TY y) (fun _ => True) (DW y b rn n lo kp dy so he kn ak pl iw nm sd ik kr lo2 dy2 so2 he2 kn2 dgv kd len ord kh km pg cm sav bo cb sl len2 ord2 kh2 km2) [.ref (b 0), .int (g), .int (h)]) (va_Qi (fun (r : Int32) (u : Unit) => r = rSwap n ord g h) (c_B (dC, dI) vwCl (TY y) (fun (u : Unit) => (DW y b rn n lo kp dy so he kn ak pl iw nm sd ik kr lo2 dy2 so2 he2 kn2 dgv kd len (sSwap n ord g h) kh km pg cm sav bo cb sl len2 ord2 kh2 km2))) A) 0 0 A := by
  refine Met.ofW (cc := cX11_swap) (maxL := 5) (ret := (some .int)) (by decide) rfl ?_
  intro p e s m args below meth c s₁ BB hml hv
  obtain ⟨rfl, hP, hK, hE⟩ := hv
  have hx := BB.exec
  have hb := BB.bytes
  have hr := BB.returns
  have hts := atoms_spec (ws := wsX11_swap) BB.pre
  have hown : s.vm.findClass RX11 = some m.cls := findClass_of_methodNamed BB.named
  have hlocks := BB.notSynchronized
  have hS : va_S A s.heap s.heap [] := va_S.rf
  have hl := lv_entry ([.ref (b 0), .int (g), .int (h)]) (n := 5) (Nat.le_of_ble_eq_true rfl)
  rw [lg_entry_eq]
  generalize (lg_sl ([.ref (b 0), .int (g), .int (h)]) ++ List.replicate (5 - (lg_sl ([.ref (b 0), .int (g), .int (h)])).length) Slot.unset).toArray = ls at hl ⊢
  have hl : lv_has ls 5 [(0, .ref (b 0)), (1, .int (g)), (2, .int (h))] := hl
  refine lv_aload_n hx hb dX11_swap_0 rfl (lv_at hl 0 rfl) ?_
  refine lv_iload_n hx hb dX11_swap_1 rfl (lv_at hl 1 rfl) ?_
  refine c_calli (va_runV (As := [.int (g)]) (rest := []) ⟨hx, hb, hml, hown, hts⟩ (k_X11_isHouse l dC dI y A b hA0 rn n lo kp dy so he kn ak pl iw nm sd ik kr lo2 dy2 so2 he2 kn2 dgv kd len ord kh km pg cm sav bo cb sl len2 ord2 kh2 km2 g (by omega)) (cwV 1 hts gX11_swap_X11_isHouse rfl rfl rfl (by decide +kernel) ⟨Nat.le_of_ble_eq_true rfl, Nat.le_of_ble_eq_true rfl⟩) (c_preV (c_N0 A) hK hE hS hP (va_recv hK hP (ci := 11) (q0 := 0) rfl rfl)) rfl rfl hl.1 rfl (lv_room (Nat.le_of_ble_eq_true rfl)) dX11_swap_2 ⟨Nat.le_refl _, Nat.le_refl _⟩) hS (fun r_2 u_2 H locs hw_2 hP hS => ?_)
  obtain rfl := hw_2
  refine n_bif_eq (tgt := 16) hx hb dX11_swap_5 (by decide) (fun c_5 => ?_) (fun c_5 => ?_)
  · refine lv_bipush (v := (-101)) hx hb dX11_swap_16 (by decide) ?_
    have hP : va_P (dC, dI) vwCl (DW y b rn n lo kp dy so he kn ak pl iw nm sd ik kr lo2 dy2 so2 he2 kn2 dgv kd len (sSwap n ord g h) kh km pg cm sav bo cb sl len2 ord2 kh2 km2) H := by
      unfold sSwap; rw [c_5]
      exact hP
    exact c_iret hx hb hr hlocks hK hS () hP (by unfold rSwap; rw [c_5]; rfl) dX11_swap_18
  · refine lv_aload_n hx hb dX11_swap_8 rfl (lv_at hl 0 rfl) ?_
    refine lv_iload_n hx hb dX11_swap_9 rfl (lv_at hl 2 rfl) ?_
    refine c_calli (va_runV (As := [.int (h)]) (rest := []) ⟨hx, hb, hml, hown, hts⟩ (k_X11_isHouse l dC dI y A b hA0 rn n lo kp dy so he kn ak pl iw nm sd ik kr lo2 dy2 so2 he2 kn2 dgv kd len ord kh km pg cm sav bo cb sl len2 ord2 kh2 km2 h (by omega)) (cwV 1 hts gX11_swap_X11_isHouse rfl rfl rfl (by decide +kernel) ⟨Nat.le_of_ble_eq_true rfl, Nat.le_of_ble_eq_true rfl⟩) (c_preV (c_N0 A) hK hE hS hP (va_recv hK hP (ci := 11) (q0 := 0) rfl rfl)) rfl rfl hl.1 rfl (lv_room (Nat.le_of_ble_eq_true rfl)) dX11_swap_10 ⟨Nat.le_refl _, Nat.le_refl _⟩) hS (fun r_10 u_10 H locs hw_10 hP hS => ?_)
    obtain rfl := hw_10
    refine n_bif_ne (tgt := 19) hx hb dX11_swap_13 (by decide) (fun c_13 => ?_) (fun c_13 => ?_)
    · obtain ⟨j, hj, ej⟩ := isH_of (by omega) c_5
      obtain ⟨k, hk, ek⟩ := isH_of (by omega) c_13
      obtain ⟨p1, hp1, eq1⟩ := hord.onto hj
      obtain ⟨p2, hp2, eq2⟩ := hord.onto hk
      rw [ej] at hl
      rw [ek] at hl
      have hl : lv_has ls 5 [(0, .ref (b 0)), (1, .int (nI (j))), (2, .int (nI (k)))] := hl
      refine lv_aload_n hx hb dX11_swap_19 rfl (lv_at hl 0 rfl) ?_
      refine lv_iload_n hx hb dX11_swap_20 rfl (lv_at hl 1 rfl) ?_
      refine c_calli (va_runV (As := [.int (nI (j))]) (rest := []) ⟨hx, hb, hml, hown, hts⟩ (k_X11_placeOf l dC dI y A b hA0 rn n lo kp dy so he kn ak pl iw nm sd ik kr lo2 dy2 so2 he2 kn2 dgv kd len ord kh km pg cm sav bo cb sl len2 ord2 kh2 km2 j p1 hn hord hp1 eq1) (cwV 1 hts gX11_swap_X11_placeOf rfl rfl rfl (by decide +kernel) ⟨Nat.le_of_ble_eq_true rfl, Nat.le_of_ble_eq_true rfl⟩) (c_preV (c_N0 A) hK hE hS hP (va_recv hK hP (ci := 11) (q0 := 0) rfl rfl)) rfl rfl hl.1 rfl (lv_room (Nat.le_of_ble_eq_true rfl)) dX11_swap_21 ⟨Nat.le_refl _, Nat.le_refl _⟩) hS (fun r_21 u_21 H locs hw_21 hP hS => ?_)
      obtain rfl := hw_21
      refine lv_istore_n (lv' := [(3, .int (nI (p1))), (0, .ref (b 0)), (1, .int (nI (j))), (2, .int (nI (k)))]) hx hb dX11_swap_24 rfl hl (by decide) rfl (fun ls hl => ?_)
      refine lv_aload_n hx hb dX11_swap_25 rfl (lv_at hl 1 rfl) ?_
      refine lv_iload_n hx hb dX11_swap_26 rfl (lv_at hl 3 rfl) ?_
      refine c_calli (va_runV (As := [.int (nI (k))]) (rest := []) ⟨hx, hb, hml, hown, hts⟩ (k_X11_placeOf l dC dI y A b hA0 rn n lo kp dy so he kn ak pl iw nm sd ik kr lo2 dy2 so2 he2 kn2 dgv kd len ord kh km pg cm sav bo cb sl len2 ord2 kh2 km2 k p2 hn hord hp2 eq2) (cwV 1 hts gX11_swap_X11_placeOf rfl rfl rfl (by decide +kernel) ⟨Nat.le_of_ble_eq_true rfl, Nat.le_of_ble_eq_true rfl⟩) (c_preV (c_N0 A) hK hE hS hP (va_recv hK hP (ci := 11) (q0 := 0) rfl rfl)) rfl rfl hl.1 rfl (lv_room (Nat.le_of_ble_eq_true rfl)) dX11_swap_27 ⟨Nat.le_refl _, Nat.le_refl _⟩) hS (fun r_27 u_27 H locs hw_27 hP hS => ?_)
      obtain rfl := hw_27
      refine lv_istore (lv' := [(4, .int (nI (p2))), (3, .int (nI (p1))), (0, .ref (b 0)), (1, .int (nI (j))), (2, .int (nI (k)))]) hx hb dX11_swap_30 hl (by decide) rfl (fun ls hl => ?_)
      refine lv_aload_n hx hb dX11_swap_32 rfl (lv_at hl 2 rfl) ?_
      refine va_get (D := (dC, dI)) (ci := 11) (C := RX11) (T := TX11) (N := 36) hx hb hts in_X11_swap_X11 hown hK hP 0 rfl rfl 4 (by decide) (hts (.fieldLink RX11 16 "MilkRoundModel" "orderAt" "[I") (List.mem_of_getElem? (i := 1) rfl)) (fun _ h9 => h9) rfl dX11_swap_33 ?_
      refine lv_iload_n hx hb dX11_swap_36 rfl (lv_at hl 1 rfl) ?_
      refine lv_iload_n hx hb dX11_swap_37 rfl (lv_at hl 4 rfl) ?_
      refine n_iast hx hb hK hP (ad_D hA0 rfl) hS 3 0 rfl rfl (by omega) (by decide) dX11_swap_38 (fun H locs hP hS => ?_)
      have hP : va_P (dC, dI) vwCl (DW y b rn n lo kp dy so he kn ak pl iw nm sd ik kr lo2 dy2 so2 he2 kn2 dgv kd len (va_up ord p1 k) kh km pg cm sav bo cb sl len2 ord2 kh2 km2) H := hP
      refine lv_aload_n hx hb dX11_swap_39 rfl (lv_at hl 2 rfl) ?_
      refine va_get (D := (dC, dI)) (ci := 11) (C := RX11) (T := TX11) (N := 36) hx hb hts in_X11_swap_X11 hown hK hP 0 rfl rfl 4 (by decide) (hts (.fieldLink RX11 16 "MilkRoundModel" "orderAt" "[I") (List.mem_of_getElem? (i := 1) rfl)) (fun _ h9 => h9) rfl dX11_swap_40 ?_
      refine lv_iload hx hb dX11_swap_43 (lv_at hl 0 rfl) ?_
      refine lv_iload_n hx hb dX11_swap_45 rfl (lv_at hl 3 rfl) ?_
      refine n_iast hx hb hK hP (ad_D hA0 rfl) hS 3 0 rfl rfl (by omega) (by decide) dX11_swap_46 (fun H locs hP hS => ?_)
      have hP : va_P (dC, dI) vwCl (DW y b rn n lo kp dy so he kn ak pl iw nm sd ik kr lo2 dy2 so2 he2 kn2 dgv kd len (va_up (va_up ord p1 k) p2 j) kh km pg cm sav bo cb sl len2 ord2 kh2 km2) H := hP
      refine lv_iload_n hx hb dX11_swap_47 rfl (lv_at hl 1 rfl) ?_
      have hP : va_P (dC, dI) vwCl (DW y b rn n lo kp dy so he kn ak pl iw nm sd ik kr lo2 dy2 so2 he2 kn2 dgv kd len (sSwap n ord g h) kh km pg cm sav bo cb sl len2 ord2 kh2 km2) H := by
        unfold sSwap; rw [c_5, c_13, ej, ek, nI_clamp (by omega), nI_clamp (by omega), posF_eq hord hp1 eq1, posF_eq hord hp2 eq2]
        exact hP
      exact c_iret hx hb hr hlocks hK hS () hP (by unfold rSwap; rw [c_5, c_13, ej, nI_clamp (by omega), posF_eq hord hp1 eq1]; rfl) dX11_swap_48
    · refine lv_bipush (v := (-101)) hx hb dX11_swap_16 (by decide) ?_
      have hP : va_P (dC, dI) vwCl (DW y b rn n lo kp dy so he kn ak pl iw nm sd ik kr lo2 dy2 so2 he2 kn2 dgv kd len (sSwap n ord g h) kh km pg cm sav bo cb sl len2 ord2 kh2 km2) H := by
        unfold sSwap; rw [c_5, c_13]
        exact hP
      exact c_iret hx hb hr hlocks hK hS () hP (by unfold rSwap; rw [c_5, c_13]; rfl) dX11_swap_18
theorem in_X11_day_X11 : ∀ w ∈ wsX110, w ∈ wsX11_day := fun w h => List.mem_cons_of_mem _ (List.mem_append_right _ h)
set_option maxHeartbeats 4000000 in
set_option maxRecDepth 100000 in
theorem k_X11_day (l : Launch) (dC : Nat → ClassId) (dI : Nat → Nat → Nat) (y : Nat → ClassId) (A : Nat → Prop) (b : Nat → Nat) (hA0 : ad_ok A b 16) (rn : Nat) (n : Nat) (lo : Int32) (kp : Nat) (dy : Int32) (so : Int32) (he : Int32) (kn : Nat) (ak : Nat) (pl : Nat) (iw : Bool) (nm : Nat) (sd : Int64) (ik : Bool) (kr : Nat) (lo2 : Int32) (dy2 : Int32) (so2 : Int32) (he2 : Int32) (kn2 : Nat) (dgv : Int64) (kd : Nat → Nat) (len : Nat → Nat) (ord : Nat → Nat) (kh : Nat → Nat) (km : Nat → Nat) (pg : Nat → Nat) (cm : Nat → Nat) (sav : Nat → Nat) (bo : Nat → Nat) (cb : Nat → Nat) (sl : Nat → Nat) (len2 : Nat → Nat) (ord2 : Nat → Nat) (kh2 : Nat → Nat) (km2 : Nat → Nat) (hn : n ≤ 6) (hord : PermOn n ord) (hlen : ∀ j, len j ≤ 9) (hkd : ∀ j, kd j ≤ 4) (hcm : ∀ j, cm j ≤ 126) (hkp : kp ≤ 9) : Met l yX11_day wsX11_day ({ frames := 5, cells := 0, slots := 0, locals := 108 } : Room) (c_P (dC, dI) vwCl (TY y) (fun _ => True) (DW y b rn n lo kp dy so he kn ak pl iw nm sd ik kr lo2 dy2 so2 he2 kn2 dgv kd len ord kh km pg cm sav bo cb sl len2 ord2 kh2 km2) [.ref (b 0)]) (va_Qi (fun (r : Int32) (u : Nat → Nat) => r = (bif decide (n = 0) then -103 else nI (wrg n kp kd len lo ord)) ∧ ∀ j, u j ≤ 126) (c_B (dC, dI) vwCl (TY y) (fun (u : Nat → Nat) => (DW y b rn n lo kp (bif decide (n = 0) then dy else dy + nI 1) (bif decide (n = 0) then so else so + nI (scF n kp kd len lo ord)) (bif decide (n = 0) then he else he + nI (hcF n kd len lo ord)) kn ak pl iw nm sd ik kr lo2 dy2 so2 he2 kn2 dgv kd (bif decide (n = 0) then len else dayL n kd len) ord kh km pg u sav bo cb sl len2 ord2 kh2 km2))) A) 0 0 A := by
  refine Met.ofW (cc := cX11_day) (maxL := 4) (ret := (some .int)) (by decide) rfl ?_
  intro p e s m args below meth c s₁ BB hml hv
  obtain ⟨rfl, hP, hK, hE⟩ := hv
  have hx := BB.exec
  have hb := BB.bytes
  have hr := BB.returns
  have hts := atoms_spec (ws := wsX11_day) BB.pre
  have hown : s.vm.findClass RX11 = some m.cls := findClass_of_methodNamed BB.named
  have hlocks := BB.notSynchronized
  have hS : va_S A s.heap s.heap [] := va_S.rf
  have hl := lv_entry ([.ref (b 0)]) (n := 4) (Nat.le_of_ble_eq_true rfl)
  rw [lg_entry_eq]
  generalize (lg_sl ([.ref (b 0)]) ++ List.replicate (4 - (lg_sl ([.ref (b 0)])).length) Slot.unset).toArray = ls at hl ⊢
  have hl : lv_has ls 4 [(0, .ref (b 0))] := hl
  refine lv_aload_n hx hb dX11_day_0 rfl (lv_at hl 0 rfl) ?_
  refine va_get (D := (dC, dI)) (ci := 11) (C := RX11) (T := TX11) (N := 36) hx hb hts in_X11_day_X11 hown hK hP 0 rfl rfl 1 (by decide) (hts (.fieldLink RX11 82 "MilkRoundModel" "houses" "I") (List.mem_of_getElem? (i := 1) rfl)) (fun _ h9 => h9) rfl dX11_day_1 ?_
  refine n_if_ne (tgt := 10) hx hb dX11_day_4 (by decide) (by omega) (fun c_4 => ?_) (fun c_4 => ?_)
  · refine lv_aload_n hx hb dX11_day_10 rfl (lv_at hl 0 rfl) ?_
    refine c_calli (va_runV (As := []) (rest := []) ⟨hx, hb, hml, hown, hts⟩ (k_X11_sourNow l dC dI y A b hA0 rn n lo kp dy so he kn ak pl iw nm sd ik kr lo2 dy2 so2 he2 kn2 dgv kd len ord kh km pg cm sav bo cb sl len2 ord2 kh2 km2  hn hord hlen hkd hcm hkp) (cwV 0 hts gX11_day_X11_sourNow rfl rfl rfl (by decide +kernel) ⟨Nat.le_of_ble_eq_true rfl, Nat.le_of_ble_eq_true rfl⟩) (c_preV (c_N0 A) hK hE hS hP (va_recv hK hP (ci := 11) (q0 := 0) rfl rfl)) rfl rfl hl.1 rfl (lv_room (Nat.le_of_ble_eq_true rfl)) dX11_day_11 ⟨Nat.le_refl _, Nat.le_refl _⟩) hS (fun r_11 u_11 H locs hw_11 hP hS => ?_)
    have hP : va_P (dC, dI) vwCl (DW y b rn n lo kp dy so he kn ak pl iw nm sd ik kr lo2 dy2 so2 he2 kn2 dgv kd len ord kh km pg u_11 sav bo cb sl len2 ord2 kh2 km2) H := hP
    obtain ⟨rfl, hw_11⟩ := hw_11
    refine lv_istore_n (lv' := [(1, .int (nI (scF n kp kd len lo ord))), (0, .ref (b 0))]) hx hb dX11_day_14 rfl hl (by decide) rfl (fun ls hl => ?_)
    refine lv_aload_n hx hb dX11_day_15 rfl (lv_at hl 1 rfl) ?_
    refine c_calli (va_runV (As := []) (rest := []) ⟨hx, hb, hml, hown, hts⟩ (k_X11_hearNow l dC dI y A b hA0 rn n lo kp dy so he kn ak pl iw nm sd ik kr lo2 dy2 so2 he2 kn2 dgv kd len ord kh km pg u_11 sav bo cb sl len2 ord2 kh2 km2  hn hord hlen hkd hw_11.2 hkp) (cwV 0 hts gX11_day_X11_hearNow rfl rfl rfl (by decide +kernel) ⟨Nat.le_of_ble_eq_true rfl, Nat.le_of_ble_eq_true rfl⟩) (c_preV (c_N0 A) hK hE hS hP (va_recv hK hP (ci := 11) (q0 := 0) rfl rfl)) rfl rfl hl.1 rfl (lv_room (Nat.le_of_ble_eq_true rfl)) dX11_day_16 ⟨Nat.le_refl _, Nat.le_refl _⟩) hS (fun r_16 u_16 H locs hw_16 hP hS => ?_)
    have hP : va_P (dC, dI) vwCl (DW y b rn n lo kp dy so he kn ak pl iw nm sd ik kr lo2 dy2 so2 he2 kn2 dgv kd len ord kh km pg u_16 sav bo cb sl len2 ord2 kh2 km2) H := hP
    obtain ⟨rfl, hw_16⟩ := hw_16
    refine lv_istore_n (lv' := [(2, .int (nI (hcF n kd len lo ord))), (1, .int (nI (scF n kp kd len lo ord))), (0, .ref (b 0))]) hx hb dX11_day_19 rfl hl (by decide) rfl (fun ls hl => ?_)
    refine lv_aload_n hx hb dX11_day_20 rfl (lv_at hl 2 rfl) ?_
    refine lv_dup hx hb dX11_day_21 rfl ?_
    refine va_get (D := (dC, dI)) (ci := 11) (C := RX11) (T := TX11) (N := 36) hx hb hts in_X11_day_X11 hown hK hP 0 rfl rfl 8 (by decide) (hts (.fieldLink RX11 97 "MilkRoundModel" "soured" "I") (List.mem_of_getElem? (i := 2) rfl)) (fun _ h9 => h9) rfl dX11_day_22 ?_
    refine lv_iload_n hx hb dX11_day_25 rfl (lv_at hl 1 rfl) ?_
    refine lv_iadd hx hb dX11_day_26 ?_
    refine va_put (D := (dC, dI)) (ci := 11) (ty := tyX11 8) (C := RX11) (T := TX11) (N := 36) hx hb hts in_X11_day_X11 tyX11 tyX11_ok nmX11 hown hK hP (ad_D hA0 rfl) hS 0 rfl rfl 8 (by decide) (hts (.fieldLink RX11 97 "MilkRoundModel" "soured" "I") (List.mem_of_getElem? (i := 2) rfl)) (fun _ h9 => h9) rfl (tyX11_ok 8 (by decide)) rfl rfl (Nat.le_of_ble_eq_true rfl) dX11_day_27 (fun H locs hP _ hS => ?_)
    have hP : va_P (dC, dI) vwCl (DW y b rn n lo kp dy (so + (nI (scF n kp kd len lo ord))) he kn ak pl iw nm sd ik kr lo2 dy2 so2 he2 kn2 dgv kd len ord kh km pg u_16 sav bo cb sl len2 ord2 kh2 km2) H := hP
    refine lv_aload_n hx hb dX11_day_30 rfl (lv_at hl 2 rfl) ?_
    refine lv_dup hx hb dX11_day_31 rfl ?_
    refine va_get (D := (dC, dI)) (ci := 11) (C := RX11) (T := TX11) (N := 36) hx hb hts in_X11_day_X11 hown hK hP 0 rfl rfl 9 (by decide) (hts (.fieldLink RX11 100 "MilkRoundModel" "overheard" "I") (List.mem_of_getElem? (i := 3) rfl)) (fun _ h9 => h9) rfl dX11_day_32 ?_
    refine lv_iload_n hx hb dX11_day_35 rfl (lv_at hl 0 rfl) ?_
    refine lv_iadd hx hb dX11_day_36 ?_
    refine va_put (D := (dC, dI)) (ci := 11) (ty := tyX11 9) (C := RX11) (T := TX11) (N := 36) hx hb hts in_X11_day_X11 tyX11 tyX11_ok nmX11 hown hK hP (ad_D hA0 rfl) hS 0 rfl rfl 9 (by decide) (hts (.fieldLink RX11 100 "MilkRoundModel" "overheard" "I") (List.mem_of_getElem? (i := 3) rfl)) (fun _ h9 => h9) rfl (tyX11_ok 9 (by decide)) rfl rfl (Nat.le_of_ble_eq_true rfl) dX11_day_37 (fun H locs hP _ hS => ?_)
    have hP : va_P (dC, dI) vwCl (DW y b rn n lo kp dy (so + (nI (scF n kp kd len lo ord))) (he + (nI (hcF n kd len lo ord))) kn ak pl iw nm sd ik kr lo2 dy2 so2 he2 kn2 dgv kd len ord kh km pg u_16 sav bo cb sl len2 ord2 kh2 km2) H := hP
    refine lv_iconst (v := nI (0)) hx hb dX11_day_40 (by decide) ?_
    refine lv_istore_n (lv' := [(3, .int (nI (0))), (2, .int (nI (hcF n kd len lo ord))), (1, .int (nI (scF n kp kd len lo ord))), (0, .ref (b 0))]) hx hb dX11_day_41 rfl hl (by decide) rfl (fun ls hl => ?_)
    have loop_42 : ∀ (dd_42 : Nat) (k : Nat) (hk : k ≤ n), n - k < dd_42 → ∀ (H : Heap) (locs : List Loc) (ls : Array Slot), va_P (dC, dI) vwCl (DW y b rn n lo kp dy (so + (nI (scF n kp kd len lo ord))) (he + (nI (hcF n kd len lo ord))) kn ak pl iw nm sd ik kr lo2 dy2 so2 he2 kn2 dgv kd (mixF k (dayG kd len) len) ord kh km pg u_16 sav bo cb sl len2 ord2 kh2 km2) H → va_S A s.heap H locs → lv_has ls 4 [(3, .int (nI (k))), (2, .int (nI (hcF n kd len lo ord))), (1, .int (nI (scF n kp kd len lo ord))), (0, .ref (b 0))] → W p l e (headSpec wsX11_day ({ frames := 5, cells := 0, slots := 0, locals := 108 } : Room)).room s m [.ref (b 0)].toArray below meth c H locs 0 0 (MQ below (va_Qi (fun (r : Int32) (u : Nat → Nat) => r = (bif decide (n = 0) then -103 else nI (wrg n kp kd len lo ord)) ∧ ∀ j, u j ≤ 126) (c_B (dC, dI) vwCl (TY y) (fun (u : Nat → Nat) => (DW y b rn n lo kp (bif decide (n = 0) then dy else dy + nI 1) (bif decide (n = 0) then so else so + nI (scF n kp kd len lo ord)) (bif decide (n = 0) then he else he + nI (hcF n kd len lo ord)) kn ak pl iw nm sd ik kr lo2 dy2 so2 he2 kn2 dgv kd (bif decide (n = 0) then len else dayL n kd len) ord kh km pg u sav bo cb sl len2 ord2 kh2 km2))) A) [.ref (b 0)].toArray s 0 0 A) (F0 m 42 ls []) := by
      intro dd_42
      induction dd_42 with
      | zero => intro k hk hd; exact absurd hd (Nat.not_lt_zero _)
      | succ dd_42 ih_42 =>
        intro k hk hd_42 H locs ls hP hS hl
        refine lv_iload_n hx hb dX11_day_42 rfl (lv_at hl 0 rfl) ?_
        refine lv_aload_n hx hb dX11_day_43 rfl (lv_at hl 3 rfl) ?_
        refine va_get (D := (dC, dI)) (ci := 11) (C := RX11) (T := TX11) (N := 36) hx hb hts in_X11_day_X11 hown hK hP 0 rfl rfl 1 (by decide) (hts (.fieldLink RX11 82 "MilkRoundModel" "houses" "I") (List.mem_of_getElem? (i := 1) rfl)) (fun _ h9 => h9) rfl dX11_day_44 ?_
        refine n_icmp_ge (tgt := 84) hx hb dX11_day_47 (by decide) (by omega) (by omega) (fun c_47 => ?_) (fun c_47 => ?_)
        · refine lv_aload_n hx hb dX11_day_84 rfl (lv_at hl 3 rfl) ?_
          refine lv_dup hx hb dX11_day_85 rfl ?_
          refine va_get (D := (dC, dI)) (ci := 11) (C := RX11) (T := TX11) (N := 36) hx hb hts in_X11_day_X11 hown hK hP 0 rfl rfl 7 (by decide) (hts (.fieldLink RX11 94 "MilkRoundModel" "days" "I") (List.mem_of_getElem? (i := 6) rfl)) (fun _ h9 => h9) rfl dX11_day_86 ?_
          refine lv_iconst (v := nI (1)) hx hb dX11_day_89 (by decide) ?_
          refine lv_iadd hx hb dX11_day_90 ?_
          refine va_put (D := (dC, dI)) (ci := 11) (ty := tyX11 7) (C := RX11) (T := TX11) (N := 36) hx hb hts in_X11_day_X11 tyX11 tyX11_ok nmX11 hown hK hP (ad_D hA0 rfl) hS 0 rfl rfl 7 (by decide) (hts (.fieldLink RX11 94 "MilkRoundModel" "days" "I") (List.mem_of_getElem? (i := 6) rfl)) (fun _ h9 => h9) rfl (tyX11_ok 7 (by decide)) rfl rfl (Nat.le_of_ble_eq_true rfl) dX11_day_91 (fun H locs hP _ hS => ?_)
          have hP : va_P (dC, dI) vwCl (DW y b rn n lo kp (dy + (nI (1))) (so + (nI (scF n kp kd len lo ord))) (he + (nI (hcF n kd len lo ord))) kn ak pl iw nm sd ik kr lo2 dy2 so2 he2 kn2 dgv kd (mixF k (dayG kd len) len) ord kh km pg u_16 sav bo cb sl len2 ord2 kh2 km2) H := hP
          refine lv_iload_n hx hb dX11_day_94 rfl (lv_at hl 2 rfl) ?_
          refine lv_iload_n hx hb dX11_day_95 rfl (lv_at hl 1 rfl) ?_
          refine n_iadd hx hb dX11_day_96 ?_
          have hP : va_P (dC, dI) vwCl (DW y b rn n lo kp (bif decide (n = 0) then dy else dy + nI 1) (bif decide (n = 0) then so else so + nI (scF n kp kd len lo ord)) (bif decide (n = 0) then he else he + nI (hcF n kd len lo ord)) kn ak pl iw nm sd ik kr lo2 dy2 so2 he2 kn2 dgv kd (bif decide (n = 0) then len else dayL n kd len) ord kh km pg u_16 sav bo cb sl len2 ord2 kh2 km2) H := by
            have hkn : k = n := by omega
            subst hkn
            rw [decide_eq_false c_4]
            exact hP
          exact c_iret hx hb hr hlocks hK hS u_16 hP ⟨by rw [decide_eq_false c_4]; rfl, hw_16.2⟩ dX11_day_97
        · have hlk := hlen k
          refine lv_aload_n hx hb dX11_day_50 rfl (lv_at hl 3 rfl) ?_
          refine va_get (D := (dC, dI)) (ci := 11) (C := RX11) (T := TX11) (N := 36) hx hb hts in_X11_day_X11 hown hK hP 0 rfl rfl 3 (by decide) (hts (.fieldLink RX11 13 "MilkRoundModel" "longOf" "[I") (List.mem_of_getElem? (i := 4) rfl)) (fun _ h9 => h9) rfl dX11_day_51 ?_
          refine lv_iload_n hx hb dX11_day_54 rfl (lv_at hl 0 rfl) ?_
          refine lv_aload_n hx hb dX11_day_55 rfl (lv_at hl 3 rfl) ?_
          refine va_get (D := (dC, dI)) (ci := 11) (C := RX11) (T := TX11) (N := 36) hx hb hts in_X11_day_X11 hown hK hP 0 rfl rfl 2 (by decide) (hts (.fieldLink RX11 7 "MilkRoundModel" "kindOf" "[I") (List.mem_of_getElem? (i := 5) rfl)) (fun _ h9 => h9) rfl dX11_day_56 ?_
          refine lv_iload_n hx hb dX11_day_59 rfl (lv_at hl 0 rfl) ?_
          refine n_iald hx hb hK hP 1 0 rfl rfl (by omega) (by decide) dX11_day_60 ?_
          have hb_60 := hkd k
          refine lv_iconst (v := nI (3)) hx hb dX11_day_61 (by decide) ?_
          refine n_icmp_ne (tgt := 76) hx hb dX11_day_62 (by decide) (by omega) (by omega) (fun c_62 => ?_) (fun c_62 => ?_)
          · refine lv_iconst (v := nI (0)) hx hb dX11_day_76 (by decide) ?_
            refine n_iast hx hb hK hP (ad_D hA0 rfl) hS 2 0 rfl rfl (by omega) (by decide) dX11_day_77 (fun H locs hP hS => ?_)
            have hP : va_P (dC, dI) vwCl (DW y b rn n lo kp dy (so + (nI (scF n kp kd len lo ord))) (he + (nI (hcF n kd len lo ord))) kn ak pl iw nm sd ik kr lo2 dy2 so2 he2 kn2 dgv kd (va_up (mixF k (dayG kd len) len) k 0) ord kh km pg u_16 sav bo cb sl len2 ord2 kh2 km2) H := hP
            refine lv_iinc (v := nI (k + 1)) (lv' := [(3, .int (nI (k + 1))), (2, .int (nI (hcF n kd len lo ord))), (1, .int (nI (scF n kp kd len lo ord))), (0, .ref (b 0))]) hx hb dX11_day_78 hl (k := 0) rfl (mr_inc _) (by decide) rfl (fun ls hl => ?_)
            refine lv_goto (tgt := 42) hx hb dX11_day_81 (by decide) ?_
            exact ih_42 (k + 1) (by omega) (by omega) _ _ _ (by rw [← mixF_s, dayG_f c_62]; exact hP) hS (lv_sub hl [0, 1, 2, 3] rfl)
          · refine lv_aload_n hx hb dX11_day_65 rfl (lv_at hl 3 rfl) ?_
            refine va_get (D := (dC, dI)) (ci := 11) (C := RX11) (T := TX11) (N := 36) hx hb hts in_X11_day_X11 hown hK hP 0 rfl rfl 3 (by decide) (hts (.fieldLink RX11 13 "MilkRoundModel" "longOf" "[I") (List.mem_of_getElem? (i := 4) rfl)) (fun _ h9 => h9) rfl dX11_day_66 ?_
            refine lv_iload_n hx hb dX11_day_69 rfl (lv_at hl 0 rfl) ?_
            refine n_iald hx hb hK hP 2 0 rfl rfl (by omega) (by decide) dX11_day_70 ?_
            refine n_top (y := nI (len k)) (by rw [mixF_out (Nat.lt_irrefl k)]) ?_
            refine lv_iconst (v := nI (2)) hx hb dX11_day_71 (by decide) ?_
            refine n_idiv hx hb (by decide) (by omega) (by decide) dX11_day_72 ?_
            refine lv_goto (tgt := 77) hx hb dX11_day_73 (by decide) ?_
            refine n_iast hx hb hK hP (ad_D hA0 rfl) hS 2 0 rfl rfl (by omega) (by decide) dX11_day_77 (fun H locs hP hS => ?_)
            have hP : va_P (dC, dI) vwCl (DW y b rn n lo kp dy (so + (nI (scF n kp kd len lo ord))) (he + (nI (hcF n kd len lo ord))) kn ak pl iw nm sd ik kr lo2 dy2 so2 he2 kn2 dgv kd (va_up (mixF k (dayG kd len) len) k ((len k) / (2))) ord kh km pg u_16 sav bo cb sl len2 ord2 kh2 km2) H := hP
            refine lv_iinc (v := nI (k + 1)) (lv' := [(3, .int (nI (k + 1))), (2, .int (nI (hcF n kd len lo ord))), (1, .int (nI (scF n kp kd len lo ord))), (0, .ref (b 0))]) hx hb dX11_day_78 hl (k := 0) rfl (mr_inc _) (by decide) rfl (fun ls hl => ?_)
            refine lv_goto (tgt := 42) hx hb dX11_day_81 (by decide) ?_
            exact ih_42 (k + 1) (by omega) (by omega) _ _ _ (by rw [← mixF_s, dayG_t c_62]; exact hP) hS (lv_sub hl [0, 1, 2, 3] rfl)
    exact loop_42 _ 0 (Nat.zero_le _) (Nat.lt_succ_self _) _ _ _ (by rw [mixF_0]; exact hP) hS (lv_sub hl [0, 1, 2, 3] rfl)
  · refine lv_bipush (v := (-103)) hx hb dX11_day_7 (by decide) ?_
    have hP : va_P (dC, dI) vwCl (DW y b rn n lo kp (bif decide (n = 0) then dy else dy + nI 1) (bif decide (n = 0) then so else so + nI (scF n kp kd len lo ord)) (bif decide (n = 0) then he else he + nI (hcF n kd len lo ord)) kn ak pl iw nm sd ik kr lo2 dy2 so2 he2 kn2 dgv kd (bif decide (n = 0) then len else dayL n kd len) ord kh km pg cm sav bo cb sl len2 ord2 kh2 km2) s.heap := by
      rw [decide_eq_true c_4]
      exact hP
    exact c_iret hx hb hr hlocks hK hS cm hP ⟨by rw [decide_eq_true c_4]; rfl, hcm⟩ dX11_day_9
