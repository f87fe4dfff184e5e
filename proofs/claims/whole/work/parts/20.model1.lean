set_option maxHeartbeats 4000000 in
set_option maxRecDepth 100000 in
theorem k_X11_within (l : Launch) (dC : Nat → ClassId) (dI : Nat → Nat → Nat) (y : Nat → ClassId) (A : Nat → Prop) (ws : va_W) (Nv : State → Prop) (v1 : Int32) (lw : Int32) (hg : Int32) : Met l yX11_within wsX11_within ({ frames := 0, cells := 0, slots := 0, locals := 0 } : Room) (c_P (dC, dI) vwCl (TY y) Nv ws [.int (v1), .int (lw), .int (hg)]) (va_Qi (fun (r : Int32) (u : Unit) => r = bI (decide (lw ≤ v1 ∧ v1 ≤ hg))) (c_B (dC, dI) vwCl (TY y) (fun (u : Unit) => ws)) A) 0 0 A := by
  refine Met.ofW (cc := cX11_within) (maxL := 3) (ret := (some .boolean)) (by decide) rfl ?_
  intro p e s m args below meth c s₁ BB hml hv
  obtain ⟨rfl, hP, hK, hE⟩ := hv
  have hx := BB.exec
  have hb := BB.bytes
  have hr := BB.returns
  have hts := atoms_spec (ws := wsX11_within) BB.pre
  have hown : s.vm.findClass RX11 = some m.cls := findClass_of_methodNamed BB.named
  have hlocks := BB.notSynchronized
  have hS : va_S A s.heap s.heap [] := va_S.rf
  have hl := lv_entry ([.int (v1), .int (lw), .int (hg)]) (n := 3) (Nat.le_of_ble_eq_true rfl)
  rw [lg_entry_eq]
  generalize (lg_sl ([.int (v1), .int (lw), .int (hg)]) ++ List.replicate (3 - (lg_sl ([.int (v1), .int (lw), .int (hg)])).length) Slot.unset).toArray = ls at hl ⊢
  have hl : lv_has ls 3 [(0, .int (v1)), (1, .int (lw)), (2, .int (hg))] := hl
  refine lv_iload_n hx hb dX11_within_0 rfl (lv_at hl 0 rfl) ?_
  refine lv_iload_n hx hb dX11_within_1 rfl (lv_at hl 1 rfl) ?_
  refine lv_icmp_lt (tgt := 14) hx hb dX11_within_2 (by decide) (fun c_2 => ?_) (fun c_2 => ?_)
  · refine lv_iconst (v := nI (0)) hx hb dX11_within_14 (by decide) ?_
    exact c_zret hx hb hr hlocks hK hS () rfl hP (bI_0 (decide_eq_false (fun q => absurd c_2 (Int32.not_lt.mpr q.1)))) dX11_within_15
  · refine lv_iload_n hx hb dX11_within_5 rfl (lv_at hl 0 rfl) ?_
    refine lv_iload_n hx hb dX11_within_6 rfl (lv_at hl 2 rfl) ?_
    refine lv_icmp_gt (tgt := 14) hx hb dX11_within_7 (by decide) (fun c_7 => ?_) (fun c_7 => ?_)
    · refine lv_iconst (v := nI (0)) hx hb dX11_within_14 (by decide) ?_
      exact c_zret hx hb hr hlocks hK hS () rfl hP (bI_0 (decide_eq_false (fun q => absurd c_7 (Int32.not_lt.mpr q.2)))) dX11_within_15
    · refine lv_iconst (v := nI (1)) hx hb dX11_within_10 (by decide) ?_
      refine lv_goto (tgt := 15) hx hb dX11_within_11 (by decide) ?_
      exact c_zret hx hb hr hlocks hK hS () rfl hP (bI_1 (decide_eq_true ⟨Int32.not_lt.mp c_2, Int32.not_lt.mp c_7⟩)) dX11_within_15
set_option maxHeartbeats 4000000 in
set_option maxRecDepth 100000 in
theorem k_X11_isIn (l : Launch) (dC : Nat → ClassId) (dI : Nat → Nat → Nat) (y : Nat → ClassId) (A : Nat → Prop) (ws : va_W) (Nv : State → Prop) (st : Int32) (k : Nat) : Met l yX11_isIn wsX11_isIn ({ frames := 0, cells := 0, slots := 0, locals := 0 } : Room) (c_P (dC, dI) vwCl (TY y) Nv ws [.int (st), .int (nI (k))]) (va_Qi (fun (r : Int32) (u : Unit) => r = bI (inB st k)) (c_B (dC, dI) vwCl (TY y) (fun (u : Unit) => ws)) A) 0 0 A := by
  refine Met.ofW (cc := cX11_isIn) (maxL := 2) (ret := (some .boolean)) (by decide) rfl ?_
  intro p e s m args below meth c s₁ BB hml hv
  obtain ⟨rfl, hP, hK, hE⟩ := hv
  have hx := BB.exec
  have hb := BB.bytes
  have hr := BB.returns
  have hts := atoms_spec (ws := wsX11_isIn) BB.pre
  have hown : s.vm.findClass RX11 = some m.cls := findClass_of_methodNamed BB.named
  have hlocks := BB.notSynchronized
  have hS : va_S A s.heap s.heap [] := va_S.rf
  have hl := lv_entry ([.int (st), .int (nI (k))]) (n := 2) (Nat.le_of_ble_eq_true rfl)
  rw [lg_entry_eq]
  generalize (lg_sl ([.int (st), .int (nI (k))]) ++ List.replicate (2 - (lg_sl ([.int (st), .int (nI (k))])).length) Slot.unset).toArray = ls at hl ⊢
  have hl : lv_has ls 2 [(0, .int (st)), (1, .int (nI (k)))] := hl
  refine lv_iload_n hx hb dX11_isIn_0 rfl (lv_at hl 0 rfl) ?_
  refine lv_iload_n hx hb dX11_isIn_1 rfl (lv_at hl 1 rfl) ?_
  refine lv_ishr hx hb dX11_isIn_2 ?_
  refine lv_iconst (v := nI (1)) hx hb dX11_isIn_3 (by decide) ?_
  refine lv_iand hx hb dX11_isIn_4 ?_
  refine lv_iconst (v := nI (1)) hx hb dX11_isIn_5 (by decide) ?_
  refine lv_icmp_ne (tgt := 13) hx hb dX11_isIn_6 (by decide) (fun c_6 => ?_) (fun c_6 => ?_)
  · refine lv_iconst (v := nI (0)) hx hb dX11_isIn_13 (by decide) ?_
    exact c_zret hx hb hr hlocks hK hS () rfl hP (bI_0 (decide_eq_false c_6)) dX11_isIn_14
  · refine lv_iconst (v := nI (1)) hx hb dX11_isIn_9 (by decide) ?_
    refine lv_goto (tgt := 14) hx hb dX11_isIn_10 (by decide) ?_
    exact c_zret hx hb hr hlocks hK hS () rfl hP (bI_1 (decide_eq_true c_6)) dX11_isIn_14
theorem in_X11_blank_X11 : ∀ w ∈ wsX110, w ∈ wsX11_blank := fun w h => List.mem_cons_of_mem _ (List.mem_append_right _ h)
set_option maxHeartbeats 4000000 in
set_option maxRecDepth 100000 in
theorem k_X11_blank (l : Launch) (dC : Nat → ClassId) (dI : Nat → Nat → Nat) (y : Nat → ClassId) (A : Nat → Prop) (b : Nat → Nat) (hA0 : ad_ok A b 16) (rn : Nat) (n : Nat) (lo : Int32) (kp : Nat) (dy : Int32) (so : Int32) (he : Int32) (kn : Nat) (ak : Nat) (pl : Nat) (iw : Bool) (nm : Nat) (sd : Int64) (ik : Bool) (kr : Nat) (lo2 : Int32) (dy2 : Int32) (so2 : Int32) (he2 : Int32) (kn2 : Nat) (dgv : Int64) (kd : Nat → Nat) (len : Nat → Nat) (ord : Nat → Nat) (kh : Nat → Nat) (km : Nat → Nat) (pg : Nat → Nat) (cm : Nat → Nat) (sav : Nat → Nat) (bo : Nat → Nat) (cb : Nat → Nat) (sl : Nat → Nat) (len2 : Nat → Nat) (ord2 : Nat → Nat) (kh2 : Nat → Nat) (km2 : Nat → Nat) : Met l yX11_blank wsX11_blank ({ frames := 0, cells := 0, slots := 0, locals := 0 } : Room) (c_P (dC, dI) vwCl (TY y) (fun _ => True) (DW y b rn n lo kp dy so he kn ak pl iw nm sd ik kr lo2 dy2 so2 he2 kn2 dgv kd len ord kh km pg cm sav bo cb sl len2 ord2 kh2 km2) [.ref (b 0)]) (va_Qi (fun (r : Int32) (u : Unit) => r = nI pl) (c_B (dC, dI) vwCl (TY y) (fun (u : Unit) => (DW y b rn n lo kp dy so he kn ak 0 iw nm sd ik kr lo2 dy2 so2 he2 kn2 dgv kd len ord kh km pg cm sav bo cb sl len2 ord2 kh2 km2))) A) 0 0 A := by
  refine Met.ofW (cc := cX11_blank) (maxL := 2) (ret := (some .int)) (by decide) rfl ?_
  intro p e s m args below meth c s₁ BB hml hv
  obtain ⟨rfl, hP, hK, hE⟩ := hv
  have hx := BB.exec
  have hb := BB.bytes
  have hr := BB.returns
  have hts := atoms_spec (ws := wsX11_blank) BB.pre
  have hown : s.vm.findClass RX11 = some m.cls := findClass_of_methodNamed BB.named
  have hlocks := BB.notSynchronized
  have hS : va_S A s.heap s.heap [] := va_S.rf
  have hl := lv_entry ([.ref (b 0)]) (n := 2) (Nat.le_of_ble_eq_true rfl)
  rw [lg_entry_eq]
  generalize (lg_sl ([.ref (b 0)]) ++ List.replicate (2 - (lg_sl ([.ref (b 0)])).length) Slot.unset).toArray = ls at hl ⊢
  have hl : lv_has ls 2 [(0, .ref (b 0))] := hl
  refine lv_aload_n hx hb dX11_blank_0 rfl (lv_at hl 0 rfl) ?_
  refine va_get (D := (dC, dI)) (ci := 11) (C := RX11) (T := TX11) (N := 36) hx hb hts in_X11_blank_X11 hown hK hP 0 rfl rfl 14 (by decide) (hts (.fieldLink RX11 60 "MilkRoundModel" "pageLength" "I") (List.mem_of_getElem? (i := 1) rfl)) (fun _ h9 => h9) rfl dX11_blank_1 ?_
  refine lv_istore_n (lv' := [(1, .int (nI (pl))), (0, .ref (b 0))]) hx hb dX11_blank_4 rfl hl (by decide) rfl (fun ls hl => ?_)
  refine lv_aload_n hx hb dX11_blank_5 rfl (lv_at hl 1 rfl) ?_
  refine lv_iconst (v := nI (0)) hx hb dX11_blank_6 (by decide) ?_
  refine va_put (D := (dC, dI)) (ci := 11) (ty := tyX11 14) (C := RX11) (T := TX11) (N := 36) hx hb hts in_X11_blank_X11 tyX11 tyX11_ok nmX11 hown hK hP (ad_D hA0 rfl) hS 0 rfl rfl 14 (by decide) (hts (.fieldLink RX11 60 "MilkRoundModel" "pageLength" "I") (List.mem_of_getElem? (i := 1) rfl)) (fun _ h9 => h9) rfl (tyX11_ok 14 (by decide)) rfl rfl (Nat.le_of_ble_eq_true rfl) dX11_blank_7 (fun H locs hP _ hS => ?_)
  have hP : va_P (dC, dI) vwCl (DW y b rn n lo kp dy so he kn ak 0 iw nm sd ik kr lo2 dy2 so2 he2 kn2 dgv kd len ord kh km pg cm sav bo cb sl len2 ord2 kh2 km2) H := hP
  refine lv_iload_n hx hb dX11_blank_10 rfl (lv_at hl 0 rfl) ?_
  exact c_iret hx hb hr hlocks hK hS () hP rfl dX11_blank_11
theorem in_X11_isHouse_X11 : ∀ w ∈ wsX110, w ∈ wsX11_isHouse := fun w h => List.mem_cons_of_mem _ (List.mem_append_right _ h)
set_option maxHeartbeats 4000000 in
set_option maxRecDepth 100000 in
theorem k_X11_isHouse (l : Launch) (dC : Nat → ClassId) (dI : Nat → Nat → Nat) (y : Nat → ClassId) (A : Nat → Prop) (b : Nat → Nat) (hA0 : ad_ok A b 16) (rn : Nat) (n : Nat) (lo : Int32) (kp : Nat) (dy : Int32) (so : Int32) (he : Int32) (kn : Nat) (ak : Nat) (pl : Nat) (iw : Bool) (nm : Nat) (sd : Int64) (ik : Bool) (kr : Nat) (lo2 : Int32) (dy2 : Int32) (so2 : Int32) (he2 : Int32) (kn2 : Nat) (dgv : Int64) (kd : Nat → Nat) (len : Nat → Nat) (ord : Nat → Nat) (kh : Nat → Nat) (km : Nat → Nat) (pg : Nat → Nat) (cm : Nat → Nat) (sav : Nat → Nat) (bo : Nat → Nat) (cb : Nat → Nat) (sl : Nat → Nat) (len2 : Nat → Nat) (ord2 : Nat → Nat) (kh2 : Nat → Nat) (km2 : Nat → Nat) (h : Int32) (hn : n < 2 ^ 30) : Met l yX11_isHouse wsX11_isHouse ({ frames := 1, cells := 0, slots := 0, locals := 22 } : Room) (c_P (dC, dI) vwCl (TY y) (fun _ => True) (DW y b rn n lo kp dy so he kn ak pl iw nm sd ik kr lo2 dy2 so2 he2 kn2 dgv kd len ord kh km pg cm sav bo cb sl len2 ord2 kh2 km2) [.ref (b 0), .int (h)]) (va_Qi (fun (r : Int32) (u : Unit) => r = bI (isH h n)) (c_B (dC, dI) vwCl (TY y) (fun (u : Unit) => (DW y b rn n lo kp dy so he kn ak pl iw nm sd ik kr lo2 dy2 so2 he2 kn2 dgv kd len ord kh km pg cm sav bo cb sl len2 ord2 kh2 km2))) A) 0 0 A := by
  refine Met.ofW (cc := cX11_isHouse) (maxL := 2) (ret := (some .boolean)) (by decide) rfl ?_
  intro p e s m args below meth c s₁ BB hml hv
  obtain ⟨rfl, hP, hK, hE⟩ := hv
  have hx := BB.exec
  have hb := BB.bytes
  have hr := BB.returns
  have hts := atoms_spec (ws := wsX11_isHouse) BB.pre
  have hown : s.vm.findClass RX11 = some m.cls := findClass_of_methodNamed BB.named
  have hlocks := BB.notSynchronized
  have hS : va_S A s.heap s.heap [] := va_S.rf
  have hl := lv_entry ([.ref (b 0), .int (h)]) (n := 2) (Nat.le_of_ble_eq_true rfl)
  rw [lg_entry_eq]
  generalize (lg_sl ([.ref (b 0), .int (h)]) ++ List.replicate (2 - (lg_sl ([.ref (b 0), .int (h)])).length) Slot.unset).toArray = ls at hl ⊢
  have hl : lv_has ls 2 [(0, .ref (b 0)), (1, .int (h))] := hl
  refine lv_iload_n hx hb dX11_isHouse_0 rfl (lv_at hl 1 rfl) ?_
  refine lv_iconst (v := nI (0)) hx hb dX11_isHouse_1 (by decide) ?_
  refine lv_aload_n hx hb dX11_isHouse_2 rfl (lv_at hl 0 rfl) ?_
  refine va_get (D := (dC, dI)) (ci := 11) (C := RX11) (T := TX11) (N := 36) hx hb hts in_X11_isHouse_X11 hown hK hP 0 rfl rfl 1 (by decide) (hts (.fieldLink RX11 82 "MilkRoundModel" "houses" "I") (List.mem_of_getElem? (i := 1) rfl)) (fun _ h9 => h9) rfl dX11_isHouse_3 ?_
  refine lv_iconst (v := nI (1)) hx hb dX11_isHouse_6 (by decide) ?_
  refine lv_isub hx hb dX11_isHouse_7 ?_
  refine c_calli (va_runS (As := [.int (h), .int (nI (0)), .int ((nI (n)) - (nI (1)))]) (rest := []) ⟨hx, hb, hml, hown, hts⟩ (k_X11_within l dC dI y A (DW y b rn n lo kp dy so he kn ak pl iw nm sd ik kr lo2 dy2 so2 he2 kn2 dgv kd len ord kh km pg cm sav bo cb sl len2 ord2 kh2 km2) (fun _ => True) h (nI (0)) ((nI (n)) - (nI (1))) ) (va_cwS 3 hts gX11_isHouse_X11_within rfl rfl rfl (by decide +kernel) ⟨Nat.le_of_ble_eq_true rfl, Nat.le_of_ble_eq_true rfl⟩) (c_preS (c_N0 A) hK hE hS hP) rfl rfl hl.1 rfl (lv_room (Nat.le_of_ble_eq_true rfl)) dX11_isHouse_8 ⟨Nat.le_refl _, Nat.le_refl _⟩) hS (fun r_8 u_8 H locs hw_8 hP hS => ?_)
  obtain rfl := hw_8
  rw [isH_within hn]
  exact c_zret hx hb hr hlocks hK hS () (bI_nar _) hP rfl dX11_isHouse_11
theorem in_X11_readsAll_X11 : ∀ w ∈ wsX110, w ∈ wsX11_readsAll := fun w h => List.mem_cons_of_mem _ (List.mem_append_right _ h)
set_option maxHeartbeats 4000000 in
set_option maxRecDepth 100000 in
theorem k_X11_readsAll (l : Launch) (dC : Nat → ClassId) (dI : Nat → Nat → Nat) (y : Nat → ClassId) (A : Nat → Prop) (b : Nat → Nat) (hA0 : ad_ok A b 16) (rn : Nat) (n : Nat) (lo : Int32) (kp : Nat) (dy : Int32) (so : Int32) (he : Int32) (kn : Nat) (ak : Nat) (pl : Nat) (iw : Bool) (nm : Nat) (sd : Int64) (ik : Bool) (kr : Nat) (lo2 : Int32) (dy2 : Int32) (so2 : Int32) (he2 : Int32) (kn2 : Nat) (dgv : Int64) (kd : Nat → Nat) (len : Nat → Nat) (ord : Nat → Nat) (kh : Nat → Nat) (km : Nat → Nat) (pg : Nat → Nat) (cm : Nat → Nat) (sav : Nat → Nat) (bo : Nat → Nat) (cb : Nat → Nat) (sl : Nat → Nat) (len2 : Nat → Nat) (ord2 : Nat → Nat) (kh2 : Nat → Nat) (km2 : Nat → Nat) (h : Nat) (hh : h < 6) (hlen : ∀ j, len j ≤ 9) (hkd : ∀ j, kd j ≤ 4) : Met l yX11_readsAll wsX11_readsAll ({ frames := 0, cells := 0, slots := 0, locals := 0 } : Room) (c_P (dC, dI) vwCl (TY y) (fun _ => True) (DW y b rn n lo kp dy so he kn ak pl iw nm sd ik kr lo2 dy2 so2 he2 kn2 dgv kd len ord kh km pg cm sav bo cb sl len2 ord2 kh2 km2) [.ref (b 0), .int (nI (h))]) (va_Qi (fun (r : Int32) (u : Unit) => r = nI (whl (kd h) (len h))) (c_B (dC, dI) vwCl (TY y) (fun (u : Unit) => (DW y b rn n lo kp dy so he kn ak pl iw nm sd ik kr lo2 dy2 so2 he2 kn2 dgv kd len ord kh km pg cm sav bo cb sl len2 ord2 kh2 km2))) A) 0 0 A := by
  refine Met.ofW (cc := cX11_readsAll) (maxL := 3) (ret := (some .int)) (by decide) rfl ?_
  intro p e s m args below meth c s₁ BB hml hv
  obtain ⟨rfl, hP, hK, hE⟩ := hv
  have hx := BB.exec
  have hb := BB.bytes
  have hr := BB.returns
  have hts := atoms_spec (ws := wsX11_readsAll) BB.pre
  have hown : s.vm.findClass RX11 = some m.cls := findClass_of_methodNamed BB.named
  have hlocks := BB.notSynchronized
  have hS : va_S A s.heap s.heap [] := va_S.rf
  have hl := lv_entry ([.ref (b 0), .int (nI (h))]) (n := 3) (Nat.le_of_ble_eq_true rfl)
  rw [lg_entry_eq]
  generalize (lg_sl ([.ref (b 0), .int (nI (h))]) ++ List.replicate (3 - (lg_sl ([.ref (b 0), .int (nI (h))])).length) Slot.unset).toArray = ls at hl ⊢
  have hl : lv_has ls 3 [(0, .ref (b 0)), (1, .int (nI (h)))] := hl
  refine lv_aload_n hx hb dX11_readsAll_0 rfl (lv_at hl 0 rfl) ?_
  refine va_get (D := (dC, dI)) (ci := 11) (C := RX11) (T := TX11) (N := 36) hx hb hts in_X11_readsAll_X11 hown hK hP 0 rfl rfl 3 (by decide) (hts (.fieldLink RX11 13 "MilkRoundModel" "longOf" "[I") (List.mem_of_getElem? (i := 1) rfl)) (fun _ h9 => h9) rfl dX11_readsAll_1 ?_
  refine lv_iload_n hx hb dX11_readsAll_4 rfl (lv_at hl 1 rfl) ?_
  refine n_iald hx hb hK hP 2 0 rfl rfl (by omega) (by decide) dX11_readsAll_5 ?_
  have hb_5 := hlen h
  refine lv_istore_n (lv' := [(2, .int (nI (len h))), (0, .ref (b 0)), (1, .int (nI (h)))]) hx hb dX11_readsAll_6 rfl hl (by decide) rfl (fun ls hl => ?_)
  refine lv_aload_n hx hb dX11_readsAll_7 rfl (lv_at hl 1 rfl) ?_
  refine va_get (D := (dC, dI)) (ci := 11) (C := RX11) (T := TX11) (N := 36) hx hb hts in_X11_readsAll_X11 hown hK hP 0 rfl rfl 2 (by decide) (hts (.fieldLink RX11 7 "MilkRoundModel" "kindOf" "[I") (List.mem_of_getElem? (i := 2) rfl)) (fun _ h9 => h9) rfl dX11_readsAll_8 ?_
  refine lv_iload_n hx hb dX11_readsAll_11 rfl (lv_at hl 2 rfl) ?_
  refine n_iald hx hb hK hP 1 0 rfl rfl (by omega) (by decide) dX11_readsAll_12 ?_
  have hb_12 := hkd h
  rcases (show kd h = 1 ∨ kd h = 2 ∨ kd h = 3 ∨ kd h = 4 ∨ (kd h < 1 ∨ 4 < kd h) by omega) with k_13 | k_13 | k_13 | k_13 | k_13
  · refine n_top (y := nI 1) (by rw [k_13]) ?_
    refine lv_tableIn (off := 31) (tgt := 44) hx hb dX11_readsAll_13 (by decide) (by decide) (by decide) (by decide) ?_
    refine lv_iconst (v := nI (2)) hx hb dX11_readsAll_44 (by decide) ?_
    refine lv_iload_n hx hb dX11_readsAll_45 rfl (lv_at hl 0 rfl) ?_
    refine n_imul hx hb dX11_readsAll_46 ?_
    exact c_iret hx hb hr hlocks hK hS () hP (by first | (rw [whl, k_13]; rfl) | (rw [whl, if_neg (by omega), if_neg (by omega), if_neg (by omega), if_neg (by omega)])) dX11_readsAll_47
  · refine n_top (y := nI 2) (by rw [k_13]) ?_
    refine lv_tableIn (off := 35) (tgt := 48) hx hb dX11_readsAll_13 (by decide) (by decide) (by decide) (by decide) ?_
    refine lv_iload_n hx hb dX11_readsAll_48 rfl (lv_at hl 0 rfl) ?_
    refine lv_iconst (v := nI (3)) hx hb dX11_readsAll_49 (by decide) ?_
    refine n_iadd hx hb dX11_readsAll_50 ?_
    exact c_iret hx hb hr hlocks hK hS () hP (by first | (rw [whl, k_13]; rfl) | (rw [whl, if_neg (by omega), if_neg (by omega), if_neg (by omega), if_neg (by omega)])) dX11_readsAll_51
  · refine n_top (y := nI 3) (by rw [k_13]) ?_
    refine lv_tableIn (off := 39) (tgt := 52) hx hb dX11_readsAll_13 (by decide) (by decide) (by decide) (by decide) ?_
    refine lv_iload_n hx hb dX11_readsAll_52 rfl (lv_at hl 0 rfl) ?_
    refine lv_iconst (v := nI (1)) hx hb dX11_readsAll_53 (by decide) ?_
    refine n_iadd hx hb dX11_readsAll_54 ?_
    refine lv_iconst (v := nI (2)) hx hb dX11_readsAll_55 (by decide) ?_
    refine n_idiv hx hb (by decide) (by omega) (by decide) dX11_readsAll_56 ?_
    exact c_iret hx hb hr hlocks hK hS () hP (by first | (rw [whl, k_13]; rfl) | (rw [whl, if_neg (by omega), if_neg (by omega), if_neg (by omega), if_neg (by omega)])) dX11_readsAll_57
  · refine n_top (y := nI 4) (by rw [k_13]) ?_
    refine lv_tableIn (off := 45) (tgt := 58) hx hb dX11_readsAll_13 (by decide) (by decide) (by decide) (by decide) ?_
    refine lv_iconst (v := nI (2)) hx hb dX11_readsAll_58 (by decide) ?_
    refine lv_iload_n hx hb dX11_readsAll_59 rfl (lv_at hl 0 rfl) ?_
    refine n_imul hx hb dX11_readsAll_60 ?_
    refine lv_iconst (v := nI (2)) hx hb dX11_readsAll_61 (by decide) ?_
    refine n_iadd hx hb dX11_readsAll_62 ?_
    exact c_iret hx hb hr hlocks hK hS () hP (by first | (rw [whl, k_13]; rfl) | (rw [whl, if_neg (by omega), if_neg (by omega), if_neg (by omega), if_neg (by omega)])) dX11_readsAll_63
  · refine lv_tableOut (tgt := 64) hx hb dX11_readsAll_13 (by rw [nI_toInt (by omega)]; omega) (by decide) ?_
    refine lv_iload_n hx hb dX11_readsAll_64 rfl (lv_at hl 0 rfl) ?_
    exact c_iret hx hb hr hlocks hK hS () hP (by first | (rw [whl, k_13]; rfl) | (rw [whl, if_neg (by omega), if_neg (by omega), if_neg (by omega), if_neg (by omega)])) dX11_readsAll_65
theorem in_X11_reads_X11 : ∀ w ∈ wsX110, w ∈ wsX11_reads := fun w h => List.mem_cons_of_mem _ (List.mem_append_right _ h)
set_option maxHeartbeats 4000000 in
set_option maxRecDepth 100000 in
theorem k_X11_reads (l : Launch) (dC : Nat → ClassId) (dI : Nat → Nat → Nat) (y : Nat → ClassId) (A : Nat → Prop) (b : Nat → Nat) (hA0 : ad_ok A b 16) (rn : Nat) (n : Nat) (lo : Int32) (kp : Nat) (dy : Int32) (so : Int32) (he : Int32) (kn : Nat) (ak : Nat) (pl : Nat) (iw : Bool) (nm : Nat) (sd : Int64) (ik : Bool) (kr : Nat) (lo2 : Int32) (dy2 : Int32) (so2 : Int32) (he2 : Int32) (kn2 : Nat) (dgv : Int64) (kd : Nat → Nat) (len : Nat → Nat) (ord : Nat → Nat) (kh : Nat → Nat) (km : Nat → Nat) (pg : Nat → Nat) (cm : Nat → Nat) (sav : Nat → Nat) (bo : Nat → Nat) (cb : Nat → Nat) (sl : Nat → Nat) (len2 : Nat → Nat) (ord2 : Nat → Nat) (kh2 : Nat → Nat) (km2 : Nat → Nat) (h : Nat) (hh : h < 6) (hlen : ∀ j, len j ≤ 9) (hkd : ∀ j, kd j ≤ 4) : Met l yX11_reads wsX11_reads ({ frames := 1, cells := 0, slots := 0, locals := 22 } : Room) (c_P (dC, dI) vwCl (TY y) (fun _ => True) (DW y b rn n lo kp dy so he kn ak pl iw nm sd ik kr lo2 dy2 so2 he2 kn2 dgv kd len ord kh km pg cm sav bo cb sl len2 ord2 kh2 km2) [.ref (b 0), .int (nI (h))]) (va_Qi (fun (r : Int32) (u : Unit) => r = nI (rdm kd len lo h)) (c_B (dC, dI) vwCl (TY y) (fun (u : Unit) => (DW y b rn n lo kp dy so he kn ak pl iw nm sd ik kr lo2 dy2 so2 he2 kn2 dgv kd len ord kh km pg cm sav bo cb sl len2 ord2 kh2 km2))) A) 0 0 A := by
  refine Met.ofW (cc := cX11_reads) (maxL := 2) (ret := (some .int)) (by decide) rfl ?_
  intro p e s m args below meth c s₁ BB hml hv
  obtain ⟨rfl, hP, hK, hE⟩ := hv
  have hx := BB.exec
  have hb := BB.bytes
  have hr := BB.returns
  have hts := atoms_spec (ws := wsX11_reads) BB.pre
  have hown : s.vm.findClass RX11 = some m.cls := findClass_of_methodNamed BB.named
  have hlocks := BB.notSynchronized
  have hS : va_S A s.heap s.heap [] := va_S.rf
  have hl := lv_entry ([.ref (b 0), .int (nI (h))]) (n := 2) (Nat.le_of_ble_eq_true rfl)
  rw [lg_entry_eq]
  generalize (lg_sl ([.ref (b 0), .int (nI (h))]) ++ List.replicate (2 - (lg_sl ([.ref (b 0), .int (nI (h))])).length) Slot.unset).toArray = ls at hl ⊢
  have hl : lv_has ls 2 [(0, .ref (b 0)), (1, .int (nI (h)))] := hl
  refine lv_aload_n hx hb dX11_reads_0 rfl (lv_at hl 0 rfl) ?_
  refine va_get (D := (dC, dI)) (ci := 11) (C := RX11) (T := TX11) (N := 36) hx hb hts in_X11_reads_X11 hown hK hP 0 rfl rfl 5 (by decide) (hts (.fieldLink RX11 91 "MilkRoundModel" "leftOut" "I") (List.mem_of_getElem? (i := 1) rfl)) (fun _ h9 => h9) rfl dX11_reads_1 ?_
  refine lv_iload_n hx hb dX11_reads_4 rfl (lv_at hl 1 rfl) ?_
  refine c_calli (va_runS (As := [.int (lo), .int (nI (h))]) (rest := []) ⟨hx, hb, hml, hown, hts⟩ (k_X11_isIn l dC dI y A (DW y b rn n lo kp dy so he kn ak pl iw nm sd ik kr lo2 dy2 so2 he2 kn2 dgv kd len ord kh km pg cm sav bo cb sl len2 ord2 kh2 km2) (fun _ => True) lo h ) (va_cwS 2 hts gX11_reads_X11_isIn rfl rfl rfl (by decide +kernel) ⟨Nat.le_of_ble_eq_true rfl, Nat.le_of_ble_eq_true rfl⟩) (c_preS (c_N0 A) hK hE hS hP) rfl rfl hl.1 rfl (lv_room (Nat.le_of_ble_eq_true rfl)) dX11_reads_5 ⟨Nat.le_refl _, Nat.le_refl _⟩) hS (fun r_5 u_5 H locs hw_5 hP hS => ?_)
  obtain rfl := hw_5
  refine n_bif_eq (tgt := 21) hx hb dX11_reads_8 (by decide) (fun c_8 => ?_) (fun c_8 => ?_)
  · refine lv_aload_n hx hb dX11_reads_21 rfl (lv_at hl 0 rfl) ?_
    refine lv_iload_n hx hb dX11_reads_22 rfl (lv_at hl 1 rfl) ?_
    refine c_calli (va_runV (As := [.int (nI (h))]) (rest := []) ⟨hx, hb, hml, hown, hts⟩ (k_X11_readsAll l dC dI y A b hA0 rn n lo kp dy so he kn ak pl iw nm sd ik kr lo2 dy2 so2 he2 kn2 dgv kd len ord kh km pg cm sav bo cb sl len2 ord2 kh2 km2 h hh hlen hkd) (cwV 1 hts gX11_reads_X11_readsAll rfl rfl rfl (by decide +kernel) ⟨Nat.le_of_ble_eq_true rfl, Nat.le_of_ble_eq_true rfl⟩) (c_preV (c_N0 A) hK hE hS hP (va_recv hK hP (ci := 11) (q0 := 0) rfl rfl)) rfl rfl hl.1 rfl (lv_room (Nat.le_of_ble_eq_true rfl)) dX11_reads_23 ⟨Nat.le_refl _, Nat.le_refl _⟩) hS (fun r_23 u_23 H locs hw_23 hP hS => ?_)
    obtain rfl := hw_23
    exact c_iret hx hb hr hlocks hK hS () hP (by rw [rdm, c_8]; rfl) dX11_reads_26
  · refine lv_aload_n hx hb dX11_reads_11 rfl (lv_at hl 0 rfl) ?_
    refine lv_iload_n hx hb dX11_reads_12 rfl (lv_at hl 1 rfl) ?_
    have hw9 := whl_le (k := kd h) (hlen h)
    refine c_calli (va_runV (As := [.int (nI (h))]) (rest := []) ⟨hx, hb, hml, hown, hts⟩ (k_X11_readsAll l dC dI y A b hA0 rn n lo kp dy so he kn ak pl iw nm sd ik kr lo2 dy2 so2 he2 kn2 dgv kd len ord kh km pg cm sav bo cb sl len2 ord2 kh2 km2 h hh hlen hkd) (cwV 1 hts gX11_reads_X11_readsAll rfl rfl rfl (by decide +kernel) ⟨Nat.le_of_ble_eq_true rfl, Nat.le_of_ble_eq_true rfl⟩) (c_preV (c_N0 A) hK hE hS hP (va_recv hK hP (ci := 11) (q0 := 0) rfl rfl)) rfl rfl hl.1 rfl (lv_room (Nat.le_of_ble_eq_true rfl)) dX11_reads_13 ⟨Nat.le_refl _, Nat.le_refl _⟩) hS (fun r_13 u_13 H locs hw_13 hP hS => ?_)
    obtain rfl := hw_13
    refine lv_iconst (v := nI (2)) hx hb dX11_reads_16 (by decide) ?_
    refine n_idiv hx hb (by decide) (by omega) (by decide) dX11_reads_17 ?_
    refine lv_goto (tgt := 26) hx hb dX11_reads_18 (by decide) ?_
    exact c_iret hx hb hr hlocks hK hS () hP (by rw [rdm, c_8]; rfl) dX11_reads_26
theorem in_X11_go_X11 : ∀ w ∈ wsX110, w ∈ wsX11_go := fun w h => List.mem_cons_of_mem _ (List.mem_append_right _ h)
set_option maxHeartbeats 4000000 in
set_option maxRecDepth 100000 in
theorem k_X11_go (l : Launch) (dC : Nat → ClassId) (dI : Nat → Nat → Nat) (y : Nat → ClassId) (A : Nat → Prop) (b : Nat → Nat) (hA0 : ad_ok A b 16) (rn : Nat) (n : Nat) (lo : Int32) (kp : Nat) (dy : Int32) (so : Int32) (he : Int32) (kn : Nat) (ak : Nat) (pl : Nat) (iw : Bool) (nm : Nat) (sd : Int64) (ik : Bool) (kr : Nat) (lo2 : Int32) (dy2 : Int32) (so2 : Int32) (he2 : Int32) (kn2 : Nat) (dgv : Int64) (kd : Nat → Nat) (len : Nat → Nat) (ord : Nat → Nat) (kh : Nat → Nat) (km : Nat → Nat) (pg : Nat → Nat) (cm : Nat → Nat) (sav : Nat → Nat) (bo : Nat → Nat) (cb : Nat → Nat) (sl : Nat → Nat) (len2 : Nat → Nat) (ord2 : Nat → Nat) (kh2 : Nat → Nat) (km2 : Nat → Nat) (hn : n ≤ 6) (hord : PermOn n ord) (hlen : ∀ j, len j ≤ 9) (hkd : ∀ j, kd j ≤ 4) (hcm : ∀ j, cm j ≤ 126) : Met l yX11_go wsX11_go ({ frames := 2, cells := 0, slots := 0, locals := 43 } : Room) (c_P (dC, dI) vwCl (TY y) (fun _ => True) (DW y b rn n lo kp dy so he kn ak pl iw nm sd ik kr lo2 dy2 so2 he2 kn2 dgv kd len ord kh km pg cm sav bo cb sl len2 ord2 kh2 km2) [.ref (b 0)]) (va_Qv (fun (u : Nat → Nat) => CamOk kd len lo ord n u) (c_B (dC, dI) vwCl (TY y) (fun (u : Nat → Nat) => (DW y b rn n lo kp dy so he kn ak pl iw nm sd ik kr lo2 dy2 so2 he2 kn2 dgv kd len ord kh km pg u sav bo cb sl len2 ord2 kh2 km2))) A) 0 0 A := by
  refine Met.ofW (cc := cX11_go) (maxL := 3) (ret := none) (by decide) rfl ?_
  intro p e s m args below meth c s₁ BB hml hv
  obtain ⟨rfl, hP, hK, hE⟩ := hv
  have hx := BB.exec
  have hb := BB.bytes
  have hr := BB.returns
  have hts := atoms_spec (ws := wsX11_go) BB.pre
  have hown : s.vm.findClass RX11 = some m.cls := findClass_of_methodNamed BB.named
  have hlocks := BB.notSynchronized
  have hS : va_S A s.heap s.heap [] := va_S.rf
  have hl := lv_entry ([.ref (b 0)]) (n := 3) (Nat.le_of_ble_eq_true rfl)
  rw [lg_entry_eq]
  generalize (lg_sl ([.ref (b 0)]) ++ List.replicate (3 - (lg_sl ([.ref (b 0)])).length) Slot.unset).toArray = ls at hl ⊢
  have hl : lv_has ls 3 [(0, .ref (b 0))] := hl
  refine lv_iconst (v := nI (0)) hx hb dX11_go_0 (by decide) ?_
  refine lv_istore_n (lv' := [(1, .int (nI (0))), (0, .ref (b 0))]) hx hb dX11_go_1 rfl hl (by decide) rfl (fun ls hl => ?_)
  refine lv_iconst (v := nI (0)) hx hb dX11_go_2 (by decide) ?_
  refine lv_istore_n (lv' := [(2, .int (nI (0))), (1, .int (nI (0))), (0, .ref (b 0))]) hx hb dX11_go_3 rfl hl (by decide) rfl (fun ls hl => ?_)
  have loop_4 : ∀ (dd_4 : Nat) (k : Nat) (tt : Nat) (f : Nat → Nat) (hk : k ≤ n) (ht : tt = tmF kd len lo ord k) (hf : f = gof kd len lo ord cm k), n - k < dd_4 → ∀ (H : Heap) (locs : List Loc) (ls : Array Slot), va_P (dC, dI) vwCl (DW y b rn n lo kp dy so he kn ak pl iw nm sd ik kr lo2 dy2 so2 he2 kn2 dgv kd len ord kh km pg f sav bo cb sl len2 ord2 kh2 km2) H → va_S A s.heap H locs → lv_has ls 3 [(2, .int (nI (k))), (1, .int (nI (tt))), (0, .ref (b 0))] → W p l e (headSpec wsX11_go ({ frames := 2, cells := 0, slots := 0, locals := 43 } : Room)).room s m [.ref (b 0)].toArray below meth c H locs 0 0 (MQ below (va_Qv (fun (u : Nat → Nat) => CamOk kd len lo ord n u) (c_B (dC, dI) vwCl (TY y) (fun (u : Nat → Nat) => (DW y b rn n lo kp dy so he kn ak pl iw nm sd ik kr lo2 dy2 so2 he2 kn2 dgv kd len ord kh km pg u sav bo cb sl len2 ord2 kh2 km2))) A) [.ref (b 0)].toArray s 0 0 A) (F0 m 4 ls []) := by
    intro dd_4
    induction dd_4 with
    | zero => intro k tt f hk ht hf hd; exact absurd hd (Nat.not_lt_zero _)
    | succ dd_4 ih_4 =>
      intro k tt f hk ht hf hd_4 H locs ls hP hS hl
      refine lv_iload_n hx hb dX11_go_4 rfl (lv_at hl 0 rfl) ?_
      refine lv_aload_n hx hb dX11_go_5 rfl (lv_at hl 2 rfl) ?_
      refine va_get (D := (dC, dI)) (ci := 11) (C := RX11) (T := TX11) (N := 36) hx hb hts in_X11_go_X11 hown hK hP 0 rfl rfl 1 (by decide) (hts (.fieldLink RX11 82 "MilkRoundModel" "houses" "I") (List.mem_of_getElem? (i := 1) rfl)) (fun _ h9 => h9) rfl dX11_go_6 ?_
      refine n_icmp_ge (tgt := 45) hx hb dX11_go_9 (by decide) (by omega) (by omega) (fun c_9 => ?_) (fun c_9 => ?_)
      · have hkn : k = n := by omega
        subst hkn
        exact c_vret hx hb hr hlocks hK hS f hP (by rw [hf]; exact gof_cam hord hn hlen hcm) dX11_go_45
      · have hok := hord.1 k (by omega)
        refine lv_iload_n hx hb dX11_go_12 rfl (lv_at hl 1 rfl) ?_
        refine lv_iconst (v := nI (1)) hx hb dX11_go_13 (by decide) ?_
        refine lv_aload_n hx hb dX11_go_14 rfl (lv_at hl 2 rfl) ?_
        refine lv_aload_n hx hb dX11_go_15 rfl (lv_at hl 2 rfl) ?_
        refine va_get (D := (dC, dI)) (ci := 11) (C := RX11) (T := TX11) (N := 36) hx hb hts in_X11_go_X11 hown hK hP 0 rfl rfl 4 (by decide) (hts (.fieldLink RX11 16 "MilkRoundModel" "orderAt" "[I") (List.mem_of_getElem? (i := 2) rfl)) (fun _ h9 => h9) rfl dX11_go_16 ?_
        refine lv_iload_n hx hb dX11_go_19 rfl (lv_at hl 0 rfl) ?_
        refine n_iald hx hb hK hP 3 0 rfl rfl (by omega) (by decide) dX11_go_20 ?_
        refine c_calli (va_runV (As := [.int (nI (ord k))]) (rest := [.int (nI (1)), .int (nI (tt))]) ⟨hx, hb, hml, hown, hts⟩ (k_X11_reads l dC dI y A b hA0 rn n lo kp dy so he kn ak pl iw nm sd ik kr lo2 dy2 so2 he2 kn2 dgv kd len ord kh km pg f sav bo cb sl len2 ord2 kh2 km2 (ord k) (by omega) hlen hkd) (cwV 1 hts gX11_go_X11_reads rfl rfl rfl (by decide +kernel) ⟨Nat.le_of_ble_eq_true rfl, Nat.le_of_ble_eq_true rfl⟩) (c_preV (c_N0 A) hK hE hS hP (va_recv hK hP (ci := 11) (q0 := 0) rfl rfl)) rfl rfl hl.1 rfl (lv_room (Nat.le_of_ble_eq_true rfl)) dX11_go_21 ⟨Nat.le_refl _, Nat.le_refl _⟩) hS (fun r_21 u_21 H locs hw_21 hP hS => ?_)
        obtain rfl := hw_21
        refine n_iadd hx hb dX11_go_24 ?_
        refine n_iadd hx hb dX11_go_25 ?_
        refine lv_istore_n (lv' := [(1, .int (nI ((tt) + ((1) + (rdm kd len lo (ord k)))))), (2, .int (nI (k))), (0, .ref (b 0))]) hx hb dX11_go_26 rfl hl (by decide) rfl (fun ls hl => ?_)
        refine lv_aload_n hx hb dX11_go_27 rfl (lv_at hl 2 rfl) ?_
        refine va_get (D := (dC, dI)) (ci := 11) (C := RX11) (T := TX11) (N := 36) hx hb hts in_X11_go_X11 hown hK hP 0 rfl rfl 18 (by decide) (hts (.fieldLink RX11 29 "MilkRoundModel" "comesAt" "[I") (List.mem_of_getElem? (i := 3) rfl)) (fun _ h9 => h9) rfl dX11_go_28 ?_
        refine lv_aload_n hx hb dX11_go_31 rfl (lv_at hl 2 rfl) ?_
        refine va_get (D := (dC, dI)) (ci := 11) (C := RX11) (T := TX11) (N := 36) hx hb hts in_X11_go_X11 hown hK hP 0 rfl rfl 4 (by decide) (hts (.fieldLink RX11 16 "MilkRoundModel" "orderAt" "[I") (List.mem_of_getElem? (i := 2) rfl)) (fun _ h9 => h9) rfl dX11_go_32 ?_
        refine lv_iload_n hx hb dX11_go_35 rfl (lv_at hl 1 rfl) ?_
        refine n_iald hx hb hK hP 3 0 rfl rfl (by omega) (by decide) dX11_go_36 ?_
        refine lv_iload_n hx hb dX11_go_37 rfl (lv_at hl 0 rfl) ?_
        refine n_iast hx hb hK hP (ad_D hA0 rfl) hS 7 0 rfl rfl (by omega) (by decide) dX11_go_38 (fun H locs hP hS => ?_)
        have hP : va_P (dC, dI) vwCl (DW y b rn n lo kp dy so he kn ak pl iw nm sd ik kr lo2 dy2 so2 he2 kn2 dgv kd len ord kh km pg (va_up f (ord k) ((tt) + ((1) + (rdm kd len lo (ord k))))) sav bo cb sl len2 ord2 kh2 km2) H := hP
        refine lv_iinc (v := nI (k + 1)) (lv' := [(2, .int (nI (k + 1))), (1, .int (nI ((tt) + ((1) + (rdm kd len lo (ord k)))))), (0, .ref (b 0))]) hx hb dX11_go_39 hl (k := 1) rfl (mr_inc _) (by decide) rfl (fun ls hl => ?_)
        refine lv_goto (tgt := 4) hx hb dX11_go_42 (by decide) ?_
        exact ih_4 (k + 1) (tt + (1 + rdm kd len lo (ord k))) (va_up f (ord k) (tt + (1 + rdm kd len lo (ord k)))) (by omega) (by rw [ht]; rfl) (by rw [hf, ht]; rfl) (by omega) _ _ _ hP hS (lv_sub hl [0, 1, 2] rfl)
  exact loop_4 _ 0 0 cm (Nat.zero_le _) rfl rfl (Nat.lt_succ_self _) _ _ _ hP hS (lv_sub hl [0, 1, 2] rfl)
theorem in_X11_isSour_X11 : ∀ w ∈ wsX110, w ∈ wsX11_isSour := fun w h => List.mem_cons_of_mem _ (List.mem_append_right _ h)
set_option maxHeartbeats 4000000 in
set_option maxRecDepth 100000 in
theorem k_X11_isSour (l : Launch) (dC : Nat → ClassId) (dI : Nat → Nat → Nat) (y : Nat → ClassId) (A : Nat → Prop) (b : Nat → Nat) (hA0 : ad_ok A b 16) (rn : Nat) (n : Nat) (lo : Int32) (kp : Nat) (dy : Int32) (so : Int32) (he : Int32) (kn : Nat) (ak : Nat) (pl : Nat) (iw : Bool) (nm : Nat) (sd : Int64) (ik : Bool) (kr : Nat) (lo2 : Int32) (dy2 : Int32) (so2 : Int32) (he2 : Int32) (kn2 : Nat) (dgv : Int64) (kd : Nat → Nat) (len : Nat → Nat) (ord : Nat → Nat) (kh : Nat → Nat) (km : Nat → Nat) (pg : Nat → Nat) (cm : Nat → Nat) (sav : Nat → Nat) (bo : Nat → Nat) (cb : Nat → Nat) (sl : Nat → Nat) (len2 : Nat → Nat) (ord2 : Nat → Nat) (kh2 : Nat → Nat) (km2 : Nat → Nat) (h : Nat) (hh : h < 6) (hkp : kp ≤ 9) (hcm : ∀ j, cm j ≤ 126) (hkd : ∀ j, kd j ≤ 4) : Met l yX11_isSour wsX11_isSour ({ frames := 0, cells := 0, slots := 0, locals := 0 } : Room) (c_P (dC, dI) vwCl (TY y) (fun _ => True) (DW y b rn n lo kp dy so he kn ak pl iw nm sd ik kr lo2 dy2 so2 he2 kn2 dgv kd len ord kh km pg cm sav bo cb sl len2 ord2 kh2 km2) [.ref (b 0), .int (nI (h))]) (va_Qi (fun (r : Int32) (u : Unit) => r = bI (sourB kd kp cm h)) (c_B (dC, dI) vwCl (TY y) (fun (u : Unit) => (DW y b rn n lo kp dy so he kn ak pl iw nm sd ik kr lo2 dy2 so2 he2 kn2 dgv kd len ord kh km pg cm sav bo cb sl len2 ord2 kh2 km2))) A) 0 0 A := by
  refine Met.ofW (cc := cX11_isSour) (maxL := 2) (ret := (some .boolean)) (by decide) rfl ?_
  intro p e s m args below meth c s₁ BB hml hv
  obtain ⟨rfl, hP, hK, hE⟩ := hv
  have hx := BB.exec
  have hb := BB.bytes
  have hr := BB.returns
  have hts := atoms_spec (ws := wsX11_isSour) BB.pre
  have hown : s.vm.findClass RX11 = some m.cls := findClass_of_methodNamed BB.named
  have hlocks := BB.notSynchronized
  have hS : va_S A s.heap s.heap [] := va_S.rf
  have hl := lv_entry ([.ref (b 0), .int (nI (h))]) (n := 2) (Nat.le_of_ble_eq_true rfl)
  rw [lg_entry_eq]
  generalize (lg_sl ([.ref (b 0), .int (nI (h))]) ++ List.replicate (2 - (lg_sl ([.ref (b 0), .int (nI (h))])).length) Slot.unset).toArray = ls at hl ⊢
  have hl : lv_has ls 2 [(0, .ref (b 0)), (1, .int (nI (h)))] := hl
  refine lv_aload_n hx hb dX11_isSour_0 rfl (lv_at hl 0 rfl) ?_
  refine va_get (D := (dC, dI)) (ci := 11) (C := RX11) (T := TX11) (N := 36) hx hb hts in_X11_isSour_X11 hown hK hP 0 rfl rfl 18 (by decide) (hts (.fieldLink RX11 29 "MilkRoundModel" "comesAt" "[I") (List.mem_of_getElem? (i := 1) rfl)) (fun _ h9 => h9) rfl dX11_isSour_1 ?_
  refine lv_iload_n hx hb dX11_isSour_4 rfl (lv_at hl 1 rfl) ?_
  refine n_iald hx hb hK hP 7 0 rfl rfl (by omega) (by decide) dX11_isSour_5 ?_
  have hb_5 := hcm h
  refine lv_aload_n hx hb dX11_isSour_6 rfl (lv_at hl 0 rfl) ?_
  refine va_get (D := (dC, dI)) (ci := 11) (C := RX11) (T := TX11) (N := 36) hx hb hts in_X11_isSour_X11 hown hK hP 0 rfl rfl 2 (by decide) (hts (.fieldLink RX11 7 "MilkRoundModel" "kindOf" "[I") (List.mem_of_getElem? (i := 2) rfl)) (fun _ h9 => h9) rfl dX11_isSour_7 ?_
  refine lv_iload_n hx hb dX11_isSour_10 rfl (lv_at hl 1 rfl) ?_
  refine n_iald hx hb hK hP 1 0 rfl rfl (by omega) (by decide) dX11_isSour_11 ?_
  have hb_11 := hkd h
  refine lv_iconst (v := nI (2)) hx hb dX11_isSour_12 (by decide) ?_
  refine n_icmp_ne (tgt := 20) hx hb dX11_isSour_13 (by decide) (by omega) (by omega) (fun c_13 => ?_) (fun c_13 => ?_)
  · refine lv_iconst (v := nI (4)) hx hb dX11_isSour_20 (by decide) ?_
    refine lv_aload_n hx hb dX11_isSour_21 rfl (lv_at hl 0 rfl) ?_
    refine va_get (D := (dC, dI)) (ci := 11) (C := RX11) (T := TX11) (N := 36) hx hb hts in_X11_isSour_X11 hown hK hP 0 rfl rfl 6 (by decide) (hts (.fieldLink RX11 85 "MilkRoundModel" "keep" "I") (List.mem_of_getElem? (i := 3) rfl)) (fun _ h9 => h9) rfl dX11_isSour_22 ?_
    refine n_imul hx hb dX11_isSour_25 ?_
    refine n_icmp_le (tgt := 33) hx hb dX11_isSour_26 (by decide) (by omega) (by omega) (fun c_26 => ?_) (fun c_26 => ?_)
    · refine lv_iconst (v := nI (0)) hx hb dX11_isSour_33 (by decide) ?_
      exact c_zret hx hb hr hlocks hK hS () rfl hP (bI_0 (by unfold sourB; rw [tkF4 c_13]; exact decide_eq_false (by omega))) dX11_isSour_34
    · refine lv_iconst (v := nI (1)) hx hb dX11_isSour_29 (by decide) ?_
      refine lv_goto (tgt := 34) hx hb dX11_isSour_30 (by decide) ?_
      exact c_zret hx hb hr hlocks hK hS () rfl hP (bI_1 (by unfold sourB; rw [tkF4 c_13]; exact decide_eq_true (by omega))) dX11_isSour_34
  · refine lv_iconst (v := nI (2)) hx hb dX11_isSour_16 (by decide) ?_
    refine lv_goto (tgt := 21) hx hb dX11_isSour_17 (by decide) ?_
    refine lv_aload_n hx hb dX11_isSour_21 rfl (lv_at hl 0 rfl) ?_
    refine va_get (D := (dC, dI)) (ci := 11) (C := RX11) (T := TX11) (N := 36) hx hb hts in_X11_isSour_X11 hown hK hP 0 rfl rfl 6 (by decide) (hts (.fieldLink RX11 85 "MilkRoundModel" "keep" "I") (List.mem_of_getElem? (i := 3) rfl)) (fun _ h9 => h9) rfl dX11_isSour_22 ?_
    refine n_imul hx hb dX11_isSour_25 ?_
    refine n_icmp_le (tgt := 33) hx hb dX11_isSour_26 (by decide) (by omega) (by omega) (fun c_26 => ?_) (fun c_26 => ?_)
    · refine lv_iconst (v := nI (0)) hx hb dX11_isSour_33 (by decide) ?_
      exact c_zret hx hb hr hlocks hK hS () rfl hP (bI_0 (by unfold sourB; rw [tkF2 c_13]; exact decide_eq_false (by omega))) dX11_isSour_34
    · refine lv_iconst (v := nI (1)) hx hb dX11_isSour_29 (by decide) ?_
      refine lv_goto (tgt := 34) hx hb dX11_isSour_30 (by decide) ?_
      exact c_zret hx hb hr hlocks hK hS () rfl hP (bI_1 (by unfold sourB; rw [tkF2 c_13]; exact decide_eq_true (by omega))) dX11_isSour_34
theorem in_X11_isAhead_X11 : ∀ w ∈ wsX110, w ∈ wsX11_isAhead := fun w h => List.mem_cons_of_mem _ (List.mem_append_right _ h)
set_option maxHeartbeats 4000000 in
set_option maxRecDepth 100000 in
theorem k_X11_isAhead (l : Launch) (dC : Nat → ClassId) (dI : Nat → Nat → Nat) (y : Nat → ClassId) (A : Nat → Prop) (b : Nat → Nat) (hA0 : ad_ok A b 16) (rn : Nat) (n : Nat) (lo : Int32) (kp : Nat) (dy : Int32) (so : Int32) (he : Int32) (kn : Nat) (ak : Nat) (pl : Nat) (iw : Bool) (nm : Nat) (sd : Int64) (ik : Bool) (kr : Nat) (lo2 : Int32) (dy2 : Int32) (so2 : Int32) (he2 : Int32) (kn2 : Nat) (dgv : Int64) (kd : Nat → Nat) (len : Nat → Nat) (ord : Nat → Nat) (kh : Nat → Nat) (km : Nat → Nat) (pg : Nat → Nat) (cm : Nat → Nat) (sav : Nat → Nat) (bo : Nat → Nat) (cb : Nat → Nat) (sl : Nat → Nat) (len2 : Nat → Nat) (ord2 : Nat → Nat) (kh2 : Nat → Nat) (km2 : Nat → Nat) (o : Int32) (h : Nat) (hh : h < 6) (hn : n ≤ 6) (hcm : ∀ j, cm j ≤ 126) : Met l yX11_isAhead wsX11_isAhead ({ frames := 2, cells := 0, slots := 0, locals := 43 } : Room) (c_P (dC, dI) vwCl (TY y) (fun _ => True) (DW y b rn n lo kp dy so he kn ak pl iw nm sd ik kr lo2 dy2 so2 he2 kn2 dgv kd len ord kh km pg cm sav bo cb sl len2 ord2 kh2 km2) [.ref (b 0), .int (o), .int (nI (h))]) (va_Qi (fun (r : Int32) (u : Unit) => r = bI (ahI n cm o h)) (c_B (dC, dI) vwCl (TY y) (fun (u : Unit) => (DW y b rn n lo kp dy so he kn ak pl iw nm sd ik kr lo2 dy2 so2 he2 kn2 dgv kd len ord kh km pg cm sav bo cb sl len2 ord2 kh2 km2))) A) 0 0 A := by
  refine Met.ofW (cc := cX11_isAhead) (maxL := 3) (ret := (some .boolean)) (by decide) rfl ?_
  intro p e s m args below meth c s₁ BB hml hv
  obtain ⟨rfl, hP, hK, hE⟩ := hv
  have hx := BB.exec
  have hb := BB.bytes
  have hr := BB.returns
  have hts := atoms_spec (ws := wsX11_isAhead) BB.pre
  have hown : s.vm.findClass RX11 = some m.cls := findClass_of_methodNamed BB.named
  have hlocks := BB.notSynchronized
  have hS : va_S A s.heap s.heap [] := va_S.rf
  have hl := lv_entry ([.ref (b 0), .int (o), .int (nI (h))]) (n := 3) (Nat.le_of_ble_eq_true rfl)
  rw [lg_entry_eq]
  generalize (lg_sl ([.ref (b 0), .int (o), .int (nI (h))]) ++ List.replicate (3 - (lg_sl ([.ref (b 0), .int (o), .int (nI (h))])).length) Slot.unset).toArray = ls at hl ⊢
  have hl : lv_has ls 3 [(0, .ref (b 0)), (1, .int (o)), (2, .int (nI (h)))] := hl
  refine lv_aload_n hx hb dX11_isAhead_0 rfl (lv_at hl 0 rfl) ?_
  refine lv_iload_n hx hb dX11_isAhead_1 rfl (lv_at hl 1 rfl) ?_
  refine c_calli (va_runV (As := [.int (o)]) (rest := []) ⟨hx, hb, hml, hown, hts⟩ (k_X11_isHouse l dC dI y A b hA0 rn n lo kp dy so he kn ak pl iw nm sd ik kr lo2 dy2 so2 he2 kn2 dgv kd len ord kh km pg cm sav bo cb sl len2 ord2 kh2 km2 o (by omega)) (cwV 1 hts gX11_isAhead_X11_isHouse rfl rfl rfl (by decide +kernel) ⟨Nat.le_of_ble_eq_true rfl, Nat.le_of_ble_eq_true rfl⟩) (c_preV (c_N0 A) hK hE hS hP (va_recv hK hP (ci := 11) (q0 := 0) rfl rfl)) rfl rfl hl.1 rfl (lv_room (Nat.le_of_ble_eq_true rfl)) dX11_isAhead_2 ⟨Nat.le_refl _, Nat.le_refl _⟩) hS (fun r_2 u_2 H locs hw_2 hP hS => ?_)
  obtain rfl := hw_2
  refine n_bif_eq (tgt := 30) hx hb dX11_isAhead_5 (by decide) (fun c_5 => ?_) (fun c_5 => ?_)
  · refine lv_iconst (v := nI (0)) hx hb dX11_isAhead_30 (by decide) ?_
    exact c_zret hx hb hr hlocks hK hS () rfl hP (bI_0 (by unfold ahI; rw [c_5]; rfl)) dX11_isAhead_31
  · obtain ⟨j, hj, rfl⟩ := isH_of (by omega) c_5
    have hl : lv_has ls 3 [(0, .ref (b 0)), (1, .int (nI (j))), (2, .int (nI (h)))] := hl
    refine lv_aload_n hx hb dX11_isAhead_8 rfl (lv_at hl 0 rfl) ?_
    refine va_get (D := (dC, dI)) (ci := 11) (C := RX11) (T := TX11) (N := 36) hx hb hts in_X11_isAhead_X11 hown hK hP 0 rfl rfl 18 (by decide) (hts (.fieldLink RX11 29 "MilkRoundModel" "comesAt" "[I") (List.mem_of_getElem? (i := 1) rfl)) (fun _ h9 => h9) rfl dX11_isAhead_9 ?_
    refine lv_iload_n hx hb dX11_isAhead_12 rfl (lv_at hl 1 rfl) ?_
    refine n_iald hx hb hK hP 7 0 rfl rfl (by omega) (by decide) dX11_isAhead_13 ?_
    have hb_13 := hcm j
    refine lv_aload_n hx hb dX11_isAhead_14 rfl (lv_at hl 0 rfl) ?_
    refine va_get (D := (dC, dI)) (ci := 11) (C := RX11) (T := TX11) (N := 36) hx hb hts in_X11_isAhead_X11 hown hK hP 0 rfl rfl 18 (by decide) (hts (.fieldLink RX11 29 "MilkRoundModel" "comesAt" "[I") (List.mem_of_getElem? (i := 1) rfl)) (fun _ h9 => h9) rfl dX11_isAhead_15 ?_
    refine lv_iload_n hx hb dX11_isAhead_18 rfl (lv_at hl 2 rfl) ?_
    refine n_iald hx hb hK hP 7 0 rfl rfl (by omega) (by decide) dX11_isAhead_19 ?_
    have hb_19 := hcm h
    refine lv_bipush (v := nI (6)) hx hb dX11_isAhead_20 (by decide) ?_
    refine lv_isub hx hb dX11_isAhead_22 ?_
    refine lv_icmp_gt (tgt := 30) hx hb dX11_isAhead_23 (by decide) (fun c_23 => ?_) (fun c_23 => ?_)
    · refine lv_iconst (v := nI (0)) hx hb dX11_isAhead_30 (by decide) ?_
      exact c_zret hx hb hr hlocks hK hS () rfl hP (bI_0 (by rw [ahI_nat (by omega) (by omega)]; exact decide_eq_false (fun q => absurd ((le_subI (by omega) (by omega) (by decide)).mpr q.2) (Int32.not_le.mpr c_23)))) dX11_isAhead_31
    · refine lv_iconst (v := nI (1)) hx hb dX11_isAhead_26 (by decide) ?_
      refine lv_goto (tgt := 31) hx hb dX11_isAhead_27 (by decide) ?_
      exact c_zret hx hb hr hlocks hK hS () rfl hP (bI_1 (by rw [ahI_nat (by omega) (by omega)]; exact decide_eq_true ⟨hj, (le_subI (by omega) (by omega) (by decide)).mp (Int32.not_lt.mp c_23)⟩)) dX11_isAhead_31
theorem in_X11_hears_X11 : ∀ w ∈ wsX110, w ∈ wsX11_hears := fun w h => List.mem_cons_of_mem _ (List.mem_append_right _ h)
set_option maxHeartbeats 4000000 in
set_option maxRecDepth 100000 in
theorem k_X11_hears (l : Launch) (dC : Nat → ClassId) (dI : Nat → Nat → Nat) (y : Nat → ClassId) (A : Nat → Prop) (b : Nat → Nat) (hA0 : ad_ok A b 16) (rn : Nat) (n : Nat) (lo : Int32) (kp : Nat) (dy : Int32) (so : Int32) (he : Int32) (kn : Nat) (ak : Nat) (pl : Nat) (iw : Bool) (nm : Nat) (sd : Int64) (ik : Bool) (kr : Nat) (lo2 : Int32) (dy2 : Int32) (so2 : Int32) (he2 : Int32) (kn2 : Nat) (dgv : Int64) (kd : Nat → Nat) (len : Nat → Nat) (ord : Nat → Nat) (kh : Nat → Nat) (km : Nat → Nat) (pg : Nat → Nat) (cm : Nat → Nat) (sav : Nat → Nat) (bo : Nat → Nat) (cb : Nat → Nat) (sl : Nat → Nat) (len2 : Nat → Nat) (ord2 : Nat → Nat) (kh2 : Nat → Nat) (km2 : Nat → Nat) (h : Nat) (hh : h < 6) (hn : n ≤ 6) (hcm : ∀ j, cm j ≤ 126) (hkd : ∀ j, kd j ≤ 4) : Met l yX11_hears wsX11_hears ({ frames := 3, cells := 0, slots := 0, locals := 65 } : Room) (c_P (dC, dI) vwCl (TY y) (fun _ => True) (DW y b rn n lo kp dy so he kn ak pl iw nm sd ik kr lo2 dy2 so2 he2 kn2 dgv kd len ord kh km pg cm sav bo cb sl len2 ord2 kh2 km2) [.ref (b 0), .int (nI (h))]) (va_Qi (fun (r : Int32) (u : Unit) => r = bI (hearB n kd cm h)) (c_B (dC, dI) vwCl (TY y) (fun (u : Unit) => (DW y b rn n lo kp dy so he kn ak pl iw nm sd ik kr lo2 dy2 so2 he2 kn2 dgv kd len ord kh km pg cm sav bo cb sl len2 ord2 kh2 km2))) A) 0 0 A := by
  refine Met.ofW (cc := cX11_hears) (maxL := 2) (ret := (some .boolean)) (by decide) rfl ?_
  intro p e s m args below meth c s₁ BB hml hv
  obtain ⟨rfl, hP, hK, hE⟩ := hv
  have hx := BB.exec
  have hb := BB.bytes
  have hr := BB.returns
  have hts := atoms_spec (ws := wsX11_hears) BB.pre
  have hown : s.vm.findClass RX11 = some m.cls := findClass_of_methodNamed BB.named
  have hlocks := BB.notSynchronized
  have hS : va_S A s.heap s.heap [] := va_S.rf
  have hl := lv_entry ([.ref (b 0), .int (nI (h))]) (n := 2) (Nat.le_of_ble_eq_true rfl)
  rw [lg_entry_eq]
  generalize (lg_sl ([.ref (b 0), .int (nI (h))]) ++ List.replicate (2 - (lg_sl ([.ref (b 0), .int (nI (h))])).length) Slot.unset).toArray = ls at hl ⊢
  have hl : lv_has ls 2 [(0, .ref (b 0)), (1, .int (nI (h)))] := hl
  refine lv_aload_n hx hb dX11_hears_0 rfl (lv_at hl 0 rfl) ?_
  refine va_get (D := (dC, dI)) (ci := 11) (C := RX11) (T := TX11) (N := 36) hx hb hts in_X11_hears_X11 hown hK hP 0 rfl rfl 2 (by decide) (hts (.fieldLink RX11 7 "MilkRoundModel" "kindOf" "[I") (List.mem_of_getElem? (i := 1) rfl)) (fun _ h9 => h9) rfl dX11_hears_1 ?_
  refine lv_iload_n hx hb dX11_hears_4 rfl (lv_at hl 1 rfl) ?_
  refine n_iald hx hb hK hP 1 0 rfl rfl (by omega) (by decide) dX11_hears_5 ?_
  have hb_5 := hkd h
  refine lv_iconst (v := nI (2)) hx hb dX11_hears_6 (by decide) ?_
  refine n_icmp_eq (tgt := 36) hx hb dX11_hears_7 (by decide) (by omega) (by omega) (fun c_7 => ?_) (fun c_7 => ?_)
  · refine lv_iconst (v := nI (0)) hx hb dX11_hears_36 (by decide) ?_
    exact c_zret hx hb hr hlocks hK hS () rfl hP (bI_0 (by unfold hearB; rw [decide_eq_false (fun q => q c_7)]; rfl)) dX11_hears_37
  · refine lv_aload_n hx hb dX11_hears_10 rfl (lv_at hl 0 rfl) ?_
    refine lv_iload_n hx hb dX11_hears_11 rfl (lv_at hl 1 rfl) ?_
    refine lv_iconst (v := nI (1)) hx hb dX11_hears_12 (by decide) ?_
    refine lv_isub hx hb dX11_hears_13 ?_
    refine lv_iload_n hx hb dX11_hears_14 rfl (lv_at hl 1 rfl) ?_
    refine c_calli (va_runV (As := [.int ((nI (h)) - (nI (1))), .int (nI (h))]) (rest := []) ⟨hx, hb, hml, hown, hts⟩ (k_X11_isAhead l dC dI y A b hA0 rn n lo kp dy so he kn ak pl iw nm sd ik kr lo2 dy2 so2 he2 kn2 dgv kd len ord kh km pg cm sav bo cb sl len2 ord2 kh2 km2 ((nI (h)) - (nI (1))) h hh hn hcm) (cwV 2 hts gX11_hears_X11_isAhead rfl rfl rfl (by decide +kernel) ⟨Nat.le_of_ble_eq_true rfl, Nat.le_of_ble_eq_true rfl⟩) (c_preV (c_N0 A) hK hE hS hP (va_recv hK hP (ci := 11) (q0 := 0) rfl rfl)) rfl rfl hl.1 rfl (lv_room (Nat.le_of_ble_eq_true rfl)) dX11_hears_15 ⟨Nat.le_refl _, Nat.le_refl _⟩) hS (fun r_15 u_15 H locs hw_15 hP hS => ?_)
    obtain rfl := hw_15
    refine n_bif_ne (tgt := 32) hx hb dX11_hears_18 (by decide) (fun c_18 => ?_) (fun c_18 => ?_)
    · rw [ahI_pred (by omega) (by omega)] at c_18
      refine lv_iconst (v := nI (1)) hx hb dX11_hears_32 (by decide) ?_
      refine lv_goto (tgt := 37) hx hb dX11_hears_33 (by decide) ?_
      exact c_zret hx hb hr hlocks hK hS () rfl hP (bI_1 (by unfold hearB; rw [c_18, decide_eq_true c_7]; rfl)) dX11_hears_37
    · rw [ahI_pred (by omega) (by omega)] at c_18
      refine lv_aload_n hx hb dX11_hears_21 rfl (lv_at hl 0 rfl) ?_
      refine lv_iload_n hx hb dX11_hears_22 rfl (lv_at hl 1 rfl) ?_
      refine lv_iconst (v := nI (1)) hx hb dX11_hears_23 (by decide) ?_
      refine n_iadd hx hb dX11_hears_24 ?_
      refine lv_iload_n hx hb dX11_hears_25 rfl (lv_at hl 1 rfl) ?_
      refine c_calli (va_runV (As := [.int (nI (h + 1)), .int (nI (h))]) (rest := []) ⟨hx, hb, hml, hown, hts⟩ (k_X11_isAhead l dC dI y A b hA0 rn n lo kp dy so he kn ak pl iw nm sd ik kr lo2 dy2 so2 he2 kn2 dgv kd len ord kh km pg cm sav bo cb sl len2 ord2 kh2 km2 (nI (h + 1)) h hh hn hcm) (cwV 2 hts gX11_hears_X11_isAhead rfl rfl rfl (by decide +kernel) ⟨Nat.le_of_ble_eq_true rfl, Nat.le_of_ble_eq_true rfl⟩) (c_preV (c_N0 A) hK hE hS hP (va_recv hK hP (ci := 11) (q0 := 0) rfl rfl)) rfl rfl hl.1 rfl (lv_room (Nat.le_of_ble_eq_true rfl)) dX11_hears_26 ⟨Nat.le_refl _, Nat.le_refl _⟩) hS (fun r_26 u_26 H locs hw_26 hP hS => ?_)
      obtain rfl := hw_26
      refine n_bif_eq (tgt := 36) hx hb dX11_hears_29 (by decide) (fun c_29 => ?_) (fun c_29 => ?_)
      · rw [ahI_nat (by omega) (by omega)] at c_29
        refine lv_iconst (v := nI (0)) hx hb dX11_hears_36 (by decide) ?_
        exact c_zret hx hb hr hlocks hK hS () rfl hP (bI_0 (by unfold hearB; rw [c_18, c_29, decide_eq_true c_7]; rfl)) dX11_hears_37
      · rw [ahI_nat (by omega) (by omega)] at c_29
        refine lv_iconst (v := nI (1)) hx hb dX11_hears_32 (by decide) ?_
        refine lv_goto (tgt := 37) hx hb dX11_hears_33 (by decide) ?_
        exact c_zret hx hb hr hlocks hK hS () rfl hP (bI_1 (by unfold hearB; rw [c_18, c_29, decide_eq_true c_7]; rfl)) dX11_hears_37
theorem in_X11_sourNow_X11 : ∀ w ∈ wsX110, w ∈ wsX11_sourNow := fun w h => List.mem_cons_of_mem _ (List.mem_append_right _ h)
set_option maxHeartbeats 4000000 in
set_option maxRecDepth 100000 in
theorem k_X11_sourNow (l : Launch) (dC : Nat → ClassId) (dI : Nat → Nat → Nat) (y : Nat → ClassId) (A : Nat → Prop) (b : Nat → Nat) (hA0 : ad_ok A b 16) (rn : Nat) (n : Nat) (lo : Int32) (kp : Nat) (dy : Int32) (so : Int32) (he : Int32) (kn : Nat) (ak : Nat) (pl : Nat) (iw : Bool) (nm : Nat) (sd : Int64) (ik : Bool) (kr : Nat) (lo2 : Int32) (dy2 : Int32) (so2 : Int32) (he2 : Int32) (kn2 : Nat) (dgv : Int64) (kd : Nat → Nat) (len : Nat → Nat) (ord : Nat → Nat) (kh : Nat → Nat) (km : Nat → Nat) (pg : Nat → Nat) (cm : Nat → Nat) (sav : Nat → Nat) (bo : Nat → Nat) (cb : Nat → Nat) (sl : Nat → Nat) (len2 : Nat → Nat) (ord2 : Nat → Nat) (kh2 : Nat → Nat) (km2 : Nat → Nat) (hn : n ≤ 6) (hord : PermOn n ord) (hlen : ∀ j, len j ≤ 9) (hkd : ∀ j, kd j ≤ 4) (hcm : ∀ j, cm j ≤ 126) (hkp : kp ≤ 9) : Met l yX11_sourNow wsX11_sourNow ({ frames := 3, cells := 0, slots := 0, locals := 65 } : Room) (c_P (dC, dI) vwCl (TY y) (fun _ => True) (DW y b rn n lo kp dy so he kn ak pl iw nm sd ik kr lo2 dy2 so2 he2 kn2 dgv kd len ord kh km pg cm sav bo cb sl len2 ord2 kh2 km2) [.ref (b 0)]) (va_Qi (fun (r : Int32) (u : Nat → Nat) => r = nI (scF n kp kd len lo ord) ∧ CamOk kd len lo ord n u) (c_B (dC, dI) vwCl (TY y) (fun (u : Nat → Nat) => (DW y b rn n lo kp dy so he kn ak pl iw nm sd ik kr lo2 dy2 so2 he2 kn2 dgv kd len ord kh km pg u sav bo cb sl len2 ord2 kh2 km2))) A) 0 0 A := by
  refine Met.ofW (cc := cX11_sourNow) (maxL := 3) (ret := (some .int)) (by decide) rfl ?_
  intro p e s m args below meth c s₁ BB hml hv
  obtain ⟨rfl, hP, hK, hE⟩ := hv
  have hx := BB.exec
  have hb := BB.bytes
  have hr := BB.returns
  have hts := atoms_spec (ws := wsX11_sourNow) BB.pre
  have hown : s.vm.findClass RX11 = some m.cls := findClass_of_methodNamed BB.named
  have hlocks := BB.notSynchronized
  have hS : va_S A s.heap s.heap [] := va_S.rf
  have hl := lv_entry ([.ref (b 0)]) (n := 3) (Nat.le_of_ble_eq_true rfl)
  rw [lg_entry_eq]
  generalize (lg_sl ([.ref (b 0)]) ++ List.replicate (3 - (lg_sl ([.ref (b 0)])).length) Slot.unset).toArray = ls at hl ⊢
  have hl : lv_has ls 3 [(0, .ref (b 0))] := hl
  refine lv_aload_n hx hb dX11_sourNow_0 rfl (lv_at hl 0 rfl) ?_
  refine c_callv (va_runV (As := []) (rest := []) ⟨hx, hb, hml, hown, hts⟩ (k_X11_go l dC dI y A b hA0 rn n lo kp dy so he kn ak pl iw nm sd ik kr lo2 dy2 so2 he2 kn2 dgv kd len ord kh km pg cm sav bo cb sl len2 ord2 kh2 km2  hn hord hlen hkd hcm) (cwV 0 hts gX11_sourNow_X11_go rfl rfl rfl (by decide +kernel) ⟨Nat.le_of_ble_eq_true rfl, Nat.le_of_ble_eq_true rfl⟩) (c_preV (c_N0 A) hK hE hS hP (va_recv hK hP (ci := 11) (q0 := 0) rfl rfl)) rfl rfl hl.1 rfl (lv_room (Nat.le_of_ble_eq_true rfl)) dX11_sourNow_1 ⟨Nat.le_refl _, Nat.le_refl _⟩) hS (fun u_1 H locs hw_1 hP hS => ?_)
  have hP : va_P (dC, dI) vwCl (DW y b rn n lo kp dy so he kn ak pl iw nm sd ik kr lo2 dy2 so2 he2 kn2 dgv kd len ord kh km pg u_1 sav bo cb sl len2 ord2 kh2 km2) H := hP
  refine lv_iconst (v := nI (0)) hx hb dX11_sourNow_4 (by decide) ?_
  refine lv_istore_n (lv' := [(1, .int (nI (0))), (0, .ref (b 0))]) hx hb dX11_sourNow_5 rfl hl (by decide) rfl (fun ls hl => ?_)
  refine lv_iconst (v := nI (0)) hx hb dX11_sourNow_6 (by decide) ?_
  refine lv_istore_n (lv' := [(2, .int (nI (0))), (1, .int (nI (0))), (0, .ref (b 0))]) hx hb dX11_sourNow_7 rfl hl (by decide) rfl (fun ls hl => ?_)
  have loop_8 : ∀ (dd_8 : Nat) (k : Nat) (mm : Nat) (hk : k ≤ n) (hm : mm = ctB (sourB kd kp (camF kd len lo ord n)) k), n - k < dd_8 → ∀ (H : Heap) (locs : List Loc) (ls : Array Slot), va_P (dC, dI) vwCl (DW y b rn n lo kp dy so he kn ak pl iw nm sd ik kr lo2 dy2 so2 he2 kn2 dgv kd len ord kh km pg u_1 sav bo cb sl len2 ord2 kh2 km2) H → va_S A s.heap H locs → lv_has ls 3 [(2, .int (nI (k))), (1, .int (nI (mm))), (0, .ref (b 0))] → W p l e (headSpec wsX11_sourNow ({ frames := 3, cells := 0, slots := 0, locals := 65 } : Room)).room s m [.ref (b 0)].toArray below meth c H locs 0 0 (MQ below (va_Qi (fun (r : Int32) (u : Nat → Nat) => r = nI (scF n kp kd len lo ord) ∧ CamOk kd len lo ord n u) (c_B (dC, dI) vwCl (TY y) (fun (u : Nat → Nat) => (DW y b rn n lo kp dy so he kn ak pl iw nm sd ik kr lo2 dy2 so2 he2 kn2 dgv kd len ord kh km pg u sav bo cb sl len2 ord2 kh2 km2))) A) [.ref (b 0)].toArray s 0 0 A) (F0 m 8 ls []) := by
    intro dd_8
    induction dd_8 with
    | zero => intro k mm hk hm hd; exact absurd hd (Nat.not_lt_zero _)
    | succ dd_8 ih_8 =>
      intro k mm hk hm hd_8 H locs ls hP hS hl
      refine lv_iload_n hx hb dX11_sourNow_8 rfl (lv_at hl 0 rfl) ?_
      refine lv_aload_n hx hb dX11_sourNow_9 rfl (lv_at hl 2 rfl) ?_
      refine va_get (D := (dC, dI)) (ci := 11) (C := RX11) (T := TX11) (N := 36) hx hb hts in_X11_sourNow_X11 hown hK hP 0 rfl rfl 1 (by decide) (hts (.fieldLink RX11 82 "MilkRoundModel" "houses" "I") (List.mem_of_getElem? (i := 1) rfl)) (fun _ h9 => h9) rfl dX11_sourNow_10 ?_
      refine n_icmp_ge (tgt := 38) hx hb dX11_sourNow_13 (by decide) (by omega) (by omega) (fun c_13 => ?_) (fun c_13 => ?_)
      · refine lv_iload_n hx hb dX11_sourNow_38 rfl (lv_at hl 1 rfl) ?_
        have hkn : k = n := by omega
        subst hkn
        exact c_iret hx hb hr hlocks hK hS u_1 hP ⟨by rw [hm]; rfl, hw_1⟩ dX11_sourNow_39
      · refine lv_iload_n hx hb dX11_sourNow_16 rfl (lv_at hl 1 rfl) ?_
        refine lv_aload_n hx hb dX11_sourNow_17 rfl (lv_at hl 2 rfl) ?_
        refine lv_iload_n hx hb dX11_sourNow_18 rfl (lv_at hl 0 rfl) ?_
        refine c_calli (va_runV (As := [.int (nI (k))]) (rest := [.int (nI (mm))]) ⟨hx, hb, hml, hown, hts⟩ (k_X11_isSour l dC dI y A b hA0 rn n lo kp dy so he kn ak pl iw nm sd ik kr lo2 dy2 so2 he2 kn2 dgv kd len ord kh km pg u_1 sav bo cb sl len2 ord2 kh2 km2 k (by omega) hkp hw_1.2 hkd) (cwV 1 hts gX11_sourNow_X11_isSour rfl rfl rfl (by decide +kernel) ⟨Nat.le_of_ble_eq_true rfl, Nat.le_of_ble_eq_true rfl⟩) (c_preV (c_N0 A) hK hE hS hP (va_recv hK hP (ci := 11) (q0 := 0) rfl rfl)) rfl rfl hl.1 rfl (lv_room (Nat.le_of_ble_eq_true rfl)) dX11_sourNow_19 ⟨Nat.le_refl _, Nat.le_refl _⟩) hS (fun r_19 u_19 H locs hw_19 hP hS => ?_)
        obtain rfl := hw_19
        refine n_bif_eq (tgt := 29) hx hb dX11_sourNow_22 (by decide) (fun c_22 => ?_) (fun c_22 => ?_)
        · refine lv_iconst (v := nI (0)) hx hb dX11_sourNow_29 (by decide) ?_
          refine n_iadd hx hb dX11_sourNow_30 ?_
          refine lv_istore_n (lv' := [(1, .int (nI (mm + 0))), (2, .int (nI (k))), (0, .ref (b 0))]) hx hb dX11_sourNow_31 rfl hl (by decide) rfl (fun ls hl => ?_)
          refine lv_iinc (v := nI (k + 1)) (lv' := [(2, .int (nI (k + 1))), (1, .int (nI (mm + 0))), (0, .ref (b 0))]) hx hb dX11_sourNow_32 hl (k := 1) rfl (mr_inc _) (by decide) rfl (fun ls hl => ?_)
          refine lv_goto (tgt := 8) hx hb dX11_sourNow_35 (by decide) ?_
          have hc9 : sourB kd kp (camF kd len lo ord n) k = sourB kd kp u_1 k := (sourB_cong (hw_1.1 k (by omega))).symm
          exact ih_8 (k + 1) (mm + 0) (by omega) (by rw [hm, ctB_f (hc9.trans c_22)]; rfl) (by omega) _ _ _ hP hS (lv_sub hl [0, 1, 2] rfl)
        · refine lv_iconst (v := nI (1)) hx hb dX11_sourNow_25 (by decide) ?_
          refine lv_goto (tgt := 30) hx hb dX11_sourNow_26 (by decide) ?_
          refine n_iadd hx hb dX11_sourNow_30 ?_
          refine lv_istore_n (lv' := [(1, .int (nI (mm + 1))), (2, .int (nI (k))), (0, .ref (b 0))]) hx hb dX11_sourNow_31 rfl hl (by decide) rfl (fun ls hl => ?_)
          refine lv_iinc (v := nI (k + 1)) (lv' := [(2, .int (nI (k + 1))), (1, .int (nI (mm + 1))), (0, .ref (b 0))]) hx hb dX11_sourNow_32 hl (k := 1) rfl (mr_inc _) (by decide) rfl (fun ls hl => ?_)
          refine lv_goto (tgt := 8) hx hb dX11_sourNow_35 (by decide) ?_
          have hc9 : sourB kd kp (camF kd len lo ord n) k = sourB kd kp u_1 k := (sourB_cong (hw_1.1 k (by omega))).symm
          exact ih_8 (k + 1) (mm + 1) (by omega) (by rw [hm, ctB_t (hc9.trans c_22)]) (by omega) _ _ _ hP hS (lv_sub hl [0, 1, 2] rfl)
  exact loop_8 _ 0 0 (Nat.zero_le _) rfl (Nat.lt_succ_self _) _ _ _ hP hS (lv_sub hl [0, 1, 2] rfl)
theorem in_X11_hearNow_X11 : ∀ w ∈ wsX110, w ∈ wsX11_hearNow := fun w h => List.mem_cons_of_mem _ (List.mem_append_right _ h)
set_option maxHeartbeats 4000000 in
set_option maxRecDepth 100000 in
theorem k_X11_hearNow (l : Launch) (dC : Nat → ClassId) (dI : Nat → Nat → Nat) (y : Nat → ClassId) (A : Nat → Prop) (b : Nat → Nat) (hA0 : ad_ok A b 16) (rn : Nat) (n : Nat) (lo : Int32) (kp : Nat) (dy : Int32) (so : Int32) (he : Int32) (kn : Nat) (ak : Nat) (pl : Nat) (iw : Bool) (nm : Nat) (sd : Int64) (ik : Bool) (kr : Nat) (lo2 : Int32) (dy2 : Int32) (so2 : Int32) (he2 : Int32) (kn2 : Nat) (dgv : Int64) (kd : Nat → Nat) (len : Nat → Nat) (ord : Nat → Nat) (kh : Nat → Nat) (km : Nat → Nat) (pg : Nat → Nat) (cm : Nat → Nat) (sav : Nat → Nat) (bo : Nat → Nat) (cb : Nat → Nat) (sl : Nat → Nat) (len2 : Nat → Nat) (ord2 : Nat → Nat) (kh2 : Nat → Nat) (km2 : Nat → Nat) (hn : n ≤ 6) (hord : PermOn n ord) (hlen : ∀ j, len j ≤ 9) (hkd : ∀ j, kd j ≤ 4) (hcm : ∀ j, cm j ≤ 126) (hkp : kp ≤ 9) : Met l yX11_hearNow wsX11_hearNow ({ frames := 4, cells := 0, slots := 0, locals := 86 } : Room) (c_P (dC, dI) vwCl (TY y) (fun _ => True) (DW y b rn n lo kp dy so he kn ak pl iw nm sd ik kr lo2 dy2 so2 he2 kn2 dgv kd len ord kh km pg cm sav bo cb sl len2 ord2 kh2 km2) [.ref (b 0)]) (va_Qi (fun (r : Int32) (u : Nat → Nat) => r = nI (hcF n kd len lo ord) ∧ CamOk kd len lo ord n u) (c_B (dC, dI) vwCl (TY y) (fun (u : Nat → Nat) => (DW y b rn n lo kp dy so he kn ak pl iw nm sd ik kr lo2 dy2 so2 he2 kn2 dgv kd len ord kh km pg u sav bo cb sl len2 ord2 kh2 km2))) A) 0 0 A := by
  refine Met.ofW (cc := cX11_hearNow) (maxL := 3) (ret := (some .int)) (by decide) rfl ?_
  intro p e s m args below meth c s₁ BB hml hv
  obtain ⟨rfl, hP, hK, hE⟩ := hv
  have hx := BB.exec
  have hb := BB.bytes
  have hr := BB.returns
  have hts := atoms_spec (ws := wsX11_hearNow) BB.pre
  have hown : s.vm.findClass RX11 = some m.cls := findClass_of_methodNamed BB.named
  have hlocks := BB.notSynchronized
  have hS : va_S A s.heap s.heap [] := va_S.rf
  have hl := lv_entry ([.ref (b 0)]) (n := 3) (Nat.le_of_ble_eq_true rfl)
  rw [lg_entry_eq]
  generalize (lg_sl ([.ref (b 0)]) ++ List.replicate (3 - (lg_sl ([.ref (b 0)])).length) Slot.unset).toArray = ls at hl ⊢
  have hl : lv_has ls 3 [(0, .ref (b 0))] := hl
  refine lv_aload_n hx hb dX11_hearNow_0 rfl (lv_at hl 0 rfl) ?_
  refine c_callv (va_runV (As := []) (rest := []) ⟨hx, hb, hml, hown, hts⟩ (k_X11_go l dC dI y A b hA0 rn n lo kp dy so he kn ak pl iw nm sd ik kr lo2 dy2 so2 he2 kn2 dgv kd len ord kh km pg cm sav bo cb sl len2 ord2 kh2 km2  hn hord hlen hkd hcm) (cwV 0 hts gX11_hearNow_X11_go rfl rfl rfl (by decide +kernel) ⟨Nat.le_of_ble_eq_true rfl, Nat.le_of_ble_eq_true rfl⟩) (c_preV (c_N0 A) hK hE hS hP (va_recv hK hP (ci := 11) (q0 := 0) rfl rfl)) rfl rfl hl.1 rfl (lv_room (Nat.le_of_ble_eq_true rfl)) dX11_hearNow_1 ⟨Nat.le_refl _, Nat.le_refl _⟩) hS (fun u_1 H locs hw_1 hP hS => ?_)
  have hP : va_P (dC, dI) vwCl (DW y b rn n lo kp dy so he kn ak pl iw nm sd ik kr lo2 dy2 so2 he2 kn2 dgv kd len ord kh km pg u_1 sav bo cb sl len2 ord2 kh2 km2) H := hP
  refine lv_iconst (v := nI (0)) hx hb dX11_hearNow_4 (by decide) ?_
  refine lv_istore_n (lv' := [(1, .int (nI (0))), (0, .ref (b 0))]) hx hb dX11_hearNow_5 rfl hl (by decide) rfl (fun ls hl => ?_)
  refine lv_iconst (v := nI (0)) hx hb dX11_hearNow_6 (by decide) ?_
  refine lv_istore_n (lv' := [(2, .int (nI (0))), (1, .int (nI (0))), (0, .ref (b 0))]) hx hb dX11_hearNow_7 rfl hl (by decide) rfl (fun ls hl => ?_)
  have loop_8 : ∀ (dd_8 : Nat) (k : Nat) (mm : Nat) (hk : k ≤ n) (hm : mm = ctB (hearB n kd (camF kd len lo ord n)) k), n - k < dd_8 → ∀ (H : Heap) (locs : List Loc) (ls : Array Slot), va_P (dC, dI) vwCl (DW y b rn n lo kp dy so he kn ak pl iw nm sd ik kr lo2 dy2 so2 he2 kn2 dgv kd len ord kh km pg u_1 sav bo cb sl len2 ord2 kh2 km2) H → va_S A s.heap H locs → lv_has ls 3 [(2, .int (nI (k))), (1, .int (nI (mm))), (0, .ref (b 0))] → W p l e (headSpec wsX11_hearNow ({ frames := 4, cells := 0, slots := 0, locals := 86 } : Room)).room s m [.ref (b 0)].toArray below meth c H locs 0 0 (MQ below (va_Qi (fun (r : Int32) (u : Nat → Nat) => r = nI (hcF n kd len lo ord) ∧ CamOk kd len lo ord n u) (c_B (dC, dI) vwCl (TY y) (fun (u : Nat → Nat) => (DW y b rn n lo kp dy so he kn ak pl iw nm sd ik kr lo2 dy2 so2 he2 kn2 dgv kd len ord kh km pg u sav bo cb sl len2 ord2 kh2 km2))) A) [.ref (b 0)].toArray s 0 0 A) (F0 m 8 ls []) := by
    intro dd_8
    induction dd_8 with
    | zero => intro k mm hk hm hd; exact absurd hd (Nat.not_lt_zero _)
    | succ dd_8 ih_8 =>
      intro k mm hk hm hd_8 H locs ls hP hS hl
      refine lv_iload_n hx hb dX11_hearNow_8 rfl (lv_at hl 0 rfl) ?_
      refine lv_aload_n hx hb dX11_hearNow_9 rfl (lv_at hl 2 rfl) ?_
      refine va_get (D := (dC, dI)) (ci := 11) (C := RX11) (T := TX11) (N := 36) hx hb hts in_X11_hearNow_X11 hown hK hP 0 rfl rfl 1 (by decide) (hts (.fieldLink RX11 82 "MilkRoundModel" "houses" "I") (List.mem_of_getElem? (i := 1) rfl)) (fun _ h9 => h9) rfl dX11_hearNow_10 ?_
      refine n_icmp_ge (tgt := 38) hx hb dX11_hearNow_13 (by decide) (by omega) (by omega) (fun c_13 => ?_) (fun c_13 => ?_)
      · refine lv_iload_n hx hb dX11_hearNow_38 rfl (lv_at hl 1 rfl) ?_
        have hkn : k = n := by omega
        subst hkn
        exact c_iret hx hb hr hlocks hK hS u_1 hP ⟨by rw [hm]; rfl, hw_1⟩ dX11_hearNow_39
      · refine lv_iload_n hx hb dX11_hearNow_16 rfl (lv_at hl 1 rfl) ?_
        refine lv_aload_n hx hb dX11_hearNow_17 rfl (lv_at hl 2 rfl) ?_
        refine lv_iload_n hx hb dX11_hearNow_18 rfl (lv_at hl 0 rfl) ?_
        refine c_calli (va_runV (As := [.int (nI (k))]) (rest := [.int (nI (mm))]) ⟨hx, hb, hml, hown, hts⟩ (k_X11_hears l dC dI y A b hA0 rn n lo kp dy so he kn ak pl iw nm sd ik kr lo2 dy2 so2 he2 kn2 dgv kd len ord kh km pg u_1 sav bo cb sl len2 ord2 kh2 km2 k (by omega) hn hw_1.2 hkd) (cwV 1 hts gX11_hearNow_X11_hears rfl rfl rfl (by decide +kernel) ⟨Nat.le_of_ble_eq_true rfl, Nat.le_of_ble_eq_true rfl⟩) (c_preV (c_N0 A) hK hE hS hP (va_recv hK hP (ci := 11) (q0 := 0) rfl rfl)) rfl rfl hl.1 rfl (lv_room (Nat.le_of_ble_eq_true rfl)) dX11_hearNow_19 ⟨Nat.le_refl _, Nat.le_refl _⟩) hS (fun r_19 u_19 H locs hw_19 hP hS => ?_)
        obtain rfl := hw_19
        refine n_bif_eq (tgt := 29) hx hb dX11_hearNow_22 (by decide) (fun c_22 => ?_) (fun c_22 => ?_)
        · refine lv_iconst (v := nI (0)) hx hb dX11_hearNow_29 (by decide) ?_
          refine n_iadd hx hb dX11_hearNow_30 ?_
          refine lv_istore_n (lv' := [(1, .int (nI (mm + 0))), (2, .int (nI (k))), (0, .ref (b 0))]) hx hb dX11_hearNow_31 rfl hl (by decide) rfl (fun ls hl => ?_)
          refine lv_iinc (v := nI (k + 1)) (lv' := [(2, .int (nI (k + 1))), (1, .int (nI (mm + 0))), (0, .ref (b 0))]) hx hb dX11_hearNow_32 hl (k := 1) rfl (mr_inc _) (by decide) rfl (fun ls hl => ?_)
          refine lv_goto (tgt := 8) hx hb dX11_hearNow_35 (by decide) ?_
          have hc9 : hearB n kd (camF kd len lo ord n) k = hearB n kd u_1 k := (hearB_cong (by omega) hw_1.1).symm
          exact ih_8 (k + 1) (mm + 0) (by omega) (by rw [hm, ctB_f (hc9.trans c_22)]; rfl) (by omega) _ _ _ hP hS (lv_sub hl [0, 1, 2] rfl)
        · refine lv_iconst (v := nI (1)) hx hb dX11_hearNow_25 (by decide) ?_
          refine lv_goto (tgt := 30) hx hb dX11_hearNow_26 (by decide) ?_
          refine n_iadd hx hb dX11_hearNow_30 ?_
          refine lv_istore_n (lv' := [(1, .int (nI (mm + 1))), (2, .int (nI (k))), (0, .ref (b 0))]) hx hb dX11_hearNow_31 rfl hl (by decide) rfl (fun ls hl => ?_)
          refine lv_iinc (v := nI (k + 1)) (lv' := [(2, .int (nI (k + 1))), (1, .int (nI (mm + 1))), (0, .ref (b 0))]) hx hb dX11_hearNow_32 hl (k := 1) rfl (mr_inc _) (by decide) rfl (fun ls hl => ?_)
          refine lv_goto (tgt := 8) hx hb dX11_hearNow_35 (by decide) ?_
          have hc9 : hearB n kd (camF kd len lo ord n) k = hearB n kd u_1 k := (hearB_cong (by omega) hw_1.1).symm
          exact ih_8 (k + 1) (mm + 1) (by omega) (by rw [hm, ctB_t (hc9.trans c_22)]) (by omega) _ _ _ hP hS (lv_sub hl [0, 1, 2] rfl)
  exact loop_8 _ 0 0 (Nat.zero_le _) rfl (Nat.lt_succ_self _) _ _ _ hP hS (lv_sub hl [0, 1, 2] rfl)
set_option maxHeartbeats 4000000 in
set_option maxRecDepth 100000 in
theorem k_X11_wrongNow (l : Launch) (dC : Nat → ClassId) (dI : Nat → Nat → Nat) (y : Nat → ClassId) (A : Nat → Prop) (b : Nat → Nat) (hA0 : ad_ok A b 16) (rn : Nat) (n : Nat) (lo : Int32) (kp : Nat) (dy : Int32) (so : Int32) (he : Int32) (kn : Nat) (ak : Nat) (pl : Nat) (iw : Bool) (nm : Nat) (sd : Int64) (ik : Bool) (kr : Nat) (lo2 : Int32) (dy2 : Int32) (so2 : Int32) (he2 : Int32) (kn2 : Nat) (dgv : Int64) (kd : Nat → Nat) (len : Nat → Nat) (ord : Nat → Nat) (kh : Nat → Nat) (km : Nat → Nat) (pg : Nat → Nat) (cm : Nat → Nat) (sav : Nat → Nat) (bo : Nat → Nat) (cb : Nat → Nat) (sl : Nat → Nat) (len2 : Nat → Nat) (ord2 : Nat → Nat) (kh2 : Nat → Nat) (km2 : Nat → Nat) (hn : n ≤ 6) (hord : PermOn n ord) (hlen : ∀ j, len j ≤ 9) (hkd : ∀ j, kd j ≤ 4) (hcm : ∀ j, cm j ≤ 126) (hkp : kp ≤ 9) : Met l yX11_wrongNow wsX11_wrongNow ({ frames := 5, cells := 0, slots := 0, locals := 108 } : Room) (c_P (dC, dI) vwCl (TY y) (fun _ => True) (DW y b rn n lo kp dy so he kn ak pl iw nm sd ik kr lo2 dy2 so2 he2 kn2 dgv kd len ord kh km pg cm sav bo cb sl len2 ord2 kh2 km2) [.ref (b 0)]) (va_Qi (fun (r : Int32) (u : Nat → Nat) => r = nI (wrg n kp kd len lo ord) ∧ CamOk kd len lo ord n u) (c_B (dC, dI) vwCl (TY y) (fun (u : Nat → Nat) => (DW y b rn n lo kp dy so he kn ak pl iw nm sd ik kr lo2 dy2 so2 he2 kn2 dgv kd len ord kh km pg u sav bo cb sl len2 ord2 kh2 km2))) A) 0 0 A := by
  refine Met.ofW (cc := cX11_wrongNow) (maxL := 1) (ret := (some .int)) (by decide) rfl ?_
  intro p e s m args below meth c s₁ BB hml hv
  obtain ⟨rfl, hP, hK, hE⟩ := hv
  have hx := BB.exec
  have hb := BB.bytes
  have hr := BB.returns
  have hts := atoms_spec (ws := wsX11_wrongNow) BB.pre
  have hown : s.vm.findClass RX11 = some m.cls := findClass_of_methodNamed BB.named
  have hlocks := BB.notSynchronized
  have hS : va_S A s.heap s.heap [] := va_S.rf
  have hl := lv_entry ([.ref (b 0)]) (n := 1) (Nat.le_of_ble_eq_true rfl)
  rw [lg_entry_eq]
  generalize (lg_sl ([.ref (b 0)]) ++ List.replicate (1 - (lg_sl ([.ref (b 0)])).length) Slot.unset).toArray = ls at hl ⊢
  have hl : lv_has ls 1 [(0, .ref (b 0))] := hl
  refine lv_aload_n hx hb dX11_wrongNow_0 rfl (lv_at hl 0 rfl) ?_
  refine c_calli (va_runV (As := []) (rest := []) ⟨hx, hb, hml, hown, hts⟩ (k_X11_sourNow l dC dI y A b hA0 rn n lo kp dy so he kn ak pl iw nm sd ik kr lo2 dy2 so2 he2 kn2 dgv kd len ord kh km pg cm sav bo cb sl len2 ord2 kh2 km2  hn hord hlen hkd hcm hkp) (cwV 0 hts gX11_wrongNow_X11_sourNow rfl rfl rfl (by decide +kernel) ⟨Nat.le_of_ble_eq_true rfl, Nat.le_of_ble_eq_true rfl⟩) (c_preV (c_N0 A) hK hE hS hP (va_recv hK hP (ci := 11) (q0 := 0) rfl rfl)) rfl rfl hl.1 rfl (lv_room (Nat.le_of_ble_eq_true rfl)) dX11_wrongNow_1 ⟨Nat.le_refl _, Nat.le_refl _⟩) hS (fun r_1 u_1 H locs hw_1 hP hS => ?_)
  have hP : va_P (dC, dI) vwCl (DW y b rn n lo kp dy so he kn ak pl iw nm sd ik kr lo2 dy2 so2 he2 kn2 dgv kd len ord kh km pg u_1 sav bo cb sl len2 ord2 kh2 km2) H := hP
  obtain ⟨rfl, hw_1⟩ := hw_1
  refine lv_aload_n hx hb dX11_wrongNow_4 rfl (lv_at hl 0 rfl) ?_
  refine c_calli (va_runV (As := []) (rest := [.int (nI (scF n kp kd len lo ord))]) ⟨hx, hb, hml, hown, hts⟩ (k_X11_hearNow l dC dI y A b hA0 rn n lo kp dy so he kn ak pl iw nm sd ik kr lo2 dy2 so2 he2 kn2 dgv kd len ord kh km pg u_1 sav bo cb sl len2 ord2 kh2 km2  hn hord hlen hkd hw_1.2 hkp) (cwV 0 hts gX11_wrongNow_X11_hearNow rfl rfl rfl (by decide +kernel) ⟨Nat.le_of_ble_eq_true rfl, Nat.le_of_ble_eq_true rfl⟩) (c_preV (c_N0 A) hK hE hS hP (va_recv hK hP (ci := 11) (q0 := 0) rfl rfl)) rfl rfl hl.1 rfl (lv_room (Nat.le_of_ble_eq_true rfl)) dX11_wrongNow_5 ⟨Nat.le_refl _, Nat.le_refl _⟩) hS (fun r_5 u_5 H locs hw_5 hP hS => ?_)
  have hP : va_P (dC, dI) vwCl (DW y b rn n lo kp dy so he kn ak pl iw nm sd ik kr lo2 dy2 so2 he2 kn2 dgv kd len ord kh km pg u_5 sav bo cb sl len2 ord2 kh2 km2) H := hP
  obtain ⟨rfl, hw_5⟩ := hw_5
  refine n_iadd hx hb dX11_wrongNow_8 ?_
  exact c_iret hx hb hr hlocks hK hS u_5 hP ⟨rfl, hw_5⟩ dX11_wrongNow_9
theorem in_X11_placeOf_X11 : ∀ w ∈ wsX110, w ∈ wsX11_placeOf := fun w h => List.mem_cons_of_mem _ (List.mem_append_right _ h)
set_option maxHeartbeats 4000000 in
set_option maxRecDepth 100000 in
theorem k_X11_placeOf (l : Launch) (dC : Nat → ClassId) (dI : Nat → Nat → Nat) (y : Nat → ClassId) (A : Nat → Prop) (b : Nat → Nat) (hA0 : ad_ok A b 16) (rn : Nat) (n : Nat) (lo : Int32) (kp : Nat) (dy : Int32) (so : Int32) (he : Int32) (kn : Nat) (ak : Nat) (pl : Nat) (iw : Bool) (nm : Nat) (sd : Int64) (ik : Bool) (kr : Nat) (lo2 : Int32) (dy2 : Int32) (so2 : Int32) (he2 : Int32) (kn2 : Nat) (dgv : Int64) (kd : Nat → Nat) (len : Nat → Nat) (ord : Nat → Nat) (kh : Nat → Nat) (km : Nat → Nat) (pg : Nat → Nat) (cm : Nat → Nat) (sav : Nat → Nat) (bo : Nat → Nat) (cb : Nat → Nat) (sl : Nat → Nat) (len2 : Nat → Nat) (ord2 : Nat → Nat) (kh2 : Nat → Nat) (km2 : Nat → Nat) (h : Nat) (kk : Nat) (hn : n ≤ 6) (hord : PermOn n ord) (hkk : kk < n) (hh : ord kk = h) : Met l yX11_placeOf wsX11_placeOf ({ frames := 0, cells := 0, slots := 0, locals := 0 } : Room) (c_P (dC, dI) vwCl (TY y) (fun _ => True) (DW y b rn n lo kp dy so he kn ak pl iw nm sd ik kr lo2 dy2 so2 he2 kn2 dgv kd len ord kh km pg cm sav bo cb sl len2 ord2 kh2 km2) [.ref (b 0), .int (nI (h))]) (va_Qi (fun (r : Int32) (u : Unit) => r = nI kk) (c_B (dC, dI) vwCl (TY y) (fun (u : Unit) => (DW y b rn n lo kp dy so he kn ak pl iw nm sd ik kr lo2 dy2 so2 he2 kn2 dgv kd len ord kh km pg cm sav bo cb sl len2 ord2 kh2 km2))) A) 0 0 A := by
  refine Met.ofW (cc := cX11_placeOf) (maxL := 4) (ret := (some .int)) (by decide) rfl ?_
  intro p e s m args below meth c s₁ BB hml hv
  obtain ⟨rfl, hP, hK, hE⟩ := hv
  have hx := BB.exec
  have hb := BB.bytes
  have hr := BB.returns
  have hts := atoms_spec (ws := wsX11_placeOf) BB.pre
  have hown : s.vm.findClass RX11 = some m.cls := findClass_of_methodNamed BB.named
  have hlocks := BB.notSynchronized
  have hS : va_S A s.heap s.heap [] := va_S.rf
  have hl := lv_entry ([.ref (b 0), .int (nI (h))]) (n := 4) (Nat.le_of_ble_eq_true rfl)
  rw [lg_entry_eq]
  generalize (lg_sl ([.ref (b 0), .int (nI (h))]) ++ List.replicate (4 - (lg_sl ([.ref (b 0), .int (nI (h))])).length) Slot.unset).toArray = ls at hl ⊢
  have hl : lv_has ls 4 [(0, .ref (b 0)), (1, .int (nI (h)))] := hl
  refine lv_iconst (v := (-1)) hx hb dX11_placeOf_0 (by decide) ?_
  refine lv_istore_n (lv' := [(2, .int ((-1))), (0, .ref (b 0)), (1, .int (nI (h)))]) hx hb dX11_placeOf_1 rfl hl (by decide) rfl (fun ls hl => ?_)
  refine lv_iconst (v := nI (0)) hx hb dX11_placeOf_2 (by decide) ?_
  refine lv_istore_n (lv' := [(3, .int (nI (0))), (2, .int ((-1))), (0, .ref (b 0)), (1, .int (nI (h)))]) hx hb dX11_placeOf_3 rfl hl (by decide) rfl (fun ls hl => ?_)
  have loop_4 : ∀ (dd_4 : Nat) (k : Nat) (fd : Int32) (hk : k ≤ n) (hf : fd = if kk < k then nI kk else -1), n - k < dd_4 → ∀ (H : Heap) (locs : List Loc) (ls : Array Slot), va_P (dC, dI) vwCl (DW y b rn n lo kp dy so he kn ak pl iw nm sd ik kr lo2 dy2 so2 he2 kn2 dgv kd len ord kh km pg cm sav bo cb sl len2 ord2 kh2 km2) H → va_S A s.heap H locs → lv_has ls 4 [(3, .int (nI (k))), (2, .int (fd)), (0, .ref (b 0)), (1, .int (nI (h)))] → W p l e (headSpec wsX11_placeOf ({ frames := 0, cells := 0, slots := 0, locals := 0 } : Room)).room s m [.ref (b 0), .int (nI (h))].toArray below meth c H locs 0 0 (MQ below (va_Qi (fun (r : Int32) (u : Unit) => r = nI kk) (c_B (dC, dI) vwCl (TY y) (fun (u : Unit) => (DW y b rn n lo kp dy so he kn ak pl iw nm sd ik kr lo2 dy2 so2 he2 kn2 dgv kd len ord kh km pg cm sav bo cb sl len2 ord2 kh2 km2))) A) [.ref (b 0), .int (nI (h))].toArray s 0 0 A) (F0 m 4 ls []) := by
    intro dd_4
    induction dd_4 with
    | zero => intro k fd hk hf hd; exact absurd hd (Nat.not_lt_zero _)
    | succ dd_4 ih_4 =>
      intro k fd hk hf hd_4 H locs ls hP hS hl
      refine lv_iload_n hx hb dX11_placeOf_4 rfl (lv_at hl 0 rfl) ?_
      refine lv_aload_n hx hb dX11_placeOf_5 rfl (lv_at hl 2 rfl) ?_
      refine va_get (D := (dC, dI)) (ci := 11) (C := RX11) (T := TX11) (N := 36) hx hb hts in_X11_placeOf_X11 hown hK hP 0 rfl rfl 1 (by decide) (hts (.fieldLink RX11 82 "MilkRoundModel" "houses" "I") (List.mem_of_getElem? (i := 1) rfl)) (fun _ h9 => h9) rfl dX11_placeOf_6 ?_
      refine n_icmp_ge (tgt := 34) hx hb dX11_placeOf_9 (by decide) (by omega) (by omega) (fun c_9 => ?_) (fun c_9 => ?_)
      · refine lv_iload_n hx hb dX11_placeOf_34 rfl (lv_at hl 1 rfl) ?_
        exact c_iret hx hb hr hlocks hK hS () hP (by rw [hf, if_pos (by omega)]) dX11_placeOf_35
      · have hok := hord.1 k (by omega)
        have hok2 := hord.1 kk hkk
        refine lv_aload_n hx hb dX11_placeOf_12 rfl (lv_at hl 2 rfl) ?_
        refine va_get (D := (dC, dI)) (ci := 11) (C := RX11) (T := TX11) (N := 36) hx hb hts in_X11_placeOf_X11 hown hK hP 0 rfl rfl 4 (by decide) (hts (.fieldLink RX11 16 "MilkRoundModel" "orderAt" "[I") (List.mem_of_getElem? (i := 2) rfl)) (fun _ h9 => h9) rfl dX11_placeOf_13 ?_
        refine lv_iload_n hx hb dX11_placeOf_16 rfl (lv_at hl 0 rfl) ?_
        refine n_iald hx hb hK hP 3 0 rfl rfl (by omega) (by decide) dX11_placeOf_17 ?_
        refine lv_iload_n hx hb dX11_placeOf_18 rfl (lv_at hl 3 rfl) ?_
        refine n_icmp_ne (tgt := 26) hx hb dX11_placeOf_19 (by decide) (by omega) (by omega) (fun c_19 => ?_) (fun c_19 => ?_)
        · refine lv_iload_n hx hb dX11_placeOf_26 rfl (lv_at hl 1 rfl) ?_
          refine lv_istore_n (lv' := [(2, .int (fd)), (3, .int (nI (k))), (0, .ref (b 0)), (1, .int (nI (h)))]) hx hb dX11_placeOf_27 rfl hl (by decide) rfl (fun ls hl => ?_)
          refine lv_iinc (v := nI (k + 1)) (lv' := [(3, .int (nI (k + 1))), (2, .int (fd)), (0, .ref (b 0)), (1, .int (nI (h)))]) hx hb dX11_placeOf_28 hl (k := 1) rfl (mr_inc _) (by decide) rfl (fun ls hl => ?_)
          refine lv_goto (tgt := 4) hx hb dX11_placeOf_31 (by decide) ?_
          exact ih_4 (k + 1) fd (by omega) (by rw [hf]; exact pl_keep (fun q => c_19 (by rw [← q]; exact hh))) (by omega) _ _ _ hP hS (lv_sub hl [0, 1, 2, 3] rfl)
        · refine lv_iload_n hx hb dX11_placeOf_22 rfl (lv_at hl 0 rfl) ?_
          refine lv_goto (tgt := 27) hx hb dX11_placeOf_23 (by decide) ?_
          refine lv_istore_n (lv' := [(2, .int (nI (k))), (3, .int (nI (k))), (0, .ref (b 0)), (1, .int (nI (h)))]) hx hb dX11_placeOf_27 rfl hl (by decide) rfl (fun ls hl => ?_)
          refine lv_iinc (v := nI (k + 1)) (lv' := [(3, .int (nI (k + 1))), (2, .int (nI (k))), (0, .ref (b 0)), (1, .int (nI (h)))]) hx hb dX11_placeOf_28 hl (k := 1) rfl (mr_inc _) (by decide) rfl (fun ls hl => ?_)
          refine lv_goto (tgt := 4) hx hb dX11_placeOf_31 (by decide) ?_
          exact ih_4 (k + 1) (nI (k)) (by omega) (by have q := hord.2 k kk (by omega) hkk (by omega); subst q; rw [if_pos (by omega)]) (by omega) _ _ _ hP hS (lv_sub hl [0, 1, 2, 3] rfl)
  exact loop_4 _ 0 (-1) (Nat.zero_le _) (by rw [if_neg (Nat.not_lt_zero _)]) (Nat.lt_succ_self _) _ _ _ hP hS (lv_sub hl [0, 1, 2, 3] rfl)
