set_option maxHeartbeats 4000000 in
set_option maxRecDepth 100000 in
theorem k_J0_coder_7d493 (l : Launch) (dC : Nat → ClassId) (dI : Nat → Nat → Nat) (y : Nat → ClassId) (A : Nat → Prop) (a : Nat → Nat) (hA0 : ad_ok A a 34) (xK : Nat → Nat) (xV : Nat → Nat) (rn : Nat) (n : Nat) (lo : Int32) (kp : Nat) (dy : Int32) (so : Int32) (he : Int32) (kn : Nat) (ak : Nat) (pl : Nat) (im : Bool) (lo2 : Int32) (dy2 : Int32) (so2 : Int32) (he2 : Int32) (kn2 : Nat) (ma : Nat) (kd : Nat → Nat) (len : Nat → Nat) (ord : Nat → Nat) (kh : Nat → Nat) (km : Nat → Nat) (pg : Nat → Nat) (len2 : Nat → Nat) (ord2 : Nat → Nat) (kh2 : Nat → Nat) (km2 : Nat → Nat) (cw : Nat → Nat) (tl : Nat → Nat) (tO : Nat → Nat) (bO : Nat → Nat) (lf : Nat → Nat → Nat) (wo : Nat → Nat) : Met l yJ0_coder_7d493 wsJ0_coder_7d493 ({ frames := 0, cells := 0, slots := 0, locals := 0 } : Room) (c_P (dC, dI) vwCl (TY y) (EV xK xV A) (MW y a rn n lo kp dy so he kn ak pl im lo2 dy2 so2 he2 kn2 ma kd len ord kh km pg len2 ord2 kh2 km2 cw tl tO bO lf wo) [.ref (xK 0)]) (va_Qi (fun (r : Int32) (u : Unit) => r = 0) (c_B (dC, dI) vwCl (TY y) (fun (u : Unit) => (MW y a rn n lo kp dy so he kn ak pl im lo2 dy2 so2 he2 kn2 ma kd len ord kh km pg len2 ord2 kh2 km2 cw tl tO bO lf wo))) A) 0 0 A := by
  refine Met.ofW (cc := cJ0_coder_7d493) (maxL := 1) (ret := (some .byte)) (by decide) rfl ?_
  intro p e s m args below meth c s₁ BB hml hv
  obtain ⟨rfl, hP, hK, hE⟩ := hv
  have hx := BB.exec
  have hb := BB.bytes
  have hr := BB.returns
  have hts := atoms_spec (ws := wsJ0_coder_7d493) BB.pre
  have hown : s.vm.findClass RJ0 = some m.cls := findClass_of_methodNamed BB.named
  have hlocks := BB.notSynchronized
  have hS : va_S A s.heap s.heap [] := va_S.rf
  have hl := lv_entry ([.ref (xK 0)]) (n := 1) (Nat.le_of_ble_eq_true rfl)
  rw [lg_entry_eq]
  generalize (lg_sl ([.ref (xK 0)]) ++ List.replicate (1 - (lg_sl ([.ref (xK 0)])).length) Slot.unset).toArray = ls at hl ⊢
  have hl : lv_has ls 1 [(0, .ref (xK 0))] := hl
  refine va_gets hx hb hE.2.2.2.2.2 hS hown (hts (.fieldLink RJ0 38 "java/lang/String" "COMPACT_STRINGS" "Z") (List.mem_of_getElem? (i := 1) rfl)) (fun _ h9 => h9) dJ0_coder_7d493_0 ?_
  refine lv_if_eq (tgt := 13) hx hb dJ0_coder_7d493_3 (by decide) (fun c_3 => ?_) (fun c_3 => ?_)
  · exact absurd c_3 (by decide)
  · refine lv_aload_n hx hb dJ0_coder_7d493_6 rfl (lv_at hl 0 rfl) ?_
    refine vk_getf hx hb (hE.2.2.2.2.1.1 0 (by decide)).2.1 hS hown (hts (.fieldLink RJ0 15 "java/lang/String" "coder" "B") (List.mem_of_getElem? (i := 2) rfl)) (fun _ h9 => h9) dJ0_coder_7d493_7 ?_
    refine lv_goto (tgt := 14) hx hb dJ0_coder_7d493_10 (by decide) ?_
    exact c_zret hx hb hr hlocks hK hS () rfl hP rfl dJ0_coder_7d493_14
set_option maxHeartbeats 4000000 in
set_option maxRecDepth 100000 in
theorem k_J0_isLatin1_aae02 (l : Launch) (dC : Nat → ClassId) (dI : Nat → Nat → Nat) (y : Nat → ClassId) (A : Nat → Prop) (a : Nat → Nat) (hA0 : ad_ok A a 34) (xK : Nat → Nat) (xV : Nat → Nat) (rn : Nat) (n : Nat) (lo : Int32) (kp : Nat) (dy : Int32) (so : Int32) (he : Int32) (kn : Nat) (ak : Nat) (pl : Nat) (im : Bool) (lo2 : Int32) (dy2 : Int32) (so2 : Int32) (he2 : Int32) (kn2 : Nat) (ma : Nat) (kd : Nat → Nat) (len : Nat → Nat) (ord : Nat → Nat) (kh : Nat → Nat) (km : Nat → Nat) (pg : Nat → Nat) (len2 : Nat → Nat) (ord2 : Nat → Nat) (kh2 : Nat → Nat) (km2 : Nat → Nat) (cw : Nat → Nat) (tl : Nat → Nat) (tO : Nat → Nat) (bO : Nat → Nat) (lf : Nat → Nat → Nat) (wo : Nat → Nat) : Met l yJ0_isLatin1_aae02 wsJ0_isLatin1_aae02 ({ frames := 0, cells := 0, slots := 0, locals := 0 } : Room) (c_P (dC, dI) vwCl (TY y) (EV xK xV A) (MW y a rn n lo kp dy so he kn ak pl im lo2 dy2 so2 he2 kn2 ma kd len ord kh km pg len2 ord2 kh2 km2 cw tl tO bO lf wo) [.ref (xK 0)]) (va_Qi (fun (r : Int32) (u : Unit) => r = bI true) (c_B (dC, dI) vwCl (TY y) (fun (u : Unit) => (MW y a rn n lo kp dy so he kn ak pl im lo2 dy2 so2 he2 kn2 ma kd len ord kh km pg len2 ord2 kh2 km2 cw tl tO bO lf wo))) A) 0 0 A := by
  refine Met.ofW (cc := cJ0_isLatin1_aae02) (maxL := 1) (ret := (some .boolean)) (by decide) rfl ?_
  intro p e s m args below meth c s₁ BB hml hv
  obtain ⟨rfl, hP, hK, hE⟩ := hv
  have hx := BB.exec
  have hb := BB.bytes
  have hr := BB.returns
  have hts := atoms_spec (ws := wsJ0_isLatin1_aae02) BB.pre
  have hown : s.vm.findClass RJ0 = some m.cls := findClass_of_methodNamed BB.named
  have hlocks := BB.notSynchronized
  have hS : va_S A s.heap s.heap [] := va_S.rf
  have hl := lv_entry ([.ref (xK 0)]) (n := 1) (Nat.le_of_ble_eq_true rfl)
  rw [lg_entry_eq]
  generalize (lg_sl ([.ref (xK 0)]) ++ List.replicate (1 - (lg_sl ([.ref (xK 0)])).length) Slot.unset).toArray = ls at hl ⊢
  have hl : lv_has ls 1 [(0, .ref (xK 0))] := hl
  refine va_gets hx hb hE.2.2.2.2.2 hS hown (hts (.fieldLink RJ0 38 "java/lang/String" "COMPACT_STRINGS" "Z") (List.mem_of_getElem? (i := 1) rfl)) (fun _ h9 => h9) dJ0_isLatin1_aae02_0 ?_
  refine lv_if_eq (tgt := 17) hx hb dJ0_isLatin1_aae02_3 (by decide) (fun c_3 => ?_) (fun c_3 => ?_)
  · exact absurd c_3 (by decide)
  · refine lv_aload_n hx hb dJ0_isLatin1_aae02_6 rfl (lv_at hl 0 rfl) ?_
    refine vk_getf hx hb (hE.2.2.2.2.1.1 0 (by decide)).2.1 hS hown (hts (.fieldLink RJ0 15 "java/lang/String" "coder" "B") (List.mem_of_getElem? (i := 2) rfl)) (fun _ h9 => h9) dJ0_isLatin1_aae02_7 ?_
    refine lv_if_ne (tgt := 17) hx hb dJ0_isLatin1_aae02_10 (by decide) (fun c_10 => ?_) (fun c_10 => ?_)
    · exact absurd c_10 (by decide)
    · refine lv_iconst (v := nI (1)) hx hb dJ0_isLatin1_aae02_13 (by decide) ?_
      refine lv_goto (tgt := 18) hx hb dJ0_isLatin1_aae02_14 (by decide) ?_
      exact c_zret hx hb hr hlocks hK hS () rfl hP rfl dJ0_isLatin1_aae02_18
set_option maxHeartbeats 4000000 in
set_option maxRecDepth 100000 in
theorem k_J0_length_8abf5 (l : Launch) (dC : Nat → ClassId) (dI : Nat → Nat → Nat) (y : Nat → ClassId) (A : Nat → Prop) (a : Nat → Nat) (hA0 : ad_ok A a 34) (xK : Nat → Nat) (xV : Nat → Nat) (rn : Nat) (n : Nat) (lo : Int32) (kp : Nat) (dy : Int32) (so : Int32) (he : Int32) (kn : Nat) (ak : Nat) (pl : Nat) (im : Bool) (lo2 : Int32) (dy2 : Int32) (so2 : Int32) (he2 : Int32) (kn2 : Nat) (ma : Nat) (kd : Nat → Nat) (len : Nat → Nat) (ord : Nat → Nat) (kh : Nat → Nat) (km : Nat → Nat) (pg : Nat → Nat) (len2 : Nat → Nat) (ord2 : Nat → Nat) (kh2 : Nat → Nat) (km2 : Nat → Nat) (cw : Nat → Nat) (tl : Nat → Nat) (tO : Nat → Nat) (bO : Nat → Nat) (lf : Nat → Nat → Nat) (wo : Nat → Nat) : Met l yJ0_length_8abf5 wsJ0_length_8abf5 ({ frames := 1, cells := 0, slots := 0, locals := 20 } : Room) (c_P (dC, dI) vwCl (TY y) (EV xK xV A) (MW y a rn n lo kp dy so he kn ak pl im lo2 dy2 so2 he2 kn2 ma kd len ord kh km pg len2 ord2 kh2 km2 cw tl tO bO lf wo) [.ref (xK 0)]) (va_Qi (fun (r : Int32) (u : Unit) => r = nI 5) (c_B (dC, dI) vwCl (TY y) (fun (u : Unit) => (MW y a rn n lo kp dy so he kn ak pl im lo2 dy2 so2 he2 kn2 ma kd len ord kh km pg len2 ord2 kh2 km2 cw tl tO bO lf wo))) A) 0 0 A := by
  refine Met.ofW (cc := cJ0_length_8abf5) (maxL := 1) (ret := (some .int)) (by decide) rfl ?_
  intro p e s m args below meth c s₁ BB hml hv
  obtain ⟨rfl, hP, hK, hE⟩ := hv
  have hx := BB.exec
  have hb := BB.bytes
  have hr := BB.returns
  have hts := atoms_spec (ws := wsJ0_length_8abf5) BB.pre
  have hown : s.vm.findClass RJ0 = some m.cls := findClass_of_methodNamed BB.named
  have hlocks := BB.notSynchronized
  have hS : va_S A s.heap s.heap [] := va_S.rf
  have hl := lv_entry ([.ref (xK 0)]) (n := 1) (Nat.le_of_ble_eq_true rfl)
  rw [lg_entry_eq]
  generalize (lg_sl ([.ref (xK 0)]) ++ List.replicate (1 - (lg_sl ([.ref (xK 0)])).length) Slot.unset).toArray = ls at hl ⊢
  have hl : lv_has ls 1 [(0, .ref (xK 0))] := hl
  refine lv_aload_n hx hb dJ0_length_8abf5_0 rfl (lv_at hl 0 rfl) ?_
  refine vk_getf hx hb (hE.2.2.2.2.1.1 0 (by decide)).2.2.1 hS hown (hts (.fieldLink RJ0 9 "java/lang/String" "value" "[B") (List.mem_of_getElem? (i := 1) rfl)) (fun _ h9 => h9) dJ0_length_8abf5_1 ?_
  refine va_tlen (v := nI 5) hx hb (hE.2.2.2.2.1.1 0 (by decide)).2.2.2 hS rfl dJ0_length_8abf5_4 ?_
  refine lv_aload_n hx hb dJ0_length_8abf5_5 rfl (lv_at hl 0 rfl) ?_
  refine c_calli (va_runV (As := []) (rest := [.int (nI (5))]) ⟨hx, hb, hml, hown, hts⟩ (k_J0_coder_7d493 l dC dI y A a hA0 xK xV rn n lo kp dy so he kn ak pl im lo2 dy2 so2 he2 kn2 ma kd len ord kh km pg len2 ord2 kh2 km2 cw tl tO bO lf wo  ) (cwV 0 hts gJ0_length_8abf5_J0_coder_7d493 rfl rfl rfl (by decide +kernel) ⟨Nat.le_of_ble_eq_true rfl, Nat.le_of_ble_eq_true rfl⟩) (c_preV (evN xK xV A) hK hE hS hP (vk_recv hE.2.2.2.2.1 (by decide) hS)) rfl rfl hl.1 rfl (lv_room (Nat.le_of_ble_eq_true rfl)) dJ0_length_8abf5_6 ⟨Nat.le_refl _, Nat.le_refl _⟩) hS (fun r_6 u_6 H locs hw_6 hP hS => ?_)
  obtain rfl := hw_6
  refine lv_ishr hx hb dJ0_length_8abf5_9 ?_
  exact c_iret hx hb hr hlocks hK hS () hP (by decide) dJ0_length_8abf5_10
set_option maxHeartbeats 4000000 in
set_option maxRecDepth 100000 in
theorem k_J1_canEncode_9a6ad (l : Launch) (dC : Nat → ClassId) (dI : Nat → Nat → Nat) (y : Nat → ClassId) (A : Nat → Prop) (ws : va_W) (Nv : State → Prop) (c0 : Nat) (hc : c0 < 128) : Met l yJ1_canEncode_9a6ad wsJ1_canEncode_9a6ad ({ frames := 0, cells := 0, slots := 0, locals := 0 } : Room) (c_P (dC, dI) vwCl (TY y) Nv ws [.int (nI (c0))]) (va_Qi (fun (r : Int32) (u : Unit) => r = bI true) (c_B (dC, dI) vwCl (TY y) (fun (u : Unit) => ws)) A) 0 0 A := by
  refine Met.ofW (cc := cJ1_canEncode_9a6ad) (maxL := 1) (ret := (some .boolean)) (by decide) rfl ?_
  intro p e s m args below meth c s₁ BB hml hv
  obtain ⟨rfl, hP, hK, hE⟩ := hv
  have hx := BB.exec
  have hb := BB.bytes
  have hr := BB.returns
  have hts := atoms_spec (ws := wsJ1_canEncode_9a6ad) BB.pre
  have hown : s.vm.findClass RJ1 = some m.cls := findClass_of_methodNamed BB.named
  have hlocks := BB.notSynchronized
  have hS : va_S A s.heap s.heap [] := va_S.rf
  have hl := lv_entry ([.int (nI (c0))]) (n := 1) (Nat.le_of_ble_eq_true rfl)
  rw [lg_entry_eq]
  generalize (lg_sl ([.int (nI (c0))]) ++ List.replicate (1 - (lg_sl ([.int (nI (c0))])).length) Slot.unset).toArray = ls at hl ⊢
  have hl : lv_has ls 1 [(0, .int (nI (c0)))] := hl
  refine lv_iload_n hx hb dJ1_canEncode_9a6ad_0 rfl (lv_at hl 0 rfl) ?_
  refine n_if_lt (tgt := 15) hx hb dJ1_canEncode_9a6ad_1 (by decide) (by omega) (fun c_1 => ?_) (fun c_1 => ?_)
  · exact absurd c_1 (Nat.not_lt_zero _)
  · refine lv_iload_n hx hb dJ1_canEncode_9a6ad_4 rfl (lv_at hl 0 rfl) ?_
    refine lv_sipush (v := nI (255)) hx hb dJ1_canEncode_9a6ad_5 (by decide) ?_
    refine n_icmp_gt (tgt := 15) hx hb dJ1_canEncode_9a6ad_8 (by decide) (by omega) (by omega) (fun c_8 => ?_) (fun c_8 => ?_)
    · exact absurd c_8 (by omega)
    · refine lv_iconst (v := nI (1)) hx hb dJ1_canEncode_9a6ad_11 (by decide) ?_
      refine lv_goto (tgt := 16) hx hb dJ1_canEncode_9a6ad_12 (by decide) ?_
      exact c_zret hx hb hr hlocks hK hS () rfl hP rfl dJ1_canEncode_9a6ad_16
set_option maxHeartbeats 4000000 in
set_option maxRecDepth 100000 in
theorem k_J1_indexOfChar_4cfef (l : Launch) (dC : Nat → ClassId) (dI : Nat → Nat → Nat) (y : Nat → ClassId) (A : Nat → Prop) (a : Nat → Nat) (hA0 : ad_ok A a 34) (xK : Nat → Nat) (xV : Nat → Nat) (rn : Nat) (n : Nat) (lo : Int32) (kp : Nat) (dy : Int32) (so : Int32) (he : Int32) (kn : Nat) (ak : Nat) (pl : Nat) (im : Bool) (lo2 : Int32) (dy2 : Int32) (so2 : Int32) (he2 : Int32) (kn2 : Nat) (ma : Nat) (kd : Nat → Nat) (len : Nat → Nat) (ord : Nat → Nat) (kh : Nat → Nat) (km : Nat → Nat) (pg : Nat → Nat) (len2 : Nat → Nat) (ord2 : Nat → Nat) (kh2 : Nat → Nat) (km2 : Nat → Nat) (cw : Nat → Nat) (tl : Nat → Nat) (tO : Nat → Nat) (bO : Nat → Nat) (lf : Nat → Nat → Nat) (wo : Nat → Nat) (c0 : Nat) (hc : c0 < 128) : Met l yJ1_indexOfChar_4cfef wsJ1_indexOfChar_4cfef ({ frames := 0, cells := 0, slots := 0, locals := 0 } : Room) (c_P (dC, dI) vwCl (TY y) (EV xK xV A) (MW y a rn n lo kp dy so he kn ak pl im lo2 dy2 so2 he2 kn2 ma kd len ord kh km pg len2 ord2 kh2 km2 cw tl tO bO lf wo) [.ref (xV 0), .int (nI (c0)), .int (nI (0)), .int (nI (5))]) (va_Qi (fun (r : Int32) (u : Unit) => (r < 0 ↔ kdB c0 = false)) (c_B (dC, dI) vwCl (TY y) (fun (u : Unit) => (MW y a rn n lo kp dy so he kn ak pl im lo2 dy2 so2 he2 kn2 ma kd len ord kh km pg len2 ord2 kh2 km2 cw tl tO bO lf wo))) A) 0 0 A := by
  refine Met.ofW (cc := cJ1_indexOfChar_4cfef) (maxL := 6) (ret := (some .int)) (by decide) rfl ?_
  intro p e s m args below meth c s₁ BB hml hv
  obtain ⟨rfl, hP, hK, hE⟩ := hv
  have hx := BB.exec
  have hb := BB.bytes
  have hr := BB.returns
  have hts := atoms_spec (ws := wsJ1_indexOfChar_4cfef) BB.pre
  have hown : s.vm.findClass RJ1 = some m.cls := findClass_of_methodNamed BB.named
  have hlocks := BB.notSynchronized
  have hS : va_S A s.heap s.heap [] := va_S.rf
  have hl := lv_entry ([.ref (xV 0), .int (nI (c0)), .int (nI (0)), .int (nI (5))]) (n := 6) (Nat.le_of_ble_eq_true rfl)
  rw [lg_entry_eq]
  generalize (lg_sl ([.ref (xV 0), .int (nI (c0)), .int (nI (0)), .int (nI (5))]) ++ List.replicate (6 - (lg_sl ([.ref (xV 0), .int (nI (c0)), .int (nI (0)), .int (nI (5))])).length) Slot.unset).toArray = ls at hl ⊢
  have hl : lv_has ls 6 [(0, .ref (xV 0)), (1, .int (nI (c0))), (2, .int (nI (0))), (3, .int (nI (5)))] := hl
  refine lv_iload_n hx hb dJ1_indexOfChar_4cfef_0 rfl (lv_at hl 1 rfl) ?_
  refine lv_i2b (v := nI (c0)) hx hb dJ1_indexOfChar_4cfef_1 (mr_b8 c0 hc) ?_
  refine lv_istore (lv' := [(4, .int (nI (c0))), (0, .ref (xV 0)), (1, .int (nI (c0))), (2, .int (nI (0))), (3, .int (nI (5)))]) hx hb dJ1_indexOfChar_4cfef_2 hl (by decide) rfl (fun ls hl => ?_)
  refine lv_iload_n hx hb dJ1_indexOfChar_4cfef_4 rfl (lv_at hl 3 rfl) ?_
  refine lv_istore (lv' := [(5, .int (nI (0))), (4, .int (nI (c0))), (0, .ref (xV 0)), (1, .int (nI (c0))), (2, .int (nI (0))), (3, .int (nI (5)))]) hx hb dJ1_indexOfChar_4cfef_5 hl (by decide) rfl (fun ls hl => ?_)
  refine lv_iload hx hb dJ1_indexOfChar_4cfef_7 (lv_at hl 0 rfl) ?_
  refine lv_iload_n hx hb dJ1_indexOfChar_4cfef_9 rfl (lv_at hl 5 rfl) ?_
  refine n_icmp_ge (tgt := 31) hx hb dJ1_indexOfChar_4cfef_10 (by decide) (by decide) (by decide) (fun c_10 => ?_) (fun c_10 => ?_)
  · exact absurd c_10 (by decide)
  · refine lv_aload_n hx hb dJ1_indexOfChar_4cfef_13 rfl (lv_at hl 2 rfl) ?_
    refine lv_iload hx hb dJ1_indexOfChar_4cfef_14 (lv_at hl 0 rfl) ?_
    refine va_tb (v := .int (nI 104)) hx hb (hE.2.2.2.2.1.1 0 (by decide)).2.2.2 hS (vp_in_nI (by decide) (by decide)) rfl dJ1_indexOfChar_4cfef_16 ?_
    refine lv_iload hx hb dJ1_indexOfChar_4cfef_17 (lv_at hl 1 rfl) ?_
    refine n_icmp_ne (tgt := 25) hx hb dJ1_indexOfChar_4cfef_19 (by decide) (by omega) (by omega) (fun c_19 => ?_) (fun c_19 => ?_)
    · refine lv_iinc (v := nI (0 + 1)) (lv' := [(5, .int (nI (0 + 1))), (4, .int (nI (c0))), (0, .ref (xV 0)), (1, .int (nI (c0))), (2, .int (nI (0))), (3, .int (nI (5)))]) hx hb dJ1_indexOfChar_4cfef_25 hl (k := 0) rfl (mr_inc _) (by decide) rfl (fun ls hl => ?_)
      refine lv_goto (tgt := 7) hx hb dJ1_indexOfChar_4cfef_28 (by decide) ?_
      refine lv_iload hx hb dJ1_indexOfChar_4cfef_7 (lv_at hl 0 rfl) ?_
      refine lv_iload_n hx hb dJ1_indexOfChar_4cfef_9 rfl (lv_at hl 5 rfl) ?_
      refine n_icmp_ge (tgt := 31) hx hb dJ1_indexOfChar_4cfef_10 (by decide) (by decide) (by decide) (fun c_10 => ?_) (fun c_10 => ?_)
      · exact absurd c_10 (by decide)
      · refine lv_aload_n hx hb dJ1_indexOfChar_4cfef_13 rfl (lv_at hl 2 rfl) ?_
        refine lv_iload hx hb dJ1_indexOfChar_4cfef_14 (lv_at hl 0 rfl) ?_
        refine va_tb (v := .int (nI 115)) hx hb (hE.2.2.2.2.1.1 0 (by decide)).2.2.2 hS (vp_in_nI (by decide) (by decide)) rfl dJ1_indexOfChar_4cfef_16 ?_
        refine lv_iload hx hb dJ1_indexOfChar_4cfef_17 (lv_at hl 1 rfl) ?_
        refine n_icmp_ne (tgt := 25) hx hb dJ1_indexOfChar_4cfef_19 (by decide) (by omega) (by omega) (fun c_19 => ?_) (fun c_19 => ?_)
        · refine lv_iinc (v := nI (0 + 1 + 1)) (lv' := [(5, .int (nI (0 + 1 + 1))), (4, .int (nI (c0))), (0, .ref (xV 0)), (1, .int (nI (c0))), (2, .int (nI (0))), (3, .int (nI (5)))]) hx hb dJ1_indexOfChar_4cfef_25 hl (k := 0) rfl (mr_inc _) (by decide) rfl (fun ls hl => ?_)
          refine lv_goto (tgt := 7) hx hb dJ1_indexOfChar_4cfef_28 (by decide) ?_
          refine lv_iload hx hb dJ1_indexOfChar_4cfef_7 (lv_at hl 0 rfl) ?_
          refine lv_iload_n hx hb dJ1_indexOfChar_4cfef_9 rfl (lv_at hl 5 rfl) ?_
          refine n_icmp_ge (tgt := 31) hx hb dJ1_indexOfChar_4cfef_10 (by decide) (by decide) (by decide) (fun c_10 => ?_) (fun c_10 => ?_)
          · exact absurd c_10 (by decide)
          · refine lv_aload_n hx hb dJ1_indexOfChar_4cfef_13 rfl (lv_at hl 2 rfl) ?_
            refine lv_iload hx hb dJ1_indexOfChar_4cfef_14 (lv_at hl 0 rfl) ?_
            refine va_tb (v := .int (nI 97)) hx hb (hE.2.2.2.2.1.1 0 (by decide)).2.2.2 hS (vp_in_nI (by decide) (by decide)) rfl dJ1_indexOfChar_4cfef_16 ?_
            refine lv_iload hx hb dJ1_indexOfChar_4cfef_17 (lv_at hl 1 rfl) ?_
            refine n_icmp_ne (tgt := 25) hx hb dJ1_indexOfChar_4cfef_19 (by decide) (by omega) (by omega) (fun c_19 => ?_) (fun c_19 => ?_)
            · refine lv_iinc (v := nI (0 + 1 + 1 + 1)) (lv' := [(5, .int (nI (0 + 1 + 1 + 1))), (4, .int (nI (c0))), (0, .ref (xV 0)), (1, .int (nI (c0))), (2, .int (nI (0))), (3, .int (nI (5)))]) hx hb dJ1_indexOfChar_4cfef_25 hl (k := 0) rfl (mr_inc _) (by decide) rfl (fun ls hl => ?_)
              refine lv_goto (tgt := 7) hx hb dJ1_indexOfChar_4cfef_28 (by decide) ?_
              refine lv_iload hx hb dJ1_indexOfChar_4cfef_7 (lv_at hl 0 rfl) ?_
              refine lv_iload_n hx hb dJ1_indexOfChar_4cfef_9 rfl (lv_at hl 5 rfl) ?_
              refine n_icmp_ge (tgt := 31) hx hb dJ1_indexOfChar_4cfef_10 (by decide) (by decide) (by decide) (fun c_10 => ?_) (fun c_10 => ?_)
              · exact absurd c_10 (by decide)
              · refine lv_aload_n hx hb dJ1_indexOfChar_4cfef_13 rfl (lv_at hl 2 rfl) ?_
                refine lv_iload hx hb dJ1_indexOfChar_4cfef_14 (lv_at hl 0 rfl) ?_
                refine va_tb (v := .int (nI 98)) hx hb (hE.2.2.2.2.1.1 0 (by decide)).2.2.2 hS (vp_in_nI (by decide) (by decide)) rfl dJ1_indexOfChar_4cfef_16 ?_
                refine lv_iload hx hb dJ1_indexOfChar_4cfef_17 (lv_at hl 1 rfl) ?_
                refine n_icmp_ne (tgt := 25) hx hb dJ1_indexOfChar_4cfef_19 (by decide) (by omega) (by omega) (fun c_19 => ?_) (fun c_19 => ?_)
                · refine lv_iinc (v := nI (0 + 1 + 1 + 1 + 1)) (lv' := [(5, .int (nI (0 + 1 + 1 + 1 + 1))), (4, .int (nI (c0))), (0, .ref (xV 0)), (1, .int (nI (c0))), (2, .int (nI (0))), (3, .int (nI (5)))]) hx hb dJ1_indexOfChar_4cfef_25 hl (k := 0) rfl (mr_inc _) (by decide) rfl (fun ls hl => ?_)
                  refine lv_goto (tgt := 7) hx hb dJ1_indexOfChar_4cfef_28 (by decide) ?_
                  refine lv_iload hx hb dJ1_indexOfChar_4cfef_7 (lv_at hl 0 rfl) ?_
                  refine lv_iload_n hx hb dJ1_indexOfChar_4cfef_9 rfl (lv_at hl 5 rfl) ?_
                  refine n_icmp_ge (tgt := 31) hx hb dJ1_indexOfChar_4cfef_10 (by decide) (by decide) (by decide) (fun c_10 => ?_) (fun c_10 => ?_)
                  · exact absurd c_10 (by decide)
                  · refine lv_aload_n hx hb dJ1_indexOfChar_4cfef_13 rfl (lv_at hl 2 rfl) ?_
                    refine lv_iload hx hb dJ1_indexOfChar_4cfef_14 (lv_at hl 0 rfl) ?_
                    refine va_tb (v := .int (nI 119)) hx hb (hE.2.2.2.2.1.1 0 (by decide)).2.2.2 hS (vp_in_nI (by decide) (by decide)) rfl dJ1_indexOfChar_4cfef_16 ?_
                    refine lv_iload hx hb dJ1_indexOfChar_4cfef_17 (lv_at hl 1 rfl) ?_
                    refine n_icmp_ne (tgt := 25) hx hb dJ1_indexOfChar_4cfef_19 (by decide) (by omega) (by omega) (fun c_19 => ?_) (fun c_19 => ?_)
                    · refine lv_iinc (v := nI (0 + 1 + 1 + 1 + 1 + 1)) (lv' := [(5, .int (nI (0 + 1 + 1 + 1 + 1 + 1))), (4, .int (nI (c0))), (0, .ref (xV 0)), (1, .int (nI (c0))), (2, .int (nI (0))), (3, .int (nI (5)))]) hx hb dJ1_indexOfChar_4cfef_25 hl (k := 0) rfl (mr_inc _) (by decide) rfl (fun ls hl => ?_)
                      refine lv_goto (tgt := 7) hx hb dJ1_indexOfChar_4cfef_28 (by decide) ?_
                      refine lv_iload hx hb dJ1_indexOfChar_4cfef_7 (lv_at hl 0 rfl) ?_
                      refine lv_iload_n hx hb dJ1_indexOfChar_4cfef_9 rfl (lv_at hl 5 rfl) ?_
                      refine n_icmp_ge (tgt := 31) hx hb dJ1_indexOfChar_4cfef_10 (by decide) (by decide) (by decide) (fun c_10 => ?_) (fun c_10 => ?_)
                      · refine lv_iconst (v := (-1)) hx hb dJ1_indexOfChar_4cfef_31 (by decide) ?_
                        exact c_iret hx hb hr hlocks hK hS () hP ⟨fun _ => decide_eq_false (by omega), fun _ => by decide⟩ dJ1_indexOfChar_4cfef_32
                      · exact absurd c_10 (by decide)
                    · refine lv_iload hx hb dJ1_indexOfChar_4cfef_22 (lv_at hl 0 rfl) ?_
                      exact c_iret hx hb hr hlocks hK hS () hP ⟨fun h9 => absurd h9 (nI_pos (by decide)), fun h9 => absurd (of_decide_eq_false h9) (by omega)⟩ dJ1_indexOfChar_4cfef_24
                · refine lv_iload hx hb dJ1_indexOfChar_4cfef_22 (lv_at hl 0 rfl) ?_
                  exact c_iret hx hb hr hlocks hK hS () hP ⟨fun h9 => absurd h9 (nI_pos (by decide)), fun h9 => absurd (of_decide_eq_false h9) (by omega)⟩ dJ1_indexOfChar_4cfef_24
            · refine lv_iload hx hb dJ1_indexOfChar_4cfef_22 (lv_at hl 0 rfl) ?_
              exact c_iret hx hb hr hlocks hK hS () hP ⟨fun h9 => absurd h9 (nI_pos (by decide)), fun h9 => absurd (of_decide_eq_false h9) (by omega)⟩ dJ1_indexOfChar_4cfef_24
        · refine lv_iload hx hb dJ1_indexOfChar_4cfef_22 (lv_at hl 0 rfl) ?_
          exact c_iret hx hb hr hlocks hK hS () hP ⟨fun h9 => absurd h9 (nI_pos (by decide)), fun h9 => absurd (of_decide_eq_false h9) (by omega)⟩ dJ1_indexOfChar_4cfef_24
    · refine lv_iload hx hb dJ1_indexOfChar_4cfef_22 (lv_at hl 0 rfl) ?_
      exact c_iret hx hb hr hlocks hK hS () hP ⟨fun h9 => absurd h9 (nI_pos (by decide)), fun h9 => absurd (of_decide_eq_false h9) (by omega)⟩ dJ1_indexOfChar_4cfef_24
set_option maxHeartbeats 4000000 in
set_option maxRecDepth 100000 in
theorem k_J1_indexOf_4cfef (l : Launch) (dC : Nat → ClassId) (dI : Nat → Nat → Nat) (y : Nat → ClassId) (A : Nat → Prop) (a : Nat → Nat) (hA0 : ad_ok A a 34) (xK : Nat → Nat) (xV : Nat → Nat) (rn : Nat) (n : Nat) (lo : Int32) (kp : Nat) (dy : Int32) (so : Int32) (he : Int32) (kn : Nat) (ak : Nat) (pl : Nat) (im : Bool) (lo2 : Int32) (dy2 : Int32) (so2 : Int32) (he2 : Int32) (kn2 : Nat) (ma : Nat) (kd : Nat → Nat) (len : Nat → Nat) (ord : Nat → Nat) (kh : Nat → Nat) (km : Nat → Nat) (pg : Nat → Nat) (len2 : Nat → Nat) (ord2 : Nat → Nat) (kh2 : Nat → Nat) (km2 : Nat → Nat) (cw : Nat → Nat) (tl : Nat → Nat) (tO : Nat → Nat) (bO : Nat → Nat) (lf : Nat → Nat → Nat) (wo : Nat → Nat) (c0 : Nat) (hc : c0 < 128) : Met l yJ1_indexOf_4cfef wsJ1_indexOf_4cfef ({ frames := 1, cells := 0, slots := 0, locals := 25 } : Room) (c_P (dC, dI) vwCl (TY y) (EV xK xV A) (MW y a rn n lo kp dy so he kn ak pl im lo2 dy2 so2 he2 kn2 ma kd len ord kh km pg len2 ord2 kh2 km2 cw tl tO bO lf wo) [.ref (xV 0), .int (nI (c0)), .int (nI (0)), .int (nI (5))]) (va_Qi (fun (r : Int32) (u : Unit) => (r < 0 ↔ kdB c0 = false)) (c_B (dC, dI) vwCl (TY y) (fun (u : Unit) => (MW y a rn n lo kp dy so he kn ak pl im lo2 dy2 so2 he2 kn2 ma kd len ord kh km pg len2 ord2 kh2 km2 cw tl tO bO lf wo))) A) 0 0 A := by
  refine Met.ofW (cc := cJ1_indexOf_4cfef) (maxL := 4) (ret := (some .int)) (by decide) rfl ?_
  intro p e s m args below meth c s₁ BB hml hv
  obtain ⟨rfl, hP, hK, hE⟩ := hv
  have hx := BB.exec
  have hb := BB.bytes
  have hr := BB.returns
  have hts := atoms_spec (ws := wsJ1_indexOf_4cfef) BB.pre
  have hown : s.vm.findClass RJ1 = some m.cls := findClass_of_methodNamed BB.named
  have hlocks := BB.notSynchronized
  have hS : va_S A s.heap s.heap [] := va_S.rf
  have hl := lv_entry ([.ref (xV 0), .int (nI (c0)), .int (nI (0)), .int (nI (5))]) (n := 4) (Nat.le_of_ble_eq_true rfl)
  rw [lg_entry_eq]
  generalize (lg_sl ([.ref (xV 0), .int (nI (c0)), .int (nI (0)), .int (nI (5))]) ++ List.replicate (4 - (lg_sl ([.ref (xV 0), .int (nI (c0)), .int (nI (0)), .int (nI (5))])).length) Slot.unset).toArray = ls at hl ⊢
  have hl : lv_has ls 4 [(0, .ref (xV 0)), (1, .int (nI (c0))), (2, .int (nI (0))), (3, .int (nI (5)))] := hl
  refine lv_iload_n hx hb dJ1_indexOf_4cfef_0 rfl (lv_at hl 1 rfl) ?_
  refine c_calli (va_runS (As := [.int (nI (c0))]) (rest := []) ⟨hx, hb, hml, hown, hts⟩ (k_J1_canEncode_9a6ad l dC dI y A (MW y a rn n lo kp dy so he kn ak pl im lo2 dy2 so2 he2 kn2 ma kd len ord kh km pg len2 ord2 kh2 km2 cw tl tO bO lf wo) (EV xK xV A) c0 hc) (va_cwS 1 hts gJ1_indexOf_4cfef_J1_canEncode_9a6ad rfl rfl rfl (by decide +kernel) ⟨Nat.le_of_ble_eq_true rfl, Nat.le_of_ble_eq_true rfl⟩) (c_preS (evN xK xV A) hK hE hS hP) rfl rfl hl.1 rfl (lv_room (Nat.le_of_ble_eq_true rfl)) dJ1_indexOf_4cfef_1 ⟨Nat.le_refl _, Nat.le_refl _⟩) hS (fun r_1 u_1 H locs hw_1 hP hS => ?_)
  obtain rfl := hw_1
  refine n_bif_ne (tgt := 9) hx hb dJ1_indexOf_4cfef_4 (by decide) (fun c_4 => ?_) (fun c_4 => ?_)
  · refine lv_iload_n hx hb dJ1_indexOf_4cfef_9 rfl (lv_at hl 2 rfl) ?_
    refine lv_iconst (v := nI (0)) hx hb dJ1_indexOf_4cfef_10 (by decide) ?_
    refine va_mmax hx hb (hml.trans hl.1.symm) hown (hts (.methodLink RJ1 92 Lib.Math.max.name) (List.mem_of_getElem? (i := 1) rfl)) (hts (.static Lib.Math.max.name) (List.mem_of_getElem? (i := 2) rfl)) (hts (.initialized "java/lang/Math") (List.mem_of_getElem? (i := 3) rfl)) (hts (.code Lib.Math.max.name Lib.Math.max.code 2 (some .int)) (List.mem_of_getElem? (i := 4) rfl)) (Nat.le_of_ble_eq_true rfl) (Nat.le_of_ble_eq_true rfl) (Nat.zero_le _) (Nat.zero_le _) dJ1_indexOf_4cfef_11 ?_
    refine n_top (y := nI (0)) (by decide) ?_
    refine lv_istore_n (lv' := [(2, .int (nI (0))), (0, .ref (xV 0)), (1, .int (nI (c0))), (3, .int (nI (5)))]) hx hb dJ1_indexOf_4cfef_14 rfl hl (by decide) rfl (fun ls hl => ?_)
    refine lv_iload_n hx hb dJ1_indexOf_4cfef_15 rfl (lv_at hl 3 rfl) ?_
    refine lv_aload_n hx hb dJ1_indexOf_4cfef_16 rfl (lv_at hl 1 rfl) ?_
    refine va_tlen (v := nI 5) hx hb (hE.2.2.2.2.1.1 0 (by decide)).2.2.2 hS rfl dJ1_indexOf_4cfef_17 ?_
    refine va_mmin hx hb (hml.trans hl.1.symm) hown (hts (.methodLink RJ1 38 Lib.Math.min.name) (List.mem_of_getElem? (i := 5) rfl)) (hts (.static Lib.Math.min.name) (List.mem_of_getElem? (i := 6) rfl)) (hts (.initialized "java/lang/Math") (List.mem_of_getElem? (i := 3) rfl)) (hts (.code Lib.Math.min.name Lib.Math.min.code 2 (some .int)) (List.mem_of_getElem? (i := 7) rfl)) (Nat.le_of_ble_eq_true rfl) (Nat.le_of_ble_eq_true rfl) (Nat.zero_le _) (Nat.zero_le _) dJ1_indexOf_4cfef_18 ?_
    refine n_top (y := nI (5)) (by decide) ?_
    refine lv_istore_n (lv' := [(3, .int (nI (5))), (2, .int (nI (0))), (0, .ref (xV 0)), (1, .int (nI (c0)))]) hx hb dJ1_indexOf_4cfef_21 rfl hl (by decide) rfl (fun ls hl => ?_)
    refine lv_iload_n hx hb dJ1_indexOf_4cfef_22 rfl (lv_at hl 1 rfl) ?_
    refine lv_iload_n hx hb dJ1_indexOf_4cfef_23 rfl (lv_at hl 0 rfl) ?_
    refine n_icmp_lt (tgt := 29) hx hb dJ1_indexOf_4cfef_24 (by decide) (by omega) (by omega) (fun c_24 => ?_) (fun c_24 => ?_)
    · refine lv_aload_n hx hb dJ1_indexOf_4cfef_29 rfl (lv_at hl 2 rfl) ?_
      refine lv_iload_n hx hb dJ1_indexOf_4cfef_30 rfl (lv_at hl 3 rfl) ?_
      refine lv_iload_n hx hb dJ1_indexOf_4cfef_31 rfl (lv_at hl 1 rfl) ?_
      refine lv_iload_n hx hb dJ1_indexOf_4cfef_32 rfl (lv_at hl 0 rfl) ?_
      refine c_calli (va_runS (As := [.ref (xV 0), .int (nI (c0)), .int (nI (0)), .int (nI (5))]) (rest := []) ⟨hx, hb, hml, hown, hts⟩ (k_J1_indexOfChar_4cfef l dC dI y A a hA0 xK xV rn n lo kp dy so he kn ak pl im lo2 dy2 so2 he2 kn2 ma kd len ord kh km pg len2 ord2 kh2 km2 cw tl tO bO lf wo c0 hc) (va_cwS 4 hts gJ1_indexOf_4cfef_J1_indexOfChar_4cfef rfl rfl rfl (by decide +kernel) ⟨Nat.le_of_ble_eq_true rfl, Nat.le_of_ble_eq_true rfl⟩) (c_preS (evN xK xV A) hK hE hS hP) rfl rfl hl.1 rfl (lv_room (Nat.le_of_ble_eq_true rfl)) dJ1_indexOf_4cfef_33 ⟨Nat.le_refl _, Nat.le_refl _⟩) hS (fun r_33 u_33 H locs hw_33 hP hS => ?_)
      exact c_iret hx hb hr hlocks hK hS () hP hw_33 dJ1_indexOf_4cfef_36
    · exact absurd (by decide) c_24
  · exact Bool.noConfusion c_4
set_option maxHeartbeats 4000000 in
set_option maxRecDepth 100000 in
theorem k_J0_indexOf_7cf53 (l : Launch) (dC : Nat → ClassId) (dI : Nat → Nat → Nat) (y : Nat → ClassId) (A : Nat → Prop) (a : Nat → Nat) (hA0 : ad_ok A a 34) (xK : Nat → Nat) (xV : Nat → Nat) (rn : Nat) (n : Nat) (lo : Int32) (kp : Nat) (dy : Int32) (so : Int32) (he : Int32) (kn : Nat) (ak : Nat) (pl : Nat) (im : Bool) (lo2 : Int32) (dy2 : Int32) (so2 : Int32) (he2 : Int32) (kn2 : Nat) (ma : Nat) (kd : Nat → Nat) (len : Nat → Nat) (ord : Nat → Nat) (kh : Nat → Nat) (km : Nat → Nat) (pg : Nat → Nat) (len2 : Nat → Nat) (ord2 : Nat → Nat) (kh2 : Nat → Nat) (km2 : Nat → Nat) (cw : Nat → Nat) (tl : Nat → Nat) (tO : Nat → Nat) (bO : Nat → Nat) (lf : Nat → Nat → Nat) (wo : Nat → Nat) (c0 : Nat) (hc : c0 < 128) : Met l yJ0_indexOf_7cf53 wsJ0_indexOf_7cf53 ({ frames := 2, cells := 0, slots := 0, locals := 48 } : Room) (c_P (dC, dI) vwCl (TY y) (EV xK xV A) (MW y a rn n lo kp dy so he kn ak pl im lo2 dy2 so2 he2 kn2 ma kd len ord kh km pg len2 ord2 kh2 km2 cw tl tO bO lf wo) [.ref (xK 0), .int (nI (c0)), .int (nI (0))]) (va_Qi (fun (r : Int32) (u : Unit) => (r < 0 ↔ kdB c0 = false)) (c_B (dC, dI) vwCl (TY y) (fun (u : Unit) => (MW y a rn n lo kp dy so he kn ak pl im lo2 dy2 so2 he2 kn2 ma kd len ord kh km pg len2 ord2 kh2 km2 cw tl tO bO lf wo))) A) 0 0 A := by
  refine Met.ofW (cc := cJ0_indexOf_7cf53) (maxL := 3) (ret := (some .int)) (by decide) rfl ?_
  intro p e s m args below meth c s₁ BB hml hv
  obtain ⟨rfl, hP, hK, hE⟩ := hv
  have hx := BB.exec
  have hb := BB.bytes
  have hr := BB.returns
  have hts := atoms_spec (ws := wsJ0_indexOf_7cf53) BB.pre
  have hown : s.vm.findClass RJ0 = some m.cls := findClass_of_methodNamed BB.named
  have hlocks := BB.notSynchronized
  have hS : va_S A s.heap s.heap [] := va_S.rf
  have hl := lv_entry ([.ref (xK 0), .int (nI (c0)), .int (nI (0))]) (n := 3) (Nat.le_of_ble_eq_true rfl)
  rw [lg_entry_eq]
  generalize (lg_sl ([.ref (xK 0), .int (nI (c0)), .int (nI (0))]) ++ List.replicate (3 - (lg_sl ([.ref (xK 0), .int (nI (c0)), .int (nI (0))])).length) Slot.unset).toArray = ls at hl ⊢
  have hl : lv_has ls 3 [(0, .ref (xK 0)), (1, .int (nI (c0))), (2, .int (nI (0)))] := hl
  refine lv_aload_n hx hb dJ0_indexOf_7cf53_0 rfl (lv_at hl 0 rfl) ?_
  refine c_calli (va_runV (As := []) (rest := []) ⟨hx, hb, hml, hown, hts⟩ (k_J0_isLatin1_aae02 l dC dI y A a hA0 xK xV rn n lo kp dy so he kn ak pl im lo2 dy2 so2 he2 kn2 ma kd len ord kh km pg len2 ord2 kh2 km2 cw tl tO bO lf wo  ) (cwV 0 hts gJ0_indexOf_7cf53_J0_isLatin1_aae02 rfl rfl rfl (by decide +kernel) ⟨Nat.le_of_ble_eq_true rfl, Nat.le_of_ble_eq_true rfl⟩) (c_preV (evN xK xV A) hK hE hS hP (vk_recv hE.2.2.2.2.1 (by decide) hS)) rfl rfl hl.1 rfl (lv_room (Nat.le_of_ble_eq_true rfl)) dJ0_indexOf_7cf53_1 ⟨Nat.le_refl _, Nat.le_refl _⟩) hS (fun r_1 u_1 H locs hw_1 hP hS => ?_)
  obtain rfl := hw_1
  refine n_bif_eq (tgt := 23) hx hb dJ0_indexOf_7cf53_4 (by decide) (fun c_4 => ?_) (fun c_4 => ?_)
  · exact Bool.noConfusion c_4
  · refine lv_aload_n hx hb dJ0_indexOf_7cf53_7 rfl (lv_at hl 0 rfl) ?_
    refine vk_getf hx hb (hE.2.2.2.2.1.1 0 (by decide)).2.2.1 hS hown (hts (.fieldLink RJ0 9 "java/lang/String" "value" "[B") (List.mem_of_getElem? (i := 1) rfl)) (fun _ h9 => h9) dJ0_indexOf_7cf53_8 ?_
    refine lv_iload_n hx hb dJ0_indexOf_7cf53_11 rfl (lv_at hl 1 rfl) ?_
    refine lv_iload_n hx hb dJ0_indexOf_7cf53_12 rfl (lv_at hl 2 rfl) ?_
    refine lv_aload_n hx hb dJ0_indexOf_7cf53_13 rfl (lv_at hl 0 rfl) ?_
    refine c_calli (va_runV (As := []) (rest := [.int (nI (0)), .int (nI (c0)), .ref (xV 0)]) ⟨hx, hb, hml, hown, hts⟩ (k_J0_length_8abf5 l dC dI y A a hA0 xK xV rn n lo kp dy so he kn ak pl im lo2 dy2 so2 he2 kn2 ma kd len ord kh km pg len2 ord2 kh2 km2 cw tl tO bO lf wo  ) (cwV 0 hts gJ0_indexOf_7cf53_J0_length_8abf5 rfl rfl rfl (by decide +kernel) ⟨Nat.le_of_ble_eq_true rfl, Nat.le_of_ble_eq_true rfl⟩) (c_preV (evN xK xV A) hK hE hS hP (vk_recv hE.2.2.2.2.1 (by decide) hS)) rfl rfl hl.1 rfl (lv_room (Nat.le_of_ble_eq_true rfl)) dJ0_indexOf_7cf53_14 ⟨Nat.le_refl _, Nat.le_refl _⟩) hS (fun r_14 u_14 H locs hw_14 hP hS => ?_)
    obtain rfl := hw_14
    refine c_calli (va_runS (As := [.ref (xV 0), .int (nI (c0)), .int (nI (0)), .int (nI (5))]) (rest := []) ⟨hx, hb, hml, hown, hts⟩ (k_J1_indexOf_4cfef l dC dI y A a hA0 xK xV rn n lo kp dy so he kn ak pl im lo2 dy2 so2 he2 kn2 ma kd len ord kh km pg len2 ord2 kh2 km2 cw tl tO bO lf wo c0 hc) (va_cwS 4 hts gJ0_indexOf_7cf53_J1_indexOf_4cfef rfl rfl rfl (by decide +kernel) ⟨Nat.le_of_ble_eq_true rfl, Nat.le_of_ble_eq_true rfl⟩) (c_preS (evN xK xV A) hK hE hS hP) rfl rfl hl.1 rfl (lv_room (Nat.le_of_ble_eq_true rfl)) dJ0_indexOf_7cf53_17 ⟨Nat.le_refl _, Nat.le_refl _⟩) hS (fun r_17 u_17 H locs hw_17 hP hS => ?_)
    refine lv_goto (tgt := 36) hx hb dJ0_indexOf_7cf53_20 (by decide) ?_
    exact c_iret hx hb hr hlocks hK hS () hP hw_17 dJ0_indexOf_7cf53_36
set_option maxHeartbeats 4000000 in
set_option maxRecDepth 100000 in
theorem k_J0_indexOf_0f7a4 (l : Launch) (dC : Nat → ClassId) (dI : Nat → Nat → Nat) (y : Nat → ClassId) (A : Nat → Prop) (a : Nat → Nat) (hA0 : ad_ok A a 34) (xK : Nat → Nat) (xV : Nat → Nat) (rn : Nat) (n : Nat) (lo : Int32) (kp : Nat) (dy : Int32) (so : Int32) (he : Int32) (kn : Nat) (ak : Nat) (pl : Nat) (im : Bool) (lo2 : Int32) (dy2 : Int32) (so2 : Int32) (he2 : Int32) (kn2 : Nat) (ma : Nat) (kd : Nat → Nat) (len : Nat → Nat) (ord : Nat → Nat) (kh : Nat → Nat) (km : Nat → Nat) (pg : Nat → Nat) (len2 : Nat → Nat) (ord2 : Nat → Nat) (kh2 : Nat → Nat) (km2 : Nat → Nat) (cw : Nat → Nat) (tl : Nat → Nat) (tO : Nat → Nat) (bO : Nat → Nat) (lf : Nat → Nat → Nat) (wo : Nat → Nat) (c0 : Nat) (hc : c0 < 128) : Met l yJ0_indexOf_0f7a4 wsJ0_indexOf_0f7a4 ({ frames := 3, cells := 0, slots := 0, locals := 70 } : Room) (c_P (dC, dI) vwCl (TY y) (EV xK xV A) (MW y a rn n lo kp dy so he kn ak pl im lo2 dy2 so2 he2 kn2 ma kd len ord kh km pg len2 ord2 kh2 km2 cw tl tO bO lf wo) [.ref (xK 0), .int (nI (c0))]) (va_Qi (fun (r : Int32) (u : Unit) => (r < 0 ↔ kdB c0 = false)) (c_B (dC, dI) vwCl (TY y) (fun (u : Unit) => (MW y a rn n lo kp dy so he kn ak pl im lo2 dy2 so2 he2 kn2 ma kd len ord kh km pg len2 ord2 kh2 km2 cw tl tO bO lf wo))) A) 0 0 A := by
  refine Met.ofW (cc := cJ0_indexOf_0f7a4) (maxL := 2) (ret := (some .int)) (by decide) rfl ?_
  intro p e s m args below meth c s₁ BB hml hv
  obtain ⟨rfl, hP, hK, hE⟩ := hv
  have hx := BB.exec
  have hb := BB.bytes
  have hr := BB.returns
  have hts := atoms_spec (ws := wsJ0_indexOf_0f7a4) BB.pre
  have hown : s.vm.findClass RJ0 = some m.cls := findClass_of_methodNamed BB.named
  have hlocks := BB.notSynchronized
  have hS : va_S A s.heap s.heap [] := va_S.rf
  have hl := lv_entry ([.ref (xK 0), .int (nI (c0))]) (n := 2) (Nat.le_of_ble_eq_true rfl)
  rw [lg_entry_eq]
  generalize (lg_sl ([.ref (xK 0), .int (nI (c0))]) ++ List.replicate (2 - (lg_sl ([.ref (xK 0), .int (nI (c0))])).length) Slot.unset).toArray = ls at hl ⊢
  have hl : lv_has ls 2 [(0, .ref (xK 0)), (1, .int (nI (c0)))] := hl
  refine lv_aload_n hx hb dJ0_indexOf_0f7a4_0 rfl (lv_at hl 0 rfl) ?_
  refine lv_iload_n hx hb dJ0_indexOf_0f7a4_1 rfl (lv_at hl 1 rfl) ?_
  refine lv_iconst (v := nI (0)) hx hb dJ0_indexOf_0f7a4_2 (by decide) ?_
  refine c_calli (va_runV (As := [.int (nI (c0)), .int (nI (0))]) (rest := []) ⟨hx, hb, hml, hown, hts⟩ (k_J0_indexOf_7cf53 l dC dI y A a hA0 xK xV rn n lo kp dy so he kn ak pl im lo2 dy2 so2 he2 kn2 ma kd len ord kh km pg len2 ord2 kh2 km2 cw tl tO bO lf wo c0 hc) (cwV 2 hts gJ0_indexOf_0f7a4_J0_indexOf_7cf53 rfl rfl rfl (by decide +kernel) ⟨Nat.le_of_ble_eq_true rfl, Nat.le_of_ble_eq_true rfl⟩) (c_preV (evN xK xV A) hK hE hS hP (vk_recv hE.2.2.2.2.1 (by decide) hS)) rfl rfl hl.1 rfl (lv_room (Nat.le_of_ble_eq_true rfl)) dJ0_indexOf_0f7a4_3 ⟨Nat.le_refl _, Nat.le_refl _⟩) hS (fun r_3 u_3 H locs hw_3 hP hS => ?_)
  exact c_iret hx hb hr hlocks hK hS () hP hw_3 dJ0_indexOf_0f7a4_6
set_option maxHeartbeats 4000000 in
set_option maxRecDepth 100000 in
theorem k_X4_isMarkBehind (l : Launch) (dC : Nat → ClassId) (dI : Nat → Nat → Nat) (y : Nat → ClassId) (A : Nat → Prop) (ws : va_W) (Nv : State → Prop) (hs : Nat) (c0 : Nat) (hh : hs < 1000) (hc : c0 < 128) : Met l yX4_isMarkBehind wsX4_isMarkBehind ({ frames := 0, cells := 0, slots := 0, locals := 0 } : Room) (c_P (dC, dI) vwCl (TY y) Nv ws [.int (nI (hs)), .int (nI (c0))]) (va_Qi (fun (r : Int32) (u : Unit) => r = bI (mkB hs c0)) (c_B (dC, dI) vwCl (TY y) (fun (u : Unit) => ws)) A) 0 0 A := by
  refine Met.ofW (cc := cX4_isMarkBehind) (maxL := 2) (ret := (some .boolean)) (by decide) rfl ?_
  intro p e s m args below meth c s₁ BB hml hv
  obtain ⟨rfl, hP, hK, hE⟩ := hv
  have hx := BB.exec
  have hb := BB.bytes
  have hr := BB.returns
  have hts := atoms_spec (ws := wsX4_isMarkBehind) BB.pre
  have hown : s.vm.findClass RX4 = some m.cls := findClass_of_methodNamed BB.named
  have hlocks := BB.notSynchronized
  have hS : va_S A s.heap s.heap [] := va_S.rf
  have hl := lv_entry ([.int (nI (hs)), .int (nI (c0))]) (n := 2) (Nat.le_of_ble_eq_true rfl)
  rw [lg_entry_eq]
  generalize (lg_sl ([.int (nI (hs)), .int (nI (c0))]) ++ List.replicate (2 - (lg_sl ([.int (nI (hs)), .int (nI (c0))])).length) Slot.unset).toArray = ls at hl ⊢
  have hl : lv_has ls 2 [(0, .int (nI (hs))), (1, .int (nI (c0)))] := hl
  refine lv_iload_n hx hb dX4_isMarkBehind_0 rfl (lv_at hl 1 rfl) ?_
  refine lv_bipush (v := nI (44)) hx hb dX4_isMarkBehind_1 (by decide) ?_
  refine n_icmp_ne (tgt := 12) hx hb dX4_isMarkBehind_3 (by decide) (by omega) (by omega) (fun c_3 => ?_) (fun c_3 => ?_)
  · refine lv_iload_n hx hb dX4_isMarkBehind_12 rfl (lv_at hl 1 rfl) ?_
    refine lv_bipush (v := nI (59)) hx hb dX4_isMarkBehind_13 (by decide) ?_
    refine n_icmp_ne (tgt := 27) hx hb dX4_isMarkBehind_15 (by decide) (by omega) (by omega) (fun c_15 => ?_) (fun c_15 => ?_)
    · refine lv_iconst (v := nI (0)) hx hb dX4_isMarkBehind_27 (by decide) ?_
      exact c_zret hx hb hr hlocks hK hS () rfl hP (bI_0 (decide_eq_false (by omega))) dX4_isMarkBehind_28
    · refine lv_iload_n hx hb dX4_isMarkBehind_18 rfl (lv_at hl 0 rfl) ?_
      refine lv_iconst (v := nI (2)) hx hb dX4_isMarkBehind_19 (by decide) ?_
      refine n_icmp_lt (tgt := 27) hx hb dX4_isMarkBehind_20 (by decide) (by omega) (by omega) (fun c_20 => ?_) (fun c_20 => ?_)
      · refine lv_iconst (v := nI (0)) hx hb dX4_isMarkBehind_27 (by decide) ?_
        exact c_zret hx hb hr hlocks hK hS () rfl hP (bI_0 (decide_eq_false (by omega))) dX4_isMarkBehind_28
      · refine lv_iconst (v := nI (1)) hx hb dX4_isMarkBehind_23 (by decide) ?_
        refine lv_goto (tgt := 28) hx hb dX4_isMarkBehind_24 (by decide) ?_
        exact c_zret hx hb hr hlocks hK hS () rfl hP (bI_1 (decide_eq_true (by omega))) dX4_isMarkBehind_28
  · refine lv_iload_n hx hb dX4_isMarkBehind_6 rfl (lv_at hl 0 rfl) ?_
    refine lv_bipush (v := nI (6)) hx hb dX4_isMarkBehind_7 (by decide) ?_
    refine n_icmp_lt (tgt := 23) hx hb dX4_isMarkBehind_9 (by decide) (by omega) (by omega) (fun c_9 => ?_) (fun c_9 => ?_)
    · refine lv_iconst (v := nI (1)) hx hb dX4_isMarkBehind_23 (by decide) ?_
      refine lv_goto (tgt := 28) hx hb dX4_isMarkBehind_24 (by decide) ?_
      exact c_zret hx hb hr hlocks hK hS () rfl hP (bI_1 (decide_eq_true (by omega))) dX4_isMarkBehind_28
    · refine lv_iload_n hx hb dX4_isMarkBehind_12 rfl (lv_at hl 1 rfl) ?_
      refine lv_bipush (v := nI (59)) hx hb dX4_isMarkBehind_13 (by decide) ?_
      refine n_icmp_ne (tgt := 27) hx hb dX4_isMarkBehind_15 (by decide) (by omega) (by omega) (fun c_15 => ?_) (fun c_15 => ?_)
      · refine lv_iconst (v := nI (0)) hx hb dX4_isMarkBehind_27 (by decide) ?_
        exact c_zret hx hb hr hlocks hK hS () rfl hP (bI_0 (decide_eq_false (by omega))) dX4_isMarkBehind_28
      · refine lv_iload_n hx hb dX4_isMarkBehind_18 rfl (lv_at hl 0 rfl) ?_
        refine lv_iconst (v := nI (2)) hx hb dX4_isMarkBehind_19 (by decide) ?_
        refine n_icmp_lt (tgt := 27) hx hb dX4_isMarkBehind_20 (by decide) (by omega) (by omega) (fun c_20 => ?_) (fun c_20 => ?_)
        · refine lv_iconst (v := nI (0)) hx hb dX4_isMarkBehind_27 (by decide) ?_
          exact c_zret hx hb hr hlocks hK hS () rfl hP (bI_0 (decide_eq_false (by omega))) dX4_isMarkBehind_28
        · refine lv_iconst (v := nI (1)) hx hb dX4_isMarkBehind_23 (by decide) ?_
          refine lv_goto (tgt := 28) hx hb dX4_isMarkBehind_24 (by decide) ?_
          exact c_zret hx hb hr hlocks hK hS () rfl hP (bI_1 (decide_eq_true (by omega))) dX4_isMarkBehind_28
set_option maxHeartbeats 4000000 in
set_option maxRecDepth 100000 in
theorem k_X4_fits (l : Launch) (dC : Nat → ClassId) (dI : Nat → Nat → Nat) (y : Nat → ClassId) (A : Nat → Prop) (a : Nat → Nat) (hA0 : ad_ok A a 34) (xK : Nat → Nat) (xV : Nat → Nat) (rn : Nat) (n : Nat) (lo : Int32) (kp : Nat) (dy : Int32) (so : Int32) (he : Int32) (kn : Nat) (ak : Nat) (pl : Nat) (im : Bool) (lo2 : Int32) (dy2 : Int32) (so2 : Int32) (he2 : Int32) (kn2 : Nat) (ma : Nat) (kd : Nat → Nat) (len : Nat → Nat) (ord : Nat → Nat) (kh : Nat → Nat) (km : Nat → Nat) (pg : Nat → Nat) (len2 : Nat → Nat) (ord2 : Nat → Nat) (kh2 : Nat → Nat) (km2 : Nat → Nat) (cw : Nat → Nat) (tl : Nat → Nat) (tO : Nat → Nat) (bO : Nat → Nat) (lf : Nat → Nat → Nat) (wo : Nat → Nat) (k : Nat) (c0 : Nat) (cl : Bool) (hk : k < 1000) (hc : c0 < 128) : Met l yX4_fits wsX4_fits ({ frames := 4, cells := 0, slots := 0, locals := 91 } : Room) (c_P (dC, dI) vwCl (TY y) (EV xK xV A) (MW y a rn n lo kp dy so he kn ak pl im lo2 dy2 so2 he2 kn2 ma kd len ord kh km pg len2 ord2 kh2 km2 cw tl tO bO lf wo) [.int (nI (k)), .int (nI (c0)), .int (bI (cl))]) (va_Qi (fun (r : Int32) (u : Unit) => r = bI (ftB k c0 cl)) (c_B (dC, dI) vwCl (TY y) (fun (u : Unit) => (MW y a rn n lo kp dy so he kn ak pl im lo2 dy2 so2 he2 kn2 ma kd len ord kh km pg len2 ord2 kh2 km2 cw tl tO bO lf wo))) A) 0 0 A := by
  refine Met.ofW (cc := cX4_fits) (maxL := 4) (ret := (some .boolean)) (by decide) rfl ?_
  intro p e s m args below meth c s₁ BB hml hv
  obtain ⟨rfl, hP, hK, hE⟩ := hv
  have hx := BB.exec
  have hb := BB.bytes
  have hr := BB.returns
  have hts := atoms_spec (ws := wsX4_fits) BB.pre
  have hown : s.vm.findClass RX4 = some m.cls := findClass_of_methodNamed BB.named
  have hlocks := BB.notSynchronized
  have hS : va_S A s.heap s.heap [] := va_S.rf
  have hl := lv_entry ([.int (nI (k)), .int (nI (c0)), .int (bI (cl))]) (n := 4) (Nat.le_of_ble_eq_true rfl)
  rw [lg_entry_eq]
  generalize (lg_sl ([.int (nI (k)), .int (nI (c0)), .int (bI (cl))]) ++ List.replicate (4 - (lg_sl ([.int (nI (k)), .int (nI (c0)), .int (bI (cl))])).length) Slot.unset).toArray = ls at hl ⊢
  have hl : lv_has ls 4 [(0, .int (nI (k))), (1, .int (nI (c0))), (2, .int (bI (cl)))] := hl
  refine lv_iload_n hx hb dX4_fits_0 rfl (lv_at hl 1 rfl) ?_
  refine lv_bipush (v := nI (48)) hx hb dX4_fits_1 (by decide) ?_
  refine n_icmp_lt (tgt := 16) hx hb dX4_fits_3 (by decide) (by omega) (by omega) (fun c_3 => ?_) (fun c_3 => ?_)
  · refine lv_iconst (v := nI (0)) hx hb dX4_fits_16 (by decide) ?_
    refine lv_istore_n (lv' := [(3, .int (nI (0))), (0, .int (nI (k))), (1, .int (nI (c0))), (2, .int (bI (cl)))]) hx hb dX4_fits_17 rfl hl (by decide) rfl (fun ls hl => ?_)
    refine lv_iload_n hx hb dX4_fits_18 rfl (lv_at hl 1 rfl) ?_
    refine lv_iconst (v := nI (3)) hx hb dX4_fits_19 (by decide) ?_
    refine n_irem hx hb (by decide) (by omega) (by decide) dX4_fits_20 ?_
    rcases (show k % 3 = 0 ∨ k % 3 = 1 ∨ (k % 3 ≠ 0 ∧ k % 3 ≠ 1) by omega) with k_21 | k_21 | k_21
    · refine n_top (y := nI 0) (by rw [k_21]) ?_
      refine lv_lookup (off := 27) (tgt := 48) hx hb dX4_fits_21 (by decide) (by decide) (by decide) ?_
      refine lv_iload_n hx hb dX4_fits_48 rfl (lv_at hl 3 rfl) ?_
      refine n_bif_eq (tgt := 70) hx hb dX4_fits_49 (by decide) (fun c_49 => ?_) (fun c_49 => ?_)
      · refine va_ldcS hx hb hown hE.2.2.2.1 dX4_fits_70 ?_
        refine lv_iload_n hx hb dX4_fits_72 rfl (lv_at hl 2 rfl) ?_
        refine c_calli (va_runV (As := [.int (nI (c0))]) (rest := []) ⟨hx, hb, hml, hown, hts⟩ (k_J0_indexOf_0f7a4 l dC dI y A a hA0 xK xV rn n lo kp dy so he kn ak pl im lo2 dy2 so2 he2 kn2 ma kd len ord kh km pg len2 ord2 kh2 km2 cw tl tO bO lf wo c0 hc) (cwV 1 hts gX4_fits_J0_indexOf_0f7a4 rfl rfl rfl (by decide +kernel) ⟨Nat.le_of_ble_eq_true rfl, Nat.le_of_ble_eq_true rfl⟩) (c_preV (evN xK xV A) hK hE hS hP (vk_recv hE.2.2.2.2.1 (by decide) hS)) rfl rfl hl.1 rfl (lv_room (Nat.le_of_ble_eq_true rfl)) dX4_fits_73 ⟨Nat.le_refl _, Nat.le_refl _⟩) hS (fun r_73 u_73 H locs hw_73 hP hS => ?_)
        refine lv_if_lt (tgt := 83) hx hb dX4_fits_76 (by decide) (fun c_76 => ?_) (fun c_76 => ?_)
        · refine lv_iconst (v := nI (0)) hx hb dX4_fits_83 (by decide) ?_
          exact c_zret hx hb hr hlocks hK hS () rfl hP (by rw [ftB, if_pos k_21, c_49]; exact (bI_0 (hw_73.mp c_76))) dX4_fits_84
        · refine lv_iconst (v := nI (1)) hx hb dX4_fits_79 (by decide) ?_
          refine lv_goto (tgt := 84) hx hb dX4_fits_80 (by decide) ?_
          exact c_zret hx hb hr hlocks hK hS () rfl hP (by rw [ftB, if_pos k_21, c_49]; exact (bI_1 (bnf (fun z => c_76 (hw_73.mpr z))))) dX4_fits_84
      · refine lv_iload_n hx hb dX4_fits_52 rfl (lv_at hl 0 rfl) ?_
        refine n_if_eq (tgt := 66) hx hb dX4_fits_53 (by decide) (by omega) (fun c_53 => ?_) (fun c_53 => ?_)
        · refine lv_iconst (v := nI (0)) hx hb dX4_fits_66 (by decide) ?_
          refine lv_goto (tgt := 84) hx hb dX4_fits_67 (by decide) ?_
          exact c_zret hx hb hr hlocks hK hS () rfl hP (by rw [ftB, if_pos k_21, c_49]; exact (bI_0 (decide_eq_false (by omega)))) dX4_fits_84
        · exact absurd c_53 (by decide)
    · refine n_top (y := nI 1) (by rw [k_21]) ?_
      refine lv_lookup (off := 64) (tgt := 85) hx hb dX4_fits_21 (by decide) (by decide) (by decide) ?_
      refine lv_iload_n hx hb dX4_fits_85 rfl (lv_at hl 0 rfl) ?_
      refine n_if_eq (tgt := 97) hx hb dX4_fits_86 (by decide) (by omega) (fun c_86 => ?_) (fun c_86 => ?_)
      · refine lv_iconst (v := nI (0)) hx hb dX4_fits_97 (by decide) ?_
        exact c_zret hx hb hr hlocks hK hS () rfl hP (by rw [ftB, if_neg (by omega), if_pos k_21, dgB, decide_eq_false (by omega)]; rfl) dX4_fits_98
      · exact absurd c_86 (by decide)
    · refine lv_lookup (off := 78) (tgt := 99) hx hb dX4_fits_21 (by decide) (by show Op.lookupswitch.offset [(0, 27), (1, 64)] 78 _ = _; rw [lv_osw (k := nI 0) (fun h9 => absurd ((nI_eq (by omega) (by decide)).mp h9) (by omega)) (by decide), lv_osw (k := nI 1) (fun h9 => absurd ((nI_eq (by omega) (by decide)).mp h9) (by omega)) (by decide)]; rfl) (by decide) ?_
      refine lv_iload_n hx hb dX4_fits_99 rfl (lv_at hl 1 rfl) ?_
      refine lv_iconst (v := nI (3)) hx hb dX4_fits_100 (by decide) ?_
      refine n_idiv hx hb (by decide) (by omega) (by decide) dX4_fits_101 ?_
      refine lv_iconst (v := nI (1)) hx hb dX4_fits_102 (by decide) ?_
      refine n_iadd hx hb dX4_fits_103 ?_
      refine lv_iload_n hx hb dX4_fits_104 rfl (lv_at hl 2 rfl) ?_
      refine c_calli (va_runS (As := [.int (nI ((k / 3) + (1))), .int (nI (c0))]) (rest := []) ⟨hx, hb, hml, hown, hts⟩ (k_X4_isMarkBehind l dC dI y A (MW y a rn n lo kp dy so he kn ak pl im lo2 dy2 so2 he2 kn2 ma kd len ord kh km pg len2 ord2 kh2 km2 cw tl tO bO lf wo) (EV xK xV A) ((k / 3) + (1)) c0 (by omega) hc) (va_cwS 2 hts gX4_fits_X4_isMarkBehind rfl rfl rfl (by decide +kernel) ⟨Nat.le_of_ble_eq_true rfl, Nat.le_of_ble_eq_true rfl⟩) (c_preS (evN xK xV A) hK hE hS hP) rfl rfl hl.1 rfl (lv_room (Nat.le_of_ble_eq_true rfl)) dX4_fits_105 ⟨Nat.le_refl _, Nat.le_refl _⟩) hS (fun r_105 u_105 H locs hw_105 hP hS => ?_)
      obtain rfl := hw_105
      exact c_zret hx hb hr hlocks hK hS () (bI_nar _) hP (by rw [ftB, if_neg (by omega), if_neg (by omega)]) dX4_fits_108
  · refine lv_iload_n hx hb dX4_fits_6 rfl (lv_at hl 1 rfl) ?_
    refine lv_bipush (v := nI (57)) hx hb dX4_fits_7 (by decide) ?_
    refine n_icmp_gt (tgt := 16) hx hb dX4_fits_9 (by decide) (by omega) (by omega) (fun c_9 => ?_) (fun c_9 => ?_)
    · refine lv_iconst (v := nI (0)) hx hb dX4_fits_16 (by decide) ?_
      refine lv_istore_n (lv' := [(3, .int (nI (0))), (0, .int (nI (k))), (1, .int (nI (c0))), (2, .int (bI (cl)))]) hx hb dX4_fits_17 rfl hl (by decide) rfl (fun ls hl => ?_)
      refine lv_iload_n hx hb dX4_fits_18 rfl (lv_at hl 1 rfl) ?_
      refine lv_iconst (v := nI (3)) hx hb dX4_fits_19 (by decide) ?_
      refine n_irem hx hb (by decide) (by omega) (by decide) dX4_fits_20 ?_
      rcases (show k % 3 = 0 ∨ k % 3 = 1 ∨ (k % 3 ≠ 0 ∧ k % 3 ≠ 1) by omega) with k_21 | k_21 | k_21
      · refine n_top (y := nI 0) (by rw [k_21]) ?_
        refine lv_lookup (off := 27) (tgt := 48) hx hb dX4_fits_21 (by decide) (by decide) (by decide) ?_
        refine lv_iload_n hx hb dX4_fits_48 rfl (lv_at hl 3 rfl) ?_
        refine n_bif_eq (tgt := 70) hx hb dX4_fits_49 (by decide) (fun c_49 => ?_) (fun c_49 => ?_)
        · refine va_ldcS hx hb hown hE.2.2.2.1 dX4_fits_70 ?_
          refine lv_iload_n hx hb dX4_fits_72 rfl (lv_at hl 2 rfl) ?_
          refine c_calli (va_runV (As := [.int (nI (c0))]) (rest := []) ⟨hx, hb, hml, hown, hts⟩ (k_J0_indexOf_0f7a4 l dC dI y A a hA0 xK xV rn n lo kp dy so he kn ak pl im lo2 dy2 so2 he2 kn2 ma kd len ord kh km pg len2 ord2 kh2 km2 cw tl tO bO lf wo c0 hc) (cwV 1 hts gX4_fits_J0_indexOf_0f7a4 rfl rfl rfl (by decide +kernel) ⟨Nat.le_of_ble_eq_true rfl, Nat.le_of_ble_eq_true rfl⟩) (c_preV (evN xK xV A) hK hE hS hP (vk_recv hE.2.2.2.2.1 (by decide) hS)) rfl rfl hl.1 rfl (lv_room (Nat.le_of_ble_eq_true rfl)) dX4_fits_73 ⟨Nat.le_refl _, Nat.le_refl _⟩) hS (fun r_73 u_73 H locs hw_73 hP hS => ?_)
          refine lv_if_lt (tgt := 83) hx hb dX4_fits_76 (by decide) (fun c_76 => ?_) (fun c_76 => ?_)
          · refine lv_iconst (v := nI (0)) hx hb dX4_fits_83 (by decide) ?_
            exact c_zret hx hb hr hlocks hK hS () rfl hP (by rw [ftB, if_pos k_21, c_49]; exact (bI_0 (hw_73.mp c_76))) dX4_fits_84
          · refine lv_iconst (v := nI (1)) hx hb dX4_fits_79 (by decide) ?_
            refine lv_goto (tgt := 84) hx hb dX4_fits_80 (by decide) ?_
            exact c_zret hx hb hr hlocks hK hS () rfl hP (by rw [ftB, if_pos k_21, c_49]; exact (bI_1 (bnf (fun z => c_76 (hw_73.mpr z))))) dX4_fits_84
        · refine lv_iload_n hx hb dX4_fits_52 rfl (lv_at hl 0 rfl) ?_
          refine n_if_eq (tgt := 66) hx hb dX4_fits_53 (by decide) (by omega) (fun c_53 => ?_) (fun c_53 => ?_)
          · refine lv_iconst (v := nI (0)) hx hb dX4_fits_66 (by decide) ?_
            refine lv_goto (tgt := 84) hx hb dX4_fits_67 (by decide) ?_
            exact c_zret hx hb hr hlocks hK hS () rfl hP (by rw [ftB, if_pos k_21, c_49]; exact (bI_0 (decide_eq_false (by omega)))) dX4_fits_84
          · exact absurd c_53 (by decide)
      · refine n_top (y := nI 1) (by rw [k_21]) ?_
        refine lv_lookup (off := 64) (tgt := 85) hx hb dX4_fits_21 (by decide) (by decide) (by decide) ?_
        refine lv_iload_n hx hb dX4_fits_85 rfl (lv_at hl 0 rfl) ?_
        refine n_if_eq (tgt := 97) hx hb dX4_fits_86 (by decide) (by omega) (fun c_86 => ?_) (fun c_86 => ?_)
        · refine lv_iconst (v := nI (0)) hx hb dX4_fits_97 (by decide) ?_
          exact c_zret hx hb hr hlocks hK hS () rfl hP (by rw [ftB, if_neg (by omega), if_pos k_21, dgB, decide_eq_false (by omega)]; rfl) dX4_fits_98
        · exact absurd c_86 (by decide)
      · refine lv_lookup (off := 78) (tgt := 99) hx hb dX4_fits_21 (by decide) (by show Op.lookupswitch.offset [(0, 27), (1, 64)] 78 _ = _; rw [lv_osw (k := nI 0) (fun h9 => absurd ((nI_eq (by omega) (by decide)).mp h9) (by omega)) (by decide), lv_osw (k := nI 1) (fun h9 => absurd ((nI_eq (by omega) (by decide)).mp h9) (by omega)) (by decide)]; rfl) (by decide) ?_
        refine lv_iload_n hx hb dX4_fits_99 rfl (lv_at hl 1 rfl) ?_
        refine lv_iconst (v := nI (3)) hx hb dX4_fits_100 (by decide) ?_
        refine n_idiv hx hb (by decide) (by omega) (by decide) dX4_fits_101 ?_
        refine lv_iconst (v := nI (1)) hx hb dX4_fits_102 (by decide) ?_
        refine n_iadd hx hb dX4_fits_103 ?_
        refine lv_iload_n hx hb dX4_fits_104 rfl (lv_at hl 2 rfl) ?_
        refine c_calli (va_runS (As := [.int (nI ((k / 3) + (1))), .int (nI (c0))]) (rest := []) ⟨hx, hb, hml, hown, hts⟩ (k_X4_isMarkBehind l dC dI y A (MW y a rn n lo kp dy so he kn ak pl im lo2 dy2 so2 he2 kn2 ma kd len ord kh km pg len2 ord2 kh2 km2 cw tl tO bO lf wo) (EV xK xV A) ((k / 3) + (1)) c0 (by omega) hc) (va_cwS 2 hts gX4_fits_X4_isMarkBehind rfl rfl rfl (by decide +kernel) ⟨Nat.le_of_ble_eq_true rfl, Nat.le_of_ble_eq_true rfl⟩) (c_preS (evN xK xV A) hK hE hS hP) rfl rfl hl.1 rfl (lv_room (Nat.le_of_ble_eq_true rfl)) dX4_fits_105 ⟨Nat.le_refl _, Nat.le_refl _⟩) hS (fun r_105 u_105 H locs hw_105 hP hS => ?_)
        obtain rfl := hw_105
        exact c_zret hx hb hr hlocks hK hS () (bI_nar _) hP (by rw [ftB, if_neg (by omega), if_neg (by omega)]) dX4_fits_108
    · refine lv_iconst (v := nI (1)) hx hb dX4_fits_12 (by decide) ?_
      refine lv_goto (tgt := 17) hx hb dX4_fits_13 (by decide) ?_
      refine lv_istore_n (lv' := [(3, .int (nI (1))), (0, .int (nI (k))), (1, .int (nI (c0))), (2, .int (bI (cl)))]) hx hb dX4_fits_17 rfl hl (by decide) rfl (fun ls hl => ?_)
      refine lv_iload_n hx hb dX4_fits_18 rfl (lv_at hl 1 rfl) ?_
      refine lv_iconst (v := nI (3)) hx hb dX4_fits_19 (by decide) ?_
      refine n_irem hx hb (by decide) (by omega) (by decide) dX4_fits_20 ?_
      rcases (show k % 3 = 0 ∨ k % 3 = 1 ∨ (k % 3 ≠ 0 ∧ k % 3 ≠ 1) by omega) with k_21 | k_21 | k_21
      · refine n_top (y := nI 0) (by rw [k_21]) ?_
        refine lv_lookup (off := 27) (tgt := 48) hx hb dX4_fits_21 (by decide) (by decide) (by decide) ?_
        refine lv_iload_n hx hb dX4_fits_48 rfl (lv_at hl 3 rfl) ?_
        refine n_bif_eq (tgt := 70) hx hb dX4_fits_49 (by decide) (fun c_49 => ?_) (fun c_49 => ?_)
        · refine va_ldcS hx hb hown hE.2.2.2.1 dX4_fits_70 ?_
          refine lv_iload_n hx hb dX4_fits_72 rfl (lv_at hl 2 rfl) ?_
          refine c_calli (va_runV (As := [.int (nI (c0))]) (rest := []) ⟨hx, hb, hml, hown, hts⟩ (k_J0_indexOf_0f7a4 l dC dI y A a hA0 xK xV rn n lo kp dy so he kn ak pl im lo2 dy2 so2 he2 kn2 ma kd len ord kh km pg len2 ord2 kh2 km2 cw tl tO bO lf wo c0 hc) (cwV 1 hts gX4_fits_J0_indexOf_0f7a4 rfl rfl rfl (by decide +kernel) ⟨Nat.le_of_ble_eq_true rfl, Nat.le_of_ble_eq_true rfl⟩) (c_preV (evN xK xV A) hK hE hS hP (vk_recv hE.2.2.2.2.1 (by decide) hS)) rfl rfl hl.1 rfl (lv_room (Nat.le_of_ble_eq_true rfl)) dX4_fits_73 ⟨Nat.le_refl _, Nat.le_refl _⟩) hS (fun r_73 u_73 H locs hw_73 hP hS => ?_)
          refine lv_if_lt (tgt := 83) hx hb dX4_fits_76 (by decide) (fun c_76 => ?_) (fun c_76 => ?_)
          · refine lv_iconst (v := nI (0)) hx hb dX4_fits_83 (by decide) ?_
            exact c_zret hx hb hr hlocks hK hS () rfl hP (by rw [ftB, if_pos k_21, c_49]; exact (bI_0 (hw_73.mp c_76))) dX4_fits_84
          · refine lv_iconst (v := nI (1)) hx hb dX4_fits_79 (by decide) ?_
            refine lv_goto (tgt := 84) hx hb dX4_fits_80 (by decide) ?_
            exact c_zret hx hb hr hlocks hK hS () rfl hP (by rw [ftB, if_pos k_21, c_49]; exact (bI_1 (bnf (fun z => c_76 (hw_73.mpr z))))) dX4_fits_84
        · refine lv_iload_n hx hb dX4_fits_52 rfl (lv_at hl 0 rfl) ?_
          refine n_if_eq (tgt := 66) hx hb dX4_fits_53 (by decide) (by omega) (fun c_53 => ?_) (fun c_53 => ?_)
          · exact absurd c_53 (by decide)
          · refine lv_iload_n hx hb dX4_fits_56 rfl (lv_at hl 2 rfl) ?_
            refine lv_bipush (v := nI (48)) hx hb dX4_fits_57 (by decide) ?_
            refine n_icmp_eq (tgt := 66) hx hb dX4_fits_59 (by decide) (by omega) (by omega) (fun c_59 => ?_) (fun c_59 => ?_)
            · refine lv_iconst (v := nI (0)) hx hb dX4_fits_66 (by decide) ?_
              refine lv_goto (tgt := 84) hx hb dX4_fits_67 (by decide) ?_
              exact c_zret hx hb hr hlocks hK hS () rfl hP (by rw [ftB, if_pos k_21, c_49]; exact (bI_0 (decide_eq_false (by omega)))) dX4_fits_84
            · refine lv_iconst (v := nI (1)) hx hb dX4_fits_62 (by decide) ?_
              refine lv_goto (tgt := 84) hx hb dX4_fits_63 (by decide) ?_
              exact c_zret hx hb hr hlocks hK hS () rfl hP (by rw [ftB, if_pos k_21, c_49]; exact (bI_1 (decide_eq_true (by omega)))) dX4_fits_84
      · refine n_top (y := nI 1) (by rw [k_21]) ?_
        refine lv_lookup (off := 64) (tgt := 85) hx hb dX4_fits_21 (by decide) (by decide) (by decide) ?_
        refine lv_iload_n hx hb dX4_fits_85 rfl (lv_at hl 0 rfl) ?_
        refine n_if_eq (tgt := 97) hx hb dX4_fits_86 (by decide) (by omega) (fun c_86 => ?_) (fun c_86 => ?_)
        · exact absurd c_86 (by decide)
        · refine lv_iload_n hx hb dX4_fits_89 rfl (lv_at hl 3 rfl) ?_
          refine n_bif_ne (tgt := 97) hx hb dX4_fits_90 (by decide) (fun c_90 => ?_) (fun c_90 => ?_)
          · refine lv_iconst (v := nI (0)) hx hb dX4_fits_97 (by decide) ?_
            exact c_zret hx hb hr hlocks hK hS () rfl hP (by rw [ftB, if_neg (by omega), if_pos k_21, c_90, Bool.not_true, Bool.and_false]; rfl) dX4_fits_98
          · refine lv_iconst (v := nI (1)) hx hb dX4_fits_93 (by decide) ?_
            refine lv_goto (tgt := 98) hx hb dX4_fits_94 (by decide) ?_
            exact c_zret hx hb hr hlocks hK hS () rfl hP (by rw [ftB, if_neg (by omega), if_pos k_21, c_90, dgB, decide_eq_true (by omega)]; rfl) dX4_fits_98
      · refine lv_lookup (off := 78) (tgt := 99) hx hb dX4_fits_21 (by decide) (by show Op.lookupswitch.offset [(0, 27), (1, 64)] 78 _ = _; rw [lv_osw (k := nI 0) (fun h9 => absurd ((nI_eq (by omega) (by decide)).mp h9) (by omega)) (by decide), lv_osw (k := nI 1) (fun h9 => absurd ((nI_eq (by omega) (by decide)).mp h9) (by omega)) (by decide)]; rfl) (by decide) ?_
        refine lv_iload_n hx hb dX4_fits_99 rfl (lv_at hl 1 rfl) ?_
        refine lv_iconst (v := nI (3)) hx hb dX4_fits_100 (by decide) ?_
        refine n_idiv hx hb (by decide) (by omega) (by decide) dX4_fits_101 ?_
        refine lv_iconst (v := nI (1)) hx hb dX4_fits_102 (by decide) ?_
        refine n_iadd hx hb dX4_fits_103 ?_
        refine lv_iload_n hx hb dX4_fits_104 rfl (lv_at hl 2 rfl) ?_
        refine c_calli (va_runS (As := [.int (nI ((k / 3) + (1))), .int (nI (c0))]) (rest := []) ⟨hx, hb, hml, hown, hts⟩ (k_X4_isMarkBehind l dC dI y A (MW y a rn n lo kp dy so he kn ak pl im lo2 dy2 so2 he2 kn2 ma kd len ord kh km pg len2 ord2 kh2 km2 cw tl tO bO lf wo) (EV xK xV A) ((k / 3) + (1)) c0 (by omega) hc) (va_cwS 2 hts gX4_fits_X4_isMarkBehind rfl rfl rfl (by decide +kernel) ⟨Nat.le_of_ble_eq_true rfl, Nat.le_of_ble_eq_true rfl⟩) (c_preS (evN xK xV A) hK hE hS hP) rfl rfl hl.1 rfl (lv_room (Nat.le_of_ble_eq_true rfl)) dX4_fits_105 ⟨Nat.le_refl _, Nat.le_refl _⟩) hS (fun r_105 u_105 H locs hw_105 hP hS => ?_)
        obtain rfl := hw_105
        exact c_zret hx hb hr hlocks hK hS () (bI_nar _) hP (by rw [ftB, if_neg (by omega), if_neg (by omega)]) dX4_fits_108
theorem in_X4_firstFault_X4 : ∀ w ∈ wsX40, w ∈ wsX4_firstFault := fun w h => List.mem_cons_of_mem _ (List.mem_append_right _ h)
set_option maxHeartbeats 4000000 in
set_option maxRecDepth 100000 in
theorem k_X4_firstFault (l : Launch) (dC : Nat → ClassId) (dI : Nat → Nat → Nat) (y : Nat → ClassId) (A : Nat → Prop) (a : Nat → Nat) (hA0 : ad_ok A a 34) (xK : Nat → Nat) (xV : Nat → Nat) (rn : Nat) (n : Nat) (lo : Int32) (kp : Nat) (dy : Int32) (so : Int32) (he : Int32) (kn : Nat) (ak : Nat) (pl : Nat) (im : Bool) (lo2 : Int32) (dy2 : Int32) (so2 : Int32) (he2 : Int32) (kn2 : Nat) (ma : Nat) (kd : Nat → Nat) (len : Nat → Nat) (ord : Nat → Nat) (kh : Nat → Nat) (km : Nat → Nat) (pg : Nat → Nat) (len2 : Nat → Nat) (ord2 : Nat → Nat) (kh2 : Nat → Nat) (km2 : Nat → Nat) (cw : Nat → Nat) (tl : Nat → Nat) (tO : Nat → Nat) (bO : Nat → Nat) (lf : Nat → Nat → Nat) (wo : Nat → Nat) (hpl : pl ≤ 21) (hpg : ∀ j, pg j < 128) : Met l yX4_firstFault wsX4_firstFault ({ frames := 5, cells := 0, slots := 0, locals := 114 } : Room) (c_P (dC, dI) vwCl (TY y) (EV xK xV A) (MW y a rn n lo kp dy so he kn ak pl im lo2 dy2 so2 he2 kn2 ma kd len ord kh km pg len2 ord2 kh2 km2 cw tl tO bO lf wo) [.ref (a 1)]) (va_Qi (fun (r : Int32) (u : Unit) => r = nI (ffF pg pl)) (c_B (dC, dI) vwCl (TY y) (fun (u : Unit) => (MW y a rn n lo kp dy so he kn ak pl im lo2 dy2 so2 he2 kn2 ma kd len ord kh km pg len2 ord2 kh2 km2 cw tl tO bO lf wo))) A) 0 0 A := by
  refine Met.ofW (cc := cX4_firstFault) (maxL := 3) (ret := (some .int)) (by decide) rfl ?_
  intro p e s m args below meth c s₁ BB hml hv
  obtain ⟨rfl, hP, hK, hE⟩ := hv
  have hx := BB.exec
  have hb := BB.bytes
  have hr := BB.returns
  have hts := atoms_spec (ws := wsX4_firstFault) BB.pre
  have hown : s.vm.findClass RX4 = some m.cls := findClass_of_methodNamed BB.named
  have hlocks := BB.notSynchronized
  have hS : va_S A s.heap s.heap [] := va_S.rf
  have hl := lv_entry ([.ref (a 1)]) (n := 3) (Nat.le_of_ble_eq_true rfl)
  rw [lg_entry_eq]
  generalize (lg_sl ([.ref (a 1)]) ++ List.replicate (3 - (lg_sl ([.ref (a 1)])).length) Slot.unset).toArray = ls at hl ⊢
  have hl : lv_has ls 3 [(0, .ref (a 1))] := hl
  refine lv_iconst (v := nI (0)) hx hb dX4_firstFault_0 (by decide) ?_
  refine lv_istore_n (lv' := [(1, .int (nI (0))), (0, .ref (a 1))]) hx hb dX4_firstFault_1 rfl hl (by decide) rfl (fun ls hl => ?_)
  refine lv_iconst (v := nI (0)) hx hb dX4_firstFault_2 (by decide) ?_
  refine lv_istore_n (lv' := [(2, .int (nI (0))), (1, .int (nI (0))), (0, .ref (a 1))]) hx hb dX4_firstFault_3 rfl hl (by decide) rfl (fun ls hl => ?_)
  have loop_4 : ∀ (dd_4 : Nat) (k : Nat) (cl : Bool) (hk : k ≤ pl) (hff : ffF pg pl = ffR pg cl (pl - k) k), pl - k < dd_4 → ∀ (H : Heap) (locs : List Loc) (ls : Array Slot), va_P (dC, dI) vwCl (MW y a rn n lo kp dy so he kn ak pl im lo2 dy2 so2 he2 kn2 ma kd len ord kh km pg len2 ord2 kh2 km2 cw tl tO bO lf wo) H → va_S A s.heap H locs → lv_has ls 3 [(2, .int (nI (k))), (1, .int (bI (cl))), (0, .ref (a 1))] → W p l e (headSpec wsX4_firstFault ({ frames := 5, cells := 0, slots := 0, locals := 114 } : Room)).room s m [.ref (a 1)].toArray below meth c H locs 0 0 (MQ below (va_Qi (fun (r : Int32) (u : Unit) => r = nI (ffF pg pl)) (c_B (dC, dI) vwCl (TY y) (fun (u : Unit) => (MW y a rn n lo kp dy so he kn ak pl im lo2 dy2 so2 he2 kn2 ma kd len ord kh km pg len2 ord2 kh2 km2 cw tl tO bO lf wo))) A) [.ref (a 1)].toArray s 0 0 A) (F0 m 4 ls []) := by
    intro dd_4
    induction dd_4 with
    | zero => intro k cl hk hff hd; exact absurd hd (Nat.not_lt_zero _)
    | succ dd_4 ih_4 =>
      intro k cl hk hff hd_4 H locs ls hP hS hl
      refine lv_iload_n hx hb dX4_firstFault_4 rfl (lv_at hl 0 rfl) ?_
      refine lv_aload_n hx hb dX4_firstFault_5 rfl (lv_at hl 2 rfl) ?_
      refine va_get (D := (dC, dI)) (ci := 4) (C := RX4) (T := TX4) (N := 2) hx hb hts in_X4_firstFault_X4 hown hK hP 1 rfl rfl 1 (by decide) (hts (.fieldLink RX4 15 "MilkRound$Page" "size" "I") (List.mem_of_getElem? (i := 1) rfl)) (fun _ h9 => h9) rfl dX4_firstFault_6 ?_
      refine n_icmp_ge (tgt := 55) hx hb dX4_firstFault_9 (by decide) (by omega) (by omega) (fun c_9 => ?_) (fun c_9 => ?_)
      · refine lv_aload_n hx hb dX4_firstFault_55 rfl (lv_at hl 2 rfl) ?_
        refine va_get (D := (dC, dI)) (ci := 4) (C := RX4) (T := TX4) (N := 2) hx hb hts in_X4_firstFault_X4 hown hK hP 1 rfl rfl 1 (by decide) (hts (.fieldLink RX4 15 "MilkRound$Page" "size" "I") (List.mem_of_getElem? (i := 1) rfl)) (fun _ h9 => h9) rfl dX4_firstFault_56 ?_
        exact c_iret hx hb hr hlocks hK hS () hP (by rw [hff, show pl - k = 0 by omega, show k = pl by omega]; rfl) dX4_firstFault_59
      · refine lv_iload_n hx hb dX4_firstFault_12 rfl (lv_at hl 0 rfl) ?_
        refine lv_aload_n hx hb dX4_firstFault_13 rfl (lv_at hl 2 rfl) ?_
        refine va_get (D := (dC, dI)) (ci := 4) (C := RX4) (T := TX4) (N := 2) hx hb hts in_X4_firstFault_X4 hown hK hP 1 rfl rfl 0 (by decide) (hts (.fieldLink RX4 11 "MilkRound$Page" "signs" "[C") (List.mem_of_getElem? (i := 2) rfl)) (fun _ h9 => h9) rfl dX4_firstFault_14 ?_
        refine lv_iload_n hx hb dX4_firstFault_17 rfl (lv_at hl 0 rfl) ?_
        refine n_cald hx hb hK hP 2 2 rfl rfl (by omega) (by decide) dX4_firstFault_18 ?_
        have hb_18 := hpg k
        refine lv_iload_n hx hb dX4_firstFault_19 rfl (lv_at hl 1 rfl) ?_
        refine c_calli (va_runS (As := [.int (nI (k)), .int (nI (pg k)), .int (bI (cl))]) (rest := []) ⟨hx, hb, hml, hown, hts⟩ (k_X4_fits l dC dI y A a hA0 xK xV rn n lo kp dy so he kn ak pl im lo2 dy2 so2 he2 kn2 ma kd len ord kh km pg len2 ord2 kh2 km2 cw tl tO bO lf wo k (pg k) cl (by omega) (hpg _)) (va_cwS 3 hts gX4_firstFault_X4_fits rfl rfl rfl (by decide +kernel) ⟨Nat.le_of_ble_eq_true rfl, Nat.le_of_ble_eq_true rfl⟩) (c_preS (evN xK xV A) hK hE hS hP) rfl rfl hl.1 rfl (lv_room (Nat.le_of_ble_eq_true rfl)) dX4_firstFault_20 ⟨Nat.le_refl _, Nat.le_refl _⟩) hS (fun r_20 u_20 H locs hw_20 hP hS => ?_)
        obtain rfl := hw_20
        refine n_bif_ne (tgt := 28) hx hb dX4_firstFault_23 (by decide) (fun c_23 => ?_) (fun c_23 => ?_)
        · refine lv_iload_n hx hb dX4_firstFault_28 rfl (lv_at hl 1 rfl) ?_
          refine n_bif_ne (tgt := 43) hx hb dX4_firstFault_29 (by decide) (fun c_29 => ?_) (fun c_29 => ?_)
          · refine lv_iconst (v := nI (1)) hx hb dX4_firstFault_43 (by decide) ?_
            refine lv_goto (tgt := 48) hx hb dX4_firstFault_44 (by decide) ?_
            refine lv_istore_n (lv' := [(1, .int (nI (1))), (2, .int (nI (k))), (0, .ref (a 1))]) hx hb dX4_firstFault_48 rfl hl (by decide) rfl (fun ls hl => ?_)
            refine lv_iinc (v := nI (k + 1)) (lv' := [(2, .int (nI (k + 1))), (1, .int (nI (1))), (0, .ref (a 1))]) hx hb dX4_firstFault_49 hl (k := 1) rfl (mr_inc _) (by decide) rfl (fun ls hl => ?_)
            refine lv_goto (tgt := 4) hx hb dX4_firstFault_52 (by decide) ?_
            have hd9 : pl - k = (pl - (k + 1)) + 1 := by omega
            exact ih_4 (k + 1) true (by omega) (by rw [hff, hd9, ffR_ok c_23, c_29]; rfl) (by omega) _ _ _ hP hS (lv_sub hl [0, 1, 2] rfl)
          · refine lv_aload_n hx hb dX4_firstFault_32 rfl (lv_at hl 2 rfl) ?_
            refine va_get (D := (dC, dI)) (ci := 4) (C := RX4) (T := TX4) (N := 2) hx hb hts in_X4_firstFault_X4 hown hK hP 1 rfl rfl 0 (by decide) (hts (.fieldLink RX4 11 "MilkRound$Page" "signs" "[C") (List.mem_of_getElem? (i := 2) rfl)) (fun _ h9 => h9) rfl dX4_firstFault_33 ?_
            refine lv_iload_n hx hb dX4_firstFault_36 rfl (lv_at hl 0 rfl) ?_
            refine n_cald hx hb hK hP 2 2 rfl rfl (by omega) (by decide) dX4_firstFault_37 ?_
            have hb_37 := hpg k
            refine lv_bipush (v := nI (59)) hx hb dX4_firstFault_38 (by decide) ?_
            refine n_icmp_ne (tgt := 47) hx hb dX4_firstFault_40 (by decide) (by omega) (by omega) (fun c_40 => ?_) (fun c_40 => ?_)
            · refine lv_iconst (v := nI (0)) hx hb dX4_firstFault_47 (by decide) ?_
              refine lv_istore_n (lv' := [(1, .int (nI (0))), (2, .int (nI (k))), (0, .ref (a 1))]) hx hb dX4_firstFault_48 rfl hl (by decide) rfl (fun ls hl => ?_)
              refine lv_iinc (v := nI (k + 1)) (lv' := [(2, .int (nI (k + 1))), (1, .int (nI (0))), (0, .ref (a 1))]) hx hb dX4_firstFault_49 hl (k := 1) rfl (mr_inc _) (by decide) rfl (fun ls hl => ?_)
              refine lv_goto (tgt := 4) hx hb dX4_firstFault_52 (by decide) ?_
              have hd9 : pl - k = (pl - (k + 1)) + 1 := by omega
              exact ih_4 (k + 1) false (by omega) (by rw [hff, hd9, ffR_ok c_23, c_29, decide_eq_false c_40]; rfl) (by omega) _ _ _ hP hS (lv_sub hl [0, 1, 2] rfl)
            · refine lv_iconst (v := nI (1)) hx hb dX4_firstFault_43 (by decide) ?_
              refine lv_goto (tgt := 48) hx hb dX4_firstFault_44 (by decide) ?_
              refine lv_istore_n (lv' := [(1, .int (nI (1))), (2, .int (nI (k))), (0, .ref (a 1))]) hx hb dX4_firstFault_48 rfl hl (by decide) rfl (fun ls hl => ?_)
              refine lv_iinc (v := nI (k + 1)) (lv' := [(2, .int (nI (k + 1))), (1, .int (nI (1))), (0, .ref (a 1))]) hx hb dX4_firstFault_49 hl (k := 1) rfl (mr_inc _) (by decide) rfl (fun ls hl => ?_)
              refine lv_goto (tgt := 4) hx hb dX4_firstFault_52 (by decide) ?_
              have hd9 : pl - k = (pl - (k + 1)) + 1 := by omega
              exact ih_4 (k + 1) true (by omega) (by rw [hff, hd9, ffR_ok c_23, c_29, decide_eq_true c_40]; rfl) (by omega) _ _ _ hP hS (lv_sub hl [0, 1, 2] rfl)
        · refine lv_iload_n hx hb dX4_firstFault_26 rfl (lv_at hl 0 rfl) ?_
          exact c_iret hx hb hr hlocks hK hS () hP (by rw [hff, show pl - k = (pl - (k + 1)) + 1 by omega, ffR_no c_23]) dX4_firstFault_27
  exact loop_4 _ 0 false (Nat.zero_le _) rfl (Nat.lt_succ_self _) _ _ _ hP hS (lv_sub hl [0, 1, 2] rfl)
theorem in_X4_isWhole_X4 : ∀ w ∈ wsX40, w ∈ wsX4_isWhole := fun w h => List.mem_cons_of_mem _ (List.mem_append_right _ h)
set_option maxHeartbeats 4000000 in
set_option maxRecDepth 100000 in
theorem k_X4_isWhole (l : Launch) (dC : Nat → ClassId) (dI : Nat → Nat → Nat) (y : Nat → ClassId) (A : Nat → Prop) (a : Nat → Nat) (hA0 : ad_ok A a 34) (xK : Nat → Nat) (xV : Nat → Nat) (rn : Nat) (n : Nat) (lo : Int32) (kp : Nat) (dy : Int32) (so : Int32) (he : Int32) (kn : Nat) (ak : Nat) (pl : Nat) (im : Bool) (lo2 : Int32) (dy2 : Int32) (so2 : Int32) (he2 : Int32) (kn2 : Nat) (ma : Nat) (kd : Nat → Nat) (len : Nat → Nat) (ord : Nat → Nat) (kh : Nat → Nat) (km : Nat → Nat) (pg : Nat → Nat) (len2 : Nat → Nat) (ord2 : Nat → Nat) (kh2 : Nat → Nat) (km2 : Nat → Nat) (cw : Nat → Nat) (tl : Nat → Nat) (tO : Nat → Nat) (bO : Nat → Nat) (lf : Nat → Nat → Nat) (wo : Nat → Nat) (hpl : pl ≤ 21) (hpg : ∀ j, pg j < 128) : Met l yX4_isWhole wsX4_isWhole ({ frames := 6, cells := 0, slots := 0, locals := 136 } : Room) (c_P (dC, dI) vwCl (TY y) (EV xK xV A) (MW y a rn n lo kp dy so he kn ak pl im lo2 dy2 so2 he2 kn2 ma kd len ord kh km pg len2 ord2 kh2 km2 cw tl tO bO lf wo) [.ref (a 1)]) (va_Qi (fun (r : Int32) (u : Unit) => r = bI (whlB pg pl)) (c_B (dC, dI) vwCl (TY y) (fun (u : Unit) => (MW y a rn n lo kp dy so he kn ak pl im lo2 dy2 so2 he2 kn2 ma kd len ord kh km pg len2 ord2 kh2 km2 cw tl tO bO lf wo))) A) 0 0 A := by
  refine Met.ofW (cc := cX4_isWhole) (maxL := 1) (ret := (some .boolean)) (by decide) rfl ?_
  intro p e s m args below meth c s₁ BB hml hv
  obtain ⟨rfl, hP, hK, hE⟩ := hv
  have hx := BB.exec
  have hb := BB.bytes
  have hr := BB.returns
  have hts := atoms_spec (ws := wsX4_isWhole) BB.pre
  have hown : s.vm.findClass RX4 = some m.cls := findClass_of_methodNamed BB.named
  have hlocks := BB.notSynchronized
  have hS : va_S A s.heap s.heap [] := va_S.rf
  have hl := lv_entry ([.ref (a 1)]) (n := 1) (Nat.le_of_ble_eq_true rfl)
  rw [lg_entry_eq]
  generalize (lg_sl ([.ref (a 1)]) ++ List.replicate (1 - (lg_sl ([.ref (a 1)])).length) Slot.unset).toArray = ls at hl ⊢
  have hl : lv_has ls 1 [(0, .ref (a 1))] := hl
  refine lv_aload_n hx hb dX4_isWhole_0 rfl (lv_at hl 0 rfl) ?_
  refine va_get (D := (dC, dI)) (ci := 4) (C := RX4) (T := TX4) (N := 2) hx hb hts in_X4_isWhole_X4 hown hK hP 1 rfl rfl 1 (by decide) (hts (.fieldLink RX4 15 "MilkRound$Page" "size" "I") (List.mem_of_getElem? (i := 1) rfl)) (fun _ h9 => h9) rfl dX4_isWhole_1 ?_
  refine lv_iconst (v := nI (2)) hx hb dX4_isWhole_4 (by decide) ?_
  refine n_icmp_lt (tgt := 39) hx hb dX4_isWhole_5 (by decide) (by omega) (by omega) (fun c_5 => ?_) (fun c_5 => ?_)
  · refine lv_iconst (v := nI (0)) hx hb dX4_isWhole_39 (by decide) ?_
    exact c_zret hx hb hr hlocks hK hS () rfl hP (bI_0 (decide_eq_false (fun q => by omega))) dX4_isWhole_40
  · refine lv_aload_n hx hb dX4_isWhole_8 rfl (lv_at hl 0 rfl) ?_
    refine va_get (D := (dC, dI)) (ci := 4) (C := RX4) (T := TX4) (N := 2) hx hb hts in_X4_isWhole_X4 hown hK hP 1 rfl rfl 0 (by decide) (hts (.fieldLink RX4 11 "MilkRound$Page" "signs" "[C") (List.mem_of_getElem? (i := 2) rfl)) (fun _ h9 => h9) rfl dX4_isWhole_9 ?_
    refine lv_aload_n hx hb dX4_isWhole_12 rfl (lv_at hl 0 rfl) ?_
    refine va_get (D := (dC, dI)) (ci := 4) (C := RX4) (T := TX4) (N := 2) hx hb hts in_X4_isWhole_X4 hown hK hP 1 rfl rfl 1 (by decide) (hts (.fieldLink RX4 15 "MilkRound$Page" "size" "I") (List.mem_of_getElem? (i := 1) rfl)) (fun _ h9 => h9) rfl dX4_isWhole_13 ?_
    refine lv_iconst (v := nI (2)) hx hb dX4_isWhole_16 (by decide) ?_
    refine n_isub hx hb (by omega) dX4_isWhole_17 ?_
    refine n_cald hx hb hK hP 2 2 rfl rfl (by omega) (by decide) dX4_isWhole_18 ?_
    have hb_18 := hpg (pl - 2)
    refine lv_bipush (v := nI (59)) hx hb dX4_isWhole_19 (by decide) ?_
    refine n_icmp_ne (tgt := 39) hx hb dX4_isWhole_21 (by decide) (by omega) (by omega) (fun c_21 => ?_) (fun c_21 => ?_)
    · refine lv_iconst (v := nI (0)) hx hb dX4_isWhole_39 (by decide) ?_
      exact c_zret hx hb hr hlocks hK hS () rfl hP (bI_0 (decide_eq_false (fun q => c_21 q.2.1))) dX4_isWhole_40
    · refine lv_aload_n hx hb dX4_isWhole_24 rfl (lv_at hl 0 rfl) ?_
      refine c_calli (va_runV (As := []) (rest := []) ⟨hx, hb, hml, hown, hts⟩ (k_X4_firstFault l dC dI y A a hA0 xK xV rn n lo kp dy so he kn ak pl im lo2 dy2 so2 he2 kn2 ma kd len ord kh km pg len2 ord2 kh2 km2 cw tl tO bO lf wo  hpl hpg) (cwV 0 hts gX4_isWhole_X4_firstFault rfl rfl rfl (by decide +kernel) ⟨Nat.le_of_ble_eq_true rfl, Nat.le_of_ble_eq_true rfl⟩) (c_preV (evN xK xV A) hK hE hS hP (va_recv hK hP (ci := 4) (q0 := 1) rfl rfl)) rfl rfl hl.1 rfl (lv_room (Nat.le_of_ble_eq_true rfl)) dX4_isWhole_25 ⟨Nat.le_refl _, Nat.le_refl _⟩) hS (fun r_25 u_25 H locs hw_25 hP hS => ?_)
      obtain rfl := hw_25
      have hffl := ffR_le (pg := pg) pl false 0
      have hffm : ffF pg pl ≤ 0 + pl := hffl
      refine lv_aload_n hx hb dX4_isWhole_28 rfl (lv_at hl 0 rfl) ?_
      refine va_get (D := (dC, dI)) (ci := 4) (C := RX4) (T := TX4) (N := 2) hx hb hts in_X4_isWhole_X4 hown hK hP 1 rfl rfl 1 (by decide) (hts (.fieldLink RX4 15 "MilkRound$Page" "size" "I") (List.mem_of_getElem? (i := 1) rfl)) (fun _ h9 => h9) rfl dX4_isWhole_29 ?_
      refine n_icmp_ne (tgt := 39) hx hb dX4_isWhole_32 (by decide) (by omega) (by omega) (fun c_32 => ?_) (fun c_32 => ?_)
      · refine lv_iconst (v := nI (0)) hx hb dX4_isWhole_39 (by decide) ?_
        exact c_zret hx hb hr hlocks hK hS () rfl hP (bI_0 (decide_eq_false (fun q => c_32 q.2.2))) dX4_isWhole_40
      · refine lv_iconst (v := nI (1)) hx hb dX4_isWhole_35 (by decide) ?_
        refine lv_goto (tgt := 40) hx hb dX4_isWhole_36 (by decide) ?_
        exact c_zret hx hb hr hlocks hK hS () rfl hP (bI_1 (decide_eq_true ⟨by omega, c_21, c_32⟩)) dX4_isWhole_40
theorem in_X10_fault_X10 : ∀ w ∈ wsX100, w ∈ wsX10_fault := fun w h => List.mem_cons_of_mem _ (List.mem_append_left _ (List.mem_append_right _ h))
set_option maxHeartbeats 4000000 in
set_option maxRecDepth 100000 in
theorem k_X10_fault (l : Launch) (dC : Nat → ClassId) (dI : Nat → Nat → Nat) (y : Nat → ClassId) (A : Nat → Prop) (a : Nat → Nat) (hA0 : ad_ok A a 34) (xK : Nat → Nat) (xV : Nat → Nat) (rn : Nat) (n : Nat) (lo : Int32) (kp : Nat) (dy : Int32) (so : Int32) (he : Int32) (kn : Nat) (ak : Nat) (pl : Nat) (im : Bool) (lo2 : Int32) (dy2 : Int32) (so2 : Int32) (he2 : Int32) (kn2 : Nat) (ma : Nat) (kd : Nat → Nat) (len : Nat → Nat) (ord : Nat → Nat) (kh : Nat → Nat) (km : Nat → Nat) (pg : Nat → Nat) (len2 : Nat → Nat) (ord2 : Nat → Nat) (kh2 : Nat → Nat) (km2 : Nat → Nat) (cw : Nat → Nat) (tl : Nat → Nat) (tO : Nat → Nat) (bO : Nat → Nat) (lf : Nat → Nat → Nat) (wo : Nat → Nat) (hpl : pl ≤ 21) (hpg : ∀ j, pg j < 128) : Met l yX10_fault wsX10_fault ({ frames := 6, cells := 0, slots := 0, locals := 136 } : Room) (c_P (dC, dI) vwCl (TY y) (EV xK xV A) (MW y a rn n lo kp dy so he kn ak pl im lo2 dy2 so2 he2 kn2 ma kd len ord kh km pg len2 ord2 kh2 km2 cw tl tO bO lf wo) [.ref (a 0)]) (va_Qi (fun (r : Int32) (u : Unit) => r = nI (ffF pg pl)) (c_B (dC, dI) vwCl (TY y) (fun (u : Unit) => (MW y a rn n lo kp dy so he kn ak pl im lo2 dy2 so2 he2 kn2 ma kd len ord kh km pg len2 ord2 kh2 km2 cw tl tO bO lf wo))) A) 0 0 A := by
  refine Met.ofW (cc := cX10_fault) (maxL := 1) (ret := (some .int)) (by decide) rfl ?_
  intro p e s m args below meth c s₁ BB hml hv
  obtain ⟨rfl, hP, hK, hE⟩ := hv
  have hx := BB.exec
  have hb := BB.bytes
  have hr := BB.returns
  have hts := atoms_spec (ws := wsX10_fault) BB.pre
  have hown : s.vm.findClass RX10 = some m.cls := findClass_of_methodNamed BB.named
  have hlocks := BB.notSynchronized
  have hS : va_S A s.heap s.heap [] := va_S.rf
  have hl := lv_entry ([.ref (a 0)]) (n := 1) (Nat.le_of_ble_eq_true rfl)
  rw [lg_entry_eq]
  generalize (lg_sl ([.ref (a 0)]) ++ List.replicate (1 - (lg_sl ([.ref (a 0)])).length) Slot.unset).toArray = ls at hl ⊢
  have hl : lv_has ls 1 [(0, .ref (a 0))] := hl
  refine lv_aload_n hx hb dX10_fault_0 rfl (lv_at hl 0 rfl) ?_
  refine va_get (D := (dC, dI)) (ci := 10) (C := RX10) (T := TX10) (N := 12) hx hb hts in_X10_fault_X10 hown hK hP 0 rfl rfl 0 (by decide) (hts (.fieldLink RX10 10 "MilkRound" "page" "LMilkRound$Page;") (List.mem_of_getElem? (i := 1) rfl)) (fun _ h9 => h9) rfl dX10_fault_1 ?_
  refine c_calli (va_runV (As := []) (rest := []) ⟨hx, hb, hml, hown, hts⟩ (k_X4_firstFault l dC dI y A a hA0 xK xV rn n lo kp dy so he kn ak pl im lo2 dy2 so2 he2 kn2 ma kd len ord kh km pg len2 ord2 kh2 km2 cw tl tO bO lf wo  hpl hpg) (cwV 0 hts gX10_fault_X4_firstFault rfl rfl rfl (by decide +kernel) ⟨Nat.le_of_ble_eq_true rfl, Nat.le_of_ble_eq_true rfl⟩) (c_preV (evN xK xV A) hK hE hS hP (va_recv hK hP (ci := 4) (q0 := 1) rfl rfl)) rfl rfl hl.1 rfl (lv_room (Nat.le_of_ble_eq_true rfl)) dX10_fault_4 ⟨Nat.le_refl _, Nat.le_refl _⟩) hS (fun r_4 u_4 H locs hw_4 hP hS => ?_)
  obtain rfl := hw_4
  exact c_iret hx hb hr hlocks hK hS () hP rfl dX10_fault_7
theorem in_X4_houses_X4 : ∀ w ∈ wsX40, w ∈ wsX4_houses := fun w h => List.mem_cons_of_mem _ (List.mem_append_right _ h)
set_option maxHeartbeats 4000000 in
set_option maxRecDepth 100000 in
theorem k_X4_houses (l : Launch) (dC : Nat → ClassId) (dI : Nat → Nat → Nat) (y : Nat → ClassId) (A : Nat → Prop) (a : Nat → Nat) (hA0 : ad_ok A a 34) (xK : Nat → Nat) (xV : Nat → Nat) (rn : Nat) (n : Nat) (lo : Int32) (kp : Nat) (dy : Int32) (so : Int32) (he : Int32) (kn : Nat) (ak : Nat) (pl : Nat) (im : Bool) (lo2 : Int32) (dy2 : Int32) (so2 : Int32) (he2 : Int32) (kn2 : Nat) (ma : Nat) (kd : Nat → Nat) (len : Nat → Nat) (ord : Nat → Nat) (kh : Nat → Nat) (km : Nat → Nat) (pg : Nat → Nat) (len2 : Nat → Nat) (ord2 : Nat → Nat) (kh2 : Nat → Nat) (km2 : Nat → Nat) (cw : Nat → Nat) (tl : Nat → Nat) (tO : Nat → Nat) (bO : Nat → Nat) (lf : Nat → Nat → Nat) (wo : Nat → Nat) (hpl : pl ≤ 21) : Met l yX4_houses wsX4_houses ({ frames := 0, cells := 0, slots := 0, locals := 0 } : Room) (c_P (dC, dI) vwCl (TY y) (EV xK xV A) (MW y a rn n lo kp dy so he kn ak pl im lo2 dy2 so2 he2 kn2 ma kd len ord kh km pg len2 ord2 kh2 km2 cw tl tO bO lf wo) [.ref (a 1)]) (va_Qi (fun (r : Int32) (u : Unit) => r = nI (pl / 3)) (c_B (dC, dI) vwCl (TY y) (fun (u : Unit) => (MW y a rn n lo kp dy so he kn ak pl im lo2 dy2 so2 he2 kn2 ma kd len ord kh km pg len2 ord2 kh2 km2 cw tl tO bO lf wo))) A) 0 0 A := by
  refine Met.ofW (cc := cX4_houses) (maxL := 1) (ret := (some .int)) (by decide) rfl ?_
  intro p e s m args below meth c s₁ BB hml hv
  obtain ⟨rfl, hP, hK, hE⟩ := hv
  have hx := BB.exec
  have hb := BB.bytes
  have hr := BB.returns
  have hts := atoms_spec (ws := wsX4_houses) BB.pre
  have hown : s.vm.findClass RX4 = some m.cls := findClass_of_methodNamed BB.named
  have hlocks := BB.notSynchronized
  have hS : va_S A s.heap s.heap [] := va_S.rf
  have hl := lv_entry ([.ref (a 1)]) (n := 1) (Nat.le_of_ble_eq_true rfl)
  rw [lg_entry_eq]
  generalize (lg_sl ([.ref (a 1)]) ++ List.replicate (1 - (lg_sl ([.ref (a 1)])).length) Slot.unset).toArray = ls at hl ⊢
  have hl : lv_has ls 1 [(0, .ref (a 1))] := hl
  refine lv_aload_n hx hb dX4_houses_0 rfl (lv_at hl 0 rfl) ?_
  refine va_get (D := (dC, dI)) (ci := 4) (C := RX4) (T := TX4) (N := 2) hx hb hts in_X4_houses_X4 hown hK hP 1 rfl rfl 1 (by decide) (hts (.fieldLink RX4 15 "MilkRound$Page" "size" "I") (List.mem_of_getElem? (i := 1) rfl)) (fun _ h9 => h9) rfl dX4_houses_1 ?_
  refine lv_iconst (v := nI (3)) hx hb dX4_houses_4 (by decide) ?_
  refine n_idiv hx hb (by decide) (by omega) (by decide) dX4_houses_5 ?_
  exact c_iret hx hb hr hlocks hK hS () hP rfl dX4_houses_6
theorem in_X4_kindSignAt_X4 : ∀ w ∈ wsX40, w ∈ wsX4_kindSignAt := fun w h => List.mem_cons_of_mem _ (List.mem_append_right _ h)
set_option maxHeartbeats 4000000 in
set_option maxRecDepth 100000 in
theorem k_X4_kindSignAt (l : Launch) (dC : Nat → ClassId) (dI : Nat → Nat → Nat) (y : Nat → ClassId) (A : Nat → Prop) (a : Nat → Nat) (hA0 : ad_ok A a 34) (xK : Nat → Nat) (xV : Nat → Nat) (rn : Nat) (n : Nat) (lo : Int32) (kp : Nat) (dy : Int32) (so : Int32) (he : Int32) (kn : Nat) (ak : Nat) (pl : Nat) (im : Bool) (lo2 : Int32) (dy2 : Int32) (so2 : Int32) (he2 : Int32) (kn2 : Nat) (ma : Nat) (kd : Nat → Nat) (len : Nat → Nat) (ord : Nat → Nat) (kh : Nat → Nat) (km : Nat → Nat) (pg : Nat → Nat) (len2 : Nat → Nat) (ord2 : Nat → Nat) (kh2 : Nat → Nat) (km2 : Nat → Nat) (cw : Nat → Nat) (tl : Nat → Nat) (tO : Nat → Nat) (bO : Nat → Nat) (lf : Nat → Nat → Nat) (wo : Nat → Nat) (h : Nat) (hh : 3 * h < 21) (hpg : ∀ j, pg j < 128) : Met l yX4_kindSignAt wsX4_kindSignAt ({ frames := 0, cells := 0, slots := 0, locals := 0 } : Room) (c_P (dC, dI) vwCl (TY y) (EV xK xV A) (MW y a rn n lo kp dy so he kn ak pl im lo2 dy2 so2 he2 kn2 ma kd len ord kh km pg len2 ord2 kh2 km2 cw tl tO bO lf wo) [.ref (a 1), .int (nI (h))]) (va_Qi (fun (r : Int32) (u : Unit) => r = nI (pg (3 * h))) (c_B (dC, dI) vwCl (TY y) (fun (u : Unit) => (MW y a rn n lo kp dy so he kn ak pl im lo2 dy2 so2 he2 kn2 ma kd len ord kh km pg len2 ord2 kh2 km2 cw tl tO bO lf wo))) A) 0 0 A := by
  refine Met.ofW (cc := cX4_kindSignAt) (maxL := 2) (ret := (some .char)) (by decide) rfl ?_
  intro p e s m args below meth c s₁ BB hml hv
  obtain ⟨rfl, hP, hK, hE⟩ := hv
  have hx := BB.exec
  have hb := BB.bytes
  have hr := BB.returns
  have hts := atoms_spec (ws := wsX4_kindSignAt) BB.pre
  have hown : s.vm.findClass RX4 = some m.cls := findClass_of_methodNamed BB.named
  have hlocks := BB.notSynchronized
  have hS : va_S A s.heap s.heap [] := va_S.rf
  have hl := lv_entry ([.ref (a 1), .int (nI (h))]) (n := 2) (Nat.le_of_ble_eq_true rfl)
  rw [lg_entry_eq]
  generalize (lg_sl ([.ref (a 1), .int (nI (h))]) ++ List.replicate (2 - (lg_sl ([.ref (a 1), .int (nI (h))])).length) Slot.unset).toArray = ls at hl ⊢
  have hl : lv_has ls 2 [(0, .ref (a 1)), (1, .int (nI (h)))] := hl
  refine lv_aload_n hx hb dX4_kindSignAt_0 rfl (lv_at hl 0 rfl) ?_
  refine va_get (D := (dC, dI)) (ci := 4) (C := RX4) (T := TX4) (N := 2) hx hb hts in_X4_kindSignAt_X4 hown hK hP 1 rfl rfl 0 (by decide) (hts (.fieldLink RX4 11 "MilkRound$Page" "signs" "[C") (List.mem_of_getElem? (i := 1) rfl)) (fun _ h9 => h9) rfl dX4_kindSignAt_1 ?_
  refine lv_iconst (v := nI (3)) hx hb dX4_kindSignAt_4 (by decide) ?_
  refine lv_iload_n hx hb dX4_kindSignAt_5 rfl (lv_at hl 1 rfl) ?_
  refine n_imul hx hb dX4_kindSignAt_6 ?_
  refine n_cald hx hb hK hP 2 2 rfl rfl (by omega) (by decide) dX4_kindSignAt_7 ?_
  exact c_zret hx hb hr hlocks hK hS () (pk_charN (by have := hpg (3 * h); omega)).1 hP rfl dX4_kindSignAt_8
theorem in_X4_lengthAt_X4 : ∀ w ∈ wsX40, w ∈ wsX4_lengthAt := fun w h => List.mem_cons_of_mem _ (List.mem_append_right _ h)
set_option maxHeartbeats 4000000 in
set_option maxRecDepth 100000 in
theorem k_X4_lengthAt (l : Launch) (dC : Nat → ClassId) (dI : Nat → Nat → Nat) (y : Nat → ClassId) (A : Nat → Prop) (a : Nat → Nat) (hA0 : ad_ok A a 34) (xK : Nat → Nat) (xV : Nat → Nat) (rn : Nat) (n : Nat) (lo : Int32) (kp : Nat) (dy : Int32) (so : Int32) (he : Int32) (kn : Nat) (ak : Nat) (pl : Nat) (im : Bool) (lo2 : Int32) (dy2 : Int32) (so2 : Int32) (he2 : Int32) (kn2 : Nat) (ma : Nat) (kd : Nat → Nat) (len : Nat → Nat) (ord : Nat → Nat) (kh : Nat → Nat) (km : Nat → Nat) (pg : Nat → Nat) (len2 : Nat → Nat) (ord2 : Nat → Nat) (kh2 : Nat → Nat) (km2 : Nat → Nat) (cw : Nat → Nat) (tl : Nat → Nat) (tO : Nat → Nat) (bO : Nat → Nat) (lf : Nat → Nat → Nat) (wo : Nat → Nat) (h : Nat) (hh : 3 * h + 1 < 21) (hq : 48 ≤ pg (3 * h + 1)) : Met l yX4_lengthAt wsX4_lengthAt ({ frames := 0, cells := 0, slots := 0, locals := 0 } : Room) (c_P (dC, dI) vwCl (TY y) (EV xK xV A) (MW y a rn n lo kp dy so he kn ak pl im lo2 dy2 so2 he2 kn2 ma kd len ord kh km pg len2 ord2 kh2 km2 cw tl tO bO lf wo) [.ref (a 1), .int (nI (h))]) (va_Qi (fun (r : Int32) (u : Unit) => r = nI (pg (3 * h + 1) - 48)) (c_B (dC, dI) vwCl (TY y) (fun (u : Unit) => (MW y a rn n lo kp dy so he kn ak pl im lo2 dy2 so2 he2 kn2 ma kd len ord kh km pg len2 ord2 kh2 km2 cw tl tO bO lf wo))) A) 0 0 A := by
  refine Met.ofW (cc := cX4_lengthAt) (maxL := 2) (ret := (some .int)) (by decide) rfl ?_
  intro p e s m args below meth c s₁ BB hml hv
  obtain ⟨rfl, hP, hK, hE⟩ := hv
  have hx := BB.exec
  have hb := BB.bytes
  have hr := BB.returns
  have hts := atoms_spec (ws := wsX4_lengthAt) BB.pre
  have hown : s.vm.findClass RX4 = some m.cls := findClass_of_methodNamed BB.named
  have hlocks := BB.notSynchronized
  have hS : va_S A s.heap s.heap [] := va_S.rf
  have hl := lv_entry ([.ref (a 1), .int (nI (h))]) (n := 2) (Nat.le_of_ble_eq_true rfl)
  rw [lg_entry_eq]
  generalize (lg_sl ([.ref (a 1), .int (nI (h))]) ++ List.replicate (2 - (lg_sl ([.ref (a 1), .int (nI (h))])).length) Slot.unset).toArray = ls at hl ⊢
  have hl : lv_has ls 2 [(0, .ref (a 1)), (1, .int (nI (h)))] := hl
  refine lv_aload_n hx hb dX4_lengthAt_0 rfl (lv_at hl 0 rfl) ?_
  refine va_get (D := (dC, dI)) (ci := 4) (C := RX4) (T := TX4) (N := 2) hx hb hts in_X4_lengthAt_X4 hown hK hP 1 rfl rfl 0 (by decide) (hts (.fieldLink RX4 11 "MilkRound$Page" "signs" "[C") (List.mem_of_getElem? (i := 1) rfl)) (fun _ h9 => h9) rfl dX4_lengthAt_1 ?_
  refine lv_iconst (v := nI (3)) hx hb dX4_lengthAt_4 (by decide) ?_
  refine lv_iload_n hx hb dX4_lengthAt_5 rfl (lv_at hl 1 rfl) ?_
  refine n_imul hx hb dX4_lengthAt_6 ?_
  refine lv_iconst (v := nI (1)) hx hb dX4_lengthAt_7 (by decide) ?_
  refine n_iadd hx hb dX4_lengthAt_8 ?_
  refine n_cald hx hb hK hP 2 2 rfl rfl (by omega) (by decide) dX4_lengthAt_9 ?_
  refine lv_bipush (v := nI (48)) hx hb dX4_lengthAt_10 (by decide) ?_
  refine n_isub hx hb (by omega) dX4_lengthAt_12 ?_
  exact c_iret hx hb hr hlocks hK hS () hP rfl dX4_lengthAt_13
theorem in_X4_keepAtEnd_X4 : ∀ w ∈ wsX40, w ∈ wsX4_keepAtEnd := fun w h => List.mem_cons_of_mem _ (List.mem_append_right _ h)
set_option maxHeartbeats 4000000 in
set_option maxRecDepth 100000 in
theorem k_X4_keepAtEnd (l : Launch) (dC : Nat → ClassId) (dI : Nat → Nat → Nat) (y : Nat → ClassId) (A : Nat → Prop) (a : Nat → Nat) (hA0 : ad_ok A a 34) (xK : Nat → Nat) (xV : Nat → Nat) (rn : Nat) (n : Nat) (lo : Int32) (kp : Nat) (dy : Int32) (so : Int32) (he : Int32) (kn : Nat) (ak : Nat) (pl : Nat) (im : Bool) (lo2 : Int32) (dy2 : Int32) (so2 : Int32) (he2 : Int32) (kn2 : Nat) (ma : Nat) (kd : Nat → Nat) (len : Nat → Nat) (ord : Nat → Nat) (kh : Nat → Nat) (km : Nat → Nat) (pg : Nat → Nat) (len2 : Nat → Nat) (ord2 : Nat → Nat) (kh2 : Nat → Nat) (km2 : Nat → Nat) (cw : Nat → Nat) (tl : Nat → Nat) (tO : Nat → Nat) (bO : Nat → Nat) (lf : Nat → Nat → Nat) (wo : Nat → Nat) (hpl : pl ≤ 21) (hp0 : 1 ≤ pl) (hq : 48 ≤ pg (pl - 1)) : Met l yX4_keepAtEnd wsX4_keepAtEnd ({ frames := 0, cells := 0, slots := 0, locals := 0 } : Room) (c_P (dC, dI) vwCl (TY y) (EV xK xV A) (MW y a rn n lo kp dy so he kn ak pl im lo2 dy2 so2 he2 kn2 ma kd len ord kh km pg len2 ord2 kh2 km2 cw tl tO bO lf wo) [.ref (a 1)]) (va_Qi (fun (r : Int32) (u : Unit) => r = nI (pg (pl - 1) - 48)) (c_B (dC, dI) vwCl (TY y) (fun (u : Unit) => (MW y a rn n lo kp dy so he kn ak pl im lo2 dy2 so2 he2 kn2 ma kd len ord kh km pg len2 ord2 kh2 km2 cw tl tO bO lf wo))) A) 0 0 A := by
  refine Met.ofW (cc := cX4_keepAtEnd) (maxL := 1) (ret := (some .int)) (by decide) rfl ?_
  intro p e s m args below meth c s₁ BB hml hv
  obtain ⟨rfl, hP, hK, hE⟩ := hv
  have hx := BB.exec
  have hb := BB.bytes
  have hr := BB.returns
  have hts := atoms_spec (ws := wsX4_keepAtEnd) BB.pre
  have hown : s.vm.findClass RX4 = some m.cls := findClass_of_methodNamed BB.named
  have hlocks := BB.notSynchronized
  have hS : va_S A s.heap s.heap [] := va_S.rf
  have hl := lv_entry ([.ref (a 1)]) (n := 1) (Nat.le_of_ble_eq_true rfl)
  rw [lg_entry_eq]
  generalize (lg_sl ([.ref (a 1)]) ++ List.replicate (1 - (lg_sl ([.ref (a 1)])).length) Slot.unset).toArray = ls at hl ⊢
  have hl : lv_has ls 1 [(0, .ref (a 1))] := hl
  refine lv_aload_n hx hb dX4_keepAtEnd_0 rfl (lv_at hl 0 rfl) ?_
  refine va_get (D := (dC, dI)) (ci := 4) (C := RX4) (T := TX4) (N := 2) hx hb hts in_X4_keepAtEnd_X4 hown hK hP 1 rfl rfl 0 (by decide) (hts (.fieldLink RX4 11 "MilkRound$Page" "signs" "[C") (List.mem_of_getElem? (i := 1) rfl)) (fun _ h9 => h9) rfl dX4_keepAtEnd_1 ?_
  refine lv_aload_n hx hb dX4_keepAtEnd_4 rfl (lv_at hl 0 rfl) ?_
  refine va_get (D := (dC, dI)) (ci := 4) (C := RX4) (T := TX4) (N := 2) hx hb hts in_X4_keepAtEnd_X4 hown hK hP 1 rfl rfl 1 (by decide) (hts (.fieldLink RX4 15 "MilkRound$Page" "size" "I") (List.mem_of_getElem? (i := 2) rfl)) (fun _ h9 => h9) rfl dX4_keepAtEnd_5 ?_
  refine lv_iconst (v := nI (1)) hx hb dX4_keepAtEnd_8 (by decide) ?_
  refine n_isub hx hb (by omega) dX4_keepAtEnd_9 ?_
  refine n_cald hx hb hK hP 2 2 rfl rfl (by omega) (by decide) dX4_keepAtEnd_10 ?_
  refine lv_bipush (v := nI (48)) hx hb dX4_keepAtEnd_11 (by decide) ?_
  refine n_isub hx hb (by omega) dX4_keepAtEnd_13 ?_
  exact c_iret hx hb hr hlocks hK hS () hP rfl dX4_keepAtEnd_14
theorem in_X6_houseOf_X6 : ∀ w ∈ wsX60, w ∈ wsX6_houseOf := fun w h => List.mem_cons_of_mem _ (List.mem_append_right _ h)
set_option maxHeartbeats 4000000 in
set_option maxRecDepth 100000 in
theorem k_X6_houseOf (l : Launch) (dC : Nat → ClassId) (dI : Nat → Nat → Nat) (y : Nat → ClassId) (A : Nat → Prop) (a : Nat → Nat) (hA0 : ad_ok A a 34) (xK : Nat → Nat) (xV : Nat → Nat) (rn : Nat) (n : Nat) (lo : Int32) (kp : Nat) (dy : Int32) (so : Int32) (he : Int32) (kn : Nat) (ak : Nat) (pl : Nat) (im : Bool) (lo2 : Int32) (dy2 : Int32) (so2 : Int32) (he2 : Int32) (kn2 : Nat) (ma : Nat) (kd : Nat → Nat) (len : Nat → Nat) (ord : Nat → Nat) (kh : Nat → Nat) (km : Nat → Nat) (pg : Nat → Nat) (len2 : Nat → Nat) (ord2 : Nat → Nat) (kh2 : Nat → Nat) (km2 : Nat → Nat) (cw : Nat → Nat) (tl : Nat → Nat) (tO : Nat → Nat) (bO : Nat → Nat) (lf : Nat → Nat → Nat) (wo : Nat → Nat) (c0 : Nat) (hc : c0 < 128) : Met l yX6_houseOf wsX6_houseOf ({ frames := 0, cells := 0, slots := 0, locals := 0 } : Room) (c_P (dC, dI) vwCl (TY y) (EV xK xV A) (MW y a rn n lo kp dy so he kn ak pl im lo2 dy2 so2 he2 kn2 ma kd len ord kh km pg len2 ord2 kh2 km2 cw tl tO bO lf wo) [.ref (a 3), .int (nI (c0))]) (va_Qr (fun (u : Unit) => True) (fun (u : Unit) ra t => ra = a (4 + kdN c0) ∧ va_P (dC, dI) vwCl (MW y a rn n lo kp dy so he kn ak pl im lo2 dy2 so2 he2 kn2 ma kd len ord kh km pg len2 ord2 kh2 km2 cw tl tO bO lf wo) t.heap ∧ va_K (dC, dI) vwCl (TY y) t) A) 0 0 A := by
  refine Met.ofW (cc := cX6_houseOf) (maxL := 2) (ret := (some (.object "MilkRound$House"))) (by decide) rfl ?_
  intro p e s m args below meth c s₁ BB hml hv
  obtain ⟨rfl, hP, hK, hE⟩ := hv
  have hx := BB.exec
  have hb := BB.bytes
  have hr := BB.returns
  have hts := atoms_spec (ws := wsX6_houseOf) BB.pre
  have hown : s.vm.findClass RX6 = some m.cls := findClass_of_methodNamed BB.named
  have hlocks := BB.notSynchronized
  have hS : va_S A s.heap s.heap [] := va_S.rf
  have hl := lv_entry ([.ref (a 3), .int (nI (c0))]) (n := 2) (Nat.le_of_ble_eq_true rfl)
  rw [lg_entry_eq]
  generalize (lg_sl ([.ref (a 3), .int (nI (c0))]) ++ List.replicate (2 - (lg_sl ([.ref (a 3), .int (nI (c0))])).length) Slot.unset).toArray = ls at hl ⊢
  have hl : lv_has ls 2 [(0, .ref (a 3)), (1, .int (nI (c0)))] := hl
  refine lv_iload_n hx hb dX6_houseOf_0 rfl (lv_at hl 1 rfl) ?_
  rcases (show c0 = 97 ∨ c0 = 98 ∨ c0 = 115 ∨ c0 = 119 ∨ (c0 ≠ 97 ∧ c0 ≠ 98 ∧ c0 ≠ 115 ∧ c0 ≠ 119) by omega) with k_1 | k_1 | k_1 | k_1 | k_1
  · refine n_top (y := nI 97) (by rw [k_1]) ?_
    refine lv_lookup (off := 48) (tgt := 49) hx hb dX6_houseOf_1 (by decide) (by decide) (by decide) ?_
    refine lv_aload_n hx hb dX6_houseOf_49 rfl (lv_at hl 0 rfl) ?_
    refine va_get (D := (dC, dI)) (ci := 6) (C := RX6) (T := TX6) (N := 8) hx hb hts in_X6_houseOf_X6 hown hK hP 3 rfl rfl 2 (by decide) (hts (.fieldLink RX6 25 "MilkRound$Street" "alone" "LMilkRound$House;") (List.mem_of_getElem? (i := 2) rfl)) (fun _ h9 => h9) rfl dX6_houseOf_50 ?_
    exact c_aret hx hb hr hlocks hK hS () hP trivial (by rw [k_1]; rfl) dX6_houseOf_53
  · refine n_top (y := nI 98) (by rw [k_1]) ?_
    refine lv_lookup (off := 53) (tgt := 54) hx hb dX6_houseOf_1 (by decide) (by decide) (by decide) ?_
    refine lv_aload_n hx hb dX6_houseOf_54 rfl (lv_at hl 0 rfl) ?_
    refine va_get (D := (dC, dI)) (ci := 6) (C := RX6) (T := TX6) (N := 8) hx hb hts in_X6_houseOf_X6 hown hK hP 3 rfl rfl 3 (by decide) (hts (.fieldLink RX6 31 "MilkRound$Street" "bad" "LMilkRound$House;") (List.mem_of_getElem? (i := 3) rfl)) (fun _ h9 => h9) rfl dX6_houseOf_55 ?_
    exact c_aret hx hb hr hlocks hK hS () hP trivial (by rw [k_1]; rfl) dX6_houseOf_58
  · refine n_top (y := nI 115) (by rw [k_1]) ?_
    refine lv_lookup (off := 43) (tgt := 44) hx hb dX6_houseOf_1 (by decide) (by decide) (by decide) ?_
    refine lv_aload_n hx hb dX6_houseOf_44 rfl (lv_at hl 0 rfl) ?_
    refine va_get (D := (dC, dI)) (ci := 6) (C := RX6) (T := TX6) (N := 8) hx hb hts in_X6_houseOf_X6 hown hK hP 3 rfl rfl 1 (by decide) (hts (.fieldLink RX6 19 "MilkRound$Street" "sea" "LMilkRound$House;") (List.mem_of_getElem? (i := 1) rfl)) (fun _ h9 => h9) rfl dX6_houseOf_45 ?_
    exact c_aret hx hb hr hlocks hK hS () hP trivial (by rw [k_1]; rfl) dX6_houseOf_48
  · refine n_top (y := nI 119) (by rw [k_1]) ?_
    refine lv_lookup (off := 58) (tgt := 59) hx hb dX6_houseOf_1 (by decide) (by decide) (by decide) ?_
    refine lv_aload_n hx hb dX6_houseOf_59 rfl (lv_at hl 0 rfl) ?_
    refine va_get (D := (dC, dI)) (ci := 6) (C := RX6) (T := TX6) (N := 8) hx hb hts in_X6_houseOf_X6 hown hK hP 3 rfl rfl 4 (by decide) (hts (.fieldLink RX6 37 "MilkRound$Street" "war" "LMilkRound$House;") (List.mem_of_getElem? (i := 4) rfl)) (fun _ h9 => h9) rfl dX6_houseOf_60 ?_
    exact c_aret hx hb hr hlocks hK hS () hP trivial (by rw [k_1]; rfl) dX6_houseOf_63
  · refine lv_lookup (off := 63) (tgt := 64) hx hb dX6_houseOf_1 (by decide) (by show Op.lookupswitch.offset [(97, 48), (98, 53), (115, 43), (119, 58)] 63 _ = _; rw [lv_osw (k := nI 97) (fun h9 => absurd ((nI_eq (by omega) (by decide)).mp h9) (by omega)) (by decide), lv_osw (k := nI 98) (fun h9 => absurd ((nI_eq (by omega) (by decide)).mp h9) (by omega)) (by decide), lv_osw (k := nI 115) (fun h9 => absurd ((nI_eq (by omega) (by decide)).mp h9) (by omega)) (by decide), lv_osw (k := nI 119) (fun h9 => absurd ((nI_eq (by omega) (by decide)).mp h9) (by omega)) (by decide)]; rfl) (by decide) ?_
    refine lv_aload_n hx hb dX6_houseOf_64 rfl (lv_at hl 0 rfl) ?_
    refine va_get (D := (dC, dI)) (ci := 6) (C := RX6) (T := TX6) (N := 8) hx hb hts in_X6_houseOf_X6 hown hK hP 3 rfl rfl 0 (by decide) (hts (.fieldLink RX6 10 "MilkRound$Street" "plain" "LMilkRound$House;") (List.mem_of_getElem? (i := 5) rfl)) (fun _ h9 => h9) rfl dX6_houseOf_65 ?_
    exact c_aret hx hb hr hlocks hK hS () hP trivial (by rw [kdN, if_neg (by omega), if_neg (by omega), if_neg (by omega), if_neg (by omega)]) dX6_houseOf_68
theorem in_X6_settle_X6 : ∀ w ∈ wsX60, w ∈ wsX6_settle := fun w h => List.mem_cons_of_mem _ (List.mem_append_left _ (List.mem_append_right _ h))
set_option maxHeartbeats 4000000 in
set_option maxRecDepth 100000 in
theorem k_X6_settle (l : Launch) (dC : Nat → ClassId) (dI : Nat → Nat → Nat) (y : Nat → ClassId) (A : Nat → Prop) (a : Nat → Nat) (hA0 : ad_ok A a 34) (xK : Nat → Nat) (xV : Nat → Nat) (rn : Nat) (n : Nat) (lo : Int32) (kp : Nat) (dy : Int32) (so : Int32) (he : Int32) (kn : Nat) (ak : Nat) (pl : Nat) (im : Bool) (lo2 : Int32) (dy2 : Int32) (so2 : Int32) (he2 : Int32) (kn2 : Nat) (ma : Nat) (kd : Nat → Nat) (len : Nat → Nat) (ord : Nat → Nat) (kh : Nat → Nat) (km : Nat → Nat) (pg : Nat → Nat) (len2 : Nat → Nat) (ord2 : Nat → Nat) (kh2 : Nat → Nat) (km2 : Nat → Nat) (cw : Nat → Nat) (tl : Nat → Nat) (tO : Nat → Nat) (bO : Nat → Nat) (lf : Nat → Nat → Nat) (wo : Nat → Nat) (hpl : pl ≤ 21) (hpg : ∀ j, pg j < 128) (hW : whlB pg pl = true) : Met l yX6_settle wsX6_settle ({ frames := 1, cells := 0, slots := 0, locals := 21 } : Room) (c_P (dC, dI) vwCl (TY y) (EV xK xV A) (MW y a rn n lo kp dy so he kn ak pl im lo2 dy2 so2 he2 kn2 ma kd len ord kh km pg len2 ord2 kh2 km2 cw tl tO bO lf wo) [.ref (a 3), .ref (a 1)]) (va_Qv (fun (u : Unit) => True) (c_B (dC, dI) vwCl (TY y) (fun (u : Unit) => (MW y a rn (pl / 3) lo (pg (pl - 1) - 48) dy so he kn ak pl im lo2 dy2 so2 he2 kn2 ma (mixF (pl / 3) (kdG pg) kd) len ord kh km pg len2 ord2 kh2 km2 cw tl tO bO lf wo))) A) 0 0 A := by
  refine Met.ofW (cc := cX6_settle) (maxL := 3) (ret := none) (by decide) rfl ?_
  intro p e s m args below meth c s₁ BB hml hv
  obtain ⟨rfl, hP, hK, hE⟩ := hv
  have hx := BB.exec
  have hb := BB.bytes
  have hr := BB.returns
  have hts := atoms_spec (ws := wsX6_settle) BB.pre
  have hown : s.vm.findClass RX6 = some m.cls := findClass_of_methodNamed BB.named
  have hlocks := BB.notSynchronized
  have hS : va_S A s.heap s.heap [] := va_S.rf
  have hl := lv_entry ([.ref (a 3), .ref (a 1)]) (n := 3) (Nat.le_of_ble_eq_true rfl)
  rw [lg_entry_eq]
  generalize (lg_sl ([.ref (a 3), .ref (a 1)]) ++ List.replicate (3 - (lg_sl ([.ref (a 3), .ref (a 1)])).length) Slot.unset).toArray = ls at hl ⊢
  have hl : lv_has ls 3 [(0, .ref (a 3)), (1, .ref (a 1))] := hl
  obtain ⟨hp1, hp2, hp3, hp4, hp5⟩ := PgW_whl hW
  refine lv_aload_n hx hb dX6_settle_0 rfl (lv_at hl 0 rfl) ?_
  refine lv_aload_n hx hb dX6_settle_1 rfl (lv_at hl 1 rfl) ?_
  refine c_calli (va_runV (As := []) (rest := [.ref (a 3)]) ⟨hx, hb, hml, hown, hts⟩ (k_X4_houses l dC dI y A a hA0 xK xV rn n lo kp dy so he kn ak pl im lo2 dy2 so2 he2 kn2 ma kd len ord kh km pg len2 ord2 kh2 km2 cw tl tO bO lf wo  hpl) (cwV 0 hts gX6_settle_X4_houses rfl rfl rfl (by decide +kernel) ⟨Nat.le_of_ble_eq_true rfl, Nat.le_of_ble_eq_true rfl⟩) (c_preV (evN xK xV A) hK hE hS hP (va_recv hK hP (ci := 4) (q0 := 1) rfl rfl)) rfl rfl hl.1 rfl (lv_room (Nat.le_of_ble_eq_true rfl)) dX6_settle_2 ⟨Nat.le_refl _, Nat.le_refl _⟩) hS (fun r_2 u_2 H locs hw_2 hP hS => ?_)
  obtain rfl := hw_2
  refine va_put (D := (dC, dI)) (ci := 6) (ty := tyX6 6) (C := RX6) (T := TX6) (N := 8) hx hb hts in_X6_settle_X6 tyX6 tyX6_ok nmX6 hown hK hP (ad_D hA0 rfl) hS 3 rfl rfl 6 (by decide) (hts (.fieldLink RX6 44 "MilkRound$Street" "size" "I") (List.mem_of_getElem? (i := 1) rfl)) (fun _ h9 => h9) rfl (tyX6_ok 6 (by decide)) rfl rfl (Nat.le_of_ble_eq_true rfl) dX6_settle_5 (fun H locs hP _ hS => ?_)
  have hP : va_P (dC, dI) vwCl (MW y a rn (pl / 3) lo kp dy so he kn ak pl im lo2 dy2 so2 he2 kn2 ma kd len ord kh km pg len2 ord2 kh2 km2 cw tl tO bO lf wo) H := hP
  refine lv_aload_n hx hb dX6_settle_8 rfl (lv_at hl 0 rfl) ?_
  refine lv_aload_n hx hb dX6_settle_9 rfl (lv_at hl 1 rfl) ?_
  refine c_calli (va_runV (As := []) (rest := [.ref (a 3)]) ⟨hx, hb, hml, hown, hts⟩ (k_X4_keepAtEnd l dC dI y A a hA0 xK xV rn (pl / 3) lo kp dy so he kn ak pl im lo2 dy2 so2 he2 kn2 ma kd len ord kh km pg len2 ord2 kh2 km2 cw tl tO bO lf wo  hpl (by omega) (by have q9 := of_decide_eq_true hp5; rw [show 3 * (pl / 3) = pl - 1 by omega] at q9; omega)) (cwV 0 hts gX6_settle_X4_keepAtEnd rfl rfl rfl (by decide +kernel) ⟨Nat.le_of_ble_eq_true rfl, Nat.le_of_ble_eq_true rfl⟩) (c_preV (evN xK xV A) hK hE hS hP (va_recv hK hP (ci := 4) (q0 := 1) rfl rfl)) rfl rfl hl.1 rfl (lv_room (Nat.le_of_ble_eq_true rfl)) dX6_settle_10 ⟨Nat.le_refl _, Nat.le_refl _⟩) hS (fun r_10 u_10 H locs hw_10 hP hS => ?_)
  obtain rfl := hw_10
  refine va_put (D := (dC, dI)) (ci := 6) (ty := tyX6 7) (C := RX6) (T := TX6) (N := 8) hx hb hts in_X6_settle_X6 tyX6 tyX6_ok nmX6 hown hK hP (ad_D hA0 rfl) hS 3 rfl rfl 7 (by decide) (hts (.fieldLink RX6 48 "MilkRound$Street" "keep" "I") (List.mem_of_getElem? (i := 2) rfl)) (fun _ h9 => h9) rfl (tyX6_ok 7 (by decide)) rfl rfl (Nat.le_of_ble_eq_true rfl) dX6_settle_13 (fun H locs hP _ hS => ?_)
  have hP : va_P (dC, dI) vwCl (MW y a rn (pl / 3) lo (pg (pl - 1) - 48) dy so he kn ak pl im lo2 dy2 so2 he2 kn2 ma kd len ord kh km pg len2 ord2 kh2 km2 cw tl tO bO lf wo) H := hP
  refine lv_iconst (v := nI (0)) hx hb dX6_settle_16 (by decide) ?_
  refine lv_istore_n (lv' := [(2, .int (nI (0))), (0, .ref (a 3)), (1, .ref (a 1))]) hx hb dX6_settle_17 rfl hl (by decide) rfl (fun ls hl => ?_)
  have loop_18 : ∀ (dd_18 : Nat) (h : Nat) (hh : h ≤ pl / 3), pl / 3 - h < dd_18 → ∀ (H : Heap) (locs : List Loc) (ls : Array Slot), va_P (dC, dI) vwCl (MW y a rn (pl / 3) lo (pg (pl - 1) - 48) dy so he kn ak pl im lo2 dy2 so2 he2 kn2 ma (mixF h (kdG pg) kd) len ord kh km pg len2 ord2 kh2 km2 cw tl tO bO lf wo) H → va_S A s.heap H locs → lv_has ls 3 [(2, .int (nI (h))), (0, .ref (a 3)), (1, .ref (a 1))] → W p l e (headSpec wsX6_settle ({ frames := 1, cells := 0, slots := 0, locals := 21 } : Room)).room s m [.ref (a 3), .ref (a 1)].toArray below meth c H locs 0 0 (MQ below (va_Qv (fun (u : Unit) => True) (c_B (dC, dI) vwCl (TY y) (fun (u : Unit) => (MW y a rn (pl / 3) lo (pg (pl - 1) - 48) dy so he kn ak pl im lo2 dy2 so2 he2 kn2 ma (mixF (pl / 3) (kdG pg) kd) len ord kh km pg len2 ord2 kh2 km2 cw tl tO bO lf wo))) A) [.ref (a 3), .ref (a 1)].toArray s 0 0 A) (F0 m 18 ls []) := by
    intro dd_18
    induction dd_18 with
    | zero => intro h hh hd; exact absurd hd (Nat.not_lt_zero _)
    | succ dd_18 ih_18 =>
      intro h hh hd_18 H locs ls hP hS hl
      refine lv_iload_n hx hb dX6_settle_18 rfl (lv_at hl 0 rfl) ?_
      refine lv_aload_n hx hb dX6_settle_19 rfl (lv_at hl 1 rfl) ?_
      refine va_get (D := (dC, dI)) (ci := 6) (C := RX6) (T := TX6) (N := 8) hx hb hts in_X6_settle_X6 hown hK hP 3 rfl rfl 6 (by decide) (hts (.fieldLink RX6 44 "MilkRound$Street" "size" "I") (List.mem_of_getElem? (i := 1) rfl)) (fun _ h9 => h9) rfl dX6_settle_20 ?_
      refine n_icmp_ge (tgt := 47) hx hb dX6_settle_23 (by decide) (by omega) (by omega) (fun c_23 => ?_) (fun c_23 => ?_)
      · have hhn : h = pl / 3 := by omega
        have hP : va_P (dC, dI) vwCl (MW y a rn (pl / 3) lo (pg (pl - 1) - 48) dy so he kn ak pl im lo2 dy2 so2 he2 kn2 ma (mixF (pl / 3) (kdG pg) kd) len ord kh km pg len2 ord2 kh2 km2 cw tl tO bO lf wo) H := by
          rw [hhn] at hP
          exact hP
        exact c_vret hx hb hr hlocks hK hS () hP trivial dX6_settle_47
      · refine lv_aload_n hx hb dX6_settle_26 rfl (lv_at hl 1 rfl) ?_
        refine va_get (D := (dC, dI)) (ci := 6) (C := RX6) (T := TX6) (N := 8) hx hb hts in_X6_settle_X6 hown hK hP 3 rfl rfl 5 (by decide) (hts (.fieldLink RX6 40 "MilkRound$Street" "houses" "[LMilkRound$House;") (List.mem_of_getElem? (i := 3) rfl)) (fun _ h9 => h9) rfl dX6_settle_27 ?_
        refine lv_iload_n hx hb dX6_settle_30 rfl (lv_at hl 0 rfl) ?_
        have hkn9 := kdN_le (pg (3 * h))
        refine lv_aload_n hx hb dX6_settle_31 rfl (lv_at hl 1 rfl) ?_
        refine lv_aload_n hx hb dX6_settle_32 rfl (lv_at hl 2 rfl) ?_
        refine lv_iload_n hx hb dX6_settle_33 rfl (lv_at hl 0 rfl) ?_
        refine c_calli (va_runV (As := [.int (nI (h))]) (rest := [.ref (a 3), .int (nI (h)), .ref (a 9)]) ⟨hx, hb, hml, hown, hts⟩ (k_X4_kindSignAt l dC dI y A a hA0 xK xV rn (pl / 3) lo (pg (pl - 1) - 48) dy so he kn ak pl im lo2 dy2 so2 he2 kn2 ma (mixF h (kdG pg) kd) len ord kh km pg len2 ord2 kh2 km2 cw tl tO bO lf wo h (by omega) hpg) (cwV 1 hts gX6_settle_X4_kindSignAt rfl rfl rfl (by decide +kernel) ⟨Nat.le_of_ble_eq_true rfl, Nat.le_of_ble_eq_true rfl⟩) (c_preV (evN xK xV A) hK hE hS hP (va_recv hK hP (ci := 4) (q0 := 1) rfl rfl)) rfl rfl hl.1 rfl (lv_room (Nat.le_of_ble_eq_true rfl)) dX6_settle_34 ⟨Nat.le_refl _, Nat.le_refl _⟩) hS (fun r_34 u_34 H locs hw_34 hP hS => ?_)
        obtain rfl := hw_34
        refine c_callr (va_runV (As := [.int (nI (pg (3 * h)))]) (rest := [.int (nI (h)), .ref (a 9)]) ⟨hx, hb, hml, hown, hts⟩ (k_X6_houseOf l dC dI y A a hA0 xK xV rn (pl / 3) lo (pg (pl - 1) - 48) dy so he kn ak pl im lo2 dy2 so2 he2 kn2 ma (mixF h (kdG pg) kd) len ord kh km pg len2 ord2 kh2 km2 cw tl tO bO lf wo (pg (3 * h)) (hpg _)) (cwV 1 hts gX6_settle_X6_houseOf rfl rfl rfl (by decide +kernel) ⟨Nat.le_of_ble_eq_true rfl, Nat.le_of_ble_eq_true rfl⟩) (c_preV (evN xK xV A) hK hE hS hP (va_recv hK hP (ci := 6) (q0 := 3) rfl rfl)) rfl rfl hl.1 rfl (lv_room (Nat.le_of_ble_eq_true rfl)) dX6_settle_37 ⟨Nat.le_refl _, Nat.le_refl _⟩) hS (fun u_37 H locs hw_37 hP hS => ?_)
        rcases (show kdN (pg (3 * h)) = 0 ∨ kdN (pg (3 * h)) = 1 ∨ kdN (pg (3 * h)) = 2 ∨ kdN (pg (3 * h)) = 3 ∨ kdN (pg (3 * h)) = 4 by omega) with ek_40 | ek_40 | ek_40 | ek_40 | ek_40
        · refine n_topr (z := a (4 + 0)) (by rw [ek_40]) ?_
          refine n_astq hx hb hK hP (ad_D hA0 rfl) hS 9 3 4 3 rfl rfl rfl rfl (by omega) (by decide) dX6_settle_40 (fun H locs hP hS => ?_)
          rw [show va_up (fun j => some (a (4 + (mixF h (kdG pg) kd) j))) h (some (a 4)) = _ from mr_upH a (mixF h (kdG pg) kd) h 0] at hP
          have hP : va_P (dC, dI) vwCl (MW y a rn (pl / 3) lo (pg (pl - 1) - 48) dy so he kn ak pl im lo2 dy2 so2 he2 kn2 ma (va_up (mixF h (kdG pg) kd) h 0) len ord kh km pg len2 ord2 kh2 km2 cw tl tO bO lf wo) H := hP
          refine lv_iinc (v := nI (h + 1)) (lv' := [(2, .int (nI (h + 1))), (0, .ref (a 3)), (1, .ref (a 1))]) hx hb dX6_settle_41 hl (k := 0) rfl (mr_inc _) (by decide) rfl (fun ls hl => ?_)
          refine lv_goto (tgt := 18) hx hb dX6_settle_44 (by decide) ?_
          exact ih_18 (h + 1) (by omega) (by omega) _ _ _ (by rw [← mixF_s, show kdG pg h = 0 from ek_40]; exact hP) hS (lv_sub hl [0, 1, 2] rfl)
        · refine n_topr (z := a (4 + 1)) (by rw [ek_40]) ?_
          refine n_astO hx hb hK hP (ad_D hA0 rfl) hS 9 3 5 5 rfl rfl hE.2.1.1 rfl rfl (by omega) (by decide) dX6_settle_40 (fun H locs hP hS => ?_)
          rw [show va_up (fun j => some (a (4 + (mixF h (kdG pg) kd) j))) h (some (a 5)) = _ from mr_upH a (mixF h (kdG pg) kd) h 1] at hP
          have hP : va_P (dC, dI) vwCl (MW y a rn (pl / 3) lo (pg (pl - 1) - 48) dy so he kn ak pl im lo2 dy2 so2 he2 kn2 ma (va_up (mixF h (kdG pg) kd) h 1) len ord kh km pg len2 ord2 kh2 km2 cw tl tO bO lf wo) H := hP
          refine lv_iinc (v := nI (h + 1)) (lv' := [(2, .int (nI (h + 1))), (0, .ref (a 3)), (1, .ref (a 1))]) hx hb dX6_settle_41 hl (k := 0) rfl (mr_inc _) (by decide) rfl (fun ls hl => ?_)
          refine lv_goto (tgt := 18) hx hb dX6_settle_44 (by decide) ?_
          exact ih_18 (h + 1) (by omega) (by omega) _ _ _ (by rw [← mixF_s, show kdG pg h = 1 from ek_40]; exact hP) hS (lv_sub hl [0, 1, 2] rfl)
        · refine n_topr (z := a (4 + 2)) (by rw [ek_40]) ?_
          refine n_astO hx hb hK hP (ad_D hA0 rfl) hS 9 3 6 0 rfl rfl hE.2.1.2.1 rfl rfl (by omega) (by decide) dX6_settle_40 (fun H locs hP hS => ?_)
          rw [show va_up (fun j => some (a (4 + (mixF h (kdG pg) kd) j))) h (some (a 6)) = _ from mr_upH a (mixF h (kdG pg) kd) h 2] at hP
          have hP : va_P (dC, dI) vwCl (MW y a rn (pl / 3) lo (pg (pl - 1) - 48) dy so he kn ak pl im lo2 dy2 so2 he2 kn2 ma (va_up (mixF h (kdG pg) kd) h 2) len ord kh km pg len2 ord2 kh2 km2 cw tl tO bO lf wo) H := hP
          refine lv_iinc (v := nI (h + 1)) (lv' := [(2, .int (nI (h + 1))), (0, .ref (a 3)), (1, .ref (a 1))]) hx hb dX6_settle_41 hl (k := 0) rfl (mr_inc _) (by decide) rfl (fun ls hl => ?_)
          refine lv_goto (tgt := 18) hx hb dX6_settle_44 (by decide) ?_
          exact ih_18 (h + 1) (by omega) (by omega) _ _ _ (by rw [← mixF_s, show kdG pg h = 2 from ek_40]; exact hP) hS (lv_sub hl [0, 1, 2] rfl)
        · refine n_topr (z := a (4 + 3)) (by rw [ek_40]) ?_
          refine n_astO hx hb hK hP (ad_D hA0 rfl) hS 9 3 7 1 rfl rfl hE.2.1.2.2.1 rfl rfl (by omega) (by decide) dX6_settle_40 (fun H locs hP hS => ?_)
          rw [show va_up (fun j => some (a (4 + (mixF h (kdG pg) kd) j))) h (some (a 7)) = _ from mr_upH a (mixF h (kdG pg) kd) h 3] at hP
          have hP : va_P (dC, dI) vwCl (MW y a rn (pl / 3) lo (pg (pl - 1) - 48) dy so he kn ak pl im lo2 dy2 so2 he2 kn2 ma (va_up (mixF h (kdG pg) kd) h 3) len ord kh km pg len2 ord2 kh2 km2 cw tl tO bO lf wo) H := hP
          refine lv_iinc (v := nI (h + 1)) (lv' := [(2, .int (nI (h + 1))), (0, .ref (a 3)), (1, .ref (a 1))]) hx hb dX6_settle_41 hl (k := 0) rfl (mr_inc _) (by decide) rfl (fun ls hl => ?_)
          refine lv_goto (tgt := 18) hx hb dX6_settle_44 (by decide) ?_
          exact ih_18 (h + 1) (by omega) (by omega) _ _ _ (by rw [← mixF_s, show kdG pg h = 3 from ek_40]; exact hP) hS (lv_sub hl [0, 1, 2] rfl)
        · refine n_topr (z := a (4 + 4)) (by rw [ek_40]) ?_
          refine n_astO hx hb hK hP (ad_D hA0 rfl) hS 9 3 8 9 rfl rfl hE.2.1.2.2.2.1 rfl rfl (by omega) (by decide) dX6_settle_40 (fun H locs hP hS => ?_)
          rw [show va_up (fun j => some (a (4 + (mixF h (kdG pg) kd) j))) h (some (a 8)) = _ from mr_upH a (mixF h (kdG pg) kd) h 4] at hP
          have hP : va_P (dC, dI) vwCl (MW y a rn (pl / 3) lo (pg (pl - 1) - 48) dy so he kn ak pl im lo2 dy2 so2 he2 kn2 ma (va_up (mixF h (kdG pg) kd) h 4) len ord kh km pg len2 ord2 kh2 km2 cw tl tO bO lf wo) H := hP
          refine lv_iinc (v := nI (h + 1)) (lv' := [(2, .int (nI (h + 1))), (0, .ref (a 3)), (1, .ref (a 1))]) hx hb dX6_settle_41 hl (k := 0) rfl (mr_inc _) (by decide) rfl (fun ls hl => ?_)
          refine lv_goto (tgt := 18) hx hb dX6_settle_44 (by decide) ?_
          exact ih_18 (h + 1) (by omega) (by omega) _ _ _ (by rw [← mixF_s, show kdG pg h = 4 from ek_40]; exact hP) hS (lv_sub hl [0, 1, 2] rfl)
  exact loop_18 _ 0 (Nat.zero_le _) (Nat.lt_succ_self _) _ _ _ (by rw [mixF_0]; exact hP) hS (lv_sub hl [0, 1, 2] rfl)
theorem in_X2_begin_X2 : ∀ w ∈ wsX20, w ∈ wsX2_begin := fun w h => List.mem_cons_of_mem _ (List.mem_append_left _ (List.mem_append_right _ h))
set_option maxHeartbeats 4000000 in
set_option maxRecDepth 100000 in
theorem k_X2_begin (l : Launch) (dC : Nat → ClassId) (dI : Nat → Nat → Nat) (y : Nat → ClassId) (A : Nat → Prop) (a : Nat → Nat) (hA0 : ad_ok A a 34) (xK : Nat → Nat) (xV : Nat → Nat) (rn : Nat) (n : Nat) (lo : Int32) (kp : Nat) (dy : Int32) (so : Int32) (he : Int32) (kn : Nat) (ak : Nat) (pl : Nat) (im : Bool) (lo2 : Int32) (dy2 : Int32) (so2 : Int32) (he2 : Int32) (kn2 : Nat) (ma : Nat) (kd : Nat → Nat) (len : Nat → Nat) (ord : Nat → Nat) (kh : Nat → Nat) (km : Nat → Nat) (pg : Nat → Nat) (len2 : Nat → Nat) (ord2 : Nat → Nat) (kh2 : Nat → Nat) (km2 : Nat → Nat) (cw : Nat → Nat) (tl : Nat → Nat) (tO : Nat → Nat) (bO : Nat → Nat) (lf : Nat → Nat → Nat) (wo : Nat → Nat) (z : Nat) (hz : z ≤ 6) (hq : ∀ h, h < z → 48 ≤ pg (3 * h + 1)) : Met l yX2_begin wsX2_begin ({ frames := 1, cells := 0, slots := 0, locals := 21 } : Room) (c_P (dC, dI) vwCl (TY y) (EV xK xV A) (MW y a rn n lo kp dy so he kn ak pl im lo2 dy2 so2 he2 kn2 ma kd len ord kh km pg len2 ord2 kh2 km2 cw tl tO bO lf wo) [.ref (a 10), .ref (a 1), .int (nI (z))]) (va_Qv (fun (u : Unit) => True) (c_B (dC, dI) vwCl (TY y) (fun (u : Unit) => (MW y a rn n (nI 0) kp (nI 0) (nI 0) (nI 0) 0 ak pl im lo2 dy2 so2 he2 kn2 ma kd (mixF z (lnG pg) len) (mixF z (fun j => j) ord) kh km pg len2 ord2 kh2 km2 cw tl tO bO lf wo))) A) 0 0 A := by
  refine Met.ofW (cc := cX2_begin) (maxL := 4) (ret := none) (by decide) rfl ?_
  intro p e s m args below meth c s₁ BB hml hv
  obtain ⟨rfl, hP, hK, hE⟩ := hv
  have hx := BB.exec
  have hb := BB.bytes
  have hr := BB.returns
  have hts := atoms_spec (ws := wsX2_begin) BB.pre
  have hown : s.vm.findClass RX2 = some m.cls := findClass_of_methodNamed BB.named
  have hlocks := BB.notSynchronized
  have hS : va_S A s.heap s.heap [] := va_S.rf
  have hl := lv_entry ([.ref (a 10), .ref (a 1), .int (nI (z))]) (n := 4) (Nat.le_of_ble_eq_true rfl)
  rw [lg_entry_eq]
  generalize (lg_sl ([.ref (a 10), .ref (a 1), .int (nI (z))]) ++ List.replicate (4 - (lg_sl ([.ref (a 10), .ref (a 1), .int (nI (z))])).length) Slot.unset).toArray = ls at hl ⊢
  have hl : lv_has ls 4 [(0, .ref (a 10)), (1, .ref (a 1)), (2, .int (nI (z)))] := hl
  refine lv_iconst (v := nI (0)) hx hb dX2_begin_0 (by decide) ?_
  refine lv_istore_n (lv' := [(3, .int (nI (0))), (0, .ref (a 10)), (1, .ref (a 1)), (2, .int (nI (z)))]) hx hb dX2_begin_1 rfl hl (by decide) rfl (fun ls hl => ?_)
  have loop_2 : ∀ (dd_2 : Nat) (h : Nat) (hh : h ≤ z), z - h < dd_2 → ∀ (H : Heap) (locs : List Loc) (ls : Array Slot), va_P (dC, dI) vwCl (MW y a rn n lo kp dy so he kn ak pl im lo2 dy2 so2 he2 kn2 ma kd (mixF h (lnG pg) len) (mixF h (fun j => j) ord) kh km pg len2 ord2 kh2 km2 cw tl tO bO lf wo) H → va_S A s.heap H locs → lv_has ls 4 [(3, .int (nI (h))), (0, .ref (a 10)), (1, .ref (a 1)), (2, .int (nI (z)))] → W p l e (headSpec wsX2_begin ({ frames := 1, cells := 0, slots := 0, locals := 21 } : Room)).room s m [.ref (a 10), .ref (a 1), .int (nI (z))].toArray below meth c H locs 0 0 (MQ below (va_Qv (fun (u : Unit) => True) (c_B (dC, dI) vwCl (TY y) (fun (u : Unit) => (MW y a rn n (nI 0) kp (nI 0) (nI 0) (nI 0) 0 ak pl im lo2 dy2 so2 he2 kn2 ma kd (mixF z (lnG pg) len) (mixF z (fun j => j) ord) kh km pg len2 ord2 kh2 km2 cw tl tO bO lf wo))) A) [.ref (a 10), .ref (a 1), .int (nI (z))].toArray s 0 0 A) (F0 m 2 ls []) := by
    intro dd_2
    induction dd_2 with
    | zero => intro h hh hd; exact absurd hd (Nat.not_lt_zero _)
    | succ dd_2 ih_2 =>
      intro h hh hd_2 H locs ls hP hS hl
      refine lv_iload_n hx hb dX2_begin_2 rfl (lv_at hl 0 rfl) ?_
      refine lv_iload_n hx hb dX2_begin_3 rfl (lv_at hl 3 rfl) ?_
      refine n_icmp_ge (tgt := 31) hx hb dX2_begin_4 (by decide) (by omega) (by omega) (fun c_4 => ?_) (fun c_4 => ?_)
      · refine lv_aload_n hx hb dX2_begin_31 rfl (lv_at hl 1 rfl) ?_
        refine lv_iconst (v := nI (0)) hx hb dX2_begin_32 (by decide) ?_
        refine va_put (D := (dC, dI)) (ci := 2) (ty := tyX2 4) (C := RX2) (T := TX2) (N := 9) hx hb hts in_X2_begin_X2 tyX2 tyX2_ok nmX2 hown hK hP (ad_D hA0 rfl) hS 10 rfl rfl 4 (by decide) (hts (.fieldLink RX2 24 "MilkRound$Course" "knownSize" "I") (List.mem_of_getElem? (i := 3) rfl)) (fun _ h9 => h9) rfl (tyX2_ok 4 (by decide)) rfl rfl (Nat.le_of_ble_eq_true rfl) dX2_begin_33 (fun H locs hP _ hS => ?_)
        have hP : va_P (dC, dI) vwCl (MW y a rn n lo kp dy so he 0 ak pl im lo2 dy2 so2 he2 kn2 ma kd (mixF h (lnG pg) len) (mixF h (fun j => j) ord) kh km pg len2 ord2 kh2 km2 cw tl tO bO lf wo) H := hP
        refine lv_aload_n hx hb dX2_begin_36 rfl (lv_at hl 1 rfl) ?_
        refine lv_iconst (v := nI (0)) hx hb dX2_begin_37 (by decide) ?_
        refine va_put (D := (dC, dI)) (ci := 2) (ty := tyX2 5) (C := RX2) (T := TX2) (N := 9) hx hb hts in_X2_begin_X2 tyX2 tyX2_ok nmX2 hown hK hP (ad_D hA0 rfl) hS 10 rfl rfl 5 (by decide) (hts (.fieldLink RX2 28 "MilkRound$Course" "leftOut" "I") (List.mem_of_getElem? (i := 4) rfl)) (fun _ h9 => h9) rfl (tyX2_ok 5 (by decide)) rfl rfl (Nat.le_of_ble_eq_true rfl) dX2_begin_38 (fun H locs hP _ hS => ?_)
        have hP : va_P (dC, dI) vwCl (MW y a rn n (nI (0)) kp dy so he 0 ak pl im lo2 dy2 so2 he2 kn2 ma kd (mixF h (lnG pg) len) (mixF h (fun j => j) ord) kh km pg len2 ord2 kh2 km2 cw tl tO bO lf wo) H := hP
        refine lv_aload_n hx hb dX2_begin_41 rfl (lv_at hl 1 rfl) ?_
        refine lv_iconst (v := nI (0)) hx hb dX2_begin_42 (by decide) ?_
        refine va_put (D := (dC, dI)) (ci := 2) (ty := tyX2 6) (C := RX2) (T := TX2) (N := 9) hx hb hts in_X2_begin_X2 tyX2 tyX2_ok nmX2 hown hK hP (ad_D hA0 rfl) hS 10 rfl rfl 6 (by decide) (hts (.fieldLink RX2 31 "MilkRound$Course" "days" "I") (List.mem_of_getElem? (i := 5) rfl)) (fun _ h9 => h9) rfl (tyX2_ok 6 (by decide)) rfl rfl (Nat.le_of_ble_eq_true rfl) dX2_begin_43 (fun H locs hP _ hS => ?_)
        have hP : va_P (dC, dI) vwCl (MW y a rn n (nI (0)) kp (nI (0)) so he 0 ak pl im lo2 dy2 so2 he2 kn2 ma kd (mixF h (lnG pg) len) (mixF h (fun j => j) ord) kh km pg len2 ord2 kh2 km2 cw tl tO bO lf wo) H := hP
        refine lv_aload_n hx hb dX2_begin_46 rfl (lv_at hl 1 rfl) ?_
        refine lv_iconst (v := nI (0)) hx hb dX2_begin_47 (by decide) ?_
        refine va_put (D := (dC, dI)) (ci := 2) (ty := tyX2 7) (C := RX2) (T := TX2) (N := 9) hx hb hts in_X2_begin_X2 tyX2 tyX2_ok nmX2 hown hK hP (ad_D hA0 rfl) hS 10 rfl rfl 7 (by decide) (hts (.fieldLink RX2 34 "MilkRound$Course" "soured" "I") (List.mem_of_getElem? (i := 6) rfl)) (fun _ h9 => h9) rfl (tyX2_ok 7 (by decide)) rfl rfl (Nat.le_of_ble_eq_true rfl) dX2_begin_48 (fun H locs hP _ hS => ?_)
        have hP : va_P (dC, dI) vwCl (MW y a rn n (nI (0)) kp (nI (0)) (nI (0)) he 0 ak pl im lo2 dy2 so2 he2 kn2 ma kd (mixF h (lnG pg) len) (mixF h (fun j => j) ord) kh km pg len2 ord2 kh2 km2 cw tl tO bO lf wo) H := hP
        refine lv_aload_n hx hb dX2_begin_51 rfl (lv_at hl 1 rfl) ?_
        refine lv_iconst (v := nI (0)) hx hb dX2_begin_52 (by decide) ?_
        refine va_put (D := (dC, dI)) (ci := 2) (ty := tyX2 8) (C := RX2) (T := TX2) (N := 9) hx hb hts in_X2_begin_X2 tyX2 tyX2_ok nmX2 hown hK hP (ad_D hA0 rfl) hS 10 rfl rfl 8 (by decide) (hts (.fieldLink RX2 37 "MilkRound$Course" "heard" "I") (List.mem_of_getElem? (i := 7) rfl)) (fun _ h9 => h9) rfl (tyX2_ok 8 (by decide)) rfl rfl (Nat.le_of_ble_eq_true rfl) dX2_begin_53 (fun H locs hP _ hS => ?_)
        have hP : va_P (dC, dI) vwCl (MW y a rn n (nI (0)) kp (nI (0)) (nI (0)) (nI (0)) 0 ak pl im lo2 dy2 so2 he2 kn2 ma kd (mixF h (lnG pg) len) (mixF h (fun j => j) ord) kh km pg len2 ord2 kh2 km2 cw tl tO bO lf wo) H := hP
        have hhn : h = z := by omega
        have hP : va_P (dC, dI) vwCl (MW y a rn n (nI 0) kp (nI 0) (nI 0) (nI 0) 0 ak pl im lo2 dy2 so2 he2 kn2 ma kd (mixF z (lnG pg) len) (mixF z (fun j => j) ord) kh km pg len2 ord2 kh2 km2 cw tl tO bO lf wo) H := by
          rw [hhn] at hP
          exact hP
        exact c_vret hx hb hr hlocks hK hS () hP trivial dX2_begin_56
      · refine lv_aload_n hx hb dX2_begin_7 rfl (lv_at hl 1 rfl) ?_
        refine va_get (D := (dC, dI)) (ci := 2) (C := RX2) (T := TX2) (N := 9) hx hb hts in_X2_begin_X2 hown hK hP 10 rfl rfl 0 (by decide) (hts (.fieldLink RX2 9 "MilkRound$Course" "lengths" "[I") (List.mem_of_getElem? (i := 1) rfl)) (fun _ h9 => h9) rfl dX2_begin_8 ?_
        refine lv_iload_n hx hb dX2_begin_11 rfl (lv_at hl 0 rfl) ?_
        refine lv_aload_n hx hb dX2_begin_12 rfl (lv_at hl 2 rfl) ?_
        refine lv_iload_n hx hb dX2_begin_13 rfl (lv_at hl 0 rfl) ?_
        refine c_calli (va_runV (As := [.int (nI (h))]) (rest := [.int (nI (h)), .ref (a 11)]) ⟨hx, hb, hml, hown, hts⟩ (k_X4_lengthAt l dC dI y A a hA0 xK xV rn n lo kp dy so he kn ak pl im lo2 dy2 so2 he2 kn2 ma kd (mixF h (lnG pg) len) (mixF h (fun j => j) ord) kh km pg len2 ord2 kh2 km2 cw tl tO bO lf wo h (by omega) (hq h (by omega))) (cwV 1 hts gX2_begin_X4_lengthAt rfl rfl rfl (by decide +kernel) ⟨Nat.le_of_ble_eq_true rfl, Nat.le_of_ble_eq_true rfl⟩) (c_preV (evN xK xV A) hK hE hS hP (va_recv hK hP (ci := 4) (q0 := 1) rfl rfl)) rfl rfl hl.1 rfl (lv_room (Nat.le_of_ble_eq_true rfl)) dX2_begin_14 ⟨Nat.le_refl _, Nat.le_refl _⟩) hS (fun r_14 u_14 H locs hw_14 hP hS => ?_)
        obtain rfl := hw_14
        refine n_iast hx hb hK hP (ad_D hA0 rfl) hS 11 0 rfl rfl (by omega) (by decide) dX2_begin_17 (fun H locs hP hS => ?_)
        have hP : va_P (dC, dI) vwCl (MW y a rn n lo kp dy so he kn ak pl im lo2 dy2 so2 he2 kn2 ma kd (va_up (mixF h (lnG pg) len) h (pg (3 * h + 1) - 48)) (mixF h (fun j => j) ord) kh km pg len2 ord2 kh2 km2 cw tl tO bO lf wo) H := hP
        refine lv_aload_n hx hb dX2_begin_18 rfl (lv_at hl 1 rfl) ?_
        refine va_get (D := (dC, dI)) (ci := 2) (C := RX2) (T := TX2) (N := 9) hx hb hts in_X2_begin_X2 hown hK hP 10 rfl rfl 1 (by decide) (hts (.fieldLink RX2 15 "MilkRound$Course" "order" "[I") (List.mem_of_getElem? (i := 2) rfl)) (fun _ h9 => h9) rfl dX2_begin_19 ?_
        refine lv_iload_n hx hb dX2_begin_22 rfl (lv_at hl 0 rfl) ?_
        refine lv_iload_n hx hb dX2_begin_23 rfl (lv_at hl 0 rfl) ?_
        refine n_iast hx hb hK hP (ad_D hA0 rfl) hS 12 0 rfl rfl (by omega) (by decide) dX2_begin_24 (fun H locs hP hS => ?_)
        have hP : va_P (dC, dI) vwCl (MW y a rn n lo kp dy so he kn ak pl im lo2 dy2 so2 he2 kn2 ma kd (va_up (mixF h (lnG pg) len) h (pg (3 * h + 1) - 48)) (va_up (mixF h (fun j => j) ord) h h) kh km pg len2 ord2 kh2 km2 cw tl tO bO lf wo) H := hP
        refine lv_iinc (v := nI (h + 1)) (lv' := [(3, .int (nI (h + 1))), (0, .ref (a 10)), (1, .ref (a 1)), (2, .int (nI (z)))]) hx hb dX2_begin_25 hl (k := 0) rfl (mr_inc _) (by decide) rfl (fun ls hl => ?_)
        refine lv_goto (tgt := 2) hx hb dX2_begin_28 (by decide) ?_
        exact ih_2 (h + 1) (by omega) (by omega) _ _ _ (by rw [← mixF_s, ← mixF_s]; exact hP) hS (lv_sub hl [0, 1, 2, 3] rfl)
  exact loop_2 _ 0 (Nat.zero_le _) (Nat.lt_succ_self _) _ _ _ (by rw [mixF_0, mixF_0]; exact hP) hS (lv_sub hl [0, 1, 2, 3] rfl)
theorem in_X10_round_X10 : ∀ w ∈ wsX100, w ∈ wsX10_round := fun w h => List.mem_cons_of_mem _ (List.mem_append_left _ (List.mem_append_left _ (List.mem_append_left _ (List.mem_append_right _ h))))
theorem in_X10_round_X6 : ∀ w ∈ wsX60, w ∈ wsX10_round := fun w h => List.mem_cons_of_mem _ (List.mem_append_left _ (List.mem_append_left _ (List.mem_append_right _ h)))
theorem in_X10_round_X4 : ∀ w ∈ wsX40, w ∈ wsX10_round := fun w h => List.mem_cons_of_mem _ (List.mem_append_left _ (List.mem_append_right _ h))
set_option maxHeartbeats 4000000 in
set_option maxRecDepth 100000 in
theorem k_X10_round (l : Launch) (dC : Nat → ClassId) (dI : Nat → Nat → Nat) (y : Nat → ClassId) (A : Nat → Prop) (a : Nat → Nat) (hA0 : ad_ok A a 34) (xK : Nat → Nat) (xV : Nat → Nat) (rn : Nat) (n : Nat) (lo : Int32) (kp : Nat) (dy : Int32) (so : Int32) (he : Int32) (kn : Nat) (ak : Nat) (pl : Nat) (im : Bool) (lo2 : Int32) (dy2 : Int32) (so2 : Int32) (he2 : Int32) (kn2 : Nat) (ma : Nat) (kd : Nat → Nat) (len : Nat → Nat) (ord : Nat → Nat) (kh : Nat → Nat) (km : Nat → Nat) (pg : Nat → Nat) (len2 : Nat → Nat) (ord2 : Nat → Nat) (kh2 : Nat → Nat) (km2 : Nat → Nat) (cw : Nat → Nat) (tl : Nat → Nat) (tO : Nat → Nat) (bO : Nat → Nat) (lf : Nat → Nat → Nat) (wo : Nat → Nat) (hpl : pl ≤ 21) (hpg : ∀ j, pg j < 128) : Met l yX10_round wsX10_round ({ frames := 7, cells := 0, slots := 0, locals := 156 } : Room) (c_P (dC, dI) vwCl (TY y) (EV xK xV A) (MW y a rn n lo kp dy so he kn ak pl im lo2 dy2 so2 he2 kn2 ma kd len ord kh km pg len2 ord2 kh2 km2 cw tl tO bO lf wo) [.ref (a 0)]) (va_Qi (fun (r : Int32) (u : Unit) => r = (bif whlB pg pl then nI (pl / 3) else -103)) (c_B (dC, dI) vwCl (TY y) (fun (u : Unit) => (MW y a (bif whlB pg pl then rn + 1 else rn) (bif whlB pg pl then pl / 3 else n) (bif whlB pg pl then nI 0 else lo) (bif whlB pg pl then pg (pl - 1) - 48 else kp) (bif whlB pg pl then nI 0 else dy) (bif whlB pg pl then nI 0 else so) (bif whlB pg pl then nI 0 else he) (bif whlB pg pl then 0 else kn) ak (bif whlB pg pl then 0 else pl) (bif whlB pg pl then false else im) lo2 dy2 so2 he2 kn2 ma (bif whlB pg pl then mixF (pl / 3) (kdG pg) kd else kd) (bif whlB pg pl then mixF (pl / 3) (lnG pg) len else len) (bif whlB pg pl then mixF (pl / 3) (fun j => j) ord else ord) kh km pg len2 ord2 kh2 km2 cw tl tO bO lf wo))) A) 0 0 A := by
  refine Met.ofW (cc := cX10_round) (maxL := 1) (ret := (some .int)) (by decide) rfl ?_
  intro p e s m args below meth c s₁ BB hml hv
  obtain ⟨rfl, hP, hK, hE⟩ := hv
  have hx := BB.exec
  have hb := BB.bytes
  have hr := BB.returns
  have hts := atoms_spec (ws := wsX10_round) BB.pre
  have hown : s.vm.findClass RX10 = some m.cls := findClass_of_methodNamed BB.named
  have hlocks := BB.notSynchronized
  have hS : va_S A s.heap s.heap [] := va_S.rf
  have hl := lv_entry ([.ref (a 0)]) (n := 1) (Nat.le_of_ble_eq_true rfl)
  rw [lg_entry_eq]
  generalize (lg_sl ([.ref (a 0)]) ++ List.replicate (1 - (lg_sl ([.ref (a 0)])).length) Slot.unset).toArray = ls at hl ⊢
  have hl : lv_has ls 1 [(0, .ref (a 0))] := hl
  refine lv_aload_n hx hb dX10_round_0 rfl (lv_at hl 0 rfl) ?_
  refine va_get (D := (dC, dI)) (ci := 10) (C := RX10) (T := TX10) (N := 12) hx hb hts in_X10_round_X10 hown hK hP 0 rfl rfl 0 (by decide) (hts (.fieldLink RX10 10 "MilkRound" "page" "LMilkRound$Page;") (List.mem_of_getElem? (i := 1) rfl)) (fun _ h9 => h9) rfl dX10_round_1 ?_
  refine c_calli (va_runV (As := []) (rest := []) ⟨hx, hb, hml, hown, hts⟩ (k_X4_isWhole l dC dI y A a hA0 xK xV rn n lo kp dy so he kn ak pl im lo2 dy2 so2 he2 kn2 ma kd len ord kh km pg len2 ord2 kh2 km2 cw tl tO bO lf wo  hpl hpg) (cwV 0 hts gX10_round_X4_isWhole rfl rfl rfl (by decide +kernel) ⟨Nat.le_of_ble_eq_true rfl, Nat.le_of_ble_eq_true rfl⟩) (c_preV (evN xK xV A) hK hE hS hP (va_recv hK hP (ci := 4) (q0 := 1) rfl rfl)) rfl rfl hl.1 rfl (lv_room (Nat.le_of_ble_eq_true rfl)) dX10_round_4 ⟨Nat.le_refl _, Nat.le_refl _⟩) hS (fun r_4 u_4 H locs hw_4 hP hS => ?_)
  obtain rfl := hw_4
  refine n_bif_ne (tgt := 13) hx hb dX10_round_7 (by decide) (fun c_7 => ?_) (fun c_7 => ?_)
  · obtain ⟨hp1, hp2, hp3, hp4, hp5⟩ := PgW_whl c_7
    refine lv_aload_n hx hb dX10_round_13 rfl (lv_at hl 0 rfl) ?_
    refine va_get (D := (dC, dI)) (ci := 10) (C := RX10) (T := TX10) (N := 12) hx hb hts in_X10_round_X10 hown hK hP 0 rfl rfl 1 (by decide) (hts (.fieldLink RX10 19 "MilkRound" "street" "LMilkRound$Street;") (List.mem_of_getElem? (i := 2) rfl)) (fun _ h9 => h9) rfl dX10_round_14 ?_
    refine lv_aload_n hx hb dX10_round_17 rfl (lv_at hl 0 rfl) ?_
    refine va_get (D := (dC, dI)) (ci := 10) (C := RX10) (T := TX10) (N := 12) hx hb hts in_X10_round_X10 hown hK hP 0 rfl rfl 0 (by decide) (hts (.fieldLink RX10 10 "MilkRound" "page" "LMilkRound$Page;") (List.mem_of_getElem? (i := 1) rfl)) (fun _ h9 => h9) rfl dX10_round_18 ?_
    refine c_callv (va_runV (As := [.ref (a 1)]) (rest := []) ⟨hx, hb, hml, hown, hts⟩ (k_X6_settle l dC dI y A a hA0 xK xV rn n lo kp dy so he kn ak pl im lo2 dy2 so2 he2 kn2 ma kd len ord kh km pg len2 ord2 kh2 km2 cw tl tO bO lf wo  hpl hpg c_7) (cwV 1 hts gX10_round_X6_settle rfl rfl rfl (by decide +kernel) ⟨Nat.le_of_ble_eq_true rfl, Nat.le_of_ble_eq_true rfl⟩) (c_preV (evN xK xV A) hK hE hS hP (va_recv hK hP (ci := 6) (q0 := 3) rfl rfl)) rfl rfl hl.1 rfl (lv_room (Nat.le_of_ble_eq_true rfl)) dX10_round_21 ⟨Nat.le_refl _, Nat.le_refl _⟩) hS (fun u_21 H locs hw_21 hP hS => ?_)
    have hP : va_P (dC, dI) vwCl (MW y a rn (pl / 3) lo (pg (pl - 1) - 48) dy so he kn ak pl im lo2 dy2 so2 he2 kn2 ma (mixF (pl / 3) (kdG pg) kd) len ord kh km pg len2 ord2 kh2 km2 cw tl tO bO lf wo) H := hP
    refine lv_aload_n hx hb dX10_round_24 rfl (lv_at hl 0 rfl) ?_
    refine va_get (D := (dC, dI)) (ci := 10) (C := RX10) (T := TX10) (N := 12) hx hb hts in_X10_round_X10 hown hK hP 0 rfl rfl 2 (by decide) (hts (.fieldLink RX10 26 "MilkRound" "now" "LMilkRound$Course;") (List.mem_of_getElem? (i := 3) rfl)) (fun _ h9 => h9) rfl dX10_round_25 ?_
    refine lv_aload_n hx hb dX10_round_28 rfl (lv_at hl 0 rfl) ?_
    refine va_get (D := (dC, dI)) (ci := 10) (C := RX10) (T := TX10) (N := 12) hx hb hts in_X10_round_X10 hown hK hP 0 rfl rfl 0 (by decide) (hts (.fieldLink RX10 10 "MilkRound" "page" "LMilkRound$Page;") (List.mem_of_getElem? (i := 1) rfl)) (fun _ h9 => h9) rfl dX10_round_29 ?_
    refine lv_aload_n hx hb dX10_round_32 rfl (lv_at hl 0 rfl) ?_
    refine va_get (D := (dC, dI)) (ci := 10) (C := RX10) (T := TX10) (N := 12) hx hb hts in_X10_round_X10 hown hK hP 0 rfl rfl 1 (by decide) (hts (.fieldLink RX10 19 "MilkRound" "street" "LMilkRound$Street;") (List.mem_of_getElem? (i := 2) rfl)) (fun _ h9 => h9) rfl dX10_round_33 ?_
    refine va_get (D := (dC, dI)) (ci := 6) (C := RX6) (T := TX6) (N := 8) hx hb hts in_X10_round_X6 hown hK hP 3 rfl rfl 6 (by decide) (hts (.fieldLink RX10 89 "MilkRound$Street" "size" "I") (List.mem_of_getElem? (i := 4) rfl)) (fun _ h9 => h9) rfl dX10_round_36 ?_
    refine c_callv (va_runV (As := [.ref (a 1), .int (nI (pl / 3))]) (rest := []) ⟨hx, hb, hml, hown, hts⟩ (k_X2_begin l dC dI y A a hA0 xK xV rn (pl / 3) lo (pg (pl - 1) - 48) dy so he kn ak pl im lo2 dy2 so2 he2 kn2 ma (mixF (pl / 3) (kdG pg) kd) len ord kh km pg len2 ord2 kh2 km2 cw tl tO bO lf wo (pl / 3) hp3 (fun h hh => (of_decide_eq_true (hp4 h hh).2).1)) (cwV 2 hts gX10_round_X2_begin rfl rfl rfl (by decide +kernel) ⟨Nat.le_of_ble_eq_true rfl, Nat.le_of_ble_eq_true rfl⟩) (c_preV (evN xK xV A) hK hE hS hP (va_recv hK hP (ci := 2) (q0 := 10) rfl rfl)) rfl rfl hl.1 rfl (lv_room (Nat.le_of_ble_eq_true rfl)) dX10_round_39 ⟨Nat.le_refl _, Nat.le_refl _⟩) hS (fun u_39 H locs hw_39 hP hS => ?_)
    have hP : va_P (dC, dI) vwCl (MW y a rn (pl / 3) (nI 0) (pg (pl - 1) - 48) (nI 0) (nI 0) (nI 0) 0 ak pl im lo2 dy2 so2 he2 kn2 ma (mixF (pl / 3) (kdG pg) kd) (mixF (pl / 3) (lnG pg) len) (mixF (pl / 3) (fun j => j) ord) kh km pg len2 ord2 kh2 km2 cw tl tO bO lf wo) H := hP
    refine lv_aload_n hx hb dX10_round_42 rfl (lv_at hl 0 rfl) ?_
    refine va_get (D := (dC, dI)) (ci := 10) (C := RX10) (T := TX10) (N := 12) hx hb hts in_X10_round_X10 hown hK hP 0 rfl rfl 0 (by decide) (hts (.fieldLink RX10 10 "MilkRound" "page" "LMilkRound$Page;") (List.mem_of_getElem? (i := 1) rfl)) (fun _ h9 => h9) rfl dX10_round_43 ?_
    refine lv_iconst (v := nI (0)) hx hb dX10_round_46 (by decide) ?_
    refine va_put (D := (dC, dI)) (ci := 4) (ty := tyX4 1) (C := RX4) (T := TX4) (N := 2) hx hb hts in_X10_round_X4 tyX4 tyX4_ok nmX4 hown hK hP (ad_D hA0 rfl) hS 1 rfl rfl 1 (by decide) (hts (.fieldLink RX10 74 "MilkRound$Page" "size" "I") (List.mem_of_getElem? (i := 5) rfl)) (fun _ h9 => h9) rfl (tyX4_ok 1 (by decide)) rfl rfl (Nat.le_of_ble_eq_true rfl) dX10_round_47 (fun H locs hP _ hS => ?_)
    have hP : va_P (dC, dI) vwCl (MW y a rn (pl / 3) (nI 0) (pg (pl - 1) - 48) (nI 0) (nI 0) (nI 0) 0 ak 0 im lo2 dy2 so2 he2 kn2 ma (mixF (pl / 3) (kdG pg) kd) (mixF (pl / 3) (lnG pg) len) (mixF (pl / 3) (fun j => j) ord) kh km pg len2 ord2 kh2 km2 cw tl tO bO lf wo) H := hP
    refine lv_aload_n hx hb dX10_round_50 rfl (lv_at hl 0 rfl) ?_
    refine lv_iconst (v := nI (0)) hx hb dX10_round_51 (by decide) ?_
    refine va_put (D := (dC, dI)) (ci := 10) (ty := tyX10 9) (C := RX10) (T := TX10) (N := 12) hx hb hts in_X10_round_X10 tyX10 tyX10_ok nmX10 hown hK hP (ad_D hA0 rfl) hS 0 rfl rfl 9 (by decide) (hts (.fieldLink RX10 59 "MilkRound" "hasImage" "Z") (List.mem_of_getElem? (i := 6) rfl)) (fun _ h9 => h9) rfl (tyX10_ok 9 (by decide)) rfl rfl (Nat.le_of_ble_eq_true rfl) dX10_round_52 (fun H locs hP _ hS => ?_)
    have hP : va_P (dC, dI) vwCl (MW y a rn (pl / 3) (nI 0) (pg (pl - 1) - 48) (nI 0) (nI 0) (nI 0) 0 ak 0 false lo2 dy2 so2 he2 kn2 ma (mixF (pl / 3) (kdG pg) kd) (mixF (pl / 3) (lnG pg) len) (mixF (pl / 3) (fun j => j) ord) kh km pg len2 ord2 kh2 km2 cw tl tO bO lf wo) H := hP
    refine lv_aload_n hx hb dX10_round_55 rfl (lv_at hl 0 rfl) ?_
    refine lv_dup hx hb dX10_round_56 rfl ?_
    refine va_get (D := (dC, dI)) (ci := 10) (C := RX10) (T := TX10) (N := 12) hx hb hts in_X10_round_X10 hown hK hP 0 rfl rfl 10 (by decide) (hts (.fieldLink RX10 63 "MilkRound" "roundsRead" "I") (List.mem_of_getElem? (i := 7) rfl)) (fun _ h9 => h9) rfl dX10_round_57 ?_
    refine lv_iconst (v := nI (1)) hx hb dX10_round_60 (by decide) ?_
    refine n_iadd hx hb dX10_round_61 ?_
    refine va_put (D := (dC, dI)) (ci := 10) (ty := tyX10 10) (C := RX10) (T := TX10) (N := 12) hx hb hts in_X10_round_X10 tyX10 tyX10_ok nmX10 hown hK hP (ad_D hA0 rfl) hS 0 rfl rfl 10 (by decide) (hts (.fieldLink RX10 63 "MilkRound" "roundsRead" "I") (List.mem_of_getElem? (i := 7) rfl)) (fun _ h9 => h9) rfl (tyX10_ok 10 (by decide)) rfl rfl (Nat.le_of_ble_eq_true rfl) dX10_round_62 (fun H locs hP _ hS => ?_)
    have hP : va_P (dC, dI) vwCl (MW y a (rn + 1) (pl / 3) (nI 0) (pg (pl - 1) - 48) (nI 0) (nI 0) (nI 0) 0 ak 0 false lo2 dy2 so2 he2 kn2 ma (mixF (pl / 3) (kdG pg) kd) (mixF (pl / 3) (lnG pg) len) (mixF (pl / 3) (fun j => j) ord) kh km pg len2 ord2 kh2 km2 cw tl tO bO lf wo) H := hP
    refine lv_aload_n hx hb dX10_round_65 rfl (lv_at hl 0 rfl) ?_
    refine va_get (D := (dC, dI)) (ci := 10) (C := RX10) (T := TX10) (N := 12) hx hb hts in_X10_round_X10 hown hK hP 0 rfl rfl 1 (by decide) (hts (.fieldLink RX10 19 "MilkRound" "street" "LMilkRound$Street;") (List.mem_of_getElem? (i := 2) rfl)) (fun _ h9 => h9) rfl dX10_round_66 ?_
    refine va_get (D := (dC, dI)) (ci := 6) (C := RX6) (T := TX6) (N := 8) hx hb hts in_X10_round_X6 hown hK hP 3 rfl rfl 6 (by decide) (hts (.fieldLink RX10 89 "MilkRound$Street" "size" "I") (List.mem_of_getElem? (i := 4) rfl)) (fun _ h9 => h9) rfl dX10_round_69 ?_
    have hP : va_P (dC, dI) vwCl (MW y a (bif whlB pg pl then rn + 1 else rn) (bif whlB pg pl then pl / 3 else n) (bif whlB pg pl then nI 0 else lo) (bif whlB pg pl then pg (pl - 1) - 48 else kp) (bif whlB pg pl then nI 0 else dy) (bif whlB pg pl then nI 0 else so) (bif whlB pg pl then nI 0 else he) (bif whlB pg pl then 0 else kn) ak (bif whlB pg pl then 0 else pl) (bif whlB pg pl then false else im) lo2 dy2 so2 he2 kn2 ma (bif whlB pg pl then mixF (pl / 3) (kdG pg) kd else kd) (bif whlB pg pl then mixF (pl / 3) (lnG pg) len else len) (bif whlB pg pl then mixF (pl / 3) (fun j => j) ord else ord) kh km pg len2 ord2 kh2 km2 cw tl tO bO lf wo) H := by
      rw [c_7]
      exact hP
    exact c_iret hx hb hr hlocks hK hS () hP (by rw [c_7]; rfl) dX10_round_72
  · refine lv_bipush (v := (-103)) hx hb dX10_round_10 (by decide) ?_
    have hP : va_P (dC, dI) vwCl (MW y a (bif whlB pg pl then rn + 1 else rn) (bif whlB pg pl then pl / 3 else n) (bif whlB pg pl then nI 0 else lo) (bif whlB pg pl then pg (pl - 1) - 48 else kp) (bif whlB pg pl then nI 0 else dy) (bif whlB pg pl then nI 0 else so) (bif whlB pg pl then nI 0 else he) (bif whlB pg pl then 0 else kn) ak (bif whlB pg pl then 0 else pl) (bif whlB pg pl then false else im) lo2 dy2 so2 he2 kn2 ma (bif whlB pg pl then mixF (pl / 3) (kdG pg) kd else kd) (bif whlB pg pl then mixF (pl / 3) (lnG pg) len else len) (bif whlB pg pl then mixF (pl / 3) (fun j => j) ord else ord) kh km pg len2 ord2 kh2 km2 cw tl tO bO lf wo) H := by
      rw [c_7]
      exact hP
    exact c_iret hx hb hr hlocks hK hS () hP (by rw [c_7]; rfl) dX10_round_12
