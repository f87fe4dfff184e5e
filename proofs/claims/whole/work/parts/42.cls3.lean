theorem in_X7_clear_X7 : ∀ w ∈ wsX70, w ∈ wsX7_clear := fun w h => List.mem_cons_of_mem _ (List.mem_append_right _ h)
set_option maxHeartbeats 4000000 in
set_option maxRecDepth 100000 in
theorem k_X7_clear (l : Launch) (dC : Nat → ClassId) (dI : Nat → Nat → Nat) (y : Nat → ClassId) (A : Nat → Prop) (a : Nat → Nat) (hA0 : ad_ok A a 34) (xK : Nat → Nat) (xV : Nat → Nat) (rn : Nat) (n : Nat) (lo : Int32) (kp : Nat) (dy : Int32) (so : Int32) (he : Int32) (kn : Nat) (ak : Nat) (pl : Nat) (im : Bool) (lo2 : Int32) (dy2 : Int32) (so2 : Int32) (he2 : Int32) (kn2 : Nat) (ma : Nat) (kd : Nat → Nat) (len : Nat → Nat) (ord : Nat → Nat) (kh : Nat → Nat) (km : Nat → Nat) (pg : Nat → Nat) (len2 : Nat → Nat) (ord2 : Nat → Nat) (kh2 : Nat → Nat) (km2 : Nat → Nat) (cw : Nat → Nat) (tl : Nat → Nat) (tO : Nat → Nat) (bO : Nat → Nat) (lf : Nat → Nat → Nat) (wo : Nat → Nat) : Met l yX7_clear wsX7_clear ({ frames := 0, cells := 0, slots := 0, locals := 0 } : Room) (c_P (dC, dI) vwCl (TY y) (EV xK xV A) (MW y a rn n lo kp dy so he kn ak pl im lo2 dy2 so2 he2 kn2 ma kd len ord kh km pg len2 ord2 kh2 km2 cw tl tO bO lf wo) [.ref (a 25)]) (va_Qv (fun (u : (Nat → Nat → Nat) × (Nat → Nat)) => (∀ i z, i < 6 → z < 151 → u.1 i z = 0) ∧ ∀ i, i < 6 → u.2 i = 0) (c_B (dC, dI) vwCl (TY y) (fun (u : (Nat → Nat → Nat) × (Nat → Nat)) => (MW y a rn n lo kp dy so he kn ak pl im lo2 dy2 so2 he2 kn2 ma kd len ord kh km pg len2 ord2 kh2 km2 cw tl tO bO u.1 u.2))) A) 0 0 A := by
  refine Met.ofW (cc := cX7_clear) (maxL := 3) (ret := none) (by decide) rfl ?_
  intro p e s m args below meth c s₁ BB hml hv
  obtain ⟨rfl, hP, hK, hE⟩ := hv
  have hx := BB.exec
  have hb := BB.bytes
  have hr := BB.returns
  have hts := atoms_spec (ws := wsX7_clear) BB.pre
  have hown : s.vm.findClass RX7 = some m.cls := findClass_of_methodNamed BB.named
  have hlocks := BB.notSynchronized
  have hS : va_S A s.heap s.heap [] := va_S.rf
  have hl := lv_entry ([.ref (a 25)]) (n := 3) (Nat.le_of_ble_eq_true rfl)
  rw [lg_entry_eq]
  generalize (lg_sl ([.ref (a 25)]) ++ List.replicate (3 - (lg_sl ([.ref (a 25)])).length) Slot.unset).toArray = ls at hl ⊢
  have hl : lv_has ls 3 [(0, .ref (a 25))] := hl
  refine lv_iconst (v := nI (0)) hx hb dX7_clear_0 (by decide) ?_
  refine lv_istore_n (lv' := [(1, .int (nI (0))), (0, .ref (a 25))]) hx hb dX7_clear_1 rfl hl (by decide) rfl (fun ls hl => ?_)
  have loop_2 : ∀ (dd_2 : Nat) (h : Nat) (lf9 : Nat → Nat → Nat) (wo9 : Nat → Nat) (hh : h ≤ 6) (hZ : ∀ i z, i < h → z < 151 → lf9 i z = 0) (hO : ∀ i, i < h → wo9 i = 0), 6 - h < dd_2 → ∀ (H : Heap) (locs : List Loc) (ls : Array Slot), va_P (dC, dI) vwCl (MW y a rn n lo kp dy so he kn ak pl im lo2 dy2 so2 he2 kn2 ma kd len ord kh km pg len2 ord2 kh2 km2 cw tl tO bO lf9 wo9) H → va_S A s.heap H locs → lv_has ls 3 [(1, .int (nI (h))), (0, .ref (a 25))] → W p l e (headSpec wsX7_clear ({ frames := 0, cells := 0, slots := 0, locals := 0 } : Room)).room s m [.ref (a 25)].toArray below meth c H locs 0 0 (MQ below (va_Qv (fun (u : (Nat → Nat → Nat) × (Nat → Nat)) => (∀ i z, i < 6 → z < 151 → u.1 i z = 0) ∧ ∀ i, i < 6 → u.2 i = 0) (c_B (dC, dI) vwCl (TY y) (fun (u : (Nat → Nat → Nat) × (Nat → Nat)) => (MW y a rn n lo kp dy so he kn ak pl im lo2 dy2 so2 he2 kn2 ma kd len ord kh km pg len2 ord2 kh2 km2 cw tl tO bO u.1 u.2))) A) [.ref (a 25)].toArray s 0 0 A) (F0 m 2 ls []) := by
    intro dd_2
    induction dd_2 with
    | zero => intro h lf9 wo9 hh hZ hO hd; exact absurd hd (Nat.not_lt_zero _)
    | succ dd_2 ih_2 =>
      intro h lf9 wo9 hh hZ hO hd_2 H locs ls hP hS hl
      refine lv_iload_n hx hb dX7_clear_2 rfl (lv_at hl 0 rfl) ?_
      refine lv_bipush (v := nI (6)) hx hb dX7_clear_3 (by decide) ?_
      refine n_icmp_ge (tgt := 45) hx hb dX7_clear_5 (by decide) (by omega) (by omega) (fun c_5 => ?_) (fun c_5 => ?_)
      · exact c_vret hx hb hr hlocks hK hS (lf9, wo9) hP ⟨fun i z q1 q2 => hZ i z (by omega) q2, fun i q => hO i (by omega)⟩ dX7_clear_45
      · refine lv_aload_n hx hb dX7_clear_8 rfl (lv_at hl 1 rfl) ?_
        refine va_get (D := (dC, dI)) (ci := 7) (C := RX7) (T := TX7) (N := 2) hx hb hts in_X7_clear_X7 hown hK hP 25 rfl rfl 1 (by decide) (hts (.fieldLink RX7 16 "MilkRound$Tally" "worst" "[I") (List.mem_of_getElem? (i := 1) rfl)) (fun _ h9 => h9) rfl dX7_clear_9 ?_
        refine lv_iload_n hx hb dX7_clear_12 rfl (lv_at hl 0 rfl) ?_
        refine lv_iconst (v := nI (0)) hx hb dX7_clear_13 (by decide) ?_
        refine n_iast hx hb hK hP (ad_D hA0 rfl) hS 33 0 rfl rfl (by omega) (by decide) dX7_clear_14 (fun H locs hP hS => ?_)
        have hP : va_P (dC, dI) vwCl (MW y a rn n lo kp dy so he kn ak pl im lo2 dy2 so2 he2 kn2 ma kd len ord kh km pg len2 ord2 kh2 km2 cw tl tO bO lf9 (va_up wo9 h 0)) H := hP
        refine lv_iconst (v := nI (0)) hx hb dX7_clear_15 (by decide) ?_
        refine lv_istore_n (lv' := [(2, .int (nI (0))), (1, .int (nI (h))), (0, .ref (a 25))]) hx hb dX7_clear_16 rfl hl (by decide) rfl (fun ls hl => ?_)
        have loop_17 : ∀ (dd_17 : Nat) (j : Nat) (lf8 : Nat → Nat → Nat) (hj : j ≤ 151) (hY : ∀ i z, (i < h ∨ (i = h ∧ z < j)) → z < 151 → lf8 i z = 0), 151 - j < dd_17 → ∀ (H : Heap) (locs : List Loc) (ls : Array Slot), va_P (dC, dI) vwCl (MW y a rn n lo kp dy so he kn ak pl im lo2 dy2 so2 he2 kn2 ma kd len ord kh km pg len2 ord2 kh2 km2 cw tl tO bO lf8 (va_up wo9 h 0)) H → va_S A s.heap H locs → lv_has ls 3 [(2, .int (nI (j))), (1, .int (nI (h))), (0, .ref (a 25))] → W p l e (headSpec wsX7_clear ({ frames := 0, cells := 0, slots := 0, locals := 0 } : Room)).room s m [.ref (a 25)].toArray below meth c H locs 0 0 (MQ below (va_Qv (fun (u : (Nat → Nat → Nat) × (Nat → Nat)) => (∀ i z, i < 6 → z < 151 → u.1 i z = 0) ∧ ∀ i, i < 6 → u.2 i = 0) (c_B (dC, dI) vwCl (TY y) (fun (u : (Nat → Nat → Nat) × (Nat → Nat)) => (MW y a rn n lo kp dy so he kn ak pl im lo2 dy2 so2 he2 kn2 ma kd len ord kh km pg len2 ord2 kh2 km2 cw tl tO bO u.1 u.2))) A) [.ref (a 25)].toArray s 0 0 A) (F0 m 17 ls []) := by
          intro dd_17
          induction dd_17 with
          | zero => intro j lf8 hj hY hd; exact absurd hd (Nat.not_lt_zero _)
          | succ dd_17 ih_17 =>
            intro j lf8 hj hY hd_17 H locs ls hP hS hl
            refine lv_iload_n hx hb dX7_clear_17 rfl (lv_at hl 0 rfl) ?_
            refine lv_sipush (v := nI (150)) hx hb dX7_clear_18 (by decide) ?_
            refine n_icmp_gt (tgt := 39) hx hb dX7_clear_21 (by decide) (by omega) (by omega) (fun c_21 => ?_) (fun c_21 => ?_)
            · refine lv_iinc (v := nI (h + 1)) (lv' := [(1, .int (nI (h + 1))), (2, .int (nI (j))), (0, .ref (a 25))]) hx hb dX7_clear_39 hl (k := 1) rfl (mr_inc _) (by decide) rfl (fun ls hl => ?_)
              refine lv_goto (tgt := 2) hx hb dX7_clear_42 (by decide) ?_
              exact ih_2 (h + 1) lf8 (va_up wo9 h 0) (by omega) (fun i z q1 q2 => hY i z (by omega) q2) (fun i q => by unfold va_up; split <;> first | rfl | exact hO i (by omega)) (by omega) _ _ _ hP hS (lv_sub hl [0, 2] rfl)
            · refine lv_aload_n hx hb dX7_clear_24 rfl (lv_at hl 2 rfl) ?_
              refine va_get (D := (dC, dI)) (ci := 7) (C := RX7) (T := TX7) (N := 2) hx hb hts in_X7_clear_X7 hown hK hP 25 rfl rfl 0 (by decide) (hts (.fieldLink RX7 11 "MilkRound$Tally" "left" "[[I") (List.mem_of_getElem? (i := 2) rfl)) (fun _ h9 => h9) rfl dX7_clear_25 ?_
              refine lv_iload_n hx hb dX7_clear_28 rfl (lv_at hl 1 rfl) ?_
              refine n_aldg hx hb hK hP 26 4 rfl rfl (by omega) (by decide) (if_pos (by omega)) dX7_clear_29 ?_
              rcases (show h = 0 ∨ h = 1 ∨ h = 2 ∨ h = 3 ∨ h = 4 ∨ h = 5 by omega) with er_30 | er_30 | er_30 | er_30 | er_30 | er_30
              · refine n_topr (z := a (27 + 0)) (by rw [er_30]) ?_
                refine lv_iload_n hx hb dX7_clear_30 rfl (lv_at hl 0 rfl) ?_
                refine lv_iconst (v := nI (0)) hx hb dX7_clear_31 (by decide) ?_
                refine n_iast hx hb hK hP (ad_D hA0 rfl) hS 27 0 rfl rfl (by omega) (by decide) dX7_clear_32 (fun H locs hP hS => ?_)
                have hP : va_P (dC, dI) vwCl (MW y a rn n lo kp dy so he kn ak pl im lo2 dy2 so2 he2 kn2 ma kd len ord kh km pg len2 ord2 kh2 km2 cw tl tO bO (upR lf8 0 j 0) (va_up wo9 h 0)) H := hP
                refine lv_iinc (v := nI (j + 1)) (lv' := [(2, .int (nI (j + 1))), (1, .int (nI (h))), (0, .ref (a 25))]) hx hb dX7_clear_33 hl (k := 0) rfl (mr_inc _) (by decide) rfl (fun ls hl => ?_)
                refine lv_goto (tgt := 17) hx hb dX7_clear_36 (by decide) ?_
                exact ih_17 (j + 1) (upR lf8 0 j 0) (by omega) (upR_z hY er_30) (by omega) _ _ _ hP hS (lv_sub hl [0, 1, 2] rfl)
              · refine n_topr (z := a (27 + 1)) (by rw [er_30]) ?_
                refine lv_iload_n hx hb dX7_clear_30 rfl (lv_at hl 0 rfl) ?_
                refine lv_iconst (v := nI (0)) hx hb dX7_clear_31 (by decide) ?_
                refine n_iast hx hb hK hP (ad_D hA0 rfl) hS 28 0 rfl rfl (by omega) (by decide) dX7_clear_32 (fun H locs hP hS => ?_)
                have hP : va_P (dC, dI) vwCl (MW y a rn n lo kp dy so he kn ak pl im lo2 dy2 so2 he2 kn2 ma kd len ord kh km pg len2 ord2 kh2 km2 cw tl tO bO (upR lf8 1 j 0) (va_up wo9 h 0)) H := hP
                refine lv_iinc (v := nI (j + 1)) (lv' := [(2, .int (nI (j + 1))), (1, .int (nI (h))), (0, .ref (a 25))]) hx hb dX7_clear_33 hl (k := 0) rfl (mr_inc _) (by decide) rfl (fun ls hl => ?_)
                refine lv_goto (tgt := 17) hx hb dX7_clear_36 (by decide) ?_
                exact ih_17 (j + 1) (upR lf8 1 j 0) (by omega) (upR_z hY er_30) (by omega) _ _ _ hP hS (lv_sub hl [0, 1, 2] rfl)
              · refine n_topr (z := a (27 + 2)) (by rw [er_30]) ?_
                refine lv_iload_n hx hb dX7_clear_30 rfl (lv_at hl 0 rfl) ?_
                refine lv_iconst (v := nI (0)) hx hb dX7_clear_31 (by decide) ?_
                refine n_iast hx hb hK hP (ad_D hA0 rfl) hS 29 0 rfl rfl (by omega) (by decide) dX7_clear_32 (fun H locs hP hS => ?_)
                have hP : va_P (dC, dI) vwCl (MW y a rn n lo kp dy so he kn ak pl im lo2 dy2 so2 he2 kn2 ma kd len ord kh km pg len2 ord2 kh2 km2 cw tl tO bO (upR lf8 2 j 0) (va_up wo9 h 0)) H := hP
                refine lv_iinc (v := nI (j + 1)) (lv' := [(2, .int (nI (j + 1))), (1, .int (nI (h))), (0, .ref (a 25))]) hx hb dX7_clear_33 hl (k := 0) rfl (mr_inc _) (by decide) rfl (fun ls hl => ?_)
                refine lv_goto (tgt := 17) hx hb dX7_clear_36 (by decide) ?_
                exact ih_17 (j + 1) (upR lf8 2 j 0) (by omega) (upR_z hY er_30) (by omega) _ _ _ hP hS (lv_sub hl [0, 1, 2] rfl)
              · refine n_topr (z := a (27 + 3)) (by rw [er_30]) ?_
                refine lv_iload_n hx hb dX7_clear_30 rfl (lv_at hl 0 rfl) ?_
                refine lv_iconst (v := nI (0)) hx hb dX7_clear_31 (by decide) ?_
                refine n_iast hx hb hK hP (ad_D hA0 rfl) hS 30 0 rfl rfl (by omega) (by decide) dX7_clear_32 (fun H locs hP hS => ?_)
                have hP : va_P (dC, dI) vwCl (MW y a rn n lo kp dy so he kn ak pl im lo2 dy2 so2 he2 kn2 ma kd len ord kh km pg len2 ord2 kh2 km2 cw tl tO bO (upR lf8 3 j 0) (va_up wo9 h 0)) H := hP
                refine lv_iinc (v := nI (j + 1)) (lv' := [(2, .int (nI (j + 1))), (1, .int (nI (h))), (0, .ref (a 25))]) hx hb dX7_clear_33 hl (k := 0) rfl (mr_inc _) (by decide) rfl (fun ls hl => ?_)
                refine lv_goto (tgt := 17) hx hb dX7_clear_36 (by decide) ?_
                exact ih_17 (j + 1) (upR lf8 3 j 0) (by omega) (upR_z hY er_30) (by omega) _ _ _ hP hS (lv_sub hl [0, 1, 2] rfl)
              · refine n_topr (z := a (27 + 4)) (by rw [er_30]) ?_
                refine lv_iload_n hx hb dX7_clear_30 rfl (lv_at hl 0 rfl) ?_
                refine lv_iconst (v := nI (0)) hx hb dX7_clear_31 (by decide) ?_
                refine n_iast hx hb hK hP (ad_D hA0 rfl) hS 31 0 rfl rfl (by omega) (by decide) dX7_clear_32 (fun H locs hP hS => ?_)
                have hP : va_P (dC, dI) vwCl (MW y a rn n lo kp dy so he kn ak pl im lo2 dy2 so2 he2 kn2 ma kd len ord kh km pg len2 ord2 kh2 km2 cw tl tO bO (upR lf8 4 j 0) (va_up wo9 h 0)) H := hP
                refine lv_iinc (v := nI (j + 1)) (lv' := [(2, .int (nI (j + 1))), (1, .int (nI (h))), (0, .ref (a 25))]) hx hb dX7_clear_33 hl (k := 0) rfl (mr_inc _) (by decide) rfl (fun ls hl => ?_)
                refine lv_goto (tgt := 17) hx hb dX7_clear_36 (by decide) ?_
                exact ih_17 (j + 1) (upR lf8 4 j 0) (by omega) (upR_z hY er_30) (by omega) _ _ _ hP hS (lv_sub hl [0, 1, 2] rfl)
              · refine n_topr (z := a (27 + 5)) (by rw [er_30]) ?_
                refine lv_iload_n hx hb dX7_clear_30 rfl (lv_at hl 0 rfl) ?_
                refine lv_iconst (v := nI (0)) hx hb dX7_clear_31 (by decide) ?_
                refine n_iast hx hb hK hP (ad_D hA0 rfl) hS 32 0 rfl rfl (by omega) (by decide) dX7_clear_32 (fun H locs hP hS => ?_)
                have hP : va_P (dC, dI) vwCl (MW y a rn n lo kp dy so he kn ak pl im lo2 dy2 so2 he2 kn2 ma kd len ord kh km pg len2 ord2 kh2 km2 cw tl tO bO (upR lf8 5 j 0) (va_up wo9 h 0)) H := hP
                refine lv_iinc (v := nI (j + 1)) (lv' := [(2, .int (nI (j + 1))), (1, .int (nI (h))), (0, .ref (a 25))]) hx hb dX7_clear_33 hl (k := 0) rfl (mr_inc _) (by decide) rfl (fun ls hl => ?_)
                refine lv_goto (tgt := 17) hx hb dX7_clear_36 (by decide) ?_
                exact ih_17 (j + 1) (upR lf8 5 j 0) (by omega) (upR_z hY er_30) (by omega) _ _ _ hP hS (lv_sub hl [0, 1, 2] rfl)
        exact loop_17 _ 0 lf9 (Nat.zero_le _) (fun i z q1 q2 => hZ i z (by omega) q2) (Nat.lt_succ_self _) _ _ _ hP hS (lv_sub hl [0, 1, 2] rfl)
  exact loop_2 _ 0 lf wo (Nat.zero_le _) (fun i z q => absurd q (Nat.not_lt_zero _)) (fun i q => absurd q (Nat.not_lt_zero _)) (Nat.lt_succ_self _) _ _ _ hP hS (lv_sub hl [0, 1] rfl)
theorem in_X7_add_X7 : ∀ w ∈ wsX70, w ∈ wsX7_add := fun w h => List.mem_cons_of_mem _ (List.mem_append_right _ h)
set_option maxHeartbeats 4000000 in
set_option maxRecDepth 100000 in
theorem k_X7_add (l : Launch) (dC : Nat → ClassId) (dI : Nat → Nat → Nat) (y : Nat → ClassId) (A : Nat → Prop) (a : Nat → Nat) (hA0 : ad_ok A a 34) (xK : Nat → Nat) (xV : Nat → Nat) (rn : Nat) (n : Nat) (lo : Int32) (kp : Nat) (dy : Int32) (so : Int32) (he : Int32) (kn : Nat) (ak : Nat) (pl : Nat) (im : Bool) (lo2 : Int32) (dy2 : Int32) (so2 : Int32) (he2 : Int32) (kn2 : Nat) (ma : Nat) (kd : Nat → Nat) (len : Nat → Nat) (ord : Nat → Nat) (kh : Nat → Nat) (km : Nat → Nat) (pg : Nat → Nat) (len2 : Nat → Nat) (ord2 : Nat → Nat) (kh2 : Nat → Nat) (km2 : Nat → Nat) (cw : Nat → Nat) (tl : Nat → Nat) (tO : Nat → Nat) (bO : Nat → Nat) (lf : Nat → Nat → Nat) (wo : Nat → Nat) (hn : n ≤ 6) (hcw : ∀ j, cw j ≤ 126) (hlf : ∀ i, i < n → lf i (cw i) < 1000) (hwo : ∀ i, i < n → wo i < 1000) : Met l yX7_add wsX7_add ({ frames := 1, cells := 0, slots := 0, locals := 15 } : Room) (c_P (dC, dI) vwCl (TY y) (EV xK xV A) (MW y a rn n lo kp dy so he kn ak pl im lo2 dy2 so2 he2 kn2 ma kd len ord kh km pg len2 ord2 kh2 km2 cw tl tO bO lf wo) [.ref (a 25), .ref (a 21), .int (nI (n))]) (va_Qv (fun (u : (Nat → Nat → Nat) × (Nat → Nat)) => AddI cw lf wo n u.1 u.2) (c_B (dC, dI) vwCl (TY y) (fun (u : (Nat → Nat → Nat) × (Nat → Nat)) => (MW y a rn n lo kp dy so he kn ak pl im lo2 dy2 so2 he2 kn2 ma kd len ord kh km pg len2 ord2 kh2 km2 cw tl tO bO u.1 u.2))) A) 0 0 A := by
  refine Met.ofW (cc := cX7_add) (maxL := 5) (ret := none) (by decide) rfl ?_
  intro p e s m args below meth c s₁ BB hml hv
  obtain ⟨rfl, hP, hK, hE⟩ := hv
  have hx := BB.exec
  have hb := BB.bytes
  have hr := BB.returns
  have hts := atoms_spec (ws := wsX7_add) BB.pre
  have hown : s.vm.findClass RX7 = some m.cls := findClass_of_methodNamed BB.named
  have hlocks := BB.notSynchronized
  have hS : va_S A s.heap s.heap [] := va_S.rf
  have hl := lv_entry ([.ref (a 25), .ref (a 21), .int (nI (n))]) (n := 5) (Nat.le_of_ble_eq_true rfl)
  rw [lg_entry_eq]
  generalize (lg_sl ([.ref (a 25), .ref (a 21), .int (nI (n))]) ++ List.replicate (5 - (lg_sl ([.ref (a 25), .ref (a 21), .int (nI (n))])).length) Slot.unset).toArray = ls at hl ⊢
  have hl : lv_has ls 5 [(0, .ref (a 25)), (1, .ref (a 21)), (2, .int (nI (n)))] := hl
  refine lv_iconst (v := nI (0)) hx hb dX7_add_0 (by decide) ?_
  refine lv_istore_n (lv' := [(3, .int (nI (0))), (0, .ref (a 25)), (1, .ref (a 21)), (2, .int (nI (n)))]) hx hb dX7_add_1 rfl hl (by decide) rfl (fun ls hl => ?_)
  have loop_2 : ∀ (dd_2 : Nat) (k : Nat) (lf9 : Nat → Nat → Nat) (wo9 : Nat → Nat) (hk : k ≤ n) (hI : AddI cw lf wo k lf9 wo9), n - k < dd_2 → ∀ (H : Heap) (locs : List Loc) (ls : Array Slot), va_P (dC, dI) vwCl (MW y a rn n lo kp dy so he kn ak pl im lo2 dy2 so2 he2 kn2 ma kd len ord kh km pg len2 ord2 kh2 km2 cw tl tO bO lf9 wo9) H → va_S A s.heap H locs → lv_has ls 5 [(3, .int (nI (k))), (0, .ref (a 25)), (1, .ref (a 21)), (2, .int (nI (n)))] → W p l e (headSpec wsX7_add ({ frames := 1, cells := 0, slots := 0, locals := 15 } : Room)).room s m [.ref (a 25), .ref (a 21), .int (nI (n))].toArray below meth c H locs 0 0 (MQ below (va_Qv (fun (u : (Nat → Nat → Nat) × (Nat → Nat)) => AddI cw lf wo n u.1 u.2) (c_B (dC, dI) vwCl (TY y) (fun (u : (Nat → Nat → Nat) × (Nat → Nat)) => (MW y a rn n lo kp dy so he kn ak pl im lo2 dy2 so2 he2 kn2 ma kd len ord kh km pg len2 ord2 kh2 km2 cw tl tO bO u.1 u.2))) A) [.ref (a 25), .ref (a 21), .int (nI (n))].toArray s 0 0 A) (F0 m 2 ls []) := by
    intro dd_2
    induction dd_2 with
    | zero => intro k lf9 wo9 hk hI hd; exact absurd hd (Nat.not_lt_zero _)
    | succ dd_2 ih_2 =>
      intro k lf9 wo9 hk hI hd_2 H locs ls hP hS hl
      refine lv_iload_n hx hb dX7_add_2 rfl (lv_at hl 0 rfl) ?_
      refine lv_iload_n hx hb dX7_add_3 rfl (lv_at hl 3 rfl) ?_
      refine n_icmp_ge (tgt := 68) hx hb dX7_add_4 (by decide) (by omega) (by omega) (fun c_4 => ?_) (fun c_4 => ?_)
      · have hkn : k = n := by omega
        exact c_vret hx hb hr hlocks hK hS (lf9, wo9) hP (hkn ▸ hI) dX7_add_68
      · have h2 := hI.2 k (Nat.le_refl k)
        have hl9 := hlf k (by omega)
        have hw9 := hwo k (by omega)
        have hl8 : lf9 k (cw k) < 1000 := by rw [h2.1]; exact hl9
        refine lv_aload_n hx hb dX7_add_7 rfl (lv_at hl 2 rfl) ?_
        refine lv_iload_n hx hb dX7_add_8 rfl (lv_at hl 0 rfl) ?_
        refine n_iald hx hb hK hP 21 0 rfl rfl (by omega) (by decide) dX7_add_9 ?_
        have hb_9 := hcw k
        refine lv_istore (lv' := [(4, .int (nI (cw k))), (3, .int (nI (k))), (0, .ref (a 25)), (1, .ref (a 21)), (2, .int (nI (n)))]) hx hb dX7_add_10 hl (by decide) rfl (fun ls hl => ?_)
        refine lv_iload hx hb dX7_add_12 (lv_at hl 0 rfl) ?_
        refine n_if_lt (tgt := 62) hx hb dX7_add_14 (by decide) (by omega) (fun c_14 => ?_) (fun c_14 => ?_)
        · exact absurd c_14 (Nat.not_lt_zero _)
        · refine lv_iload hx hb dX7_add_17 (lv_at hl 0 rfl) ?_
          refine lv_sipush (v := nI (150)) hx hb dX7_add_19 (by decide) ?_
          refine n_icmp_gt (tgt := 62) hx hb dX7_add_22 (by decide) (by omega) (by omega) (fun c_22 => ?_) (fun c_22 => ?_)
          · exact absurd c_22 (by omega)
          · refine lv_aload_n hx hb dX7_add_25 rfl (lv_at hl 2 rfl) ?_
            refine va_get (D := (dC, dI)) (ci := 7) (C := RX7) (T := TX7) (N := 2) hx hb hts in_X7_add_X7 hown hK hP 25 rfl rfl 0 (by decide) (hts (.fieldLink RX7 11 "MilkRound$Tally" "left" "[[I") (List.mem_of_getElem? (i := 1) rfl)) (fun _ h9 => h9) rfl dX7_add_26 ?_
            refine lv_iload_n hx hb dX7_add_29 rfl (lv_at hl 1 rfl) ?_
            refine n_aldg hx hb hK hP 26 4 rfl rfl (by omega) (by decide) (if_pos (by omega)) dX7_add_30 ?_
            rcases (show k = 0 ∨ k = 1 ∨ k = 2 ∨ k = 3 ∨ k = 4 ∨ k = 5 by omega) with er_31 | er_31 | er_31 | er_31 | er_31 | er_31
            · refine n_topr (z := a (27 + 0)) (by rw [er_31]) ?_
              refine lv_iload hx hb dX7_add_31 (lv_at hl 0 rfl) ?_
              refine lv_dup2_11 hx hb dX7_add_33 rfl rfl ?_
              refine n_iald hx hb hK hP 27 0 rfl rfl (by omega) (by decide) dX7_add_34 ?_
              refine lv_iconst (v := nI (1)) hx hb dX7_add_35 (by decide) ?_
              refine n_iadd hx hb dX7_add_36 ?_
              refine n_iast hx hb hK hP (ad_D hA0 rfl) hS 27 0 rfl rfl (by omega) (by decide) dX7_add_37 (fun H locs hP hS => ?_)
              have hP : va_P (dC, dI) vwCl (MW y a rn n lo kp dy so he kn ak pl im lo2 dy2 so2 he2 kn2 ma kd len ord kh km pg len2 ord2 kh2 km2 cw tl tO bO (upR lf9 0 (cw k) ((lf9 0 (cw k)) + (1))) wo9) H := hP
              refine lv_aload_n hx hb dX7_add_38 rfl (lv_at hl 2 rfl) ?_
              refine va_get (D := (dC, dI)) (ci := 7) (C := RX7) (T := TX7) (N := 2) hx hb hts in_X7_add_X7 hown hK hP 25 rfl rfl 1 (by decide) (hts (.fieldLink RX7 16 "MilkRound$Tally" "worst" "[I") (List.mem_of_getElem? (i := 2) rfl)) (fun _ h9 => h9) rfl dX7_add_39 ?_
              refine lv_iload_n hx hb dX7_add_42 rfl (lv_at hl 1 rfl) ?_
              refine lv_aload_n hx hb dX7_add_43 rfl (lv_at hl 2 rfl) ?_
              refine va_get (D := (dC, dI)) (ci := 7) (C := RX7) (T := TX7) (N := 2) hx hb hts in_X7_add_X7 hown hK hP 25 rfl rfl 1 (by decide) (hts (.fieldLink RX7 16 "MilkRound$Tally" "worst" "[I") (List.mem_of_getElem? (i := 2) rfl)) (fun _ h9 => h9) rfl dX7_add_44 ?_
              refine lv_iload_n hx hb dX7_add_47 rfl (lv_at hl 1 rfl) ?_
              refine n_iald hx hb hK hP 33 0 rfl rfl (by omega) (by decide) dX7_add_48 ?_
              refine lv_aload_n hx hb dX7_add_49 rfl (lv_at hl 2 rfl) ?_
              refine va_get (D := (dC, dI)) (ci := 7) (C := RX7) (T := TX7) (N := 2) hx hb hts in_X7_add_X7 hown hK hP 25 rfl rfl 0 (by decide) (hts (.fieldLink RX7 11 "MilkRound$Tally" "left" "[[I") (List.mem_of_getElem? (i := 1) rfl)) (fun _ h9 => h9) rfl dX7_add_50 ?_
              refine lv_iload_n hx hb dX7_add_53 rfl (lv_at hl 1 rfl) ?_
              refine n_aldg hx hb hK hP 26 4 rfl rfl (by omega) (by decide) (if_pos (by omega)) dX7_add_54 ?_
              refine n_topr (z := a (27 + 0)) (by rw [er_31]) ?_
              refine lv_iload hx hb dX7_add_55 (lv_at hl 0 rfl) ?_
              refine n_iald hx hb hK hP 27 0 rfl rfl (by omega) (by decide) dX7_add_57 ?_
              refine n_top (y := nI (lf9 0 (cw k) + 1)) (by rw [upR_at, up_at]) ?_
              refine va_mmax hx hb (hml.trans hl.1.symm) hown (hts (.methodLink RX7 20 Lib.Math.max.name) (List.mem_of_getElem? (i := 3) rfl)) (hts (.static Lib.Math.max.name) (List.mem_of_getElem? (i := 4) rfl)) (hts (.initialized "java/lang/Math") (List.mem_of_getElem? (i := 5) rfl)) (hts (.code Lib.Math.max.name Lib.Math.max.code 2 (some .int)) (List.mem_of_getElem? (i := 6) rfl)) (Nat.le_of_ble_eq_true rfl) (Nat.le_of_ble_eq_true rfl) (Nat.zero_le _) (Nat.zero_le _) dX7_add_58 ?_
              refine n_top (y := nI (mxN (wo9 k) (lf9 0 (cw k) + 1))) (mr_max (by rw [h2.2]; omega) (by have e8 : lf9 0 (cw k) = lf9 k (cw k) := (by rw [er_31]); omega)) ?_
              refine n_iast hx hb hK hP (ad_D hA0 rfl) hS 33 0 rfl rfl (by omega) (by decide) dX7_add_61 (fun H locs hP hS => ?_)
              have hP : va_P (dC, dI) vwCl (MW y a rn n lo kp dy so he kn ak pl im lo2 dy2 so2 he2 kn2 ma kd len ord kh km pg len2 ord2 kh2 km2 cw tl tO bO (upR lf9 0 (cw k) ((lf9 0 (cw k)) + (1))) (va_up wo9 k (mxN (wo9 k) (lf9 0 (cw k) + 1)))) H := hP
              refine lv_iinc (v := nI (k + 1)) (lv' := [(3, .int (nI (k + 1))), (4, .int (nI (cw k))), (0, .ref (a 25)), (1, .ref (a 21)), (2, .int (nI (n)))]) hx hb dX7_add_62 hl (k := 1) rfl (mr_inc _) (by decide) rfl (fun ls hl => ?_)
              refine lv_goto (tgt := 2) hx hb dX7_add_65 (by decide) ?_
              exact ih_2 (k + 1) (upR lf9 0 (cw k) ((lf9 0 (cw k)) + (1))) (va_up wo9 k (mxN (wo9 k) (lf9 0 (cw k) + 1))) (by omega) (AddI_s hI er_31) (by omega) _ _ _ hP hS (lv_sub hl [0, 2, 3, 4] rfl)
            · refine n_topr (z := a (27 + 1)) (by rw [er_31]) ?_
              refine lv_iload hx hb dX7_add_31 (lv_at hl 0 rfl) ?_
              refine lv_dup2_11 hx hb dX7_add_33 rfl rfl ?_
              refine n_iald hx hb hK hP 28 0 rfl rfl (by omega) (by decide) dX7_add_34 ?_
              refine lv_iconst (v := nI (1)) hx hb dX7_add_35 (by decide) ?_
              refine n_iadd hx hb dX7_add_36 ?_
              refine n_iast hx hb hK hP (ad_D hA0 rfl) hS 28 0 rfl rfl (by omega) (by decide) dX7_add_37 (fun H locs hP hS => ?_)
              have hP : va_P (dC, dI) vwCl (MW y a rn n lo kp dy so he kn ak pl im lo2 dy2 so2 he2 kn2 ma kd len ord kh km pg len2 ord2 kh2 km2 cw tl tO bO (upR lf9 1 (cw k) ((lf9 1 (cw k)) + (1))) wo9) H := hP
              refine lv_aload_n hx hb dX7_add_38 rfl (lv_at hl 2 rfl) ?_
              refine va_get (D := (dC, dI)) (ci := 7) (C := RX7) (T := TX7) (N := 2) hx hb hts in_X7_add_X7 hown hK hP 25 rfl rfl 1 (by decide) (hts (.fieldLink RX7 16 "MilkRound$Tally" "worst" "[I") (List.mem_of_getElem? (i := 2) rfl)) (fun _ h9 => h9) rfl dX7_add_39 ?_
              refine lv_iload_n hx hb dX7_add_42 rfl (lv_at hl 1 rfl) ?_
              refine lv_aload_n hx hb dX7_add_43 rfl (lv_at hl 2 rfl) ?_
              refine va_get (D := (dC, dI)) (ci := 7) (C := RX7) (T := TX7) (N := 2) hx hb hts in_X7_add_X7 hown hK hP 25 rfl rfl 1 (by decide) (hts (.fieldLink RX7 16 "MilkRound$Tally" "worst" "[I") (List.mem_of_getElem? (i := 2) rfl)) (fun _ h9 => h9) rfl dX7_add_44 ?_
              refine lv_iload_n hx hb dX7_add_47 rfl (lv_at hl 1 rfl) ?_
              refine n_iald hx hb hK hP 33 0 rfl rfl (by omega) (by decide) dX7_add_48 ?_
              refine lv_aload_n hx hb dX7_add_49 rfl (lv_at hl 2 rfl) ?_
              refine va_get (D := (dC, dI)) (ci := 7) (C := RX7) (T := TX7) (N := 2) hx hb hts in_X7_add_X7 hown hK hP 25 rfl rfl 0 (by decide) (hts (.fieldLink RX7 11 "MilkRound$Tally" "left" "[[I") (List.mem_of_getElem? (i := 1) rfl)) (fun _ h9 => h9) rfl dX7_add_50 ?_
              refine lv_iload_n hx hb dX7_add_53 rfl (lv_at hl 1 rfl) ?_
              refine n_aldg hx hb hK hP 26 4 rfl rfl (by omega) (by decide) (if_pos (by omega)) dX7_add_54 ?_
              refine n_topr (z := a (27 + 1)) (by rw [er_31]) ?_
              refine lv_iload hx hb dX7_add_55 (lv_at hl 0 rfl) ?_
              refine n_iald hx hb hK hP 28 0 rfl rfl (by omega) (by decide) dX7_add_57 ?_
              refine n_top (y := nI (lf9 1 (cw k) + 1)) (by rw [upR_at, up_at]) ?_
              refine va_mmax hx hb (hml.trans hl.1.symm) hown (hts (.methodLink RX7 20 Lib.Math.max.name) (List.mem_of_getElem? (i := 3) rfl)) (hts (.static Lib.Math.max.name) (List.mem_of_getElem? (i := 4) rfl)) (hts (.initialized "java/lang/Math") (List.mem_of_getElem? (i := 5) rfl)) (hts (.code Lib.Math.max.name Lib.Math.max.code 2 (some .int)) (List.mem_of_getElem? (i := 6) rfl)) (Nat.le_of_ble_eq_true rfl) (Nat.le_of_ble_eq_true rfl) (Nat.zero_le _) (Nat.zero_le _) dX7_add_58 ?_
              refine n_top (y := nI (mxN (wo9 k) (lf9 1 (cw k) + 1))) (mr_max (by rw [h2.2]; omega) (by have e8 : lf9 1 (cw k) = lf9 k (cw k) := (by rw [er_31]); omega)) ?_
              refine n_iast hx hb hK hP (ad_D hA0 rfl) hS 33 0 rfl rfl (by omega) (by decide) dX7_add_61 (fun H locs hP hS => ?_)
              have hP : va_P (dC, dI) vwCl (MW y a rn n lo kp dy so he kn ak pl im lo2 dy2 so2 he2 kn2 ma kd len ord kh km pg len2 ord2 kh2 km2 cw tl tO bO (upR lf9 1 (cw k) ((lf9 1 (cw k)) + (1))) (va_up wo9 k (mxN (wo9 k) (lf9 1 (cw k) + 1)))) H := hP
              refine lv_iinc (v := nI (k + 1)) (lv' := [(3, .int (nI (k + 1))), (4, .int (nI (cw k))), (0, .ref (a 25)), (1, .ref (a 21)), (2, .int (nI (n)))]) hx hb dX7_add_62 hl (k := 1) rfl (mr_inc _) (by decide) rfl (fun ls hl => ?_)
              refine lv_goto (tgt := 2) hx hb dX7_add_65 (by decide) ?_
              exact ih_2 (k + 1) (upR lf9 1 (cw k) ((lf9 1 (cw k)) + (1))) (va_up wo9 k (mxN (wo9 k) (lf9 1 (cw k) + 1))) (by omega) (AddI_s hI er_31) (by omega) _ _ _ hP hS (lv_sub hl [0, 2, 3, 4] rfl)
            · refine n_topr (z := a (27 + 2)) (by rw [er_31]) ?_
              refine lv_iload hx hb dX7_add_31 (lv_at hl 0 rfl) ?_
              refine lv_dup2_11 hx hb dX7_add_33 rfl rfl ?_
              refine n_iald hx hb hK hP 29 0 rfl rfl (by omega) (by decide) dX7_add_34 ?_
              refine lv_iconst (v := nI (1)) hx hb dX7_add_35 (by decide) ?_
              refine n_iadd hx hb dX7_add_36 ?_
              refine n_iast hx hb hK hP (ad_D hA0 rfl) hS 29 0 rfl rfl (by omega) (by decide) dX7_add_37 (fun H locs hP hS => ?_)
              have hP : va_P (dC, dI) vwCl (MW y a rn n lo kp dy so he kn ak pl im lo2 dy2 so2 he2 kn2 ma kd len ord kh km pg len2 ord2 kh2 km2 cw tl tO bO (upR lf9 2 (cw k) ((lf9 2 (cw k)) + (1))) wo9) H := hP
              refine lv_aload_n hx hb dX7_add_38 rfl (lv_at hl 2 rfl) ?_
              refine va_get (D := (dC, dI)) (ci := 7) (C := RX7) (T := TX7) (N := 2) hx hb hts in_X7_add_X7 hown hK hP 25 rfl rfl 1 (by decide) (hts (.fieldLink RX7 16 "MilkRound$Tally" "worst" "[I") (List.mem_of_getElem? (i := 2) rfl)) (fun _ h9 => h9) rfl dX7_add_39 ?_
              refine lv_iload_n hx hb dX7_add_42 rfl (lv_at hl 1 rfl) ?_
              refine lv_aload_n hx hb dX7_add_43 rfl (lv_at hl 2 rfl) ?_
              refine va_get (D := (dC, dI)) (ci := 7) (C := RX7) (T := TX7) (N := 2) hx hb hts in_X7_add_X7 hown hK hP 25 rfl rfl 1 (by decide) (hts (.fieldLink RX7 16 "MilkRound$Tally" "worst" "[I") (List.mem_of_getElem? (i := 2) rfl)) (fun _ h9 => h9) rfl dX7_add_44 ?_
              refine lv_iload_n hx hb dX7_add_47 rfl (lv_at hl 1 rfl) ?_
              refine n_iald hx hb hK hP 33 0 rfl rfl (by omega) (by decide) dX7_add_48 ?_
              refine lv_aload_n hx hb dX7_add_49 rfl (lv_at hl 2 rfl) ?_
              refine va_get (D := (dC, dI)) (ci := 7) (C := RX7) (T := TX7) (N := 2) hx hb hts in_X7_add_X7 hown hK hP 25 rfl rfl 0 (by decide) (hts (.fieldLink RX7 11 "MilkRound$Tally" "left" "[[I") (List.mem_of_getElem? (i := 1) rfl)) (fun _ h9 => h9) rfl dX7_add_50 ?_
              refine lv_iload_n hx hb dX7_add_53 rfl (lv_at hl 1 rfl) ?_
              refine n_aldg hx hb hK hP 26 4 rfl rfl (by omega) (by decide) (if_pos (by omega)) dX7_add_54 ?_
              refine n_topr (z := a (27 + 2)) (by rw [er_31]) ?_
              refine lv_iload hx hb dX7_add_55 (lv_at hl 0 rfl) ?_
              refine n_iald hx hb hK hP 29 0 rfl rfl (by omega) (by decide) dX7_add_57 ?_
              refine n_top (y := nI (lf9 2 (cw k) + 1)) (by rw [upR_at, up_at]) ?_
              refine va_mmax hx hb (hml.trans hl.1.symm) hown (hts (.methodLink RX7 20 Lib.Math.max.name) (List.mem_of_getElem? (i := 3) rfl)) (hts (.static Lib.Math.max.name) (List.mem_of_getElem? (i := 4) rfl)) (hts (.initialized "java/lang/Math") (List.mem_of_getElem? (i := 5) rfl)) (hts (.code Lib.Math.max.name Lib.Math.max.code 2 (some .int)) (List.mem_of_getElem? (i := 6) rfl)) (Nat.le_of_ble_eq_true rfl) (Nat.le_of_ble_eq_true rfl) (Nat.zero_le _) (Nat.zero_le _) dX7_add_58 ?_
              refine n_top (y := nI (mxN (wo9 k) (lf9 2 (cw k) + 1))) (mr_max (by rw [h2.2]; omega) (by have e8 : lf9 2 (cw k) = lf9 k (cw k) := (by rw [er_31]); omega)) ?_
              refine n_iast hx hb hK hP (ad_D hA0 rfl) hS 33 0 rfl rfl (by omega) (by decide) dX7_add_61 (fun H locs hP hS => ?_)
              have hP : va_P (dC, dI) vwCl (MW y a rn n lo kp dy so he kn ak pl im lo2 dy2 so2 he2 kn2 ma kd len ord kh km pg len2 ord2 kh2 km2 cw tl tO bO (upR lf9 2 (cw k) ((lf9 2 (cw k)) + (1))) (va_up wo9 k (mxN (wo9 k) (lf9 2 (cw k) + 1)))) H := hP
              refine lv_iinc (v := nI (k + 1)) (lv' := [(3, .int (nI (k + 1))), (4, .int (nI (cw k))), (0, .ref (a 25)), (1, .ref (a 21)), (2, .int (nI (n)))]) hx hb dX7_add_62 hl (k := 1) rfl (mr_inc _) (by decide) rfl (fun ls hl => ?_)
              refine lv_goto (tgt := 2) hx hb dX7_add_65 (by decide) ?_
              exact ih_2 (k + 1) (upR lf9 2 (cw k) ((lf9 2 (cw k)) + (1))) (va_up wo9 k (mxN (wo9 k) (lf9 2 (cw k) + 1))) (by omega) (AddI_s hI er_31) (by omega) _ _ _ hP hS (lv_sub hl [0, 2, 3, 4] rfl)
            · refine n_topr (z := a (27 + 3)) (by rw [er_31]) ?_
              refine lv_iload hx hb dX7_add_31 (lv_at hl 0 rfl) ?_
              refine lv_dup2_11 hx hb dX7_add_33 rfl rfl ?_
              refine n_iald hx hb hK hP 30 0 rfl rfl (by omega) (by decide) dX7_add_34 ?_
              refine lv_iconst (v := nI (1)) hx hb dX7_add_35 (by decide) ?_
              refine n_iadd hx hb dX7_add_36 ?_
              refine n_iast hx hb hK hP (ad_D hA0 rfl) hS 30 0 rfl rfl (by omega) (by decide) dX7_add_37 (fun H locs hP hS => ?_)
              have hP : va_P (dC, dI) vwCl (MW y a rn n lo kp dy so he kn ak pl im lo2 dy2 so2 he2 kn2 ma kd len ord kh km pg len2 ord2 kh2 km2 cw tl tO bO (upR lf9 3 (cw k) ((lf9 3 (cw k)) + (1))) wo9) H := hP
              refine lv_aload_n hx hb dX7_add_38 rfl (lv_at hl 2 rfl) ?_
              refine va_get (D := (dC, dI)) (ci := 7) (C := RX7) (T := TX7) (N := 2) hx hb hts in_X7_add_X7 hown hK hP 25 rfl rfl 1 (by decide) (hts (.fieldLink RX7 16 "MilkRound$Tally" "worst" "[I") (List.mem_of_getElem? (i := 2) rfl)) (fun _ h9 => h9) rfl dX7_add_39 ?_
              refine lv_iload_n hx hb dX7_add_42 rfl (lv_at hl 1 rfl) ?_
              refine lv_aload_n hx hb dX7_add_43 rfl (lv_at hl 2 rfl) ?_
              refine va_get (D := (dC, dI)) (ci := 7) (C := RX7) (T := TX7) (N := 2) hx hb hts in_X7_add_X7 hown hK hP 25 rfl rfl 1 (by decide) (hts (.fieldLink RX7 16 "MilkRound$Tally" "worst" "[I") (List.mem_of_getElem? (i := 2) rfl)) (fun _ h9 => h9) rfl dX7_add_44 ?_
              refine lv_iload_n hx hb dX7_add_47 rfl (lv_at hl 1 rfl) ?_
              refine n_iald hx hb hK hP 33 0 rfl rfl (by omega) (by decide) dX7_add_48 ?_
              refine lv_aload_n hx hb dX7_add_49 rfl (lv_at hl 2 rfl) ?_
              refine va_get (D := (dC, dI)) (ci := 7) (C := RX7) (T := TX7) (N := 2) hx hb hts in_X7_add_X7 hown hK hP 25 rfl rfl 0 (by decide) (hts (.fieldLink RX7 11 "MilkRound$Tally" "left" "[[I") (List.mem_of_getElem? (i := 1) rfl)) (fun _ h9 => h9) rfl dX7_add_50 ?_
              refine lv_iload_n hx hb dX7_add_53 rfl (lv_at hl 1 rfl) ?_
              refine n_aldg hx hb hK hP 26 4 rfl rfl (by omega) (by decide) (if_pos (by omega)) dX7_add_54 ?_
              refine n_topr (z := a (27 + 3)) (by rw [er_31]) ?_
              refine lv_iload hx hb dX7_add_55 (lv_at hl 0 rfl) ?_
              refine n_iald hx hb hK hP 30 0 rfl rfl (by omega) (by decide) dX7_add_57 ?_
              refine n_top (y := nI (lf9 3 (cw k) + 1)) (by rw [upR_at, up_at]) ?_
              refine va_mmax hx hb (hml.trans hl.1.symm) hown (hts (.methodLink RX7 20 Lib.Math.max.name) (List.mem_of_getElem? (i := 3) rfl)) (hts (.static Lib.Math.max.name) (List.mem_of_getElem? (i := 4) rfl)) (hts (.initialized "java/lang/Math") (List.mem_of_getElem? (i := 5) rfl)) (hts (.code Lib.Math.max.name Lib.Math.max.code 2 (some .int)) (List.mem_of_getElem? (i := 6) rfl)) (Nat.le_of_ble_eq_true rfl) (Nat.le_of_ble_eq_true rfl) (Nat.zero_le _) (Nat.zero_le _) dX7_add_58 ?_
              refine n_top (y := nI (mxN (wo9 k) (lf9 3 (cw k) + 1))) (mr_max (by rw [h2.2]; omega) (by have e8 : lf9 3 (cw k) = lf9 k (cw k) := (by rw [er_31]); omega)) ?_
              refine n_iast hx hb hK hP (ad_D hA0 rfl) hS 33 0 rfl rfl (by omega) (by decide) dX7_add_61 (fun H locs hP hS => ?_)
              have hP : va_P (dC, dI) vwCl (MW y a rn n lo kp dy so he kn ak pl im lo2 dy2 so2 he2 kn2 ma kd len ord kh km pg len2 ord2 kh2 km2 cw tl tO bO (upR lf9 3 (cw k) ((lf9 3 (cw k)) + (1))) (va_up wo9 k (mxN (wo9 k) (lf9 3 (cw k) + 1)))) H := hP
              refine lv_iinc (v := nI (k + 1)) (lv' := [(3, .int (nI (k + 1))), (4, .int (nI (cw k))), (0, .ref (a 25)), (1, .ref (a 21)), (2, .int (nI (n)))]) hx hb dX7_add_62 hl (k := 1) rfl (mr_inc _) (by decide) rfl (fun ls hl => ?_)
              refine lv_goto (tgt := 2) hx hb dX7_add_65 (by decide) ?_
              exact ih_2 (k + 1) (upR lf9 3 (cw k) ((lf9 3 (cw k)) + (1))) (va_up wo9 k (mxN (wo9 k) (lf9 3 (cw k) + 1))) (by omega) (AddI_s hI er_31) (by omega) _ _ _ hP hS (lv_sub hl [0, 2, 3, 4] rfl)
            · refine n_topr (z := a (27 + 4)) (by rw [er_31]) ?_
              refine lv_iload hx hb dX7_add_31 (lv_at hl 0 rfl) ?_
              refine lv_dup2_11 hx hb dX7_add_33 rfl rfl ?_
              refine n_iald hx hb hK hP 31 0 rfl rfl (by omega) (by decide) dX7_add_34 ?_
              refine lv_iconst (v := nI (1)) hx hb dX7_add_35 (by decide) ?_
              refine n_iadd hx hb dX7_add_36 ?_
              refine n_iast hx hb hK hP (ad_D hA0 rfl) hS 31 0 rfl rfl (by omega) (by decide) dX7_add_37 (fun H locs hP hS => ?_)
              have hP : va_P (dC, dI) vwCl (MW y a rn n lo kp dy so he kn ak pl im lo2 dy2 so2 he2 kn2 ma kd len ord kh km pg len2 ord2 kh2 km2 cw tl tO bO (upR lf9 4 (cw k) ((lf9 4 (cw k)) + (1))) wo9) H := hP
              refine lv_aload_n hx hb dX7_add_38 rfl (lv_at hl 2 rfl) ?_
              refine va_get (D := (dC, dI)) (ci := 7) (C := RX7) (T := TX7) (N := 2) hx hb hts in_X7_add_X7 hown hK hP 25 rfl rfl 1 (by decide) (hts (.fieldLink RX7 16 "MilkRound$Tally" "worst" "[I") (List.mem_of_getElem? (i := 2) rfl)) (fun _ h9 => h9) rfl dX7_add_39 ?_
              refine lv_iload_n hx hb dX7_add_42 rfl (lv_at hl 1 rfl) ?_
              refine lv_aload_n hx hb dX7_add_43 rfl (lv_at hl 2 rfl) ?_
              refine va_get (D := (dC, dI)) (ci := 7) (C := RX7) (T := TX7) (N := 2) hx hb hts in_X7_add_X7 hown hK hP 25 rfl rfl 1 (by decide) (hts (.fieldLink RX7 16 "MilkRound$Tally" "worst" "[I") (List.mem_of_getElem? (i := 2) rfl)) (fun _ h9 => h9) rfl dX7_add_44 ?_
              refine lv_iload_n hx hb dX7_add_47 rfl (lv_at hl 1 rfl) ?_
              refine n_iald hx hb hK hP 33 0 rfl rfl (by omega) (by decide) dX7_add_48 ?_
              refine lv_aload_n hx hb dX7_add_49 rfl (lv_at hl 2 rfl) ?_
              refine va_get (D := (dC, dI)) (ci := 7) (C := RX7) (T := TX7) (N := 2) hx hb hts in_X7_add_X7 hown hK hP 25 rfl rfl 0 (by decide) (hts (.fieldLink RX7 11 "MilkRound$Tally" "left" "[[I") (List.mem_of_getElem? (i := 1) rfl)) (fun _ h9 => h9) rfl dX7_add_50 ?_
              refine lv_iload_n hx hb dX7_add_53 rfl (lv_at hl 1 rfl) ?_
              refine n_aldg hx hb hK hP 26 4 rfl rfl (by omega) (by decide) (if_pos (by omega)) dX7_add_54 ?_
              refine n_topr (z := a (27 + 4)) (by rw [er_31]) ?_
              refine lv_iload hx hb dX7_add_55 (lv_at hl 0 rfl) ?_
              refine n_iald hx hb hK hP 31 0 rfl rfl (by omega) (by decide) dX7_add_57 ?_
              refine n_top (y := nI (lf9 4 (cw k) + 1)) (by rw [upR_at, up_at]) ?_
              refine va_mmax hx hb (hml.trans hl.1.symm) hown (hts (.methodLink RX7 20 Lib.Math.max.name) (List.mem_of_getElem? (i := 3) rfl)) (hts (.static Lib.Math.max.name) (List.mem_of_getElem? (i := 4) rfl)) (hts (.initialized "java/lang/Math") (List.mem_of_getElem? (i := 5) rfl)) (hts (.code Lib.Math.max.name Lib.Math.max.code 2 (some .int)) (List.mem_of_getElem? (i := 6) rfl)) (Nat.le_of_ble_eq_true rfl) (Nat.le_of_ble_eq_true rfl) (Nat.zero_le _) (Nat.zero_le _) dX7_add_58 ?_
              refine n_top (y := nI (mxN (wo9 k) (lf9 4 (cw k) + 1))) (mr_max (by rw [h2.2]; omega) (by have e8 : lf9 4 (cw k) = lf9 k (cw k) := (by rw [er_31]); omega)) ?_
              refine n_iast hx hb hK hP (ad_D hA0 rfl) hS 33 0 rfl rfl (by omega) (by decide) dX7_add_61 (fun H locs hP hS => ?_)
              have hP : va_P (dC, dI) vwCl (MW y a rn n lo kp dy so he kn ak pl im lo2 dy2 so2 he2 kn2 ma kd len ord kh km pg len2 ord2 kh2 km2 cw tl tO bO (upR lf9 4 (cw k) ((lf9 4 (cw k)) + (1))) (va_up wo9 k (mxN (wo9 k) (lf9 4 (cw k) + 1)))) H := hP
              refine lv_iinc (v := nI (k + 1)) (lv' := [(3, .int (nI (k + 1))), (4, .int (nI (cw k))), (0, .ref (a 25)), (1, .ref (a 21)), (2, .int (nI (n)))]) hx hb dX7_add_62 hl (k := 1) rfl (mr_inc _) (by decide) rfl (fun ls hl => ?_)
              refine lv_goto (tgt := 2) hx hb dX7_add_65 (by decide) ?_
              exact ih_2 (k + 1) (upR lf9 4 (cw k) ((lf9 4 (cw k)) + (1))) (va_up wo9 k (mxN (wo9 k) (lf9 4 (cw k) + 1))) (by omega) (AddI_s hI er_31) (by omega) _ _ _ hP hS (lv_sub hl [0, 2, 3, 4] rfl)
            · refine n_topr (z := a (27 + 5)) (by rw [er_31]) ?_
              refine lv_iload hx hb dX7_add_31 (lv_at hl 0 rfl) ?_
              refine lv_dup2_11 hx hb dX7_add_33 rfl rfl ?_
              refine n_iald hx hb hK hP 32 0 rfl rfl (by omega) (by decide) dX7_add_34 ?_
              refine lv_iconst (v := nI (1)) hx hb dX7_add_35 (by decide) ?_
              refine n_iadd hx hb dX7_add_36 ?_
              refine n_iast hx hb hK hP (ad_D hA0 rfl) hS 32 0 rfl rfl (by omega) (by decide) dX7_add_37 (fun H locs hP hS => ?_)
              have hP : va_P (dC, dI) vwCl (MW y a rn n lo kp dy so he kn ak pl im lo2 dy2 so2 he2 kn2 ma kd len ord kh km pg len2 ord2 kh2 km2 cw tl tO bO (upR lf9 5 (cw k) ((lf9 5 (cw k)) + (1))) wo9) H := hP
              refine lv_aload_n hx hb dX7_add_38 rfl (lv_at hl 2 rfl) ?_
              refine va_get (D := (dC, dI)) (ci := 7) (C := RX7) (T := TX7) (N := 2) hx hb hts in_X7_add_X7 hown hK hP 25 rfl rfl 1 (by decide) (hts (.fieldLink RX7 16 "MilkRound$Tally" "worst" "[I") (List.mem_of_getElem? (i := 2) rfl)) (fun _ h9 => h9) rfl dX7_add_39 ?_
              refine lv_iload_n hx hb dX7_add_42 rfl (lv_at hl 1 rfl) ?_
              refine lv_aload_n hx hb dX7_add_43 rfl (lv_at hl 2 rfl) ?_
              refine va_get (D := (dC, dI)) (ci := 7) (C := RX7) (T := TX7) (N := 2) hx hb hts in_X7_add_X7 hown hK hP 25 rfl rfl 1 (by decide) (hts (.fieldLink RX7 16 "MilkRound$Tally" "worst" "[I") (List.mem_of_getElem? (i := 2) rfl)) (fun _ h9 => h9) rfl dX7_add_44 ?_
              refine lv_iload_n hx hb dX7_add_47 rfl (lv_at hl 1 rfl) ?_
              refine n_iald hx hb hK hP 33 0 rfl rfl (by omega) (by decide) dX7_add_48 ?_
              refine lv_aload_n hx hb dX7_add_49 rfl (lv_at hl 2 rfl) ?_
              refine va_get (D := (dC, dI)) (ci := 7) (C := RX7) (T := TX7) (N := 2) hx hb hts in_X7_add_X7 hown hK hP 25 rfl rfl 0 (by decide) (hts (.fieldLink RX7 11 "MilkRound$Tally" "left" "[[I") (List.mem_of_getElem? (i := 1) rfl)) (fun _ h9 => h9) rfl dX7_add_50 ?_
              refine lv_iload_n hx hb dX7_add_53 rfl (lv_at hl 1 rfl) ?_
              refine n_aldg hx hb hK hP 26 4 rfl rfl (by omega) (by decide) (if_pos (by omega)) dX7_add_54 ?_
              refine n_topr (z := a (27 + 5)) (by rw [er_31]) ?_
              refine lv_iload hx hb dX7_add_55 (lv_at hl 0 rfl) ?_
              refine n_iald hx hb hK hP 32 0 rfl rfl (by omega) (by decide) dX7_add_57 ?_
              refine n_top (y := nI (lf9 5 (cw k) + 1)) (by rw [upR_at, up_at]) ?_
              refine va_mmax hx hb (hml.trans hl.1.symm) hown (hts (.methodLink RX7 20 Lib.Math.max.name) (List.mem_of_getElem? (i := 3) rfl)) (hts (.static Lib.Math.max.name) (List.mem_of_getElem? (i := 4) rfl)) (hts (.initialized "java/lang/Math") (List.mem_of_getElem? (i := 5) rfl)) (hts (.code Lib.Math.max.name Lib.Math.max.code 2 (some .int)) (List.mem_of_getElem? (i := 6) rfl)) (Nat.le_of_ble_eq_true rfl) (Nat.le_of_ble_eq_true rfl) (Nat.zero_le _) (Nat.zero_le _) dX7_add_58 ?_
              refine n_top (y := nI (mxN (wo9 k) (lf9 5 (cw k) + 1))) (mr_max (by rw [h2.2]; omega) (by have e8 : lf9 5 (cw k) = lf9 k (cw k) := (by rw [er_31]); omega)) ?_
              refine n_iast hx hb hK hP (ad_D hA0 rfl) hS 33 0 rfl rfl (by omega) (by decide) dX7_add_61 (fun H locs hP hS => ?_)
              have hP : va_P (dC, dI) vwCl (MW y a rn n lo kp dy so he kn ak pl im lo2 dy2 so2 he2 kn2 ma kd len ord kh km pg len2 ord2 kh2 km2 cw tl tO bO (upR lf9 5 (cw k) ((lf9 5 (cw k)) + (1))) (va_up wo9 k (mxN (wo9 k) (lf9 5 (cw k) + 1)))) H := hP
              refine lv_iinc (v := nI (k + 1)) (lv' := [(3, .int (nI (k + 1))), (4, .int (nI (cw k))), (0, .ref (a 25)), (1, .ref (a 21)), (2, .int (nI (n)))]) hx hb dX7_add_62 hl (k := 1) rfl (mr_inc _) (by decide) rfl (fun ls hl => ?_)
              refine lv_goto (tgt := 2) hx hb dX7_add_65 (by decide) ?_
              exact ih_2 (k + 1) (upR lf9 5 (cw k) ((lf9 5 (cw k)) + (1))) (va_up wo9 k (mxN (wo9 k) (lf9 5 (cw k) + 1))) (by omega) (AddI_s hI er_31) (by omega) _ _ _ hP hS (lv_sub hl [0, 2, 3, 4] rfl)
  exact loop_2 _ 0 lf wo (Nat.zero_le _) (AddI_0 cw lf wo) (Nat.lt_succ_self _) _ _ _ hP hS (lv_sub hl [0, 1, 2, 3] rfl)
theorem in_X7_houseOfLeastWorst_X7 : ∀ w ∈ wsX70, w ∈ wsX7_houseOfLeastWorst := fun w h => List.mem_cons_of_mem _ (List.mem_append_right _ h)
set_option maxHeartbeats 4000000 in
set_option maxRecDepth 100000 in
theorem k_X7_houseOfLeastWorst (l : Launch) (dC : Nat → ClassId) (dI : Nat → Nat → Nat) (y : Nat → ClassId) (A : Nat → Prop) (a : Nat → Nat) (hA0 : ad_ok A a 34) (xK : Nat → Nat) (xV : Nat → Nat) (rn : Nat) (n : Nat) (lo : Int32) (kp : Nat) (dy : Int32) (so : Int32) (he : Int32) (kn : Nat) (ak : Nat) (pl : Nat) (im : Bool) (lo2 : Int32) (dy2 : Int32) (so2 : Int32) (he2 : Int32) (kn2 : Nat) (ma : Nat) (kd : Nat → Nat) (len : Nat → Nat) (ord : Nat → Nat) (kh : Nat → Nat) (km : Nat → Nat) (pg : Nat → Nat) (len2 : Nat → Nat) (ord2 : Nat → Nat) (kh2 : Nat → Nat) (km2 : Nat → Nat) (cw : Nat → Nat) (tl : Nat → Nat) (tO : Nat → Nat) (bO : Nat → Nat) (lf : Nat → Nat → Nat) (wo : Nat → Nat) (hn : n ≤ 6) (hn2 : 1 ≤ n) (hwo : ∀ i, i < n → wo i < 1000) : Met l yX7_houseOfLeastWorst wsX7_houseOfLeastWorst ({ frames := 0, cells := 0, slots := 0, locals := 0 } : Room) (c_P (dC, dI) vwCl (TY y) (EV xK xV A) (MW y a rn n lo kp dy so he kn ak pl im lo2 dy2 so2 he2 kn2 ma kd len ord kh km pg len2 ord2 kh2 km2 cw tl tO bO lf wo) [.ref (a 25), .int (nI (n))]) (va_Qi (fun (r : Int32) (u : Unit) => r = nI (amF wo (n - 1))) (c_B (dC, dI) vwCl (TY y) (fun (u : Unit) => (MW y a rn n lo kp dy so he kn ak pl im lo2 dy2 so2 he2 kn2 ma kd len ord kh km pg len2 ord2 kh2 km2 cw tl tO bO lf wo))) A) 0 0 A := by
  refine Met.ofW (cc := cX7_houseOfLeastWorst) (maxL := 4) (ret := (some .int)) (by decide) rfl ?_
  intro p e s m args below meth c s₁ BB hml hv
  obtain ⟨rfl, hP, hK, hE⟩ := hv
  have hx := BB.exec
  have hb := BB.bytes
  have hr := BB.returns
  have hts := atoms_spec (ws := wsX7_houseOfLeastWorst) BB.pre
  have hown : s.vm.findClass RX7 = some m.cls := findClass_of_methodNamed BB.named
  have hlocks := BB.notSynchronized
  have hS : va_S A s.heap s.heap [] := va_S.rf
  have hl := lv_entry ([.ref (a 25), .int (nI (n))]) (n := 4) (Nat.le_of_ble_eq_true rfl)
  rw [lg_entry_eq]
  generalize (lg_sl ([.ref (a 25), .int (nI (n))]) ++ List.replicate (4 - (lg_sl ([.ref (a 25), .int (nI (n))])).length) Slot.unset).toArray = ls at hl ⊢
  have hl : lv_has ls 4 [(0, .ref (a 25)), (1, .int (nI (n)))] := hl
  refine lv_iconst (v := nI (0)) hx hb dX7_houseOfLeastWorst_0 (by decide) ?_
  refine lv_istore_n (lv' := [(2, .int (nI (0))), (0, .ref (a 25)), (1, .int (nI (n)))]) hx hb dX7_houseOfLeastWorst_1 rfl hl (by decide) rfl (fun ls hl => ?_)
  refine lv_iconst (v := nI (1)) hx hb dX7_houseOfLeastWorst_2 (by decide) ?_
  refine lv_istore_n (lv' := [(3, .int (nI (1))), (2, .int (nI (0))), (0, .ref (a 25)), (1, .int (nI (n)))]) hx hb dX7_houseOfLeastWorst_3 rfl hl (by decide) rfl (fun ls hl => ?_)
  have loop_4 : ∀ (dd_4 : Nat) (k : Nat) (fd : Nat) (hk1 : 1 ≤ k) (hk : k ≤ n) (hf : fd = amF wo (k - 1)), n - k < dd_4 → ∀ (H : Heap) (locs : List Loc) (ls : Array Slot), va_P (dC, dI) vwCl (MW y a rn n lo kp dy so he kn ak pl im lo2 dy2 so2 he2 kn2 ma kd len ord kh km pg len2 ord2 kh2 km2 cw tl tO bO lf wo) H → va_S A s.heap H locs → lv_has ls 4 [(3, .int (nI (k))), (2, .int (nI (fd))), (0, .ref (a 25)), (1, .int (nI (n)))] → W p l e (headSpec wsX7_houseOfLeastWorst ({ frames := 0, cells := 0, slots := 0, locals := 0 } : Room)).room s m [.ref (a 25), .int (nI (n))].toArray below meth c H locs 0 0 (MQ below (va_Qi (fun (r : Int32) (u : Unit) => r = nI (amF wo (n - 1))) (c_B (dC, dI) vwCl (TY y) (fun (u : Unit) => (MW y a rn n lo kp dy so he kn ak pl im lo2 dy2 so2 he2 kn2 ma kd len ord kh km pg len2 ord2 kh2 km2 cw tl tO bO lf wo))) A) [.ref (a 25), .int (nI (n))].toArray s 0 0 A) (F0 m 4 ls []) := by
    intro dd_4
    induction dd_4 with
    | zero => intro k fd hk1 hk hf hd; exact absurd hd (Nat.not_lt_zero _)
    | succ dd_4 ih_4 =>
      intro k fd hk1 hk hf hd_4 H locs ls hP hS hl
      refine lv_iload_n hx hb dX7_houseOfLeastWorst_4 rfl (lv_at hl 0 rfl) ?_
      refine lv_iload_n hx hb dX7_houseOfLeastWorst_5 rfl (lv_at hl 3 rfl) ?_
      refine n_icmp_ge (tgt := 32) hx hb dX7_houseOfLeastWorst_6 (by decide) (by omega) (by omega) (fun c_6 => ?_) (fun c_6 => ?_)
      · refine lv_iload_n hx hb dX7_houseOfLeastWorst_32 rfl (lv_at hl 1 rfl) ?_
        exact c_iret hx hb hr hlocks hK hS () hP (by rw [hf, show k = n by omega]) dX7_houseOfLeastWorst_33
      · have hfl := amF_le wo (k - 1)
        have hw1 := hwo k (by omega)
        have hw2 := hwo fd (by omega)
        refine lv_aload_n hx hb dX7_houseOfLeastWorst_9 rfl (lv_at hl 2 rfl) ?_
        refine va_get (D := (dC, dI)) (ci := 7) (C := RX7) (T := TX7) (N := 2) hx hb hts in_X7_houseOfLeastWorst_X7 hown hK hP 25 rfl rfl 1 (by decide) (hts (.fieldLink RX7 16 "MilkRound$Tally" "worst" "[I") (List.mem_of_getElem? (i := 1) rfl)) (fun _ h9 => h9) rfl dX7_houseOfLeastWorst_10 ?_
        refine lv_iload_n hx hb dX7_houseOfLeastWorst_13 rfl (lv_at hl 0 rfl) ?_
        refine n_iald hx hb hK hP 33 0 rfl rfl (by omega) (by decide) dX7_houseOfLeastWorst_14 ?_
        refine lv_aload_n hx hb dX7_houseOfLeastWorst_15 rfl (lv_at hl 2 rfl) ?_
        refine va_get (D := (dC, dI)) (ci := 7) (C := RX7) (T := TX7) (N := 2) hx hb hts in_X7_houseOfLeastWorst_X7 hown hK hP 25 rfl rfl 1 (by decide) (hts (.fieldLink RX7 16 "MilkRound$Tally" "worst" "[I") (List.mem_of_getElem? (i := 1) rfl)) (fun _ h9 => h9) rfl dX7_houseOfLeastWorst_16 ?_
        refine lv_iload_n hx hb dX7_houseOfLeastWorst_19 rfl (lv_at hl 1 rfl) ?_
        refine n_iald hx hb hK hP 33 0 rfl rfl (by omega) (by decide) dX7_houseOfLeastWorst_20 ?_
        refine n_icmp_ge (tgt := 26) hx hb dX7_houseOfLeastWorst_21 (by decide) (by omega) (by omega) (fun c_21 => ?_) (fun c_21 => ?_)
        · refine lv_iinc (v := nI (k + 1)) (lv' := [(3, .int (nI (k + 1))), (2, .int (nI (fd))), (0, .ref (a 25)), (1, .int (nI (n)))]) hx hb dX7_houseOfLeastWorst_26 hl (k := 0) rfl (mr_inc _) (by decide) rfl (fun ls hl => ?_)
          refine lv_goto (tgt := 4) hx hb dX7_houseOfLeastWorst_29 (by decide) ?_
          exact ih_4 (k + 1) fd (by omega) (by omega) (by rw [Nat.add_sub_cancel, amF_f (by omega) (by rw [← hf]; omega)]; exact hf) (by omega) _ _ _ hP hS (lv_sub hl [0, 1, 2, 3] rfl)
        · refine lv_iload_n hx hb dX7_houseOfLeastWorst_24 rfl (lv_at hl 0 rfl) ?_
          refine lv_istore_n (lv' := [(2, .int (nI (k))), (3, .int (nI (k))), (0, .ref (a 25)), (1, .int (nI (n)))]) hx hb dX7_houseOfLeastWorst_25 rfl hl (by decide) rfl (fun ls hl => ?_)
          refine lv_iinc (v := nI (k + 1)) (lv' := [(3, .int (nI (k + 1))), (2, .int (nI (k))), (0, .ref (a 25)), (1, .int (nI (n)))]) hx hb dX7_houseOfLeastWorst_26 hl (k := 1) rfl (mr_inc _) (by decide) rfl (fun ls hl => ?_)
          refine lv_goto (tgt := 4) hx hb dX7_houseOfLeastWorst_29 (by decide) ?_
          exact ih_4 (k + 1) k (by omega) (by omega) (by rw [Nat.add_sub_cancel, amF_t (by omega) (by rw [← hf]; omega)]) (by omega) _ _ _ hP hS (lv_sub hl [0, 1, 2, 3] rfl)
  exact loop_4 _ 1 0 (by decide) hn2 rfl (Nat.lt_succ_self _) _ _ _ hP hS (lv_sub hl [0, 1, 2, 3] rfl)
theorem in_X10_houseToAsk_X10 : ∀ w ∈ wsX100, w ∈ wsX10_houseToAsk := fun w h => List.mem_cons_of_mem _ (List.mem_append_left _ (List.mem_append_left _ (List.mem_append_left _ (List.mem_append_left _ (List.mem_append_right _ h)))))
theorem in_X10_houseToAsk_X6 : ∀ w ∈ wsX60, w ∈ wsX10_houseToAsk := fun w h => List.mem_cons_of_mem _ (List.mem_append_left _ (List.mem_append_left _ (List.mem_append_left _ (List.mem_append_right _ h))))
theorem in_X10_houseToAsk_X8 : ∀ w ∈ wsX80, w ∈ wsX10_houseToAsk := fun w h => List.mem_cons_of_mem _ (List.mem_append_left _ (List.mem_append_left _ (List.mem_append_right _ h)))
set_option maxHeartbeats 4000000 in
set_option maxRecDepth 100000 in
theorem k_X10_houseToAsk (l : Launch) (dC : Nat → ClassId) (dI : Nat → Nat → Nat) (y : Nat → ClassId) (A : Nat → Prop) (a : Nat → Nat) (hA0 : ad_ok A a 34) (xK : Nat → Nat) (xV : Nat → Nat) (rn : Nat) (n : Nat) (lo : Int32) (kp : Nat) (dy : Int32) (so : Int32) (he : Int32) (kn : Nat) (ak : Nat) (pl : Nat) (im : Bool) (lo2 : Int32) (dy2 : Int32) (so2 : Int32) (he2 : Int32) (kn2 : Nat) (ma : Nat) (kd : Nat → Nat) (len : Nat → Nat) (ord : Nat → Nat) (kh : Nat → Nat) (km : Nat → Nat) (pg : Nat → Nat) (len2 : Nat → Nat) (ord2 : Nat → Nat) (kh2 : Nat → Nat) (km2 : Nat → Nat) (cw : Nat → Nat) (tl : Nat → Nat) (tO : Nat → Nat) (bO : Nat → Nat) (lf : Nat → Nat → Nat) (wo : Nat → Nat) (hn : n ≤ 6) (hord : PermOn n ord) (hlen : ∀ j, len j ≤ 9) (hkd : ∀ j, kd j ≤ 4) (hcw : ∀ j, cw j ≤ 126) (hkn : kn ≤ 6) (hkh : ∀ i, i < kn → kh i < n) (hkm : ∀ i, km i ≤ 150) (hn0 : 0 < n) : Met l yX10_houseToAsk wsX10_houseToAsk ({ frames := 5, cells := 0, slots := 0, locals := 115 } : Room) (c_P (dC, dI) vwCl (TY y) (EV xK xV A) (MW y a rn n lo kp dy so he kn ak pl im lo2 dy2 so2 he2 kn2 ma kd len ord kh km pg len2 ord2 kh2 km2 cw tl tO bO lf wo) [.ref (a 0)]) (va_Qi (fun (r : Int32) (u : (Nat → Nat) × Nat × (Nat → Nat → Nat) × (Nat → Nat)) => r = askF n kd len ord kn kh km ∧ ∀ j, u.1 j ≤ 126) (c_B (dC, dI) vwCl (TY y) (fun (u : (Nat → Nat) × Nat × (Nat → Nat → Nat) × (Nat → Nat)) => (MW y a rn n lo kp dy so he kn ak pl im lo2 dy2 so2 he2 kn2 u.2.1 kd len ord kh km pg len2 ord2 kh2 km2 u.1 tl tO bO u.2.2.1 u.2.2.2))) A) 0 0 A := by
  refine Met.ofW (cc := cX10_houseToAsk) (maxL := 3) (ret := (some .int)) (by decide) rfl ?_
  intro p e s m args below meth c s₁ BB hml hv
  obtain ⟨rfl, hP, hK, hE⟩ := hv
  have hx := BB.exec
  have hb := BB.bytes
  have hr := BB.returns
  have hts := atoms_spec (ws := wsX10_houseToAsk) BB.pre
  have hown : s.vm.findClass RX10 = some m.cls := findClass_of_methodNamed BB.named
  have hlocks := BB.notSynchronized
  have hS : va_S A s.heap s.heap [] := va_S.rf
  have hl := lv_entry ([.ref (a 0)]) (n := 3) (Nat.le_of_ble_eq_true rfl)
  rw [lg_entry_eq]
  generalize (lg_sl ([.ref (a 0)]) ++ List.replicate (3 - (lg_sl ([.ref (a 0)])).length) Slot.unset).toArray = ls at hl ⊢
  have hl : lv_has ls 3 [(0, .ref (a 0))] := hl
  have hp6 := pow_le6 n hn
  refine lv_aload_n hx hb dX10_houseToAsk_0 rfl (lv_at hl 0 rfl) ?_
  refine va_get (D := (dC, dI)) (ci := 10) (C := RX10) (T := TX10) (N := 12) hx hb hts in_X10_houseToAsk_X10 hown hK hP 0 rfl rfl 8 (by decide) (hts (.fieldLink RX10 55 "MilkRound" "tally" "LMilkRound$Tally;") (List.mem_of_getElem? (i := 1) rfl)) (fun _ h9 => h9) rfl dX10_houseToAsk_1 ?_
  refine c_callv (va_runV (As := []) (rest := []) ⟨hx, hb, hml, hown, hts⟩ (k_X7_clear l dC dI y A a hA0 xK xV rn n lo kp dy so he kn ak pl im lo2 dy2 so2 he2 kn2 ma kd len ord kh km pg len2 ord2 kh2 km2 cw tl tO bO lf wo  ) (cwV 0 hts gX10_houseToAsk_X7_clear rfl rfl rfl (by decide +kernel) ⟨Nat.le_of_ble_eq_true rfl, Nat.le_of_ble_eq_true rfl⟩) (c_preV (evN xK xV A) hK hE hS hP (va_recv hK hP (ci := 7) (q0 := 25) rfl rfl)) rfl rfl hl.1 rfl (lv_room (Nat.le_of_ble_eq_true rfl)) dX10_houseToAsk_4 ⟨Nat.le_refl _, Nat.le_refl _⟩) hS (fun u_4 H locs hw_4 hP hS => ?_)
  have hP : va_P (dC, dI) vwCl (MW y a rn n lo kp dy so he kn ak pl im lo2 dy2 so2 he2 kn2 ma kd len ord kh km pg len2 ord2 kh2 km2 cw tl tO bO u_4.1 u_4.2) H := hP
  refine lv_iconst (v := nI (0)) hx hb dX10_houseToAsk_7 (by decide) ?_
  refine lv_istore_n (lv' := [(1, .int (nI (0))), (0, .ref (a 0))]) hx hb dX10_houseToAsk_8 rfl hl (by decide) rfl (fun ls hl => ?_)
  refine lv_iconst (v := nI (0)) hx hb dX10_houseToAsk_9 (by decide) ?_
  refine lv_istore_n (lv' := [(2, .int (nI (0))), (1, .int (nI (0))), (0, .ref (a 0))]) hx hb dX10_houseToAsk_10 rfl hl (by decide) rfl (fun ls hl => ?_)
  have loop_11 : ∀ (dd_11 : Nat) (k : Nat) (bb : Bool) (f : Nat → Nat) (m9 : Nat) (lf9 : Nat → Nat → Nat) (wo9 : Nat → Nat) (hk : k ≤ 2 ^ n) (hf : ∀ j, f j ≤ 126) (hT : TlI n kd len ord kn kh km k lf9 wo9) (hbb : bb = decide (¬ ctB (okS n kd len ord kn kh km) k = 0)), 2 ^ n - k < dd_11 → ∀ (H : Heap) (locs : List Loc) (ls : Array Slot), va_P (dC, dI) vwCl (MW y a rn n lo kp dy so he kn ak pl im lo2 dy2 so2 he2 kn2 m9 kd len ord kh km pg len2 ord2 kh2 km2 f tl tO bO lf9 wo9) H → va_S A s.heap H locs → lv_has ls 3 [(2, .int (nI (k))), (1, .int (bI (bb))), (0, .ref (a 0))] → W p l e (headSpec wsX10_houseToAsk ({ frames := 5, cells := 0, slots := 0, locals := 115 } : Room)).room s m [.ref (a 0)].toArray below meth c H locs 0 0 (MQ below (va_Qi (fun (r : Int32) (u : (Nat → Nat) × Nat × (Nat → Nat → Nat) × (Nat → Nat)) => r = askF n kd len ord kn kh km ∧ ∀ j, u.1 j ≤ 126) (c_B (dC, dI) vwCl (TY y) (fun (u : (Nat → Nat) × Nat × (Nat → Nat → Nat) × (Nat → Nat)) => (MW y a rn n lo kp dy so he kn ak pl im lo2 dy2 so2 he2 kn2 u.2.1 kd len ord kh km pg len2 ord2 kh2 km2 u.1 tl tO bO u.2.2.1 u.2.2.2))) A) [.ref (a 0)].toArray s 0 0 A) (F0 m 11 ls []) := by
    intro dd_11
    induction dd_11 with
    | zero => intro k bb f m9 lf9 wo9 hk hf hT hbb hd; exact absurd hd (Nat.not_lt_zero _)
    | succ dd_11 ih_11 =>
      intro k bb f m9 lf9 wo9 hk hf hT hbb hd_11 H locs ls hP hS hl
      refine lv_iload_n hx hb dX10_houseToAsk_11 rfl (lv_at hl 0 rfl) ?_
      refine lv_iconst (v := nI (1)) hx hb dX10_houseToAsk_12 (by decide) ?_
      refine lv_aload_n hx hb dX10_houseToAsk_13 rfl (lv_at hl 2 rfl) ?_
      refine va_get (D := (dC, dI)) (ci := 10) (C := RX10) (T := TX10) (N := 12) hx hb hts in_X10_houseToAsk_X10 hown hK hP 0 rfl rfl 1 (by decide) (hts (.fieldLink RX10 19 "MilkRound" "street" "LMilkRound$Street;") (List.mem_of_getElem? (i := 2) rfl)) (fun _ h9 => h9) rfl dX10_houseToAsk_14 ?_
      refine va_get (D := (dC, dI)) (ci := 6) (C := RX6) (T := TX6) (N := 8) hx hb hts in_X10_houseToAsk_X6 hown hK hP 3 rfl rfl 6 (by decide) (hts (.fieldLink RX10 89 "MilkRound$Street" "size" "I") (List.mem_of_getElem? (i := 3) rfl)) (fun _ h9 => h9) rfl dX10_houseToAsk_17 ?_
      refine lv_ishl hx hb dX10_houseToAsk_20 ?_
      refine n_top (y := nI (2 ^ n)) (shl1 n hn) ?_
      refine n_icmp_ge (tgt := 61) hx hb dX10_houseToAsk_21 (by decide) (by omega) (by omega) (fun c_21 => ?_) (fun c_21 => ?_)
      · refine lv_iload_n hx hb dX10_houseToAsk_61 rfl (lv_at hl 1 rfl) ?_
        refine n_bif_eq (tgt := 82) hx hb dX10_houseToAsk_62 (by decide) (fun c_62 => ?_) (fun c_62 => ?_)
        · refine lv_iconst (v := (-1)) hx hb dX10_houseToAsk_82 (by decide) ?_
          have hke : k = 2 ^ n := by omega
          rw [hke] at hT hbb
          exact c_iret hx hb hr hlocks hK hS (f, m9, lf9, wo9) hP ⟨by rw [askF, if_pos (Classical.not_not.mp (of_decide_eq_false (hbb.symm.trans c_62)))], hf⟩ dX10_houseToAsk_83
        · refine lv_aload_n hx hb dX10_houseToAsk_65 rfl (lv_at hl 2 rfl) ?_
          refine va_get (D := (dC, dI)) (ci := 10) (C := RX10) (T := TX10) (N := 12) hx hb hts in_X10_houseToAsk_X10 hown hK hP 0 rfl rfl 8 (by decide) (hts (.fieldLink RX10 55 "MilkRound" "tally" "LMilkRound$Tally;") (List.mem_of_getElem? (i := 1) rfl)) (fun _ h9 => h9) rfl dX10_houseToAsk_66 ?_
          refine lv_aload_n hx hb dX10_houseToAsk_69 rfl (lv_at hl 2 rfl) ?_
          refine va_get (D := (dC, dI)) (ci := 10) (C := RX10) (T := TX10) (N := 12) hx hb hts in_X10_houseToAsk_X10 hown hK hP 0 rfl rfl 1 (by decide) (hts (.fieldLink RX10 19 "MilkRound" "street" "LMilkRound$Street;") (List.mem_of_getElem? (i := 2) rfl)) (fun _ h9 => h9) rfl dX10_houseToAsk_70 ?_
          refine va_get (D := (dC, dI)) (ci := 6) (C := RX6) (T := TX6) (N := 8) hx hb hts in_X10_houseToAsk_X6 hown hK hP 3 rfl rfl 6 (by decide) (hts (.fieldLink RX10 89 "MilkRound$Street" "size" "I") (List.mem_of_getElem? (i := 3) rfl)) (fun _ h9 => h9) rfl dX10_houseToAsk_73 ?_
          refine c_calli (va_runV (As := [.int (nI (n))]) (rest := []) ⟨hx, hb, hml, hown, hts⟩ (k_X7_houseOfLeastWorst l dC dI y A a hA0 xK xV rn n lo kp dy so he kn ak pl im lo2 dy2 so2 he2 kn2 m9 kd len ord kh km pg len2 ord2 kh2 km2 f tl tO bO lf9 wo9  hn (by omega) (fun i hi => by rw [(hT i hi).2]; exact Nat.lt_of_le_of_lt (wsW_le _ _ _) (by omega))) (cwV 1 hts gX10_houseToAsk_X7_houseOfLeastWorst rfl rfl rfl (by decide +kernel) ⟨Nat.le_of_ble_eq_true rfl, Nat.le_of_ble_eq_true rfl⟩) (c_preV (evN xK xV A) hK hE hS hP (va_recv hK hP (ci := 7) (q0 := 25) rfl rfl)) rfl rfl hl.1 rfl (lv_room (Nat.le_of_ble_eq_true rfl)) dX10_houseToAsk_76 ⟨Nat.le_refl _, Nat.le_refl _⟩) hS (fun r_76 u_76 H locs hw_76 hP hS => ?_)
          obtain rfl := hw_76
          refine lv_goto (tgt := 83) hx hb dX10_houseToAsk_79 (by decide) ?_
          have hke : k = 2 ^ n := by omega
          rw [hke] at hT hbb
          exact c_iret hx hb hr hlocks hK hS (f, m9, lf9, wo9) hP ⟨by rw [askF, if_neg (of_decide_eq_true (hbb.symm.trans c_62)), amF_cong (fun i hi => (hT i (by omega)).2)]; rfl, hf⟩ dX10_houseToAsk_83
      · refine lv_aload_n hx hb dX10_houseToAsk_24 rfl (lv_at hl 2 rfl) ?_
        refine lv_iload_n hx hb dX10_houseToAsk_25 rfl (lv_at hl 0 rfl) ?_
        refine c_calli (va_runV (As := [.int (nI (k))]) (rest := []) ⟨hx, hb, hml, hown, hts⟩ (k_X10_canHaveBeen l dC dI y A a hA0 xK xV rn n lo kp dy so he kn ak pl im lo2 dy2 so2 he2 kn2 m9 kd len ord kh km pg len2 ord2 kh2 km2 f tl tO bO lf9 wo9 (nI k) hn hord hlen hkd hf hkn hkh hkm) (cwV 1 hts gX10_houseToAsk_X10_canHaveBeen rfl rfl rfl (by decide +kernel) ⟨Nat.le_of_ble_eq_true rfl, Nat.le_of_ble_eq_true rfl⟩) (c_preV (evN xK xV A) hK hE hS hP (va_recv hK hP (ci := 10) (q0 := 0) rfl rfl)) rfl rfl hl.1 rfl (lv_room (Nat.le_of_ble_eq_true rfl)) dX10_houseToAsk_26 ⟨Nat.le_refl _, Nat.le_refl _⟩) hS (fun r_26 u_26 H locs hw_26 hP hS => ?_)
        have hP : va_P (dC, dI) vwCl (MW y a rn n lo kp dy so he kn ak pl im lo2 dy2 so2 he2 kn2 u_26.2 kd len ord kh km pg len2 ord2 kh2 km2 u_26.1 tl tO bO lf9 wo9) H := hP
        obtain ⟨rfl, hw_26⟩ := hw_26
        refine n_bif_eq (tgt := 55) hx hb dX10_houseToAsk_29 (by decide) (fun c_29 => ?_) (fun c_29 => ?_)
        · refine lv_iinc (v := nI (k + 1)) (lv' := [(2, .int (nI (k + 1))), (1, .int (bI (bb))), (0, .ref (a 0))]) hx hb dX10_houseToAsk_55 hl (k := 0) rfl (mr_inc _) (by decide) rfl (fun ls hl => ?_)
          refine lv_goto (tgt := 11) hx hb dX10_houseToAsk_58 (by decide) ?_
          exact ih_11 (k + 1) bb u_26.1 u_26.2 lf9 wo9 (by omega) hw_26.2 (TlI_no hT c_29) (by rw [ctB_f (p := okS n kd len ord kn kh km) c_29]; exact hbb) (by omega) _ _ _ hP hS (lv_sub hl [0, 1, 2] rfl)
        · refine lv_iconst (v := nI (1)) hx hb dX10_houseToAsk_32 (by decide) ?_
          refine lv_istore_n (lv' := [(1, .int (nI (1))), (2, .int (nI (k))), (0, .ref (a 0))]) hx hb dX10_houseToAsk_33 rfl hl (by decide) rfl (fun ls hl => ?_)
          refine lv_aload_n hx hb dX10_houseToAsk_34 rfl (lv_at hl 2 rfl) ?_
          refine va_get (D := (dC, dI)) (ci := 10) (C := RX10) (T := TX10) (N := 12) hx hb hts in_X10_houseToAsk_X10 hown hK hP 0 rfl rfl 8 (by decide) (hts (.fieldLink RX10 55 "MilkRound" "tally" "LMilkRound$Tally;") (List.mem_of_getElem? (i := 1) rfl)) (fun _ h9 => h9) rfl dX10_houseToAsk_35 ?_
          refine lv_aload_n hx hb dX10_houseToAsk_38 rfl (lv_at hl 2 rfl) ?_
          refine va_get (D := (dC, dI)) (ci := 10) (C := RX10) (T := TX10) (N := 12) hx hb hts in_X10_houseToAsk_X10 hown hK hP 0 rfl rfl 4 (by decide) (hts (.fieldLink RX10 38 "MilkRound" "walk" "LMilkRound$Walk;") (List.mem_of_getElem? (i := 4) rfl)) (fun _ h9 => h9) rfl dX10_houseToAsk_39 ?_
          refine va_get (D := (dC, dI)) (ci := 8) (C := RX8) (T := TX8) (N := 3) hx hb hts in_X10_houseToAsk_X8 hown hK hP 20 rfl rfl 1 (by decide) (hts (.fieldLink RX10 204 "MilkRound$Walk" "came" "[I") (List.mem_of_getElem? (i := 5) rfl)) (fun _ h9 => h9) rfl dX10_houseToAsk_42 ?_
          refine lv_aload_n hx hb dX10_houseToAsk_45 rfl (lv_at hl 2 rfl) ?_
          refine va_get (D := (dC, dI)) (ci := 10) (C := RX10) (T := TX10) (N := 12) hx hb hts in_X10_houseToAsk_X10 hown hK hP 0 rfl rfl 1 (by decide) (hts (.fieldLink RX10 19 "MilkRound" "street" "LMilkRound$Street;") (List.mem_of_getElem? (i := 2) rfl)) (fun _ h9 => h9) rfl dX10_houseToAsk_46 ?_
          refine va_get (D := (dC, dI)) (ci := 6) (C := RX6) (T := TX6) (N := 8) hx hb hts in_X10_houseToAsk_X6 hown hK hP 3 rfl rfl 6 (by decide) (hts (.fieldLink RX10 89 "MilkRound$Street" "size" "I") (List.mem_of_getElem? (i := 3) rfl)) (fun _ h9 => h9) rfl dX10_houseToAsk_49 ?_
          refine c_callv (va_runV (As := [.ref (a 21), .int (nI (n))]) (rest := []) ⟨hx, hb, hml, hown, hts⟩ (k_X7_add l dC dI y A a hA0 xK xV rn n lo kp dy so he kn ak pl im lo2 dy2 so2 he2 kn2 u_26.2 kd len ord kh km pg len2 ord2 kh2 km2 u_26.1 tl tO bO lf9 wo9  hn hw_26.2 (fun i hi => by rw [(hT i hi).1 _ (by have := hw_26.2 i; omega)]; exact Nat.lt_of_le_of_lt (wsL_le _ _ _ _) (by omega)) (fun i hi => by rw [(hT i hi).2]; exact Nat.lt_of_le_of_lt (wsW_le _ _ _) (by omega))) (cwV 2 hts gX10_houseToAsk_X7_add rfl rfl rfl (by decide +kernel) ⟨Nat.le_of_ble_eq_true rfl, Nat.le_of_ble_eq_true rfl⟩) (c_preV (evN xK xV A) hK hE hS hP (va_recv hK hP (ci := 7) (q0 := 25) rfl rfl)) rfl rfl hl.1 rfl (lv_room (Nat.le_of_ble_eq_true rfl)) dX10_houseToAsk_52 ⟨Nat.le_refl _, Nat.le_refl _⟩) hS (fun u_52 H locs hw_52 hP hS => ?_)
          have hP : va_P (dC, dI) vwCl (MW y a rn n lo kp dy so he kn ak pl im lo2 dy2 so2 he2 kn2 u_26.2 kd len ord kh km pg len2 ord2 kh2 km2 u_26.1 tl tO bO u_52.1 u_52.2) H := hP
          refine lv_iinc (v := nI (k + 1)) (lv' := [(2, .int (nI (k + 1))), (1, .int (nI (1))), (0, .ref (a 0))]) hx hb dX10_houseToAsk_55 hl (k := 1) rfl (mr_inc _) (by decide) rfl (fun ls hl => ?_)
          refine lv_goto (tgt := 11) hx hb dX10_houseToAsk_58 (by decide) ?_
          exact ih_11 (k + 1) true u_26.1 u_26.2 u_52.1 u_52.2 (by omega) hw_26.2 (TlI_yes hT c_29 hw_26 hw_52) (by rw [ctB_t (p := okS n kd len ord kn kh km) c_29]; exact (decide_eq_true (by omega)).symm) (by omega) _ _ _ hP hS (lv_sub hl [0, 1, 2] rfl)
  exact loop_11 _ 0 false cw ma u_4.1 u_4.2 (Nat.zero_le _) hcw (fun i hi => ⟨fun j hj => hw_4.1 i j (by omega) hj, hw_4.2 i (by omega)⟩) rfl (Nat.lt_succ_self _) _ _ _ hP hS (lv_sub hl [0, 1, 2] rfl)
set_option maxHeartbeats 4000000 in
set_option maxRecDepth 100000 in
theorem k_X10_ask (l : Launch) (dC : Nat → ClassId) (dI : Nat → Nat → Nat) (y : Nat → ClassId) (A : Nat → Prop) (a : Nat → Nat) (hA0 : ad_ok A a 34) (xK : Nat → Nat) (xV : Nat → Nat) (rn : Nat) (n : Nat) (lo : Int32) (kp : Nat) (dy : Int32) (so : Int32) (he : Int32) (kn : Nat) (ak : Nat) (pl : Nat) (im : Bool) (lo2 : Int32) (dy2 : Int32) (so2 : Int32) (he2 : Int32) (kn2 : Nat) (ma : Nat) (kd : Nat → Nat) (len : Nat → Nat) (ord : Nat → Nat) (kh : Nat → Nat) (km : Nat → Nat) (pg : Nat → Nat) (len2 : Nat → Nat) (ord2 : Nat → Nat) (kh2 : Nat → Nat) (km2 : Nat → Nat) (cw : Nat → Nat) (tl : Nat → Nat) (tO : Nat → Nat) (bO : Nat → Nat) (lf : Nat → Nat → Nat) (wo : Nat → Nat) (hn : n ≤ 6) (hord : PermOn n ord) (hlen : ∀ j, len j ≤ 9) (hkd : ∀ j, kd j ≤ 4) (hcw : ∀ j, cw j ≤ 126) (hkn : kn ≤ 6) (hkh : ∀ i, i < kn → kh i < n) (hkm : ∀ i, km i ≤ 150) : Met l yX10_ask wsX10_ask ({ frames := 6, cells := 0, slots := 0, locals := 137 } : Room) (c_P (dC, dI) vwCl (TY y) (EV xK xV A) (MW y a rn n lo kp dy so he kn ak pl im lo2 dy2 so2 he2 kn2 ma kd len ord kh km pg len2 ord2 kh2 km2 cw tl tO bO lf wo) [.ref (a 0)]) (va_Qi (fun (r : Int32) (u : (Nat → Nat) × Nat × (Nat → Nat → Nat) × (Nat → Nat)) => r = (if n = 0 then -103 else askF n kd len ord kn kh km) ∧ ∀ j, u.1 j ≤ 126) (c_B (dC, dI) vwCl (TY y) (fun (u : (Nat → Nat) × Nat × (Nat → Nat → Nat) × (Nat → Nat)) => (MW y a rn n lo kp dy so he kn ak pl im lo2 dy2 so2 he2 kn2 u.2.1 kd len ord kh km pg len2 ord2 kh2 km2 u.1 tl tO bO u.2.2.1 u.2.2.2))) A) 0 0 A := by
  refine Met.ofW (cc := cX10_ask) (maxL := 1) (ret := (some .int)) (by decide) rfl ?_
  intro p e s m args below meth c s₁ BB hml hv
  obtain ⟨rfl, hP, hK, hE⟩ := hv
  have hx := BB.exec
  have hb := BB.bytes
  have hr := BB.returns
  have hts := atoms_spec (ws := wsX10_ask) BB.pre
  have hown : s.vm.findClass RX10 = some m.cls := findClass_of_methodNamed BB.named
  have hlocks := BB.notSynchronized
  have hS : va_S A s.heap s.heap [] := va_S.rf
  have hl := lv_entry ([.ref (a 0)]) (n := 1) (Nat.le_of_ble_eq_true rfl)
  rw [lg_entry_eq]
  generalize (lg_sl ([.ref (a 0)]) ++ List.replicate (1 - (lg_sl ([.ref (a 0)])).length) Slot.unset).toArray = ls at hl ⊢
  have hl : lv_has ls 1 [(0, .ref (a 0))] := hl
  refine lv_aload_n hx hb dX10_ask_0 rfl (lv_at hl 0 rfl) ?_
  refine c_calli (va_runV (As := []) (rest := []) ⟨hx, hb, hml, hown, hts⟩ (k_X10_hasNoRound l dC dI y A a hA0 xK xV rn n lo kp dy so he kn ak pl im lo2 dy2 so2 he2 kn2 ma kd len ord kh km pg len2 ord2 kh2 km2 cw tl tO bO lf wo  hn) (cwV 0 hts gX10_ask_X10_hasNoRound rfl rfl rfl (by decide +kernel) ⟨Nat.le_of_ble_eq_true rfl, Nat.le_of_ble_eq_true rfl⟩) (c_preV (evN xK xV A) hK hE hS hP (va_recv hK hP (ci := 10) (q0 := 0) rfl rfl)) rfl rfl hl.1 rfl (lv_room (Nat.le_of_ble_eq_true rfl)) dX10_ask_1 ⟨Nat.le_refl _, Nat.le_refl _⟩) hS (fun r_1 u_1 H locs hw_1 hP hS => ?_)
  obtain rfl := hw_1
  refine n_bif_eq (tgt := 12) hx hb dX10_ask_4 (by decide) (fun c_4 => ?_) (fun c_4 => ?_)
  · refine lv_aload_n hx hb dX10_ask_12 rfl (lv_at hl 0 rfl) ?_
    refine c_calli (va_runV (As := []) (rest := []) ⟨hx, hb, hml, hown, hts⟩ (k_X10_houseToAsk l dC dI y A a hA0 xK xV rn n lo kp dy so he kn ak pl im lo2 dy2 so2 he2 kn2 ma kd len ord kh km pg len2 ord2 kh2 km2 cw tl tO bO lf wo  hn hord hlen hkd hcw hkn hkh hkm (by have := of_decide_eq_false c_4; omega)) (cwV 0 hts gX10_ask_X10_houseToAsk rfl rfl rfl (by decide +kernel) ⟨Nat.le_of_ble_eq_true rfl, Nat.le_of_ble_eq_true rfl⟩) (c_preV (evN xK xV A) hK hE hS hP (va_recv hK hP (ci := 10) (q0 := 0) rfl rfl)) rfl rfl hl.1 rfl (lv_room (Nat.le_of_ble_eq_true rfl)) dX10_ask_13 ⟨Nat.le_refl _, Nat.le_refl _⟩) hS (fun r_13 u_13 H locs hw_13 hP hS => ?_)
    have hP : va_P (dC, dI) vwCl (MW y a rn n lo kp dy so he kn ak pl im lo2 dy2 so2 he2 kn2 u_13.2.1 kd len ord kh km pg len2 ord2 kh2 km2 u_13.1 tl tO bO u_13.2.2.1 u_13.2.2.2) H := hP
    obtain ⟨rfl, hw_13⟩ := hw_13
    exact c_iret hx hb hr hlocks hK hS u_13 hP ⟨by rw [if_neg (of_decide_eq_false c_4)], hw_13⟩ dX10_ask_16
  · refine lv_bipush (v := (-103)) hx hb dX10_ask_7 (by decide) ?_
    refine lv_goto (tgt := 16) hx hb dX10_ask_9 (by decide) ?_
    exact c_iret hx hb hr hlocks hK hS (cw, ma, lf, wo) hP ⟨by rw [if_pos (of_decide_eq_true c_4)], hcw⟩ dX10_ask_16
theorem in_X10_drawTrialLengths_X10 : ∀ w ∈ wsX100, w ∈ wsX10_drawTrialLengths := fun w h => List.mem_cons_of_mem _ (List.mem_append_left _ (List.mem_append_right _ h))
theorem in_X10_drawTrialLengths_X6 : ∀ w ∈ wsX60, w ∈ wsX10_drawTrialLengths := fun w h => List.mem_cons_of_mem _ (List.mem_append_right _ h)
set_option maxHeartbeats 4000000 in
set_option maxRecDepth 100000 in
theorem k_X10_drawTrialLengths (l : Launch) (dC : Nat → ClassId) (dI : Nat → Nat → Nat) (y : Nat → ClassId) (A : Nat → Prop) (a : Nat → Nat) (hA0 : ad_ok A a 34) (xK : Nat → Nat) (xV : Nat → Nat) (rn : Nat) (n : Nat) (lo : Int32) (kp : Nat) (dy : Int32) (so : Int32) (he : Int32) (kn : Nat) (ak : Nat) (pl : Nat) (im : Bool) (lo2 : Int32) (dy2 : Int32) (so2 : Int32) (he2 : Int32) (kn2 : Nat) (ma : Nat) (kd : Nat → Nat) (len : Nat → Nat) (ord : Nat → Nat) (kh : Nat → Nat) (km : Nat → Nat) (pg : Nat → Nat) (len2 : Nat → Nat) (ord2 : Nat → Nat) (kh2 : Nat → Nat) (km2 : Nat → Nat) (cw : Nat → Nat) (tl : Nat → Nat) (tO : Nat → Nat) (bO : Nat → Nat) (lf : Nat → Nat → Nat) (wo : Nat → Nat) (x : Nat) (hn : n ≤ 6) (hx0 : x < 2147483648) : Met l yX10_drawTrialLengths wsX10_drawTrialLengths ({ frames := 0, cells := 0, slots := 0, locals := 0 } : Room) (c_P (dC, dI) vwCl (TY y) (EV xK xV A) (MW y a rn n lo kp dy so he kn ak pl im lo2 dy2 so2 he2 kn2 ma kd len ord kh km pg len2 ord2 kh2 km2 cw tl tO bO lf wo) [.ref (a 0), .int (nI (x))]) (va_Qi (fun (r : Int32) (u : Unit) => r = nI (itD n x)) (c_B (dC, dI) vwCl (TY y) (fun (u : Unit) => (MW y a rn n lo kp dy so he kn ak pl im lo2 dy2 so2 he2 kn2 ma kd len ord kh km pg len2 ord2 kh2 km2 cw (mixF n (rowD x) tl) tO bO lf wo))) A) 0 0 A := by
  refine Met.ofW (cc := cX10_drawTrialLengths) (maxL := 5) (ret := (some .int)) (by decide) rfl ?_
  intro p e s m args below meth c s₁ BB hml hv
  obtain ⟨rfl, hP, hK, hE⟩ := hv
  have hx := BB.exec
  have hb := BB.bytes
  have hr := BB.returns
  have hts := atoms_spec (ws := wsX10_drawTrialLengths) BB.pre
  have hown : s.vm.findClass RX10 = some m.cls := findClass_of_methodNamed BB.named
  have hlocks := BB.notSynchronized
  have hS : va_S A s.heap s.heap [] := va_S.rf
  have hl := lv_entry ([.ref (a 0), .int (nI (x))]) (n := 5) (Nat.le_of_ble_eq_true rfl)
  rw [lg_entry_eq]
  generalize (lg_sl ([.ref (a 0), .int (nI (x))]) ++ List.replicate (5 - (lg_sl ([.ref (a 0), .int (nI (x))])).length) Slot.unset).toArray = ls at hl ⊢
  have hl : lv_has ls 5 [(0, .ref (a 0)), (1, .int (nI (x)))] := hl
  refine lv_iload_n hx hb dX10_drawTrialLengths_0 rfl (lv_at hl 1 rfl) ?_
  refine lv_i2l (v := lN x) hx hb dX10_drawTrialLengths_1 (nI_l (by omega)) ?_
  refine lv_lstore_n (lv' := [(2, .long (lN x)), (0, .ref (a 0)), (1, .int (nI (x)))]) hx hb dX10_drawTrialLengths_2 rfl hl (by decide) rfl (fun ls hl => ?_)
  refine lv_iconst (v := nI (0)) hx hb dX10_drawTrialLengths_3 (by decide) ?_
  refine lv_istore (lv' := [(4, .int (nI (0))), (2, .long (lN x)), (0, .ref (a 0)), (1, .int (nI (x)))]) hx hb dX10_drawTrialLengths_4 hl (by decide) rfl (fun ls hl => ?_)
  have loop_6 : ∀ (dd_6 : Nat) (h : Nat) (hh : h ≤ n), n - h < dd_6 → ∀ (H : Heap) (locs : List Loc) (ls : Array Slot), va_P (dC, dI) vwCl (MW y a rn n lo kp dy so he kn ak pl im lo2 dy2 so2 he2 kn2 ma kd len ord kh km pg len2 ord2 kh2 km2 cw (mixF h (rowD x) tl) tO bO lf wo) H → va_S A s.heap H locs → lv_has ls 5 [(4, .int (nI (h))), (2, .long (lN (itD h x))), (0, .ref (a 0)), (1, .int (nI (x)))] → W p l e (headSpec wsX10_drawTrialLengths ({ frames := 0, cells := 0, slots := 0, locals := 0 } : Room)).room s m [.ref (a 0), .int (nI (x))].toArray below meth c H locs 0 0 (MQ below (va_Qi (fun (r : Int32) (u : Unit) => r = nI (itD n x)) (c_B (dC, dI) vwCl (TY y) (fun (u : Unit) => (MW y a rn n lo kp dy so he kn ak pl im lo2 dy2 so2 he2 kn2 ma kd len ord kh km pg len2 ord2 kh2 km2 cw (mixF n (rowD x) tl) tO bO lf wo))) A) [.ref (a 0), .int (nI (x))].toArray s 0 0 A) (F0 m 6 ls []) := by
    intro dd_6
    induction dd_6 with
    | zero => intro h hh hd; exact absurd hd (Nat.not_lt_zero _)
    | succ dd_6 ih_6 =>
      intro h hh hd_6 H locs ls hP hS hl
      refine lv_iload hx hb dX10_drawTrialLengths_6 (lv_at hl 0 rfl) ?_
      refine lv_aload_n hx hb dX10_drawTrialLengths_8 rfl (lv_at hl 2 rfl) ?_
      refine va_get (D := (dC, dI)) (ci := 10) (C := RX10) (T := TX10) (N := 12) hx hb hts in_X10_drawTrialLengths_X10 hown hK hP 0 rfl rfl 1 (by decide) (hts (.fieldLink RX10 19 "MilkRound" "street" "LMilkRound$Street;") (List.mem_of_getElem? (i := 1) rfl)) (fun _ h9 => h9) rfl dX10_drawTrialLengths_9 ?_
      refine va_get (D := (dC, dI)) (ci := 6) (C := RX6) (T := TX6) (N := 8) hx hb hts in_X10_drawTrialLengths_X6 hown hK hP 3 rfl rfl 6 (by decide) (hts (.fieldLink RX10 89 "MilkRound$Street" "size" "I") (List.mem_of_getElem? (i := 2) rfl)) (fun _ h9 => h9) rfl dX10_drawTrialLengths_12 ?_
      refine n_icmp_ge (tgt := 55) hx hb dX10_drawTrialLengths_15 (by decide) (by omega) (by omega) (fun c_15 => ?_) (fun c_15 => ?_)
      · refine lv_lload_n hx hb dX10_drawTrialLengths_55 rfl (lv_at hl 1 rfl) ?_
        refine lv_l2i (v := nI (itD h x)) hx hb dX10_drawTrialLengths_56 (lN_i _) ?_
        have hhn : h = n := by omega
        have hP : va_P (dC, dI) vwCl (MW y a rn n lo kp dy so he kn ak pl im lo2 dy2 so2 he2 kn2 ma kd len ord kh km pg len2 ord2 kh2 km2 cw (mixF n (rowD x) tl) tO bO lf wo) H := by
          rw [hhn] at hP
          exact hP
        exact c_iret hx hb hr hlocks hK hS () hP (by rw [hhn]) dX10_drawTrialLengths_57
      · have hit := itD_lt hx0 h
        have hdr := drF_lt (itD h x)
        refine lv_ldc2 hx hb hown (hts (.constantLong RX10 261 (1103515245)) (List.mem_of_getElem? (i := 3) rfl)) dX10_drawTrialLengths_18 ?_
        refine lv_lload_n hx hb dX10_drawTrialLengths_21 rfl (lv_at hl 1 rfl) ?_
        refine lv_lmul hx hb dX10_drawTrialLengths_22 ?_
        refine n_topl (y := lN (1103515245 * itD h x)) (lN_mul 1103515245 _) ?_
        refine lv_ldc2 hx hb hown (hts (.constantLong RX10 263 (12345)) (List.mem_of_getElem? (i := 4) rfl)) dX10_drawTrialLengths_23 ?_
        refine lv_ladd hx hb dX10_drawTrialLengths_26 ?_
        refine n_topl (y := lN (1103515245 * itD h x + 12345)) (lN_add (1103515245 * itD h x) 12345) ?_
        refine lv_ldc2 hx hb hown (hts (.constantLong RX10 265 (2147483648)) (List.mem_of_getElem? (i := 5) rfl)) dX10_drawTrialLengths_27 ?_
        refine lv_lrem hx hb dX10_drawTrialLengths_30 (by decide) ?_
        refine n_topl (y := lN (drF (itD h x))) (mr_rem (b := 2147483648) (by omega) (by decide) (by decide)) ?_
        refine lv_lstore_n (lv' := [(2, .long (lN (drF (itD h x)))), (4, .int (nI (h))), (0, .ref (a 0)), (1, .int (nI (x)))]) hx hb dX10_drawTrialLengths_31 rfl hl (by decide) rfl (fun ls hl => ?_)
        refine lv_aload_n hx hb dX10_drawTrialLengths_32 rfl (lv_at hl 2 rfl) ?_
        refine va_get (D := (dC, dI)) (ci := 10) (C := RX10) (T := TX10) (N := 12) hx hb hts in_X10_drawTrialLengths_X10 hown hK hP 0 rfl rfl 5 (by decide) (hts (.fieldLink RX10 42 "MilkRound" "trialLengths" "[I") (List.mem_of_getElem? (i := 6) rfl)) (fun _ h9 => h9) rfl dX10_drawTrialLengths_33 ?_
        refine lv_iload hx hb dX10_drawTrialLengths_36 (lv_at hl 1 rfl) ?_
        refine lv_lload_n hx hb dX10_drawTrialLengths_38 rfl (lv_at hl 0 rfl) ?_
        refine lv_ldc2 hx hb hown (hts (.constantLong RX10 267 (65536)) (List.mem_of_getElem? (i := 7) rfl)) dX10_drawTrialLengths_39 ?_
        refine lv_ldiv hx hb dX10_drawTrialLengths_42 (by decide) ?_
        refine n_topl (y := lN (drF (itD h x) / 65536)) (pk_lDiv (b := 65536) (by omega) (by decide) (by decide)) ?_
        refine lv_ldc2 hx hb hown (hts (.constantLong RX10 269 (10)) (List.mem_of_getElem? (i := 8) rfl)) dX10_drawTrialLengths_43 ?_
        refine lv_lrem hx hb dX10_drawTrialLengths_46 (by decide) ?_
        refine n_topl (y := lN (drF (itD h x) / 65536 % 10)) (mr_rem (b := 10) (by omega) (by decide) (by decide)) ?_
        refine lv_l2i (v := nI (drF (itD h x) / 65536 % 10)) hx hb dX10_drawTrialLengths_47 (lN_i _) ?_
        refine n_iast hx hb hK hP (ad_D hA0 rfl) hS 22 0 rfl rfl (by omega) (by decide) dX10_drawTrialLengths_48 (fun H locs hP hS => ?_)
        have hP : va_P (dC, dI) vwCl (MW y a rn n lo kp dy so he kn ak pl im lo2 dy2 so2 he2 kn2 ma kd len ord kh km pg len2 ord2 kh2 km2 cw (va_up (mixF h (rowD x) tl) h (drF (itD h x) / 65536 % 10)) tO bO lf wo) H := hP
        refine lv_iinc (v := nI (h + 1)) (lv' := [(4, .int (nI (h + 1))), (2, .long (lN (drF (itD h x)))), (0, .ref (a 0)), (1, .int (nI (x)))]) hx hb dX10_drawTrialLengths_49 hl (k := 1) rfl (mr_inc _) (by decide) rfl (fun ls hl => ?_)
        refine lv_goto (tgt := 6) hx hb dX10_drawTrialLengths_52 (by decide) ?_
        exact ih_6 (h + 1) (by omega) (by omega) _ _ _ (by rw [← mixF_s]; exact hP) hS (lv_sub hl [0, 1, 2, 3] rfl)
  exact loop_6 _ 0 (Nat.zero_le _) (Nat.lt_succ_self _) _ _ _ (by rw [mixF_0]; exact hP) hS (lv_sub hl [0, 1, 2, 3] rfl)
theorem in_X10_weeks_X10 : ∀ w ∈ wsX100, w ∈ wsX10_weeks := fun w h => List.mem_cons_of_mem _ (List.mem_append_left _ (List.mem_append_left _ (List.mem_append_left _ (List.mem_append_right _ h))))
theorem in_X10_weeks_X2 : ∀ w ∈ wsX20, w ∈ wsX10_weeks := fun w h => List.mem_cons_of_mem _ (List.mem_append_left _ (List.mem_append_left _ (List.mem_append_right _ h)))
set_option maxHeartbeats 4000000 in
set_option maxRecDepth 100000 in
theorem k_X10_weeks (l : Launch) (dC : Nat → ClassId) (dI : Nat → Nat → Nat) (y : Nat → ClassId) (A : Nat → Prop) (a : Nat → Nat) (hA0 : ad_ok A a 34) (xK : Nat → Nat) (xV : Nat → Nat) (rn : Nat) (n : Nat) (lo : Int32) (kp : Nat) (dy : Int32) (so : Int32) (he : Int32) (kn : Nat) (ak : Nat) (pl : Nat) (im : Bool) (lo2 : Int32) (dy2 : Int32) (so2 : Int32) (he2 : Int32) (kn2 : Nat) (ma : Nat) (kd : Nat → Nat) (len : Nat → Nat) (ord : Nat → Nat) (kh : Nat → Nat) (km : Nat → Nat) (pg : Nat → Nat) (len2 : Nat → Nat) (ord2 : Nat → Nat) (kh2 : Nat → Nat) (km2 : Nat → Nat) (cw : Nat → Nat) (tl : Nat → Nat) (tO : Nat → Nat) (bO : Nat → Nat) (lf : Nat → Nat → Nat) (wo : Nat → Nat) (d : Int32) (x : Int32) (w : Int32) (hn : n ≤ 6) (hord : PermOn n ord) (hlen : ∀ j, len j ≤ 9) (hkd : ∀ j, kd j ≤ 4) (hcw : ∀ j, cw j ≤ 126) (hkp : kp ≤ 9) (htl : ∀ j, tl j ≤ 9) : Met l yX10_weeks wsX10_weeks ({ frames := 4, cells := 0, slots := 0, locals := 92 } : Room) (c_P (dC, dI) vwCl (TY y) (EV xK xV A) (MW y a rn n lo kp dy so he kn ak pl im lo2 dy2 so2 he2 kn2 ma kd len ord kh km pg len2 ord2 kh2 km2 cw tl tO bO lf wo) [.ref (a 0), .int (d), .int (x), .int (w)]) (va_Qi (fun (r : Int32) (u : (Nat → Nat) × Nat × (Nat → Nat)) => r = rWeeks n kp kd lo ord d x w ∧ (∀ j, u.1 j ≤ 126) ∧ ∀ j, u.2.2 j ≤ 9) (c_B (dC, dI) vwCl (TY y) (fun (u : (Nat → Nat) × Nat × (Nat → Nat)) => (MW y a rn n lo kp dy so he kn ak pl im lo2 dy2 so2 he2 kn2 u.2.1 kd len ord kh km pg len2 ord2 kh2 km2 u.1 u.2.2 tO bO lf wo))) A) 0 0 A := by
  refine Met.ofW (cc := cX10_weeks) (maxL := 8) (ret := (some .int)) (by decide) rfl ?_
  intro p e s m args below meth c s₁ BB hml hv
  obtain ⟨rfl, hP, hK, hE⟩ := hv
  have hx := BB.exec
  have hb := BB.bytes
  have hr := BB.returns
  have hts := atoms_spec (ws := wsX10_weeks) BB.pre
  have hown : s.vm.findClass RX10 = some m.cls := findClass_of_methodNamed BB.named
  have hlocks := BB.notSynchronized
  have hS : va_S A s.heap s.heap [] := va_S.rf
  have hl := lv_entry ([.ref (a 0), .int (d), .int (x), .int (w)]) (n := 8) (Nat.le_of_ble_eq_true rfl)
  rw [lg_entry_eq]
  generalize (lg_sl ([.ref (a 0), .int (d), .int (x), .int (w)]) ++ List.replicate (8 - (lg_sl ([.ref (a 0), .int (d), .int (x), .int (w)])).length) Slot.unset).toArray = ls at hl ⊢
  have hl : lv_has ls 8 [(0, .ref (a 0)), (1, .int (d)), (2, .int (x)), (3, .int (w))] := hl
  refine lv_iload_n hx hb dX10_weeks_0 rfl (lv_at hl 1 rfl) ?_
  refine lv_iconst (v := nI (1)) hx hb dX10_weeks_1 (by decide) ?_
  refine lv_icmp_lt (tgt := 24) hx hb dX10_weeks_2 (by decide) (fun c_2 => ?_) (fun c_2 => ?_)
  · refine lv_bipush (v := (-102)) hx hb dX10_weeks_24 (by decide) ?_
    exact c_iret hx hb hr hlocks hK hS (cw, ma, tl) hP ⟨by unfold rWeeks; rw [inD_no1 c_2]; rfl, hcw, htl⟩ dX10_weeks_26
  · refine lv_iload_n hx hb dX10_weeks_5 rfl (lv_at hl 1 rfl) ?_
    refine lv_bipush (v := nI (60)) hx hb dX10_weeks_6 (by decide) ?_
    refine lv_icmp_gt (tgt := 24) hx hb dX10_weeks_8 (by decide) (fun c_8 => ?_) (fun c_8 => ?_)
    · refine lv_bipush (v := (-102)) hx hb dX10_weeks_24 (by decide) ?_
      exact c_iret hx hb hr hlocks hK hS (cw, ma, tl) hP ⟨by unfold rWeeks; rw [inD_no2 c_8]; rfl, hcw, htl⟩ dX10_weeks_26
    · refine lv_iload_n hx hb dX10_weeks_11 rfl (lv_at hl 2 rfl) ?_
      refine lv_if_lt (tgt := 24) hx hb dX10_weeks_12 (by decide) (fun c_12 => ?_) (fun c_12 => ?_)
      · refine lv_bipush (v := (-102)) hx hb dX10_weeks_24 (by decide) ?_
        exact c_iret hx hb hr hlocks hK hS (cw, ma, tl) hP ⟨by unfold rWeeks; rw [inD_mk c_2 c_8, decide_eq_false (fun q => q c_12)]; rfl, hcw, htl⟩ dX10_weeks_26
      · refine lv_iload_n hx hb dX10_weeks_15 rfl (lv_at hl 3 rfl) ?_
        refine lv_if_lt (tgt := 24) hx hb dX10_weeks_16 (by decide) (fun c_16 => ?_) (fun c_16 => ?_)
        · refine lv_bipush (v := (-102)) hx hb dX10_weeks_24 (by decide) ?_
          exact c_iret hx hb hr hlocks hK hS (cw, ma, tl) hP ⟨by unfold rWeeks; rw [inD_mk c_2 c_8, decide_eq_true c_12, inR_no1 c_16]; rfl, hcw, htl⟩ dX10_weeks_26
        · refine lv_iload_n hx hb dX10_weeks_19 rfl (lv_at hl 3 rfl) ?_
          refine lv_iconst (v := nI (2)) hx hb dX10_weeks_20 (by decide) ?_
          refine lv_icmp_le (tgt := 27) hx hb dX10_weeks_21 (by decide) (fun c_21 => ?_) (fun c_21 => ?_)
          · refine lv_aload_n hx hb dX10_weeks_27 rfl (lv_at hl 0 rfl) ?_
            refine c_calli (va_runV (As := []) (rest := []) ⟨hx, hb, hml, hown, hts⟩ (k_X10_hasNoRound l dC dI y A a hA0 xK xV rn n lo kp dy so he kn ak pl im lo2 dy2 so2 he2 kn2 ma kd len ord kh km pg len2 ord2 kh2 km2 cw tl tO bO lf wo  hn) (cwV 0 hts gX10_weeks_X10_hasNoRound rfl rfl rfl (by decide +kernel) ⟨Nat.le_of_ble_eq_true rfl, Nat.le_of_ble_eq_true rfl⟩) (c_preV (evN xK xV A) hK hE hS hP (va_recv hK hP (ci := 10) (q0 := 0) rfl rfl)) rfl rfl hl.1 rfl (lv_room (Nat.le_of_ble_eq_true rfl)) dX10_weeks_28 ⟨Nat.le_refl _, Nat.le_refl _⟩) hS (fun r_28 u_28 H locs hw_28 hP hS => ?_)
            obtain rfl := hw_28
            refine n_bif_eq (tgt := 37) hx hb dX10_weeks_31 (by decide) (fun c_31 => ?_) (fun c_31 => ?_)
            · obtain ⟨dn, hd1, hd2, ed⟩ := inD_of (inD_mk c_2 c_8)
              obtain ⟨xn, hx31, ex9⟩ := nI_of c_12
              obtain ⟨wk, hk, ek⟩ := inR_of (m := 2) (by decide) (inR_mk c_16 c_21)
              rw [ed] at hl
              rw [ex9] at hl
              rw [ek] at hl
              have hl : lv_has ls 8 [(0, .ref (a 0)), (1, .int (nI (dn))), (2, .int (nI (xn))), (3, .int (nI (wk)))] := hl
              refine lv_iload_n hx hb dX10_weeks_37 rfl (lv_at hl 2 rfl) ?_
              refine lv_istore (lv' := [(4, .int (nI (xn))), (0, .ref (a 0)), (1, .int (nI (dn))), (2, .int (nI (xn))), (3, .int (nI (wk)))]) hx hb dX10_weeks_38 hl (by decide) rfl (fun ls hl => ?_)
              refine lv_iconst (v := nI (0)) hx hb dX10_weeks_40 (by decide) ?_
              refine lv_istore (lv' := [(5, .int (nI (0))), (4, .int (nI (xn))), (0, .ref (a 0)), (1, .int (nI (dn))), (2, .int (nI (xn))), (3, .int (nI (wk)))]) hx hb dX10_weeks_41 hl (by decide) rfl (fun ls hl => ?_)
              refine lv_iconst (v := nI (0)) hx hb dX10_weeks_43 (by decide) ?_
              refine lv_istore (lv' := [(6, .int (nI (0))), (5, .int (nI (0))), (4, .int (nI (xn))), (0, .ref (a 0)), (1, .int (nI (dn))), (2, .int (nI (xn))), (3, .int (nI (wk)))]) hx hb dX10_weeks_44 hl (by decide) rfl (fun ls hl => ?_)
              refine lv_iconst (v := nI (0)) hx hb dX10_weeks_46 (by decide) ?_
              refine lv_istore (lv' := [(7, .int (nI (0))), (6, .int (nI (0))), (5, .int (nI (0))), (4, .int (nI (xn))), (0, .ref (a 0)), (1, .int (nI (dn))), (2, .int (nI (xn))), (3, .int (nI (wk)))]) hx hb dX10_weeks_47 hl (by decide) rfl (fun ls hl => ?_)
              have loop_49 : ∀ (dd_49 : Nat) (k : Nat) (s1 : Nat) (s2 : Nat) (z : Nat) (f : Nat → Nat) (m9 : Nat) (t9 : Nat → Nat) (hk9 : k ≤ dn) (hs1 : s1 = ssF n kp kd lo ord xn k) (hs2 : s2 = hsF n kd lo ord xn k) (hz : z = sdF n xn k) (hf : ∀ j, f j ≤ 126) (ht9 : ∀ j, t9 j ≤ 9), dn - k < dd_49 → ∀ (H : Heap) (locs : List Loc) (ls : Array Slot), va_P (dC, dI) vwCl (MW y a rn n lo kp dy so he kn ak pl im lo2 dy2 so2 he2 kn2 m9 kd len ord kh km pg len2 ord2 kh2 km2 f t9 tO bO lf wo) H → va_S A s.heap H locs → lv_has ls 8 [(7, .int (nI (k))), (6, .int (nI (s2))), (5, .int (nI (s1))), (4, .int (nI (z))), (0, .ref (a 0)), (1, .int (nI (dn))), (2, .int (nI (xn))), (3, .int (nI (wk)))] → W p l e (headSpec wsX10_weeks ({ frames := 4, cells := 0, slots := 0, locals := 92 } : Room)).room s m [.ref (a 0), .int (d), .int (x), .int (w)].toArray below meth c H locs 0 0 (MQ below (va_Qi (fun (r : Int32) (u : (Nat → Nat) × Nat × (Nat → Nat)) => r = rWeeks n kp kd lo ord d x w ∧ (∀ j, u.1 j ≤ 126) ∧ ∀ j, u.2.2 j ≤ 9) (c_B (dC, dI) vwCl (TY y) (fun (u : (Nat → Nat) × Nat × (Nat → Nat)) => (MW y a rn n lo kp dy so he kn ak pl im lo2 dy2 so2 he2 kn2 u.2.1 kd len ord kh km pg len2 ord2 kh2 km2 u.1 u.2.2 tO bO lf wo))) A) [.ref (a 0), .int (d), .int (x), .int (w)].toArray s 0 0 A) (F0 m 49 ls []) := by
                intro dd_49
                induction dd_49 with
                | zero => intro k s1 s2 z f m9 t9 hk9 hs1 hs2 hz hf ht9 hd; exact absurd hd (Nat.not_lt_zero _)
                | succ dd_49 ih_49 =>
                  intro k s1 s2 z f m9 t9 hk9 hs1 hs2 hz hf ht9 hd_49 H locs ls hP hS hl
                  refine lv_iload hx hb dX10_weeks_49 (lv_at hl 0 rfl) ?_
                  refine lv_iload_n hx hb dX10_weeks_51 rfl (lv_at hl 5 rfl) ?_
                  refine n_icmp_ge (tgt := 118) hx hb dX10_weeks_52 (by decide) (by omega) (by omega) (fun c_52 => ?_) (fun c_52 => ?_)
                  · have hkd9 : k = dn := by omega
                    refine lv_iload_n hx hb dX10_weeks_118 rfl (lv_at hl 7 rfl) ?_
                    refine lv_iconst (v := nI (2)) hx hb dX10_weeks_119 (by decide) ?_
                    refine n_icmp_ne (tgt := 126) hx hb dX10_weeks_120 (by decide) (by omega) (by omega) (fun c_120 => ?_) (fun c_120 => ?_)
                    · refine lv_iload_n hx hb dX10_weeks_126 rfl (lv_at hl 7 rfl) ?_
                      refine n_if_ne (tgt := 135) hx hb dX10_weeks_127 (by decide) (by omega) (fun c_127 => ?_) (fun c_127 => ?_)
                      · refine lv_iload hx hb dX10_weeks_135 (lv_at hl 1 rfl) ?_
                        exact c_iret hx hb hr hlocks hK hS (f, m9, t9) hP ⟨by unfold rWeeks; rw [inD_mk c_2 c_8, decide_eq_true c_12, inR_mk c_16 c_21, if_neg (of_decide_eq_false c_31), ed, ex9, ek, nI_clamp (by omega), nI_clamp (by omega), nI_clamp (by omega), wkF, if_neg (by omega), if_pos (by omega), hs2, hkd9]; rfl, hf, ht9⟩ dX10_weeks_137
                      · refine lv_iload hx hb dX10_weeks_130 (lv_at hl 2 rfl) ?_
                        refine lv_goto (tgt := 137) hx hb dX10_weeks_132 (by decide) ?_
                        exact c_iret hx hb hr hlocks hK hS (f, m9, t9) hP ⟨by unfold rWeeks; rw [inD_mk c_2 c_8, decide_eq_true c_12, inR_mk c_16 c_21, if_neg (of_decide_eq_false c_31), ed, ex9, ek, nI_clamp (by omega), nI_clamp (by omega), nI_clamp (by omega), wkF, if_pos (by omega), hs1, hkd9]; rfl, hf, ht9⟩ dX10_weeks_137
                    · refine lv_iload hx hb dX10_weeks_123 (lv_at hl 3 rfl) ?_
                      exact c_iret hx hb hr hlocks hK hS (f, m9, t9) hP ⟨by unfold rWeeks; rw [inD_mk c_2 c_8, decide_eq_true c_12, inR_mk c_16 c_21, if_neg (of_decide_eq_false c_31), ed, ex9, ek, nI_clamp (by omega), nI_clamp (by omega), nI_clamp (by omega), wkF, if_neg (by omega), if_neg (by omega), hz, hkd9]; rfl, hf, ht9⟩ dX10_weeks_125
                  · have hzl : z < 2147483648 := by rw [hz]; exact sdF_lt hx31 k
                    have hlm : ∀ j, mixF n (rowD z) t9 j ≤ 9 := mixF_le (fun j _ => dgF_le _) ht9
                    refine lv_aload_n hx hb dX10_weeks_55 rfl (lv_at hl 4 rfl) ?_
                    refine lv_iload hx hb dX10_weeks_56 (lv_at hl 3 rfl) ?_
                    refine c_calli (va_runV (As := [.int (nI (z))]) (rest := []) ⟨hx, hb, hml, hown, hts⟩ (k_X10_drawTrialLengths l dC dI y A a hA0 xK xV rn n lo kp dy so he kn ak pl im lo2 dy2 so2 he2 kn2 m9 kd len ord kh km pg len2 ord2 kh2 km2 f t9 tO bO lf wo z hn hzl) (cwV 1 hts gX10_weeks_X10_drawTrialLengths rfl rfl rfl (by decide +kernel) ⟨Nat.le_of_ble_eq_true rfl, Nat.le_of_ble_eq_true rfl⟩) (c_preV (evN xK xV A) hK hE hS hP (va_recv hK hP (ci := 10) (q0 := 0) rfl rfl)) rfl rfl hl.1 rfl (lv_room (Nat.le_of_ble_eq_true rfl)) dX10_weeks_58 ⟨Nat.le_refl _, Nat.le_refl _⟩) hS (fun r_58 u_58 H locs hw_58 hP hS => ?_)
                    have hP : va_P (dC, dI) vwCl (MW y a rn n lo kp dy so he kn ak pl im lo2 dy2 so2 he2 kn2 m9 kd len ord kh km pg len2 ord2 kh2 km2 f (mixF n (rowD z) t9) tO bO lf wo) H := hP
                    obtain rfl := hw_58
                    refine lv_istore (lv' := [(4, .int (nI (itD n z))), (7, .int (nI (k))), (6, .int (nI (s2))), (5, .int (nI (s1))), (0, .ref (a 0)), (1, .int (nI (dn))), (2, .int (nI (xn))), (3, .int (nI (wk)))]) hx hb dX10_weeks_61 hl (by decide) rfl (fun ls hl => ?_)
                    refine lv_aload_n hx hb dX10_weeks_63 rfl (lv_at hl 4 rfl) ?_
                    refine va_get (D := (dC, dI)) (ci := 10) (C := RX10) (T := TX10) (N := 12) hx hb hts in_X10_weeks_X10 hown hK hP 0 rfl rfl 4 (by decide) (hts (.fieldLink RX10 38 "MilkRound" "walk" "LMilkRound$Walk;") (List.mem_of_getElem? (i := 1) rfl)) (fun _ h9 => h9) rfl dX10_weeks_64 ?_
                    refine lv_aload_n hx hb dX10_weeks_67 rfl (lv_at hl 4 rfl) ?_
                    refine va_get (D := (dC, dI)) (ci := 10) (C := RX10) (T := TX10) (N := 12) hx hb hts in_X10_weeks_X10 hown hK hP 0 rfl rfl 5 (by decide) (hts (.fieldLink RX10 42 "MilkRound" "trialLengths" "[I") (List.mem_of_getElem? (i := 2) rfl)) (fun _ h9 => h9) rfl dX10_weeks_68 ?_
                    refine lv_aload_n hx hb dX10_weeks_71 rfl (lv_at hl 4 rfl) ?_
                    refine va_get (D := (dC, dI)) (ci := 10) (C := RX10) (T := TX10) (N := 12) hx hb hts in_X10_weeks_X10 hown hK hP 0 rfl rfl 2 (by decide) (hts (.fieldLink RX10 26 "MilkRound" "now" "LMilkRound$Course;") (List.mem_of_getElem? (i := 3) rfl)) (fun _ h9 => h9) rfl dX10_weeks_72 ?_
                    refine va_get (D := (dC, dI)) (ci := 2) (C := RX2) (T := TX2) (N := 9) hx hb hts in_X10_weeks_X2 hown hK hP 10 rfl rfl 1 (by decide) (hts (.fieldLink RX10 123 "MilkRound$Course" "order" "[I") (List.mem_of_getElem? (i := 4) rfl)) (fun _ h9 => h9) rfl dX10_weeks_75 ?_
                    refine lv_aload_n hx hb dX10_weeks_78 rfl (lv_at hl 4 rfl) ?_
                    refine va_get (D := (dC, dI)) (ci := 10) (C := RX10) (T := TX10) (N := 12) hx hb hts in_X10_weeks_X10 hown hK hP 0 rfl rfl 2 (by decide) (hts (.fieldLink RX10 26 "MilkRound" "now" "LMilkRound$Course;") (List.mem_of_getElem? (i := 3) rfl)) (fun _ h9 => h9) rfl dX10_weeks_79 ?_
                    refine va_get (D := (dC, dI)) (ci := 2) (C := RX2) (T := TX2) (N := 9) hx hb hts in_X10_weeks_X2 hown hK hP 10 rfl rfl 5 (by decide) (hts (.fieldLink RX10 113 "MilkRound$Course" "leftOut" "I") (List.mem_of_getElem? (i := 5) rfl)) (fun _ h9 => h9) rfl dX10_weeks_82 ?_
                    refine c_callv (va_runV (As := [.ref (a 22), .ref (a 12), .int (lo)]) (rest := []) ⟨hx, hb, hml, hown, hts⟩ (k_X8_go_b l dC dI y A a hA0 xK xV rn n lo kp dy so he kn ak pl im lo2 dy2 so2 he2 kn2 m9 kd len ord kh km pg len2 ord2 kh2 km2 f (mixF n (rowD z) t9) tO bO lf wo lo hn hord hlm hkd hf) (cwV 3 hts gX10_weeks_X8_go rfl rfl rfl (by decide +kernel) ⟨Nat.le_of_ble_eq_true rfl, Nat.le_of_ble_eq_true rfl⟩) (c_preV (evN xK xV A) hK hE hS hP (va_recv hK hP (ci := 8) (q0 := 20) rfl rfl)) rfl rfl hl.1 rfl (lv_room (Nat.le_of_ble_eq_true rfl)) dX10_weeks_85 ⟨Nat.le_refl _, Nat.le_refl _⟩) hS (fun u_85 H locs hw_85 hP hS => ?_)
                    have hP : va_P (dC, dI) vwCl (MW y a rn n lo kp dy so he kn ak pl im lo2 dy2 so2 he2 kn2 u_85.2 kd len ord kh km pg len2 ord2 kh2 km2 u_85.1 (mixF n (rowD z) t9) tO bO lf wo) H := hP
                    refine lv_iload hx hb dX10_weeks_88 (lv_at hl 3 rfl) ?_
                    refine lv_aload_n hx hb dX10_weeks_90 rfl (lv_at hl 4 rfl) ?_
                    refine va_get (D := (dC, dI)) (ci := 10) (C := RX10) (T := TX10) (N := 12) hx hb hts in_X10_weeks_X10 hown hK hP 0 rfl rfl 4 (by decide) (hts (.fieldLink RX10 38 "MilkRound" "walk" "LMilkRound$Walk;") (List.mem_of_getElem? (i := 1) rfl)) (fun _ h9 => h9) rfl dX10_weeks_91 ?_
                    refine c_calli (va_runV (As := []) (rest := [.int (nI (s1))]) ⟨hx, hb, hml, hown, hts⟩ (k_X8_sourHouses l dC dI y A a hA0 xK xV rn n lo kp dy so he kn ak pl im lo2 dy2 so2 he2 kn2 u_85.2 kd len ord kh km pg len2 ord2 kh2 km2 u_85.1 (mixF n (rowD z) t9) tO bO lf wo  hn hkp hw_85.1.2 hkd) (cwV 0 hts gX10_weeks_X8_sourHouses rfl rfl rfl (by decide +kernel) ⟨Nat.le_of_ble_eq_true rfl, Nat.le_of_ble_eq_true rfl⟩) (c_preV (evN xK xV A) hK hE hS hP (va_recv hK hP (ci := 8) (q0 := 20) rfl rfl)) rfl rfl hl.1 rfl (lv_room (Nat.le_of_ble_eq_true rfl)) dX10_weeks_94 ⟨Nat.le_refl _, Nat.le_refl _⟩) hS (fun r_94 u_94 H locs hw_94 hP hS => ?_)
                    obtain rfl := hw_94
                    refine n_top (y := nI (scF n kp kd (rowD z) lo ord)) (by rw [sc_of hw_85.1, scF_cong hord (fun j hj => mixF_in hj)]) ?_
                    refine n_iadd hx hb dX10_weeks_97 ?_
                    refine lv_istore (lv' := [(5, .int (nI ((s1) + (scF n kp kd (rowD z) lo ord)))), (4, .int (nI (itD n z))), (7, .int (nI (k))), (6, .int (nI (s2))), (0, .ref (a 0)), (1, .int (nI (dn))), (2, .int (nI (xn))), (3, .int (nI (wk)))]) hx hb dX10_weeks_98 hl (by decide) rfl (fun ls hl => ?_)
                    refine lv_iload hx hb dX10_weeks_100 (lv_at hl 3 rfl) ?_
                    refine lv_aload_n hx hb dX10_weeks_102 rfl (lv_at hl 4 rfl) ?_
                    refine va_get (D := (dC, dI)) (ci := 10) (C := RX10) (T := TX10) (N := 12) hx hb hts in_X10_weeks_X10 hown hK hP 0 rfl rfl 4 (by decide) (hts (.fieldLink RX10 38 "MilkRound" "walk" "LMilkRound$Walk;") (List.mem_of_getElem? (i := 1) rfl)) (fun _ h9 => h9) rfl dX10_weeks_103 ?_
                    refine c_calli (va_runV (As := []) (rest := [.int (nI (s2))]) ⟨hx, hb, hml, hown, hts⟩ (k_X8_hearingHouses l dC dI y A a hA0 xK xV rn n lo kp dy so he kn ak pl im lo2 dy2 so2 he2 kn2 u_85.2 kd len ord kh km pg len2 ord2 kh2 km2 u_85.1 (mixF n (rowD z) t9) tO bO lf wo  hn hkp hw_85.1.2 hkd) (cwV 0 hts gX10_weeks_X8_hearingHouses rfl rfl rfl (by decide +kernel) ⟨Nat.le_of_ble_eq_true rfl, Nat.le_of_ble_eq_true rfl⟩) (c_preV (evN xK xV A) hK hE hS hP (va_recv hK hP (ci := 8) (q0 := 20) rfl rfl)) rfl rfl hl.1 rfl (lv_room (Nat.le_of_ble_eq_true rfl)) dX10_weeks_106 ⟨Nat.le_refl _, Nat.le_refl _⟩) hS (fun r_106 u_106 H locs hw_106 hP hS => ?_)
                    obtain rfl := hw_106
                    refine n_top (y := nI (hcF n kd (rowD z) lo ord)) (by rw [hc_of hw_85.1, hcF_cong hord (fun j hj => mixF_in hj)]) ?_
                    refine n_iadd hx hb dX10_weeks_109 ?_
                    refine lv_istore (lv' := [(6, .int (nI ((s2) + (hcF n kd (rowD z) lo ord)))), (5, .int (nI ((s1) + (scF n kp kd (rowD z) lo ord)))), (4, .int (nI (itD n z))), (7, .int (nI (k))), (0, .ref (a 0)), (1, .int (nI (dn))), (2, .int (nI (xn))), (3, .int (nI (wk)))]) hx hb dX10_weeks_110 hl (by decide) rfl (fun ls hl => ?_)
                    refine lv_iinc (v := nI (k + 1)) (lv' := [(7, .int (nI (k + 1))), (6, .int (nI ((s2) + (hcF n kd (rowD z) lo ord)))), (5, .int (nI ((s1) + (scF n kp kd (rowD z) lo ord)))), (4, .int (nI (itD n z))), (0, .ref (a 0)), (1, .int (nI (dn))), (2, .int (nI (xn))), (3, .int (nI (wk)))]) hx hb dX10_weeks_112 hl (k := 3) rfl (mr_inc _) (by decide) rfl (fun ls hl => ?_)
                    refine lv_goto (tgt := 49) hx hb dX10_weeks_115 (by decide) ?_
                    exact ih_49 (k + 1) (s1 + scF n kp kd (rowD z) lo ord) (s2 + hcF n kd (rowD z) lo ord) (itD n z) u_85.1 u_85.2 (mixF n (rowD z) t9) (by omega) (by rw [hs1, hz]; rfl) (by rw [hs2, hz]; rfl) (by rw [hz]; rfl) hw_85.1.2 hlm (by omega) _ _ _ hP hS (lv_sub hl [0, 1, 2, 3, 4, 5, 6, 7] rfl)
              exact loop_49 _ 0 0 0 xn cw ma tl (Nat.zero_le _) rfl rfl rfl hcw htl (Nat.lt_succ_self _) _ _ _ hP hS (lv_sub hl [0, 1, 2, 3, 4, 5, 6, 7] rfl)
            · refine lv_bipush (v := (-103)) hx hb dX10_weeks_34 (by decide) ?_
              exact c_iret hx hb hr hlocks hK hS (cw, ma, tl) hP ⟨by unfold rWeeks; rw [inD_mk c_2 c_8, decide_eq_true c_12, inR_mk c_16 c_21, if_pos (of_decide_eq_true c_31)]; rfl, hcw, htl⟩ dX10_weeks_36
          · refine lv_bipush (v := (-102)) hx hb dX10_weeks_24 (by decide) ?_
            exact c_iret hx hb hr hlocks hK hS (cw, ma, tl) hP ⟨by unfold rWeeks; rw [inD_mk c_2 c_8, decide_eq_true c_12, inR_no2 c_21]; rfl, hcw, htl⟩ dX10_weeks_26
set_option maxHeartbeats 4000000 in
set_option maxRecDepth 100000 in
theorem k_X10_advance (l : Launch) (dC : Nat → ClassId) (dI : Nat → Nat → Nat) (y : Nat → ClassId) (A : Nat → Prop) (a : Nat → Nat) (hA0 : ad_ok A a 34) (xK : Nat → Nat) (xV : Nat → Nat) (rn : Nat) (n : Nat) (lo : Int32) (kp : Nat) (dy : Int32) (so : Int32) (he : Int32) (kn : Nat) (ak : Nat) (pl : Nat) (im : Bool) (lo2 : Int32) (dy2 : Int32) (so2 : Int32) (he2 : Int32) (kn2 : Nat) (ma : Nat) (kd : Nat → Nat) (len : Nat → Nat) (ord : Nat → Nat) (kh : Nat → Nat) (km : Nat → Nat) (pg : Nat → Nat) (len2 : Nat → Nat) (ord2 : Nat → Nat) (kh2 : Nat → Nat) (km2 : Nat → Nat) (cw : Nat → Nat) (tl : Nat → Nat) (tO : Nat → Nat) (bO : Nat → Nat) (lf : Nat → Nat → Nat) (wo : Nat → Nat) (hn2 : 2 ≤ n) (hn : n ≤ 6) (hto : PermOn n tO) : Met l yX10_advance wsX10_advance ({ frames := 1, cells := 0, slots := 0, locals := 23 } : Room) (c_P (dC, dI) vwCl (TY y) (EV xK xV A) (MW y a rn n lo kp dy so he kn ak pl im lo2 dy2 so2 he2 kn2 ma kd len ord kh km pg len2 ord2 kh2 km2 cw tl tO bO lf wo) [.ref (a 23), .int (nI (n))]) (va_Qi (fun (r : Int32) (u : Unit) => r = bI (decide (¬ dnF tO (n - 1) = 0))) (c_B (dC, dI) vwCl (TY y) (fun (u : Unit) => (MW y a rn n lo kp dy so he kn ak pl im lo2 dy2 so2 he2 kn2 ma kd len ord kh km pg len2 ord2 kh2 km2 cw tl (nxO n tO) bO lf wo))) A) 0 0 A := by
  refine Met.ofW (cc := cX10_advance) (maxL := 6) (ret := (some .boolean)) (by decide) rfl ?_
  intro p e s m args below meth c s₁ BB hml hv
  obtain ⟨rfl, hP, hK, hE⟩ := hv
  have hx := BB.exec
  have hb := BB.bytes
  have hr := BB.returns
  have hts := atoms_spec (ws := wsX10_advance) BB.pre
  have hown : s.vm.findClass RX10 = some m.cls := findClass_of_methodNamed BB.named
  have hlocks := BB.notSynchronized
  have hS : va_S A s.heap s.heap [] := va_S.rf
  have hl := lv_entry ([.ref (a 23), .int (nI (n))]) (n := 6) (Nat.le_of_ble_eq_true rfl)
  rw [lg_entry_eq]
  generalize (lg_sl ([.ref (a 23), .int (nI (n))]) ++ List.replicate (6 - (lg_sl ([.ref (a 23), .int (nI (n))])).length) Slot.unset).toArray = ls at hl ⊢
  have hl : lv_has ls 6 [(0, .ref (a 23)), (1, .int (nI (n)))] := hl
  refine lv_iload_n hx hb dX10_advance_0 rfl (lv_at hl 1 rfl) ?_
  refine lv_iconst (v := nI (2)) hx hb dX10_advance_1 (by decide) ?_
  refine n_isub hx hb (by omega) dX10_advance_2 ?_
  refine n_top (y := nI (n - 1) - nI 1) (by rw [pk_sub (by omega), show n - 1 - 1 = n - 2 by omega]) ?_
  refine lv_istore_n (lv' := [(2, .int (nI (n - 1) - nI 1)), (0, .ref (a 23)), (1, .int (nI (n)))]) hx hb dX10_advance_3 rfl hl (by decide) rfl (fun ls hl => ?_)
  have loop_4 : ∀ (dd_4 : Nat) (t9 : Nat) (ht : t9 ≤ n - 1) (hdn : dnF tO (n - 1) = dnF tO t9), t9 < dd_4 → ∀ (H : Heap) (locs : List Loc) (ls : Array Slot), va_P (dC, dI) vwCl (MW y a rn n lo kp dy so he kn ak pl im lo2 dy2 so2 he2 kn2 ma kd len ord kh km pg len2 ord2 kh2 km2 cw tl tO bO lf wo) H → va_S A s.heap H locs → lv_has ls 6 [(2, .int (nI t9 - nI 1)), (0, .ref (a 23)), (1, .int (nI (n)))] → W p l e (headSpec wsX10_advance ({ frames := 1, cells := 0, slots := 0, locals := 23 } : Room)).room s m [.ref (a 23), .int (nI (n))].toArray below meth c H locs 0 0 (MQ below (va_Qi (fun (r : Int32) (u : Unit) => r = bI (decide (¬ dnF tO (n - 1) = 0))) (c_B (dC, dI) vwCl (TY y) (fun (u : Unit) => (MW y a rn n lo kp dy so he kn ak pl im lo2 dy2 so2 he2 kn2 ma kd len ord kh km pg len2 ord2 kh2 km2 cw tl (nxO n tO) bO lf wo))) A) [.ref (a 23), .int (nI (n))].toArray s 0 0 A) (F0 m 4 ls []) := by
    intro dd_4
    induction dd_4 with
    | zero => intro t9 ht hdn hd; exact absurd hd (Nat.not_lt_zero _)
    | succ dd_4 ih_4 =>
      intro t9 ht hdn hd_4 H locs ls hP hS hl
      refine lv_iload_n hx hb dX10_advance_4 rfl (lv_at hl 0 rfl) ?_
      refine lv_if_lt (tgt := 25) hx hb dX10_advance_5 (by decide) (fun c_5 => ?_) (fun c_5 => ?_)
      · have hk0 : t9 = 0 := by
          rcases Nat.eq_zero_or_pos t9 with z | z
          · exact z
          · exact absurd c_5 (by rw [pk_sub z]; exact nI_pos (by omega))
        refine lv_iload_n hx hb dX10_advance_25 rfl (lv_at hl 0 rfl) ?_
        refine lv_if_ge (tgt := 31) hx hb dX10_advance_26 (by decide) (fun c_26 => ?_) (fun c_26 => ?_)
        · exact absurd c_26 (by rw [hk0]; decide)
        · refine lv_iconst (v := nI (0)) hx hb dX10_advance_29 (by decide) ?_
          have hP : va_P (dC, dI) vwCl (MW y a rn n lo kp dy so he kn ak pl im lo2 dy2 so2 he2 kn2 ma kd len ord kh km pg len2 ord2 kh2 km2 cw tl (nxO n tO) bO lf wo) H := by
            rw [nxO, if_pos (by rw [hdn, hk0]; rfl)]
            exact hP
          exact c_zret hx hb hr hlocks hK hS () rfl hP (bI_0 (decide_eq_false (fun z => z (by rw [hdn, hk0]; rfl)))) dX10_advance_30
      · obtain ⟨q, hq9⟩ : ∃ q, t9 = q + 1 := ⟨t9 - 1, by
          rcases Nat.eq_zero_or_pos t9 with z | z
          · exact absurd (by rw [z]; decide) c_5
          · omega⟩
        have ho1 := hto.1 q (by omega)
        have ho2 := hto.1 (q + 1) (by omega)
        rw [show nI t9 - nI 1 = nI q by rw [hq9]; exact pk_sub (by omega)] at hl
        have hl : lv_has ls 6 [(2, .int (nI (q))), (0, .ref (a 23)), (1, .int (nI (n)))] := hl
        refine lv_aload_n hx hb dX10_advance_8 rfl (lv_at hl 1 rfl) ?_
        refine lv_iload_n hx hb dX10_advance_9 rfl (lv_at hl 0 rfl) ?_
        refine n_iald hx hb hK hP 23 0 rfl rfl (by omega) (by decide) dX10_advance_10 ?_
        refine lv_aload_n hx hb dX10_advance_11 rfl (lv_at hl 1 rfl) ?_
        refine lv_iload_n hx hb dX10_advance_12 rfl (lv_at hl 0 rfl) ?_
        refine lv_iconst (v := nI (1)) hx hb dX10_advance_13 (by decide) ?_
        refine n_iadd hx hb dX10_advance_14 ?_
        refine n_iald hx hb hK hP 23 0 rfl rfl (by omega) (by decide) dX10_advance_15 ?_
        refine n_icmp_le (tgt := 25) hx hb dX10_advance_16 (by decide) (by omega) (by omega) (fun c_16 => ?_) (fun c_16 => ?_)
        · refine lv_iload_n hx hb dX10_advance_25 rfl (lv_at hl 0 rfl) ?_
          refine n_if_ge (tgt := 31) hx hb dX10_advance_26 (by decide) (by omega) (fun c_26 => ?_) (fun c_26 => ?_)
          · have hd9 : dnF tO (n - 1) = q + 1 := by rw [hdn, hq9, dnF_hit (by omega)]
            refine lv_iload_n hx hb dX10_advance_31 rfl (lv_at hl 2 rfl) ?_
            refine lv_iconst (v := nI (1)) hx hb dX10_advance_32 (by decide) ?_
            refine n_isub hx hb (by omega) dX10_advance_33 ?_
            refine lv_istore_n (lv' := [(3, .int (nI (n - 1))), (2, .int (nI (q))), (0, .ref (a 23)), (1, .int (nI (n)))]) hx hb dX10_advance_34 rfl hl (by decide) rfl (fun ls hl => ?_)
            have loop_35 : ∀ (dd_35 : Nat) (e9 : Nat) (he1 : q + 1 ≤ e9) (he9 : e9 ≤ n - 1) (hen : enF tO q (n - 1) = enF tO q e9), e9 < dd_35 → ∀ (H : Heap) (locs : List Loc) (ls : Array Slot), va_P (dC, dI) vwCl (MW y a rn n lo kp dy so he kn ak pl im lo2 dy2 so2 he2 kn2 ma kd len ord kh km pg len2 ord2 kh2 km2 cw tl tO bO lf wo) H → va_S A s.heap H locs → lv_has ls 6 [(3, .int (nI (e9))), (2, .int (nI (q))), (0, .ref (a 23)), (1, .int (nI (n)))] → W p l e (headSpec wsX10_advance ({ frames := 1, cells := 0, slots := 0, locals := 23 } : Room)).room s m [.ref (a 23), .int (nI (n))].toArray below meth c H locs 0 0 (MQ below (va_Qi (fun (r : Int32) (u : Unit) => r = bI (decide (¬ dnF tO (n - 1) = 0))) (c_B (dC, dI) vwCl (TY y) (fun (u : Unit) => (MW y a rn n lo kp dy so he kn ak pl im lo2 dy2 so2 he2 kn2 ma kd len ord kh km pg len2 ord2 kh2 km2 cw tl (nxO n tO) bO lf wo))) A) [.ref (a 23), .int (nI (n))].toArray s 0 0 A) (F0 m 35 ls []) := by
              intro dd_35
              induction dd_35 with
              | zero => intro e9 he1 he9 hen hd; exact absurd hd (Nat.not_lt_zero _)
              | succ dd_35 ih_35 =>
                intro e9 he1 he9 hen hd_35 H locs ls hP hS hl
                have ho3 := hto.1 e9 (by omega)
                refine lv_iload_n hx hb dX10_advance_35 rfl (lv_at hl 0 rfl) ?_
                refine lv_iload_n hx hb dX10_advance_36 rfl (lv_at hl 1 rfl) ?_
                refine lv_iconst (v := nI (1)) hx hb dX10_advance_37 (by decide) ?_
                refine n_iadd hx hb dX10_advance_38 ?_
                refine n_icmp_le (tgt := 57) hx hb dX10_advance_39 (by decide) (by omega) (by omega) (fun c_39 => ?_) (fun c_39 => ?_)
                · have hen9 : enF tO q (n - 1) = e9 := by
                    rcases Nat.lt_or_ge (tO e9) (tO q) with z | z
                    · exact absurd z (by first | omega | (rw [show e9 = q + 1 by omega]; omega))
                    · rw [hen, enF_hit (by omega) (by omega)]
                  refine lv_aload_n hx hb dX10_advance_57 rfl (lv_at hl 2 rfl) ?_
                  refine lv_iload_n hx hb dX10_advance_58 rfl (lv_at hl 1 rfl) ?_
                  refine lv_iload_n hx hb dX10_advance_59 rfl (lv_at hl 0 rfl) ?_
                  refine c_callv (va_runS (As := [.ref (a 23), .int (nI (q)), .int (nI (e9))]) (rest := []) ⟨hx, hb, hml, hown, hts⟩ (k_X10_exchange_t l dC dI y A a hA0 xK xV rn n lo kp dy so he kn ak pl im lo2 dy2 so2 he2 kn2 ma kd len ord kh km pg len2 ord2 kh2 km2 cw tl tO bO lf wo q e9 (by omega) (by omega)) (va_cwS 3 hts gX10_advance_X10_exchange rfl rfl rfl (by decide +kernel) ⟨Nat.le_of_ble_eq_true rfl, Nat.le_of_ble_eq_true rfl⟩) (c_preS (evN xK xV A) hK hE hS hP) rfl rfl hl.1 rfl (lv_room (Nat.le_of_ble_eq_true rfl)) dX10_advance_60 ⟨Nat.le_refl _, Nat.le_refl _⟩) hS (fun u_60 H locs hw_60 hP hS => ?_)
                  have hP : va_P (dC, dI) vwCl (MW y a rn n lo kp dy so he kn ak pl im lo2 dy2 so2 he2 kn2 ma kd len ord kh km pg len2 ord2 kh2 km2 cw tl (swF tO q e9) bO lf wo) H := hP
                  refine lv_iload_n hx hb dX10_advance_63 rfl (lv_at hl 3 rfl) ?_
                  refine lv_iconst (v := nI (1)) hx hb dX10_advance_64 (by decide) ?_
                  refine n_isub hx hb (by omega) dX10_advance_65 ?_
                  refine lv_istore (lv' := [(4, .int (nI (n - 1))), (3, .int (nI (e9))), (2, .int (nI (q))), (0, .ref (a 23)), (1, .int (nI (n)))]) hx hb dX10_advance_66 hl (by decide) rfl (fun ls hl => ?_)
                  refine lv_iload_n hx hb dX10_advance_68 rfl (lv_at hl 2 rfl) ?_
                  refine lv_iconst (v := nI (1)) hx hb dX10_advance_69 (by decide) ?_
                  refine n_iadd hx hb dX10_advance_70 ?_
                  refine lv_istore (lv' := [(5, .int (nI (q + 1))), (4, .int (nI (n - 1))), (3, .int (nI (e9))), (2, .int (nI (q))), (0, .ref (a 23)), (1, .int (nI (n)))]) hx hb dX10_advance_71 hl (by decide) rfl (fun ls hl => ?_)
                  have loop_73 : ∀ (dd_73 : Nat) (i9 : Nat) (j9 : Nat) (o9 : Nat → Nat) (d9 : Nat) (hj9 : j9 ≤ n - 1) (hi9 : i9 ≤ 6) (hd : j9 ≤ i9 + 2 * d9) (hrv : rvF d9 o9 i9 j9 = rvF n (swF tO q e9) (q + 1) (n - 1)), d9 < dd_73 → ∀ (H : Heap) (locs : List Loc) (ls : Array Slot), va_P (dC, dI) vwCl (MW y a rn n lo kp dy so he kn ak pl im lo2 dy2 so2 he2 kn2 ma kd len ord kh km pg len2 ord2 kh2 km2 cw tl o9 bO lf wo) H → va_S A s.heap H locs → lv_has ls 6 [(5, .int (nI (i9))), (4, .int (nI (j9))), (3, .int (nI (e9))), (2, .int (nI (q))), (0, .ref (a 23)), (1, .int (nI (n)))] → W p l e (headSpec wsX10_advance ({ frames := 1, cells := 0, slots := 0, locals := 23 } : Room)).room s m [.ref (a 23), .int (nI (n))].toArray below meth c H locs 0 0 (MQ below (va_Qi (fun (r : Int32) (u : Unit) => r = bI (decide (¬ dnF tO (n - 1) = 0))) (c_B (dC, dI) vwCl (TY y) (fun (u : Unit) => (MW y a rn n lo kp dy so he kn ak pl im lo2 dy2 so2 he2 kn2 ma kd len ord kh km pg len2 ord2 kh2 km2 cw tl (nxO n tO) bO lf wo))) A) [.ref (a 23), .int (nI (n))].toArray s 0 0 A) (F0 m 73 ls []) := by
                    intro dd_73
                    induction dd_73 with
                    | zero => intro i9 j9 o9 d9 hj9 hi9 hd hrv hd; exact absurd hd (Nat.not_lt_zero _)
                    | succ dd_73 ih_73 =>
                      intro i9 j9 o9 d9 hj9 hi9 hd hrv hd_73 H locs ls hP hS hl
                      refine lv_iload hx hb dX10_advance_73 (lv_at hl 0 rfl) ?_
                      refine lv_iload hx hb dX10_advance_75 (lv_at hl 1 rfl) ?_
                      refine n_icmp_ge (tgt := 97) hx hb dX10_advance_77 (by decide) (by omega) (by omega) (fun c_77 => ?_) (fun c_77 => ?_)
                      · refine lv_iconst (v := nI (1)) hx hb dX10_advance_97 (by decide) ?_
                        have hP : va_P (dC, dI) vwCl (MW y a rn n lo kp dy so he kn ak pl im lo2 dy2 so2 he2 kn2 ma kd len ord kh km pg len2 ord2 kh2 km2 cw tl (nxO n tO) bO lf wo) H := by
                          rw [nxO_of hd9 hen9, ← hrv, rvF_end (by omega)]
                          exact hP
                        exact c_zret hx hb hr hlocks hK hS () rfl hP (bI_1 (decide_eq_true (by omega))) dX10_advance_98
                      · refine lv_aload_n hx hb dX10_advance_80 rfl (lv_at hl 4 rfl) ?_
                        refine lv_iload hx hb dX10_advance_81 (lv_at hl 0 rfl) ?_
                        refine lv_iload hx hb dX10_advance_83 (lv_at hl 1 rfl) ?_
                        refine c_callv (va_runS (As := [.ref (a 23), .int (nI (i9)), .int (nI (j9))]) (rest := []) ⟨hx, hb, hml, hown, hts⟩ (k_X10_exchange_t l dC dI y A a hA0 xK xV rn n lo kp dy so he kn ak pl im lo2 dy2 so2 he2 kn2 ma kd len ord kh km pg len2 ord2 kh2 km2 cw tl o9 bO lf wo i9 j9 (by omega) (by omega)) (va_cwS 3 hts gX10_advance_X10_exchange rfl rfl rfl (by decide +kernel) ⟨Nat.le_of_ble_eq_true rfl, Nat.le_of_ble_eq_true rfl⟩) (c_preS (evN xK xV A) hK hE hS hP) rfl rfl hl.1 rfl (lv_room (Nat.le_of_ble_eq_true rfl)) dX10_advance_85 ⟨Nat.le_refl _, Nat.le_refl _⟩) hS (fun u_85 H locs hw_85 hP hS => ?_)
                        have hP : va_P (dC, dI) vwCl (MW y a rn n lo kp dy so he kn ak pl im lo2 dy2 so2 he2 kn2 ma kd len ord kh km pg len2 ord2 kh2 km2 cw tl (swF o9 i9 j9) bO lf wo) H := hP
                        refine lv_iinc (v := nI (j9 - 1)) (lv' := [(4, .int (nI (j9 - 1))), (5, .int (nI (i9))), (3, .int (nI (e9))), (2, .int (nI (q))), (0, .ref (a 23)), (1, .int (nI (n)))]) hx hb dX10_advance_88 hl (k := 1) rfl (mr_dec (by omega)) (by decide) rfl (fun ls hl => ?_)
                        refine lv_iinc (v := nI (i9 + 1)) (lv' := [(5, .int (nI (i9 + 1))), (4, .int (nI (j9 - 1))), (3, .int (nI (e9))), (2, .int (nI (q))), (0, .ref (a 23)), (1, .int (nI (n)))]) hx hb dX10_advance_91 hl (k := 1) rfl (mr_inc _) (by decide) rfl (fun ls hl => ?_)
                        refine lv_goto (tgt := 73) hx hb dX10_advance_94 (by decide) ?_
                        obtain ⟨x9, hx9⟩ : ∃ x9, d9 = x9 + 1 := ⟨d9 - 1, by omega⟩
                        exact ih_73 (i9 + 1) (j9 - 1) (swF o9 i9 j9) x9 (by omega) (by omega) (by omega) (by rw [← hrv, hx9, rvF_go (by omega)]) (by omega) _ _ _ hP hS (lv_sub hl [0, 1, 2, 3, 4, 5] rfl)
                  exact loop_73 _ (q + 1) (n - 1) (swF tO q e9) n (Nat.le_refl _) (by omega) (by omega) rfl (Nat.lt_succ_self _) _ _ _ hP hS (lv_sub hl [0, 1, 2, 3, 4, 5] rfl)
                · refine lv_aload_n hx hb dX10_advance_42 rfl (lv_at hl 2 rfl) ?_
                  refine lv_iload_n hx hb dX10_advance_43 rfl (lv_at hl 0 rfl) ?_
                  refine n_iald hx hb hK hP 23 0 rfl rfl (by omega) (by decide) dX10_advance_44 ?_
                  refine lv_aload_n hx hb dX10_advance_45 rfl (lv_at hl 2 rfl) ?_
                  refine lv_iload_n hx hb dX10_advance_46 rfl (lv_at hl 1 rfl) ?_
                  refine n_iald hx hb hK hP 23 0 rfl rfl (by omega) (by decide) dX10_advance_47 ?_
                  refine n_icmp_ge (tgt := 57) hx hb dX10_advance_48 (by decide) (by omega) (by omega) (fun c_48 => ?_) (fun c_48 => ?_)
                  · have hen9 : enF tO q (n - 1) = e9 := by
                      rcases Nat.lt_or_ge (tO e9) (tO q) with z | z
                      · exact absurd z (by first | omega | (rw [show e9 = q + 1 by omega]; omega))
                      · rw [hen, enF_hit (by omega) (by omega)]
                    refine lv_aload_n hx hb dX10_advance_57 rfl (lv_at hl 2 rfl) ?_
                    refine lv_iload_n hx hb dX10_advance_58 rfl (lv_at hl 1 rfl) ?_
                    refine lv_iload_n hx hb dX10_advance_59 rfl (lv_at hl 0 rfl) ?_
                    refine c_callv (va_runS (As := [.ref (a 23), .int (nI (q)), .int (nI (e9))]) (rest := []) ⟨hx, hb, hml, hown, hts⟩ (k_X10_exchange_t l dC dI y A a hA0 xK xV rn n lo kp dy so he kn ak pl im lo2 dy2 so2 he2 kn2 ma kd len ord kh km pg len2 ord2 kh2 km2 cw tl tO bO lf wo q e9 (by omega) (by omega)) (va_cwS 3 hts gX10_advance_X10_exchange rfl rfl rfl (by decide +kernel) ⟨Nat.le_of_ble_eq_true rfl, Nat.le_of_ble_eq_true rfl⟩) (c_preS (evN xK xV A) hK hE hS hP) rfl rfl hl.1 rfl (lv_room (Nat.le_of_ble_eq_true rfl)) dX10_advance_60 ⟨Nat.le_refl _, Nat.le_refl _⟩) hS (fun u_60 H locs hw_60 hP hS => ?_)
                    have hP : va_P (dC, dI) vwCl (MW y a rn n lo kp dy so he kn ak pl im lo2 dy2 so2 he2 kn2 ma kd len ord kh km pg len2 ord2 kh2 km2 cw tl (swF tO q e9) bO lf wo) H := hP
                    refine lv_iload_n hx hb dX10_advance_63 rfl (lv_at hl 3 rfl) ?_
                    refine lv_iconst (v := nI (1)) hx hb dX10_advance_64 (by decide) ?_
                    refine n_isub hx hb (by omega) dX10_advance_65 ?_
                    refine lv_istore (lv' := [(4, .int (nI (n - 1))), (3, .int (nI (e9))), (2, .int (nI (q))), (0, .ref (a 23)), (1, .int (nI (n)))]) hx hb dX10_advance_66 hl (by decide) rfl (fun ls hl => ?_)
                    refine lv_iload_n hx hb dX10_advance_68 rfl (lv_at hl 2 rfl) ?_
                    refine lv_iconst (v := nI (1)) hx hb dX10_advance_69 (by decide) ?_
                    refine n_iadd hx hb dX10_advance_70 ?_
                    refine lv_istore (lv' := [(5, .int (nI (q + 1))), (4, .int (nI (n - 1))), (3, .int (nI (e9))), (2, .int (nI (q))), (0, .ref (a 23)), (1, .int (nI (n)))]) hx hb dX10_advance_71 hl (by decide) rfl (fun ls hl => ?_)
                    have loop_73 : ∀ (dd_73 : Nat) (i9 : Nat) (j9 : Nat) (o9 : Nat → Nat) (d9 : Nat) (hj9 : j9 ≤ n - 1) (hi9 : i9 ≤ 6) (hd : j9 ≤ i9 + 2 * d9) (hrv : rvF d9 o9 i9 j9 = rvF n (swF tO q e9) (q + 1) (n - 1)), d9 < dd_73 → ∀ (H : Heap) (locs : List Loc) (ls : Array Slot), va_P (dC, dI) vwCl (MW y a rn n lo kp dy so he kn ak pl im lo2 dy2 so2 he2 kn2 ma kd len ord kh km pg len2 ord2 kh2 km2 cw tl o9 bO lf wo) H → va_S A s.heap H locs → lv_has ls 6 [(5, .int (nI (i9))), (4, .int (nI (j9))), (3, .int (nI (e9))), (2, .int (nI (q))), (0, .ref (a 23)), (1, .int (nI (n)))] → W p l e (headSpec wsX10_advance ({ frames := 1, cells := 0, slots := 0, locals := 23 } : Room)).room s m [.ref (a 23), .int (nI (n))].toArray below meth c H locs 0 0 (MQ below (va_Qi (fun (r : Int32) (u : Unit) => r = bI (decide (¬ dnF tO (n - 1) = 0))) (c_B (dC, dI) vwCl (TY y) (fun (u : Unit) => (MW y a rn n lo kp dy so he kn ak pl im lo2 dy2 so2 he2 kn2 ma kd len ord kh km pg len2 ord2 kh2 km2 cw tl (nxO n tO) bO lf wo))) A) [.ref (a 23), .int (nI (n))].toArray s 0 0 A) (F0 m 73 ls []) := by
                      intro dd_73
                      induction dd_73 with
                      | zero => intro i9 j9 o9 d9 hj9 hi9 hd hrv hd; exact absurd hd (Nat.not_lt_zero _)
                      | succ dd_73 ih_73 =>
                        intro i9 j9 o9 d9 hj9 hi9 hd hrv hd_73 H locs ls hP hS hl
                        refine lv_iload hx hb dX10_advance_73 (lv_at hl 0 rfl) ?_
                        refine lv_iload hx hb dX10_advance_75 (lv_at hl 1 rfl) ?_
                        refine n_icmp_ge (tgt := 97) hx hb dX10_advance_77 (by decide) (by omega) (by omega) (fun c_77 => ?_) (fun c_77 => ?_)
                        · refine lv_iconst (v := nI (1)) hx hb dX10_advance_97 (by decide) ?_
                          have hP : va_P (dC, dI) vwCl (MW y a rn n lo kp dy so he kn ak pl im lo2 dy2 so2 he2 kn2 ma kd len ord kh km pg len2 ord2 kh2 km2 cw tl (nxO n tO) bO lf wo) H := by
                            rw [nxO_of hd9 hen9, ← hrv, rvF_end (by omega)]
                            exact hP
                          exact c_zret hx hb hr hlocks hK hS () rfl hP (bI_1 (decide_eq_true (by omega))) dX10_advance_98
                        · refine lv_aload_n hx hb dX10_advance_80 rfl (lv_at hl 4 rfl) ?_
                          refine lv_iload hx hb dX10_advance_81 (lv_at hl 0 rfl) ?_
                          refine lv_iload hx hb dX10_advance_83 (lv_at hl 1 rfl) ?_
                          refine c_callv (va_runS (As := [.ref (a 23), .int (nI (i9)), .int (nI (j9))]) (rest := []) ⟨hx, hb, hml, hown, hts⟩ (k_X10_exchange_t l dC dI y A a hA0 xK xV rn n lo kp dy so he kn ak pl im lo2 dy2 so2 he2 kn2 ma kd len ord kh km pg len2 ord2 kh2 km2 cw tl o9 bO lf wo i9 j9 (by omega) (by omega)) (va_cwS 3 hts gX10_advance_X10_exchange rfl rfl rfl (by decide +kernel) ⟨Nat.le_of_ble_eq_true rfl, Nat.le_of_ble_eq_true rfl⟩) (c_preS (evN xK xV A) hK hE hS hP) rfl rfl hl.1 rfl (lv_room (Nat.le_of_ble_eq_true rfl)) dX10_advance_85 ⟨Nat.le_refl _, Nat.le_refl _⟩) hS (fun u_85 H locs hw_85 hP hS => ?_)
                          have hP : va_P (dC, dI) vwCl (MW y a rn n lo kp dy so he kn ak pl im lo2 dy2 so2 he2 kn2 ma kd len ord kh km pg len2 ord2 kh2 km2 cw tl (swF o9 i9 j9) bO lf wo) H := hP
                          refine lv_iinc (v := nI (j9 - 1)) (lv' := [(4, .int (nI (j9 - 1))), (5, .int (nI (i9))), (3, .int (nI (e9))), (2, .int (nI (q))), (0, .ref (a 23)), (1, .int (nI (n)))]) hx hb dX10_advance_88 hl (k := 1) rfl (mr_dec (by omega)) (by decide) rfl (fun ls hl => ?_)
                          refine lv_iinc (v := nI (i9 + 1)) (lv' := [(5, .int (nI (i9 + 1))), (4, .int (nI (j9 - 1))), (3, .int (nI (e9))), (2, .int (nI (q))), (0, .ref (a 23)), (1, .int (nI (n)))]) hx hb dX10_advance_91 hl (k := 1) rfl (mr_inc _) (by decide) rfl (fun ls hl => ?_)
                          refine lv_goto (tgt := 73) hx hb dX10_advance_94 (by decide) ?_
                          obtain ⟨x9, hx9⟩ : ∃ x9, d9 = x9 + 1 := ⟨d9 - 1, by omega⟩
                          exact ih_73 (i9 + 1) (j9 - 1) (swF o9 i9 j9) x9 (by omega) (by omega) (by omega) (by rw [← hrv, hx9, rvF_go (by omega)]) (by omega) _ _ _ hP hS (lv_sub hl [0, 1, 2, 3, 4, 5] rfl)
                    exact loop_73 _ (q + 1) (n - 1) (swF tO q e9) n (Nat.le_refl _) (by omega) (by omega) rfl (Nat.lt_succ_self _) _ _ _ hP hS (lv_sub hl [0, 1, 2, 3, 4, 5] rfl)
                  · refine lv_iinc (v := nI (e9 - 1)) (lv' := [(3, .int (nI (e9 - 1))), (2, .int (nI (q))), (0, .ref (a 23)), (1, .int (nI (n)))]) hx hb dX10_advance_51 hl (k := 0) rfl (mr_dec (by omega)) (by decide) rfl (fun ls hl => ?_)
                    refine lv_goto (tgt := 35) hx hb dX10_advance_54 (by decide) ?_
                    exact ih_35 (e9 - 1) (by omega) (by omega) (by rw [hen, enF_down (by omega) (by omega)]) (by omega) _ _ _ hP hS (lv_sub hl [0, 1, 2, 3] rfl)
            exact loop_35 _ (n - 1) (by omega) (Nat.le_refl _) rfl (Nat.lt_succ_self _) _ _ _ hP hS (lv_sub hl [0, 1, 2, 3] rfl)
          · exact absurd (Nat.zero_le q) c_26
        · refine lv_iinc (v := nI q - nI 1) (lv' := [(2, .int (nI q - nI 1)), (0, .ref (a 23)), (1, .int (nI (n)))]) hx hb dX10_advance_19 hl (k := 0) rfl (mr_decR q) (by decide) rfl (fun ls hl => ?_)
          refine lv_goto (tgt := 4) hx hb dX10_advance_22 (by decide) ?_
          exact ih_4 q (by omega) (by rw [hdn, hq9, dnF_down (by omega)]) (by omega) _ _ _ hP hS (lv_sub hl [0, 1, 2] rfl)
  exact loop_4 _ (n - 1) (Nat.le_refl _) rfl (Nat.lt_succ_self _) _ _ _ hP hS (lv_sub hl [0, 1, 2] rfl)
theorem in_X10_findBestOrder_X10 : ∀ w ∈ wsX100, w ∈ wsX10_findBestOrder := fun w h => List.mem_cons_of_mem _ (List.mem_append_left _ (List.mem_append_left _ (List.mem_append_left _ (List.mem_append_right _ h))))
theorem in_X10_findBestOrder_X2 : ∀ w ∈ wsX20, w ∈ wsX10_findBestOrder := fun w h => List.mem_cons_of_mem _ (List.mem_append_left _ (List.mem_append_left _ (List.mem_append_right _ h)))
theorem in_X10_findBestOrder_X6 : ∀ w ∈ wsX60, w ∈ wsX10_findBestOrder := fun w h => List.mem_cons_of_mem _ (List.mem_append_left _ (List.mem_append_right _ h))
set_option maxHeartbeats 4000000 in
set_option maxRecDepth 100000 in
theorem k_X10_findBestOrder (l : Launch) (dC : Nat → ClassId) (dI : Nat → Nat → Nat) (y : Nat → ClassId) (A : Nat → Prop) (a : Nat → Nat) (hA0 : ad_ok A a 34) (xK : Nat → Nat) (xV : Nat → Nat) (rn : Nat) (n : Nat) (lo : Int32) (kp : Nat) (dy : Int32) (so : Int32) (he : Int32) (kn : Nat) (ak : Nat) (pl : Nat) (im : Bool) (lo2 : Int32) (dy2 : Int32) (so2 : Int32) (he2 : Int32) (kn2 : Nat) (ma : Nat) (kd : Nat → Nat) (len : Nat → Nat) (ord : Nat → Nat) (kh : Nat → Nat) (km : Nat → Nat) (pg : Nat → Nat) (len2 : Nat → Nat) (ord2 : Nat → Nat) (kh2 : Nat → Nat) (km2 : Nat → Nat) (cw : Nat → Nat) (tl : Nat → Nat) (tO : Nat → Nat) (bO : Nat → Nat) (lf : Nat → Nat → Nat) (wo : Nat → Nat) (hn2 : 2 ≤ n) (hn : n ≤ 6) (hlen : ∀ j, len j ≤ 9) (hkd : ∀ j, kd j ≤ 4) (hcw : ∀ j, cw j ≤ 126) (hkp : kp ≤ 9) : Met l yX10_findBestOrder wsX10_findBestOrder ({ frames := 4, cells := 0, slots := 0, locals := 92 } : Room) (c_P (dC, dI) vwCl (TY y) (EV xK xV A) (MW y a rn n lo kp dy so he kn ak pl im lo2 dy2 so2 he2 kn2 ma kd len ord kh km pg len2 ord2 kh2 km2 cw tl tO bO lf wo) [.ref (a 0)]) (va_Qi (fun (r : Int32) (u : (Nat → Nat) × Nat × (Nat → Nat) × (Nat → Nat)) => r = nI ((bstF n kp kd len lo).1) ∧ EqOn n u.2.2.2 (fnL ((bstF n kp kd len lo).2)) ∧ ∀ j, u.1 j ≤ 126) (c_B (dC, dI) vwCl (TY y) (fun (u : (Nat → Nat) × Nat × (Nat → Nat) × (Nat → Nat)) => (MW y a rn n lo kp dy so he kn ak pl im lo2 dy2 so2 he2 kn2 u.2.1 kd len ord kh km pg len2 ord2 kh2 km2 u.1 tl u.2.2.1 u.2.2.2 lf wo))) A) 0 0 A := by
  refine Met.ofW (cc := cX10_findBestOrder) (maxL := 5) (ret := (some .int)) (by decide) rfl ?_
  intro p e s m args below meth c s₁ BB hml hv
  obtain ⟨rfl, hP, hK, hE⟩ := hv
  have hx := BB.exec
  have hb := BB.bytes
  have hr := BB.returns
  have hts := atoms_spec (ws := wsX10_findBestOrder) BB.pre
  have hown : s.vm.findClass RX10 = some m.cls := findClass_of_methodNamed BB.named
  have hlocks := BB.notSynchronized
  have hS : va_S A s.heap s.heap [] := va_S.rf
  have hl := lv_entry ([.ref (a 0)]) (n := 5) (Nat.le_of_ble_eq_true rfl)
  rw [lg_entry_eq]
  generalize (lg_sl ([.ref (a 0)]) ++ List.replicate (5 - (lg_sl ([.ref (a 0)])).length) Slot.unset).toArray = ls at hl ⊢
  have hl : lv_has ls 5 [(0, .ref (a 0))] := hl
  refine lv_iconst (v := nI (0)) hx hb dX10_findBestOrder_0 (by decide) ?_
  refine lv_istore_n (lv' := [(1, .int (nI (0))), (0, .ref (a 0))]) hx hb dX10_findBestOrder_1 rfl hl (by decide) rfl (fun ls hl => ?_)
  have loop_2 : ∀ (dd_2 : Nat) (k : Nat) (hk : k ≤ 6), 6 - k < dd_2 → ∀ (H : Heap) (locs : List Loc) (ls : Array Slot), va_P (dC, dI) vwCl (MW y a rn n lo kp dy so he kn ak pl im lo2 dy2 so2 he2 kn2 ma kd len ord kh km pg len2 ord2 kh2 km2 cw tl (mixF k (fun j => j) tO) bO lf wo) H → va_S A s.heap H locs → lv_has ls 5 [(1, .int (nI (k))), (0, .ref (a 0))] → W p l e (headSpec wsX10_findBestOrder ({ frames := 4, cells := 0, slots := 0, locals := 92 } : Room)).room s m [.ref (a 0)].toArray below meth c H locs 0 0 (MQ below (va_Qi (fun (r : Int32) (u : (Nat → Nat) × Nat × (Nat → Nat) × (Nat → Nat)) => r = nI ((bstF n kp kd len lo).1) ∧ EqOn n u.2.2.2 (fnL ((bstF n kp kd len lo).2)) ∧ ∀ j, u.1 j ≤ 126) (c_B (dC, dI) vwCl (TY y) (fun (u : (Nat → Nat) × Nat × (Nat → Nat) × (Nat → Nat)) => (MW y a rn n lo kp dy so he kn ak pl im lo2 dy2 so2 he2 kn2 u.2.1 kd len ord kh km pg len2 ord2 kh2 km2 u.1 tl u.2.2.1 u.2.2.2 lf wo))) A) [.ref (a 0)].toArray s 0 0 A) (F0 m 2 ls []) := by
    intro dd_2
    induction dd_2 with
    | zero => intro k hk hd; exact absurd hd (Nat.not_lt_zero _)
    | succ dd_2 ih_2 =>
      intro k hk hd_2 H locs ls hP hS hl
      refine lv_iload_n hx hb dX10_findBestOrder_2 rfl (lv_at hl 0 rfl) ?_
      refine lv_bipush (v := nI (6)) hx hb dX10_findBestOrder_3 (by decide) ?_
      refine n_icmp_ge (tgt := 21) hx hb dX10_findBestOrder_5 (by decide) (by omega) (by omega) (fun c_5 => ?_) (fun c_5 => ?_)
      · have hid : EqOn n (mixF k (fun j => j) tO) (fun j => j) := fun j hj => mixF_in (by omega)
        refine lv_bipush (v := nI (13)) hx hb dX10_findBestOrder_21 (by decide) ?_
        refine lv_istore_n (lv' := [(1, .int (nI (13))), (0, .ref (a 0))]) hx hb dX10_findBestOrder_23 rfl hl (by decide) rfl (fun ls hl => ?_)
        refine lv_iconst (v := nI (1)) hx hb dX10_findBestOrder_24 (by decide) ?_
        refine lv_istore_n (lv' := [(2, .int (nI (1))), (1, .int (nI (13))), (0, .ref (a 0))]) hx hb dX10_findBestOrder_25 rfl hl (by decide) rfl (fun ls hl => ?_)
        refine lv_iconst (v := nI (0)) hx hb dX10_findBestOrder_26 (by decide) ?_
        refine lv_istore_n (lv' := [(3, .int (nI (0))), (2, .int (nI (1))), (1, .int (nI (13))), (0, .ref (a 0))]) hx hb dX10_findBestOrder_27 rfl hl (by decide) rfl (fun ls hl => ?_)
        have loop_28 : ∀ (dd_28 : Nat) (mo : Bool) (fl : Nat) (o9 : Nat → Nat) (Lx : List Nat) (fw : Nat) (bo9 : Nat → Nat) (Lb : List Nat) (f : Nat → Nat) (m9 : Nat) (tt : Nat) (hI : BstI n kp kd len lo mo fl o9 Lx fw bo9 Lb) (hp : PermOn n o9) (hfw : fw < 2 ^ 31) (hf : ∀ j, f j ≤ 126) (htt : fl + tt = 720), fl < dd_28 → ∀ (H : Heap) (locs : List Loc) (ls : Array Slot), va_P (dC, dI) vwCl (MW y a rn n lo kp dy so he kn ak pl im lo2 dy2 so2 he2 kn2 m9 kd len ord kh km pg len2 ord2 kh2 km2 f tl o9 bo9 lf wo) H → va_S A s.heap H locs → lv_has ls 5 [(3, .int (nI (tt))), (2, .int (bI (mo))), (1, .int (nI (fw))), (0, .ref (a 0))] → W p l e (headSpec wsX10_findBestOrder ({ frames := 4, cells := 0, slots := 0, locals := 92 } : Room)).room s m [.ref (a 0)].toArray below meth c H locs 0 0 (MQ below (va_Qi (fun (r : Int32) (u : (Nat → Nat) × Nat × (Nat → Nat) × (Nat → Nat)) => r = nI ((bstF n kp kd len lo).1) ∧ EqOn n u.2.2.2 (fnL ((bstF n kp kd len lo).2)) ∧ ∀ j, u.1 j ≤ 126) (c_B (dC, dI) vwCl (TY y) (fun (u : (Nat → Nat) × Nat × (Nat → Nat) × (Nat → Nat)) => (MW y a rn n lo kp dy so he kn ak pl im lo2 dy2 so2 he2 kn2 u.2.1 kd len ord kh km pg len2 ord2 kh2 km2 u.1 tl u.2.2.1 u.2.2.2 lf wo))) A) [.ref (a 0)].toArray s 0 0 A) (F0 m 28 ls []) := by
          intro dd_28
          induction dd_28 with
          | zero => intro mo fl o9 Lx fw bo9 Lb f m9 tt hI hp hfw hf htt hd; exact absurd hd (Nat.not_lt_zero _)
          | succ dd_28 ih_28 =>
            intro mo fl o9 Lx fw bo9 Lb f m9 tt hI hp hfw hf htt hd_28 H locs ls hP hS hl
            refine lv_iload_n hx hb dX10_findBestOrder_28 rfl (lv_at hl 1 rfl) ?_
            refine n_bif_eq (tgt := 118) hx hb dX10_findBestOrder_29 (by decide) (fun c_29 => ?_) (fun c_29 => ?_)
            · have hfin := hI.2.1 c_29
              have hres := hfin.1
              refine lv_iload_n hx hb dX10_findBestOrder_118 rfl (lv_at hl 2 rfl) ?_
              exact c_iret hx hb hr hlocks hK hS (f, m9, o9, bo9) hP ⟨by rw [← hres], by rw [← hres]; exact hI.2.2 hfin.2, hf⟩ dX10_findBestOrder_119
            · have hI := c_29 ▸ hI
              obtain ⟨f9, hf9⟩ := runB_pos (hI.1 rfl).1
              rw [hf9] at hI
              have hweq : wrg n kp kd len lo o9 = wrg n kp kd len lo (fnL Lx) := wrg_eqO hp (hI.1 rfl).2.1
              have hwl : wrg n kp kd len lo o9 ≤ n + n := wrg_le
              refine lv_iload_n hx hb dX10_findBestOrder_32 rfl (lv_at hl 0 rfl) ?_
              refine lv_sipush (v := nI (720)) hx hb dX10_findBestOrder_33 (by decide) ?_
              refine n_icmp_ge (tgt := 118) hx hb dX10_findBestOrder_36 (by decide) (by omega) (by omega) (fun c_36 => ?_) (fun c_36 => ?_)
              · exact absurd c_36 (by omega)
              · refine lv_aload_n hx hb dX10_findBestOrder_39 rfl (lv_at hl 3 rfl) ?_
                refine va_get (D := (dC, dI)) (ci := 10) (C := RX10) (T := TX10) (N := 12) hx hb hts in_X10_findBestOrder_X10 hown hK hP 0 rfl rfl 4 (by decide) (hts (.fieldLink RX10 38 "MilkRound" "walk" "LMilkRound$Walk;") (List.mem_of_getElem? (i := 2) rfl)) (fun _ h9 => h9) rfl dX10_findBestOrder_40 ?_
                refine lv_aload_n hx hb dX10_findBestOrder_43 rfl (lv_at hl 3 rfl) ?_
                refine va_get (D := (dC, dI)) (ci := 10) (C := RX10) (T := TX10) (N := 12) hx hb hts in_X10_findBestOrder_X10 hown hK hP 0 rfl rfl 2 (by decide) (hts (.fieldLink RX10 26 "MilkRound" "now" "LMilkRound$Course;") (List.mem_of_getElem? (i := 3) rfl)) (fun _ h9 => h9) rfl dX10_findBestOrder_44 ?_
                refine va_get (D := (dC, dI)) (ci := 2) (C := RX2) (T := TX2) (N := 9) hx hb hts in_X10_findBestOrder_X2 hown hK hP 10 rfl rfl 0 (by decide) (hts (.fieldLink RX10 110 "MilkRound$Course" "lengths" "[I") (List.mem_of_getElem? (i := 4) rfl)) (fun _ h9 => h9) rfl dX10_findBestOrder_47 ?_
                refine lv_aload_n hx hb dX10_findBestOrder_50 rfl (lv_at hl 3 rfl) ?_
                refine va_get (D := (dC, dI)) (ci := 10) (C := RX10) (T := TX10) (N := 12) hx hb hts in_X10_findBestOrder_X10 hown hK hP 0 rfl rfl 6 (by decide) (hts (.fieldLink RX10 46 "MilkRound" "trialOrder" "[I") (List.mem_of_getElem? (i := 1) rfl)) (fun _ h9 => h9) rfl dX10_findBestOrder_51 ?_
                refine lv_aload_n hx hb dX10_findBestOrder_54 rfl (lv_at hl 3 rfl) ?_
                refine va_get (D := (dC, dI)) (ci := 10) (C := RX10) (T := TX10) (N := 12) hx hb hts in_X10_findBestOrder_X10 hown hK hP 0 rfl rfl 2 (by decide) (hts (.fieldLink RX10 26 "MilkRound" "now" "LMilkRound$Course;") (List.mem_of_getElem? (i := 3) rfl)) (fun _ h9 => h9) rfl dX10_findBestOrder_55 ?_
                refine va_get (D := (dC, dI)) (ci := 2) (C := RX2) (T := TX2) (N := 9) hx hb hts in_X10_findBestOrder_X2 hown hK hP 10 rfl rfl 5 (by decide) (hts (.fieldLink RX10 113 "MilkRound$Course" "leftOut" "I") (List.mem_of_getElem? (i := 5) rfl)) (fun _ h9 => h9) rfl dX10_findBestOrder_58 ?_
                refine c_callv (va_runV (As := [.ref (a 11), .ref (a 23), .int (lo)]) (rest := []) ⟨hx, hb, hml, hown, hts⟩ (k_X8_go_c l dC dI y A a hA0 xK xV rn n lo kp dy so he kn ak pl im lo2 dy2 so2 he2 kn2 m9 kd len ord kh km pg len2 ord2 kh2 km2 f tl o9 bo9 lf wo lo hn hp hlen hkd hf) (cwV 3 hts gX10_findBestOrder_X8_go rfl rfl rfl (by decide +kernel) ⟨Nat.le_of_ble_eq_true rfl, Nat.le_of_ble_eq_true rfl⟩) (c_preV (evN xK xV A) hK hE hS hP (va_recv hK hP (ci := 8) (q0 := 20) rfl rfl)) rfl rfl hl.1 rfl (lv_room (Nat.le_of_ble_eq_true rfl)) dX10_findBestOrder_61 ⟨Nat.le_refl _, Nat.le_refl _⟩) hS (fun u_61 H locs hw_61 hP hS => ?_)
                have hP : va_P (dC, dI) vwCl (MW y a rn n lo kp dy so he kn ak pl im lo2 dy2 so2 he2 kn2 u_61.2 kd len ord kh km pg len2 ord2 kh2 km2 u_61.1 tl o9 bo9 lf wo) H := hP
                refine lv_aload_n hx hb dX10_findBestOrder_64 rfl (lv_at hl 3 rfl) ?_
                refine va_get (D := (dC, dI)) (ci := 10) (C := RX10) (T := TX10) (N := 12) hx hb hts in_X10_findBestOrder_X10 hown hK hP 0 rfl rfl 4 (by decide) (hts (.fieldLink RX10 38 "MilkRound" "walk" "LMilkRound$Walk;") (List.mem_of_getElem? (i := 2) rfl)) (fun _ h9 => h9) rfl dX10_findBestOrder_65 ?_
                refine c_calli (va_runV (As := []) (rest := []) ⟨hx, hb, hml, hown, hts⟩ (k_X8_wrongs l dC dI y A a hA0 xK xV rn n lo kp dy so he kn ak pl im lo2 dy2 so2 he2 kn2 u_61.2 kd len ord kh km pg len2 ord2 kh2 km2 u_61.1 tl o9 bo9 lf wo  hn hkp hw_61.1.2 hkd) (cwV 0 hts gX10_findBestOrder_X8_wrongs rfl rfl rfl (by decide +kernel) ⟨Nat.le_of_ble_eq_true rfl, Nat.le_of_ble_eq_true rfl⟩) (c_preV (evN xK xV A) hK hE hS hP (va_recv hK hP (ci := 8) (q0 := 20) rfl rfl)) rfl rfl hl.1 rfl (lv_room (Nat.le_of_ble_eq_true rfl)) dX10_findBestOrder_68 ⟨Nat.le_refl _, Nat.le_refl _⟩) hS (fun r_68 u_68 H locs hw_68 hP hS => ?_)
                obtain rfl := hw_68
                refine n_top (y := nI (wrg n kp kd len lo o9)) (by rw [wr_of hw_61.1]) ?_
                refine lv_istore (lv' := [(4, .int (nI (wrg n kp kd len lo o9))), (3, .int (nI (tt))), (2, .int (bI (mo))), (1, .int (nI (fw))), (0, .ref (a 0))]) hx hb dX10_findBestOrder_71 hl (by decide) rfl (fun ls hl => ?_)
                refine lv_iload hx hb dX10_findBestOrder_73 (lv_at hl 0 rfl) ?_
                refine lv_iload_n hx hb dX10_findBestOrder_75 rfl (lv_at hl 3 rfl) ?_
                refine n_icmp_ge (tgt := 97) hx hb dX10_findBestOrder_76 (by decide) (by omega) (by omega) (fun c_76 => ?_) (fun c_76 => ?_)
                · refine lv_aload_n hx hb dX10_findBestOrder_97 rfl (lv_at hl 4 rfl) ?_
                  refine va_get (D := (dC, dI)) (ci := 10) (C := RX10) (T := TX10) (N := 12) hx hb hts in_X10_findBestOrder_X10 hown hK hP 0 rfl rfl 6 (by decide) (hts (.fieldLink RX10 46 "MilkRound" "trialOrder" "[I") (List.mem_of_getElem? (i := 1) rfl)) (fun _ h9 => h9) rfl dX10_findBestOrder_98 ?_
                  refine lv_aload_n hx hb dX10_findBestOrder_101 rfl (lv_at hl 4 rfl) ?_
                  refine va_get (D := (dC, dI)) (ci := 10) (C := RX10) (T := TX10) (N := 12) hx hb hts in_X10_findBestOrder_X10 hown hK hP 0 rfl rfl 1 (by decide) (hts (.fieldLink RX10 19 "MilkRound" "street" "LMilkRound$Street;") (List.mem_of_getElem? (i := 11) rfl)) (fun _ h9 => h9) rfl dX10_findBestOrder_102 ?_
                  refine va_get (D := (dC, dI)) (ci := 6) (C := RX6) (T := TX6) (N := 8) hx hb hts in_X10_findBestOrder_X6 hown hK hP 3 rfl rfl 6 (by decide) (hts (.fieldLink RX10 89 "MilkRound$Street" "size" "I") (List.mem_of_getElem? (i := 12) rfl)) (fun _ h9 => h9) rfl dX10_findBestOrder_105 ?_
                  refine c_calli (va_runS (As := [.ref (a 23), .int (nI (n))]) (rest := []) ⟨hx, hb, hml, hown, hts⟩ (k_X10_advance l dC dI y A a hA0 xK xV rn n lo kp dy so he kn ak pl im lo2 dy2 so2 he2 kn2 u_61.2 kd len ord kh km pg len2 ord2 kh2 km2 u_61.1 tl o9 bo9 lf wo  hn2 hn hp) (va_cwS 2 hts gX10_findBestOrder_X10_advance rfl rfl rfl (by decide +kernel) ⟨Nat.le_of_ble_eq_true rfl, Nat.le_of_ble_eq_true rfl⟩) (c_preS (evN xK xV A) hK hE hS hP) rfl rfl hl.1 rfl (lv_room (Nat.le_of_ble_eq_true rfl)) dX10_findBestOrder_108 ⟨Nat.le_refl _, Nat.le_refl _⟩) hS (fun r_108 u_108 H locs hw_108 hP hS => ?_)
                  have hP : va_P (dC, dI) vwCl (MW y a rn n lo kp dy so he kn ak pl im lo2 dy2 so2 he2 kn2 u_61.2 kd len ord kh km pg len2 ord2 kh2 km2 u_61.1 tl (nxO n o9) bo9 lf wo) H := hP
                  obtain rfl := hw_108
                  refine lv_istore_n (lv' := [(2, .int (bI (decide (¬ dnF o9 (n - 1) = 0)))), (4, .int (nI (wrg n kp kd len lo o9))), (3, .int (nI (tt))), (1, .int (nI (fw))), (0, .ref (a 0))]) hx hb dX10_findBestOrder_111 rfl hl (by decide) rfl (fun ls hl => ?_)
                  refine lv_iinc (v := nI (tt + 1)) (lv' := [(3, .int (nI (tt + 1))), (2, .int (bI (decide (¬ dnF o9 (n - 1) = 0)))), (4, .int (nI (wrg n kp kd len lo o9))), (1, .int (nI (fw))), (0, .ref (a 0))]) hx hb dX10_findBestOrder_112 hl (k := 2) rfl (mr_inc _) (by decide) rfl (fun ls hl => ?_)
                  refine lv_goto (tgt := 28) hx hb dX10_findBestOrder_115 (by decide) ?_
                  exact ih_28 (decide (¬ dnF o9 (n - 1) = 0)) f9 (nxO n o9) (stL n Lx) fw bo9 Lb u_61.1 u_61.2 (tt + 1) (BstI_step hn2 hn hp hI (by rw [← hweq, if_neg (by omega)]) hI.2.2) (nxO_perm hp hn2) (by omega) hw_61.1.2 (by omega) (by omega) _ _ _ hP hS (lv_sub hl [0, 1, 3, 4] rfl)
                · refine lv_iload hx hb dX10_findBestOrder_79 (lv_at hl 0 rfl) ?_
                  refine lv_istore_n (lv' := [(1, .int (nI (wrg n kp kd len lo o9))), (4, .int (nI (wrg n kp kd len lo o9))), (3, .int (nI (tt))), (2, .int (bI (mo))), (0, .ref (a 0))]) hx hb dX10_findBestOrder_81 rfl hl (by decide) rfl (fun ls hl => ?_)
                  refine lv_aload_n hx hb dX10_findBestOrder_82 rfl (lv_at hl 4 rfl) ?_
                  refine va_get (D := (dC, dI)) (ci := 10) (C := RX10) (T := TX10) (N := 12) hx hb hts in_X10_findBestOrder_X10 hown hK hP 0 rfl rfl 6 (by decide) (hts (.fieldLink RX10 46 "MilkRound" "trialOrder" "[I") (List.mem_of_getElem? (i := 1) rfl)) (fun _ h9 => h9) rfl dX10_findBestOrder_83 ?_
                  refine lv_iconst (v := nI (0)) hx hb dX10_findBestOrder_86 (by decide) ?_
                  refine lv_aload_n hx hb dX10_findBestOrder_87 rfl (lv_at hl 4 rfl) ?_
                  refine va_get (D := (dC, dI)) (ci := 10) (C := RX10) (T := TX10) (N := 12) hx hb hts in_X10_findBestOrder_X10 hown hK hP 0 rfl rfl 7 (by decide) (hts (.fieldLink RX10 49 "MilkRound" "bestOrder" "[I") (List.mem_of_getElem? (i := 6) rfl)) (fun _ h9 => h9) rfl dX10_findBestOrder_88 ?_
                  refine lv_iconst (v := nI (0)) hx hb dX10_findBestOrder_91 (by decide) ?_
                  refine lv_bipush (v := nI (6)) hx hb dX10_findBestOrder_92 (by decide) ?_
                  refine n_cpy6 hx hb (hml.trans hl.1.symm) hown (hts (.methodLink RX10 230 arraycopyName) (List.mem_of_getElem? (i := 7) rfl)) (hts (.native arraycopyName) (List.mem_of_getElem? (i := 8) rfl)) (hts (.static arraycopyName) (List.mem_of_getElem? (i := 9) rfl)) (hts (.initialized "java/lang/System") (List.mem_of_getElem? (i := 10) rfl)) hK hP (ad_D hA0 rfl) hS 23 24 0 0 rfl rfl rfl rfl (Nat.le_of_ble_eq_true rfl) (Nat.le_of_ble_eq_true rfl) dX10_findBestOrder_94 (fun H locs hP hS => ?_)
                  have hP : va_P (dC, dI) vwCl (MW y a rn n lo kp dy so he kn ak pl im lo2 dy2 so2 he2 kn2 u_61.2 kd len ord kh km pg len2 ord2 kh2 km2 u_61.1 tl o9 (mixF 6 o9 bo9) lf wo) H := hP
                  refine lv_aload_n hx hb dX10_findBestOrder_97 rfl (lv_at hl 4 rfl) ?_
                  refine va_get (D := (dC, dI)) (ci := 10) (C := RX10) (T := TX10) (N := 12) hx hb hts in_X10_findBestOrder_X10 hown hK hP 0 rfl rfl 6 (by decide) (hts (.fieldLink RX10 46 "MilkRound" "trialOrder" "[I") (List.mem_of_getElem? (i := 1) rfl)) (fun _ h9 => h9) rfl dX10_findBestOrder_98 ?_
                  refine lv_aload_n hx hb dX10_findBestOrder_101 rfl (lv_at hl 4 rfl) ?_
                  refine va_get (D := (dC, dI)) (ci := 10) (C := RX10) (T := TX10) (N := 12) hx hb hts in_X10_findBestOrder_X10 hown hK hP 0 rfl rfl 1 (by decide) (hts (.fieldLink RX10 19 "MilkRound" "street" "LMilkRound$Street;") (List.mem_of_getElem? (i := 11) rfl)) (fun _ h9 => h9) rfl dX10_findBestOrder_102 ?_
                  refine va_get (D := (dC, dI)) (ci := 6) (C := RX6) (T := TX6) (N := 8) hx hb hts in_X10_findBestOrder_X6 hown hK hP 3 rfl rfl 6 (by decide) (hts (.fieldLink RX10 89 "MilkRound$Street" "size" "I") (List.mem_of_getElem? (i := 12) rfl)) (fun _ h9 => h9) rfl dX10_findBestOrder_105 ?_
                  refine c_calli (va_runS (As := [.ref (a 23), .int (nI (n))]) (rest := []) ⟨hx, hb, hml, hown, hts⟩ (k_X10_advance l dC dI y A a hA0 xK xV rn n lo kp dy so he kn ak pl im lo2 dy2 so2 he2 kn2 u_61.2 kd len ord kh km pg len2 ord2 kh2 km2 u_61.1 tl o9 (mixF 6 o9 bo9) lf wo  hn2 hn hp) (va_cwS 2 hts gX10_findBestOrder_X10_advance rfl rfl rfl (by decide +kernel) ⟨Nat.le_of_ble_eq_true rfl, Nat.le_of_ble_eq_true rfl⟩) (c_preS (evN xK xV A) hK hE hS hP) rfl rfl hl.1 rfl (lv_room (Nat.le_of_ble_eq_true rfl)) dX10_findBestOrder_108 ⟨Nat.le_refl _, Nat.le_refl _⟩) hS (fun r_108 u_108 H locs hw_108 hP hS => ?_)
                  have hP : va_P (dC, dI) vwCl (MW y a rn n lo kp dy so he kn ak pl im lo2 dy2 so2 he2 kn2 u_61.2 kd len ord kh km pg len2 ord2 kh2 km2 u_61.1 tl (nxO n o9) (mixF 6 o9 bo9) lf wo) H := hP
                  obtain rfl := hw_108
                  refine lv_istore_n (lv' := [(2, .int (bI (decide (¬ dnF o9 (n - 1) = 0)))), (1, .int (nI (wrg n kp kd len lo o9))), (4, .int (nI (wrg n kp kd len lo o9))), (3, .int (nI (tt))), (0, .ref (a 0))]) hx hb dX10_findBestOrder_111 rfl hl (by decide) rfl (fun ls hl => ?_)
                  refine lv_iinc (v := nI (tt + 1)) (lv' := [(3, .int (nI (tt + 1))), (2, .int (bI (decide (¬ dnF o9 (n - 1) = 0)))), (1, .int (nI (wrg n kp kd len lo o9))), (4, .int (nI (wrg n kp kd len lo o9))), (0, .ref (a 0))]) hx hb dX10_findBestOrder_112 hl (k := 3) rfl (mr_inc _) (by decide) rfl (fun ls hl => ?_)
                  refine lv_goto (tgt := 28) hx hb dX10_findBestOrder_115 (by decide) ?_
                  exact ih_28 (decide (¬ dnF o9 (n - 1) = 0)) f9 (nxO n o9) (stL n Lx) (wrg n kp kd len lo o9) (mixF 6 o9 bo9) Lx u_61.1 u_61.2 (tt + 1) (BstI_step hn2 hn hp hI (by rw [← hweq, if_pos (by omega)]) (fun _ j hj => by rw [mixF_in (by omega)]; exact (hI.1 rfl).2.1 j hj)) (nxO_perm hp hn2) (by omega) hw_61.1.2 (by omega) (by omega) _ _ _ hP hS (lv_sub hl [0, 1, 2, 4] rfl)
        exact loop_28 _ true 720 (mixF k (fun j => j) tO) (List.range n) 13 bO ([]) cw ma 0 (BstI_0 hn2 hn (by decide) hid) ((id_perm n).eq (fun j hj => (hid j hj).symm)) (by decide) hcw rfl (Nat.lt_succ_self _) _ _ _ hP hS (lv_sub hl [0, 1, 2, 3] rfl)
      · refine lv_aload_n hx hb dX10_findBestOrder_8 rfl (lv_at hl 1 rfl) ?_
        refine va_get (D := (dC, dI)) (ci := 10) (C := RX10) (T := TX10) (N := 12) hx hb hts in_X10_findBestOrder_X10 hown hK hP 0 rfl rfl 6 (by decide) (hts (.fieldLink RX10 46 "MilkRound" "trialOrder" "[I") (List.mem_of_getElem? (i := 1) rfl)) (fun _ h9 => h9) rfl dX10_findBestOrder_9 ?_
        refine lv_iload_n hx hb dX10_findBestOrder_12 rfl (lv_at hl 0 rfl) ?_
        refine lv_iload_n hx hb dX10_findBestOrder_13 rfl (lv_at hl 0 rfl) ?_
        refine n_iast hx hb hK hP (ad_D hA0 rfl) hS 23 0 rfl rfl (by omega) (by decide) dX10_findBestOrder_14 (fun H locs hP hS => ?_)
        have hP : va_P (dC, dI) vwCl (MW y a rn n lo kp dy so he kn ak pl im lo2 dy2 so2 he2 kn2 ma kd len ord kh km pg len2 ord2 kh2 km2 cw tl (va_up (mixF k (fun j => j) tO) k k) bO lf wo) H := hP
        refine lv_iinc (v := nI (k + 1)) (lv' := [(1, .int (nI (k + 1))), (0, .ref (a 0))]) hx hb dX10_findBestOrder_15 hl (k := 0) rfl (mr_inc _) (by decide) rfl (fun ls hl => ?_)
        refine lv_goto (tgt := 2) hx hb dX10_findBestOrder_18 (by decide) ?_
        exact ih_2 (k + 1) (by omega) (by omega) _ _ _ (by rw [← mixF_s]; exact hP) hS (lv_sub hl [0, 1] rfl)
  exact loop_2 _ 0 (Nat.zero_le _) (Nat.lt_succ_self _) _ _ _ (by rw [mixF_0]; exact hP) hS (lv_sub hl [0, 1] rfl)
theorem in_X10_best_X10 : ∀ w ∈ wsX100, w ∈ wsX10_best := fun w h => List.mem_cons_of_mem _ (List.mem_append_left _ (List.mem_append_left _ (List.mem_append_left _ (List.mem_append_right _ h))))
theorem in_X10_best_X6 : ∀ w ∈ wsX60, w ∈ wsX10_best := fun w h => List.mem_cons_of_mem _ (List.mem_append_left _ (List.mem_append_left _ (List.mem_append_right _ h)))
set_option maxHeartbeats 4000000 in
set_option maxRecDepth 100000 in
theorem k_X10_best (l : Launch) (dC : Nat → ClassId) (dI : Nat → Nat → Nat) (y : Nat → ClassId) (A : Nat → Prop) (a : Nat → Nat) (hA0 : ad_ok A a 34) (xK : Nat → Nat) (xV : Nat → Nat) (rn : Nat) (n : Nat) (lo : Int32) (kp : Nat) (dy : Int32) (so : Int32) (he : Int32) (kn : Nat) (ak : Nat) (pl : Nat) (im : Bool) (lo2 : Int32) (dy2 : Int32) (so2 : Int32) (he2 : Int32) (kn2 : Nat) (ma : Nat) (kd : Nat → Nat) (len : Nat → Nat) (ord : Nat → Nat) (kh : Nat → Nat) (km : Nat → Nat) (pg : Nat → Nat) (len2 : Nat → Nat) (ord2 : Nat → Nat) (kh2 : Nat → Nat) (km2 : Nat → Nat) (cw : Nat → Nat) (tl : Nat → Nat) (tO : Nat → Nat) (bO : Nat → Nat) (lf : Nat → Nat → Nat) (wo : Nat → Nat) (w : Int32) (hn2 : n = 0 ∨ 2 ≤ n) (hn : n ≤ 6) (hlen : ∀ j, len j ≤ 9) (hkd : ∀ j, kd j ≤ 4) (hcw : ∀ j, cw j ≤ 126) (hkp : kp ≤ 9) (hak : ak ≤ 30) : Met l yX10_best wsX10_best ({ frames := 5, cells := 0, slots := 0, locals := 116 } : Room) (c_P (dC, dI) vwCl (TY y) (EV xK xV A) (MW y a rn n lo kp dy so he kn ak pl im lo2 dy2 so2 he2 kn2 ma kd len ord kh km pg len2 ord2 kh2 km2 cw tl tO bO lf wo) [.ref (a 0), .int (w)]) (va_Qi (fun (r : Int32) (u : (Nat → Nat) × Nat × (Nat → Nat) × (Nat → Nat)) => r = rBest n kp kd len lo ak w ∧ ∀ j, u.1 j ≤ 126) (c_B (dC, dI) vwCl (TY y) (fun (u : (Nat → Nat) × Nat × (Nat → Nat) × (Nat → Nat)) => (MW y a rn n lo kp dy so he kn (sBest n ak w) pl im lo2 dy2 so2 he2 kn2 u.2.1 kd len ord kh km pg len2 ord2 kh2 km2 u.1 tl u.2.2.1 u.2.2.2 lf wo))) A) 0 0 A := by
  refine Met.ofW (cc := cX10_best) (maxL := 5) (ret := (some .int)) (by decide) rfl ?_
  intro p e s m args below meth c s₁ BB hml hv
  obtain ⟨rfl, hP, hK, hE⟩ := hv
  have hx := BB.exec
  have hb := BB.bytes
  have hr := BB.returns
  have hts := atoms_spec (ws := wsX10_best) BB.pre
  have hown : s.vm.findClass RX10 = some m.cls := findClass_of_methodNamed BB.named
  have hlocks := BB.notSynchronized
  have hS : va_S A s.heap s.heap [] := va_S.rf
  have hl := lv_entry ([.ref (a 0), .int (w)]) (n := 5) (Nat.le_of_ble_eq_true rfl)
  rw [lg_entry_eq]
  generalize (lg_sl ([.ref (a 0), .int (w)]) ++ List.replicate (5 - (lg_sl ([.ref (a 0), .int (w)])).length) Slot.unset).toArray = ls at hl ⊢
  have hl : lv_has ls 5 [(0, .ref (a 0)), (1, .int (w))] := hl
  refine lv_bipush (v := nI (15)) hx hb dX10_best_0 (by decide) ?_
  refine lv_istore_n (lv' := [(2, .int (nI (15))), (0, .ref (a 0)), (1, .int (w))]) hx hb dX10_best_2 rfl hl (by decide) rfl (fun ls hl => ?_)
  refine lv_iload_n hx hb dX10_best_3 rfl (lv_at hl 2 rfl) ?_
  refine lv_if_eq (tgt := 21) hx hb dX10_best_4 (by decide) (fun c_4 => ?_) (fun c_4 => ?_)
  · refine lv_aload_n hx hb dX10_best_21 rfl (lv_at hl 1 rfl) ?_
    refine c_calli (va_runV (As := []) (rest := []) ⟨hx, hb, hml, hown, hts⟩ (k_X10_hasNoRound l dC dI y A a hA0 xK xV rn n lo kp dy so he kn ak pl im lo2 dy2 so2 he2 kn2 ma kd len ord kh km pg len2 ord2 kh2 km2 cw tl tO bO lf wo  hn) (cwV 0 hts gX10_best_X10_hasNoRound rfl rfl rfl (by decide +kernel) ⟨Nat.le_of_ble_eq_true rfl, Nat.le_of_ble_eq_true rfl⟩) (c_preV (evN xK xV A) hK hE hS hP (va_recv hK hP (ci := 10) (q0 := 0) rfl rfl)) rfl rfl hl.1 rfl (lv_room (Nat.le_of_ble_eq_true rfl)) dX10_best_22 ⟨Nat.le_refl _, Nat.le_refl _⟩) hS (fun r_22 u_22 H locs hw_22 hP hS => ?_)
    obtain rfl := hw_22
    refine n_bif_ne (tgt := 37) hx hb dX10_best_25 (by decide) (fun c_25 => ?_) (fun c_25 => ?_)
    · refine lv_bipush (v := (-103)) hx hb dX10_best_37 (by decide) ?_
      have hP : va_P (dC, dI) vwCl (MW y a rn n lo kp dy so he kn (sBest n ak w) pl im lo2 dy2 so2 he2 kn2 ((cw, ma, tO, bO).2.1) kd len ord kh km pg len2 ord2 kh2 km2 ((cw, ma, tO, bO).1) tl ((cw, ma, tO, bO).2.2.1) ((cw, ma, tO, bO).2.2.2) lf wo) H := by
        rw [sBest, show okW w = true from by unfold okW; rw [decide_eq_true c_4]; rfl, if_pos (Or.inl (of_decide_eq_true c_25))]
        exact hP
      exact c_iret hx hb hr hlocks hK hS (cw, ma, tO, bO) hP ⟨by unfold rBest; rw [show okW w = true from by unfold okW; rw [decide_eq_true c_4]; rfl, if_pos (Or.inl (of_decide_eq_true c_25))]; rfl, hcw⟩ dX10_best_39
    · refine lv_aload_n hx hb dX10_best_28 rfl (lv_at hl 1 rfl) ?_
      refine va_get (D := (dC, dI)) (ci := 10) (C := RX10) (T := TX10) (N := 12) hx hb hts in_X10_best_X10 hown hK hP 0 rfl rfl 11 (by decide) (hts (.fieldLink RX10 67 "MilkRound" "searches" "I") (List.mem_of_getElem? (i := 1) rfl)) (fun _ h9 => h9) rfl dX10_best_29 ?_
      refine lv_bipush (v := nI (30)) hx hb dX10_best_32 (by decide) ?_
      refine n_icmp_lt (tgt := 40) hx hb dX10_best_34 (by decide) (by omega) (by omega) (fun c_34 => ?_) (fun c_34 => ?_)
      · obtain ⟨k, hk, ek⟩ : ∃ k : Nat, (k = 0 ∨ (10 ≤ k ∧ k ≤ 15)) ∧ w = nI k := ⟨0, Or.inl rfl, by rw [c_4]; rfl⟩
        rw [ek] at hl
        have hl : lv_has ls 5 [(2, .int (nI (15))), (0, .ref (a 0)), (1, .int (nI (k)))] := hl
        refine lv_aload_n hx hb dX10_best_40 rfl (lv_at hl 1 rfl) ?_
        refine lv_dup hx hb dX10_best_41 rfl ?_
        refine va_get (D := (dC, dI)) (ci := 10) (C := RX10) (T := TX10) (N := 12) hx hb hts in_X10_best_X10 hown hK hP 0 rfl rfl 11 (by decide) (hts (.fieldLink RX10 67 "MilkRound" "searches" "I") (List.mem_of_getElem? (i := 1) rfl)) (fun _ h9 => h9) rfl dX10_best_42 ?_
        refine lv_iconst (v := nI (1)) hx hb dX10_best_45 (by decide) ?_
        refine n_iadd hx hb dX10_best_46 ?_
        refine va_put (D := (dC, dI)) (ci := 10) (ty := tyX10 11) (C := RX10) (T := TX10) (N := 12) hx hb hts in_X10_best_X10 tyX10 tyX10_ok nmX10 hown hK hP (ad_D hA0 rfl) hS 0 rfl rfl 11 (by decide) (hts (.fieldLink RX10 67 "MilkRound" "searches" "I") (List.mem_of_getElem? (i := 1) rfl)) (fun _ h9 => h9) rfl (tyX10_ok 11 (by decide)) rfl rfl (Nat.le_of_ble_eq_true rfl) dX10_best_47 (fun H locs hP _ hS => ?_)
        have hP : va_P (dC, dI) vwCl (MW y a rn n lo kp dy so he kn (ak + 1) pl im lo2 dy2 so2 he2 kn2 ma kd len ord kh km pg len2 ord2 kh2 km2 cw tl tO bO lf wo) H := hP
        refine lv_aload_n hx hb dX10_best_50 rfl (lv_at hl 1 rfl) ?_
        refine c_calli (va_runV (As := []) (rest := []) ⟨hx, hb, hml, hown, hts⟩ (k_X10_findBestOrder l dC dI y A a hA0 xK xV rn n lo kp dy so he kn (ak + 1) pl im lo2 dy2 so2 he2 kn2 ma kd len ord kh km pg len2 ord2 kh2 km2 cw tl tO bO lf wo  (by have := of_decide_eq_false c_25; omega) hn hlen hkd hcw hkp) (cwV 0 hts gX10_best_X10_findBestOrder rfl rfl rfl (by decide +kernel) ⟨Nat.le_of_ble_eq_true rfl, Nat.le_of_ble_eq_true rfl⟩) (c_preV (evN xK xV A) hK hE hS hP (va_recv hK hP (ci := 10) (q0 := 0) rfl rfl)) rfl rfl hl.1 rfl (lv_room (Nat.le_of_ble_eq_true rfl)) dX10_best_51 ⟨Nat.le_refl _, Nat.le_refl _⟩) hS (fun r_51 u_51 H locs hw_51 hP hS => ?_)
        have hP : va_P (dC, dI) vwCl (MW y a rn n lo kp dy so he kn (ak + 1) pl im lo2 dy2 so2 he2 kn2 u_51.2.1 kd len ord kh km pg len2 ord2 kh2 km2 u_51.1 tl u_51.2.2.1 u_51.2.2.2 lf wo) H := hP
        obtain ⟨rfl, hw_51⟩ := hw_51
        refine lv_istore_n (lv' := [(3, .int (nI ((bstF n kp kd len lo).1))), (2, .int (nI (15))), (0, .ref (a 0)), (1, .int (nI (k)))]) hx hb dX10_best_54 rfl hl (by decide) rfl (fun ls hl => ?_)
        refine lv_iload_n hx hb dX10_best_55 rfl (lv_at hl 3 rfl) ?_
        refine n_if_ne (tgt := 61) hx hb dX10_best_56 (by decide) (by omega) (fun c_56 => ?_) (fun c_56 => ?_)
        · refine lv_iload_n hx hb dX10_best_61 rfl (lv_at hl 3 rfl) ?_
          refine lv_bipush (v := nI (10)) hx hb dX10_best_62 (by decide) ?_
          refine n_isub hx hb (by omega) dX10_best_64 ?_
          refine lv_istore (lv' := [(4, .int (nI (k - 10))), (3, .int (nI ((bstF n kp kd len lo).1))), (2, .int (nI (15))), (0, .ref (a 0)), (1, .int (nI (k)))]) hx hb dX10_best_65 hl (by decide) rfl (fun ls hl => ?_)
          refine lv_iload hx hb dX10_best_67 (lv_at hl 0 rfl) ?_
          refine lv_aload_n hx hb dX10_best_69 rfl (lv_at hl 3 rfl) ?_
          refine va_get (D := (dC, dI)) (ci := 10) (C := RX10) (T := TX10) (N := 12) hx hb hts in_X10_best_X10 hown hK hP 0 rfl rfl 1 (by decide) (hts (.fieldLink RX10 19 "MilkRound" "street" "LMilkRound$Street;") (List.mem_of_getElem? (i := 2) rfl)) (fun _ h9 => h9) rfl dX10_best_70 ?_
          refine va_get (D := (dC, dI)) (ci := 6) (C := RX6) (T := TX6) (N := 8) hx hb hts in_X10_best_X6 hown hK hP 3 rfl rfl 6 (by decide) (hts (.fieldLink RX10 89 "MilkRound$Street" "size" "I") (List.mem_of_getElem? (i := 3) rfl)) (fun _ h9 => h9) rfl dX10_best_73 ?_
          refine n_icmp_ge (tgt := 89) hx hb dX10_best_76 (by decide) (by omega) (by omega) (fun c_76 => ?_) (fun c_76 => ?_)
          · refine lv_iconst (v := (-1)) hx hb dX10_best_89 (by decide) ?_
            have hP : va_P (dC, dI) vwCl (MW y a rn n lo kp dy so he kn (sBest n ak w) pl im lo2 dy2 so2 he2 kn2 u_51.2.1 kd len ord kh km pg len2 ord2 kh2 km2 u_51.1 tl u_51.2.2.1 u_51.2.2.2 lf wo) H := by
              rw [sBest, show okW w = true from by unfold okW; rw [decide_eq_true c_4]; rfl, if_neg (by have := of_decide_eq_false c_25; omega)]
              exact hP
            exact c_iret hx hb hr hlocks hK hS u_51 hP ⟨by unfold rBest; rw [show okW w = true from by unfold okW; rw [decide_eq_true c_4]; rfl, if_neg (by have := of_decide_eq_false c_25; omega), ek, nI_clamp (by omega), bvF, if_neg c_56, if_neg (by omega)]; rfl, hw_51.2⟩ dX10_best_90
          · refine lv_aload_n hx hb dX10_best_79 rfl (lv_at hl 3 rfl) ?_
            refine va_get (D := (dC, dI)) (ci := 10) (C := RX10) (T := TX10) (N := 12) hx hb hts in_X10_best_X10 hown hK hP 0 rfl rfl 7 (by decide) (hts (.fieldLink RX10 49 "MilkRound" "bestOrder" "[I") (List.mem_of_getElem? (i := 4) rfl)) (fun _ h9 => h9) rfl dX10_best_80 ?_
            refine lv_iload hx hb dX10_best_83 (lv_at hl 0 rfl) ?_
            refine n_iald hx hb hK hP 24 0 rfl rfl (by omega) (by decide) dX10_best_85 ?_
            refine lv_goto (tgt := 90) hx hb dX10_best_86 (by decide) ?_
            have hP : va_P (dC, dI) vwCl (MW y a rn n lo kp dy so he kn (sBest n ak w) pl im lo2 dy2 so2 he2 kn2 u_51.2.1 kd len ord kh km pg len2 ord2 kh2 km2 u_51.1 tl u_51.2.2.1 u_51.2.2.2 lf wo) H := by
              rw [sBest, show okW w = true from by unfold okW; rw [decide_eq_true c_4]; rfl, if_neg (by have := of_decide_eq_false c_25; omega)]
              exact hP
            exact c_iret hx hb hr hlocks hK hS u_51 hP ⟨by unfold rBest; rw [show okW w = true from by unfold okW; rw [decide_eq_true c_4]; rfl, if_neg (by have := of_decide_eq_false c_25; omega), ek, nI_clamp (by omega), bvF, if_neg c_56, if_pos (by omega), ← hw_51.1 _ (by omega)]; rfl, hw_51.2⟩ dX10_best_90
        · refine lv_iload_n hx hb dX10_best_59 rfl (lv_at hl 0 rfl) ?_
          have hP : va_P (dC, dI) vwCl (MW y a rn n lo kp dy so he kn (sBest n ak w) pl im lo2 dy2 so2 he2 kn2 u_51.2.1 kd len ord kh km pg len2 ord2 kh2 km2 u_51.1 tl u_51.2.2.1 u_51.2.2.2 lf wo) H := by
            rw [sBest, show okW w = true from by unfold okW; rw [decide_eq_true c_4]; rfl, if_neg (by have := of_decide_eq_false c_25; omega)]
            exact hP
          exact c_iret hx hb hr hlocks hK hS u_51 hP ⟨by unfold rBest; rw [show okW w = true from by unfold okW; rw [decide_eq_true c_4]; rfl, if_neg (by have := of_decide_eq_false c_25; omega), ek, nI_clamp (by omega), bvF, if_pos c_56]; rfl, hw_51.2⟩ dX10_best_60
      · refine lv_bipush (v := (-103)) hx hb dX10_best_37 (by decide) ?_
        have hP : va_P (dC, dI) vwCl (MW y a rn n lo kp dy so he kn (sBest n ak w) pl im lo2 dy2 so2 he2 kn2 ((cw, ma, tO, bO).2.1) kd len ord kh km pg len2 ord2 kh2 km2 ((cw, ma, tO, bO).1) tl ((cw, ma, tO, bO).2.2.1) ((cw, ma, tO, bO).2.2.2) lf wo) H := by
          rw [sBest, show okW w = true from by unfold okW; rw [decide_eq_true c_4]; rfl, if_pos (Or.inr (by omega))]
          exact hP
        exact c_iret hx hb hr hlocks hK hS (cw, ma, tO, bO) hP ⟨by unfold rBest; rw [show okW w = true from by unfold okW; rw [decide_eq_true c_4]; rfl, if_pos (Or.inr (by omega))]; rfl, hcw⟩ dX10_best_39
  · refine lv_iload_n hx hb dX10_best_7 rfl (lv_at hl 2 rfl) ?_
    refine lv_bipush (v := nI (10)) hx hb dX10_best_8 (by decide) ?_
    refine lv_icmp_lt (tgt := 18) hx hb dX10_best_10 (by decide) (fun c_10 => ?_) (fun c_10 => ?_)
    · refine lv_bipush (v := (-102)) hx hb dX10_best_18 (by decide) ?_
      have hP : va_P (dC, dI) vwCl (MW y a rn n lo kp dy so he kn (sBest n ak w) pl im lo2 dy2 so2 he2 kn2 ((cw, ma, tO, bO).2.1) kd len ord kh km pg len2 ord2 kh2 km2 ((cw, ma, tO, bO).1) tl ((cw, ma, tO, bO).2.2.1) ((cw, ma, tO, bO).2.2.2) lf wo) s.heap := by
        rw [sBest, show okW w = false from by unfold okW; rw [decide_eq_false c_4]; exact inT_no1 c_10]
        exact hP
      exact c_iret hx hb hr hlocks hK hS (cw, ma, tO, bO) hP ⟨by unfold rBest; rw [show okW w = false from by unfold okW; rw [decide_eq_false c_4]; exact inT_no1 c_10]; rfl, hcw⟩ dX10_best_20
    · refine lv_iload_n hx hb dX10_best_13 rfl (lv_at hl 2 rfl) ?_
      refine lv_iload_n hx hb dX10_best_14 rfl (lv_at hl 0 rfl) ?_
      refine lv_icmp_le (tgt := 21) hx hb dX10_best_15 (by decide) (fun c_15 => ?_) (fun c_15 => ?_)
      · refine lv_aload_n hx hb dX10_best_21 rfl (lv_at hl 1 rfl) ?_
        refine c_calli (va_runV (As := []) (rest := []) ⟨hx, hb, hml, hown, hts⟩ (k_X10_hasNoRound l dC dI y A a hA0 xK xV rn n lo kp dy so he kn ak pl im lo2 dy2 so2 he2 kn2 ma kd len ord kh km pg len2 ord2 kh2 km2 cw tl tO bO lf wo  hn) (cwV 0 hts gX10_best_X10_hasNoRound rfl rfl rfl (by decide +kernel) ⟨Nat.le_of_ble_eq_true rfl, Nat.le_of_ble_eq_true rfl⟩) (c_preV (evN xK xV A) hK hE hS hP (va_recv hK hP (ci := 10) (q0 := 0) rfl rfl)) rfl rfl hl.1 rfl (lv_room (Nat.le_of_ble_eq_true rfl)) dX10_best_22 ⟨Nat.le_refl _, Nat.le_refl _⟩) hS (fun r_22 u_22 H locs hw_22 hP hS => ?_)
        obtain rfl := hw_22
        refine n_bif_ne (tgt := 37) hx hb dX10_best_25 (by decide) (fun c_25 => ?_) (fun c_25 => ?_)
        · refine lv_bipush (v := (-103)) hx hb dX10_best_37 (by decide) ?_
          have hP : va_P (dC, dI) vwCl (MW y a rn n lo kp dy so he kn (sBest n ak w) pl im lo2 dy2 so2 he2 kn2 ((cw, ma, tO, bO).2.1) kd len ord kh km pg len2 ord2 kh2 km2 ((cw, ma, tO, bO).1) tl ((cw, ma, tO, bO).2.2.1) ((cw, ma, tO, bO).2.2.2) lf wo) H := by
            rw [sBest, show okW w = true from by unfold okW; rw [decide_eq_false c_4]; exact inT_mk c_10 c_15, if_pos (Or.inl (of_decide_eq_true c_25))]
            exact hP
          exact c_iret hx hb hr hlocks hK hS (cw, ma, tO, bO) hP ⟨by unfold rBest; rw [show okW w = true from by unfold okW; rw [decide_eq_false c_4]; exact inT_mk c_10 c_15, if_pos (Or.inl (of_decide_eq_true c_25))]; rfl, hcw⟩ dX10_best_39
        · refine lv_aload_n hx hb dX10_best_28 rfl (lv_at hl 1 rfl) ?_
          refine va_get (D := (dC, dI)) (ci := 10) (C := RX10) (T := TX10) (N := 12) hx hb hts in_X10_best_X10 hown hK hP 0 rfl rfl 11 (by decide) (hts (.fieldLink RX10 67 "MilkRound" "searches" "I") (List.mem_of_getElem? (i := 1) rfl)) (fun _ h9 => h9) rfl dX10_best_29 ?_
          refine lv_bipush (v := nI (30)) hx hb dX10_best_32 (by decide) ?_
          refine n_icmp_lt (tgt := 40) hx hb dX10_best_34 (by decide) (by omega) (by omega) (fun c_34 => ?_) (fun c_34 => ?_)
          · obtain ⟨k, hk, ek⟩ : ∃ k : Nat, (k = 0 ∨ (10 ≤ k ∧ k ≤ 15)) ∧ w = nI k := by
              obtain ⟨k, h1, h2, h3⟩ := inT_of (inT_mk c_10 c_15)
              exact ⟨k, Or.inr ⟨h1, h2⟩, h3⟩
            rw [ek] at hl
            have hl : lv_has ls 5 [(2, .int (nI (15))), (0, .ref (a 0)), (1, .int (nI (k)))] := hl
            refine lv_aload_n hx hb dX10_best_40 rfl (lv_at hl 1 rfl) ?_
            refine lv_dup hx hb dX10_best_41 rfl ?_
            refine va_get (D := (dC, dI)) (ci := 10) (C := RX10) (T := TX10) (N := 12) hx hb hts in_X10_best_X10 hown hK hP 0 rfl rfl 11 (by decide) (hts (.fieldLink RX10 67 "MilkRound" "searches" "I") (List.mem_of_getElem? (i := 1) rfl)) (fun _ h9 => h9) rfl dX10_best_42 ?_
            refine lv_iconst (v := nI (1)) hx hb dX10_best_45 (by decide) ?_
            refine n_iadd hx hb dX10_best_46 ?_
            refine va_put (D := (dC, dI)) (ci := 10) (ty := tyX10 11) (C := RX10) (T := TX10) (N := 12) hx hb hts in_X10_best_X10 tyX10 tyX10_ok nmX10 hown hK hP (ad_D hA0 rfl) hS 0 rfl rfl 11 (by decide) (hts (.fieldLink RX10 67 "MilkRound" "searches" "I") (List.mem_of_getElem? (i := 1) rfl)) (fun _ h9 => h9) rfl (tyX10_ok 11 (by decide)) rfl rfl (Nat.le_of_ble_eq_true rfl) dX10_best_47 (fun H locs hP _ hS => ?_)
            have hP : va_P (dC, dI) vwCl (MW y a rn n lo kp dy so he kn (ak + 1) pl im lo2 dy2 so2 he2 kn2 ma kd len ord kh km pg len2 ord2 kh2 km2 cw tl tO bO lf wo) H := hP
            refine lv_aload_n hx hb dX10_best_50 rfl (lv_at hl 1 rfl) ?_
            refine c_calli (va_runV (As := []) (rest := []) ⟨hx, hb, hml, hown, hts⟩ (k_X10_findBestOrder l dC dI y A a hA0 xK xV rn n lo kp dy so he kn (ak + 1) pl im lo2 dy2 so2 he2 kn2 ma kd len ord kh km pg len2 ord2 kh2 km2 cw tl tO bO lf wo  (by have := of_decide_eq_false c_25; omega) hn hlen hkd hcw hkp) (cwV 0 hts gX10_best_X10_findBestOrder rfl rfl rfl (by decide +kernel) ⟨Nat.le_of_ble_eq_true rfl, Nat.le_of_ble_eq_true rfl⟩) (c_preV (evN xK xV A) hK hE hS hP (va_recv hK hP (ci := 10) (q0 := 0) rfl rfl)) rfl rfl hl.1 rfl (lv_room (Nat.le_of_ble_eq_true rfl)) dX10_best_51 ⟨Nat.le_refl _, Nat.le_refl _⟩) hS (fun r_51 u_51 H locs hw_51 hP hS => ?_)
            have hP : va_P (dC, dI) vwCl (MW y a rn n lo kp dy so he kn (ak + 1) pl im lo2 dy2 so2 he2 kn2 u_51.2.1 kd len ord kh km pg len2 ord2 kh2 km2 u_51.1 tl u_51.2.2.1 u_51.2.2.2 lf wo) H := hP
            obtain ⟨rfl, hw_51⟩ := hw_51
            refine lv_istore_n (lv' := [(3, .int (nI ((bstF n kp kd len lo).1))), (2, .int (nI (15))), (0, .ref (a 0)), (1, .int (nI (k)))]) hx hb dX10_best_54 rfl hl (by decide) rfl (fun ls hl => ?_)
            refine lv_iload_n hx hb dX10_best_55 rfl (lv_at hl 3 rfl) ?_
            refine n_if_ne (tgt := 61) hx hb dX10_best_56 (by decide) (by omega) (fun c_56 => ?_) (fun c_56 => ?_)
            · refine lv_iload_n hx hb dX10_best_61 rfl (lv_at hl 3 rfl) ?_
              refine lv_bipush (v := nI (10)) hx hb dX10_best_62 (by decide) ?_
              refine n_isub hx hb (by omega) dX10_best_64 ?_
              refine lv_istore (lv' := [(4, .int (nI (k - 10))), (3, .int (nI ((bstF n kp kd len lo).1))), (2, .int (nI (15))), (0, .ref (a 0)), (1, .int (nI (k)))]) hx hb dX10_best_65 hl (by decide) rfl (fun ls hl => ?_)
              refine lv_iload hx hb dX10_best_67 (lv_at hl 0 rfl) ?_
              refine lv_aload_n hx hb dX10_best_69 rfl (lv_at hl 3 rfl) ?_
              refine va_get (D := (dC, dI)) (ci := 10) (C := RX10) (T := TX10) (N := 12) hx hb hts in_X10_best_X10 hown hK hP 0 rfl rfl 1 (by decide) (hts (.fieldLink RX10 19 "MilkRound" "street" "LMilkRound$Street;") (List.mem_of_getElem? (i := 2) rfl)) (fun _ h9 => h9) rfl dX10_best_70 ?_
              refine va_get (D := (dC, dI)) (ci := 6) (C := RX6) (T := TX6) (N := 8) hx hb hts in_X10_best_X6 hown hK hP 3 rfl rfl 6 (by decide) (hts (.fieldLink RX10 89 "MilkRound$Street" "size" "I") (List.mem_of_getElem? (i := 3) rfl)) (fun _ h9 => h9) rfl dX10_best_73 ?_
              refine n_icmp_ge (tgt := 89) hx hb dX10_best_76 (by decide) (by omega) (by omega) (fun c_76 => ?_) (fun c_76 => ?_)
              · refine lv_iconst (v := (-1)) hx hb dX10_best_89 (by decide) ?_
                have hP : va_P (dC, dI) vwCl (MW y a rn n lo kp dy so he kn (sBest n ak w) pl im lo2 dy2 so2 he2 kn2 u_51.2.1 kd len ord kh km pg len2 ord2 kh2 km2 u_51.1 tl u_51.2.2.1 u_51.2.2.2 lf wo) H := by
                  rw [sBest, show okW w = true from by unfold okW; rw [decide_eq_false c_4]; exact inT_mk c_10 c_15, if_neg (by have := of_decide_eq_false c_25; omega)]
                  exact hP
                exact c_iret hx hb hr hlocks hK hS u_51 hP ⟨by unfold rBest; rw [show okW w = true from by unfold okW; rw [decide_eq_false c_4]; exact inT_mk c_10 c_15, if_neg (by have := of_decide_eq_false c_25; omega), ek, nI_clamp (by omega), bvF, if_neg c_56, if_neg (by omega)]; rfl, hw_51.2⟩ dX10_best_90
              · refine lv_aload_n hx hb dX10_best_79 rfl (lv_at hl 3 rfl) ?_
                refine va_get (D := (dC, dI)) (ci := 10) (C := RX10) (T := TX10) (N := 12) hx hb hts in_X10_best_X10 hown hK hP 0 rfl rfl 7 (by decide) (hts (.fieldLink RX10 49 "MilkRound" "bestOrder" "[I") (List.mem_of_getElem? (i := 4) rfl)) (fun _ h9 => h9) rfl dX10_best_80 ?_
                refine lv_iload hx hb dX10_best_83 (lv_at hl 0 rfl) ?_
                refine n_iald hx hb hK hP 24 0 rfl rfl (by omega) (by decide) dX10_best_85 ?_
                refine lv_goto (tgt := 90) hx hb dX10_best_86 (by decide) ?_
                have hP : va_P (dC, dI) vwCl (MW y a rn n lo kp dy so he kn (sBest n ak w) pl im lo2 dy2 so2 he2 kn2 u_51.2.1 kd len ord kh km pg len2 ord2 kh2 km2 u_51.1 tl u_51.2.2.1 u_51.2.2.2 lf wo) H := by
                  rw [sBest, show okW w = true from by unfold okW; rw [decide_eq_false c_4]; exact inT_mk c_10 c_15, if_neg (by have := of_decide_eq_false c_25; omega)]
                  exact hP
                exact c_iret hx hb hr hlocks hK hS u_51 hP ⟨by unfold rBest; rw [show okW w = true from by unfold okW; rw [decide_eq_false c_4]; exact inT_mk c_10 c_15, if_neg (by have := of_decide_eq_false c_25; omega), ek, nI_clamp (by omega), bvF, if_neg c_56, if_pos (by omega), ← hw_51.1 _ (by omega)]; rfl, hw_51.2⟩ dX10_best_90
            · refine lv_iload_n hx hb dX10_best_59 rfl (lv_at hl 0 rfl) ?_
              have hP : va_P (dC, dI) vwCl (MW y a rn n lo kp dy so he kn (sBest n ak w) pl im lo2 dy2 so2 he2 kn2 u_51.2.1 kd len ord kh km pg len2 ord2 kh2 km2 u_51.1 tl u_51.2.2.1 u_51.2.2.2 lf wo) H := by
                rw [sBest, show okW w = true from by unfold okW; rw [decide_eq_false c_4]; exact inT_mk c_10 c_15, if_neg (by have := of_decide_eq_false c_25; omega)]
                exact hP
              exact c_iret hx hb hr hlocks hK hS u_51 hP ⟨by unfold rBest; rw [show okW w = true from by unfold okW; rw [decide_eq_false c_4]; exact inT_mk c_10 c_15, if_neg (by have := of_decide_eq_false c_25; omega), ek, nI_clamp (by omega), bvF, if_pos c_56]; rfl, hw_51.2⟩ dX10_best_60
          · refine lv_bipush (v := (-103)) hx hb dX10_best_37 (by decide) ?_
            have hP : va_P (dC, dI) vwCl (MW y a rn n lo kp dy so he kn (sBest n ak w) pl im lo2 dy2 so2 he2 kn2 ((cw, ma, tO, bO).2.1) kd len ord kh km pg len2 ord2 kh2 km2 ((cw, ma, tO, bO).1) tl ((cw, ma, tO, bO).2.2.1) ((cw, ma, tO, bO).2.2.2) lf wo) H := by
              rw [sBest, show okW w = true from by unfold okW; rw [decide_eq_false c_4]; exact inT_mk c_10 c_15, if_pos (Or.inr (by omega))]
              exact hP
            exact c_iret hx hb hr hlocks hK hS (cw, ma, tO, bO) hP ⟨by unfold rBest; rw [show okW w = true from by unfold okW; rw [decide_eq_false c_4]; exact inT_mk c_10 c_15, if_pos (Or.inr (by omega))]; rfl, hcw⟩ dX10_best_39
      · refine lv_bipush (v := (-102)) hx hb dX10_best_18 (by decide) ?_
        have hP : va_P (dC, dI) vwCl (MW y a rn n lo kp dy so he kn (sBest n ak w) pl im lo2 dy2 so2 he2 kn2 ((cw, ma, tO, bO).2.1) kd len ord kh km pg len2 ord2 kh2 km2 ((cw, ma, tO, bO).1) tl ((cw, ma, tO, bO).2.2.1) ((cw, ma, tO, bO).2.2.2) lf wo) s.heap := by
          rw [sBest, show okW w = false from by unfold okW; rw [decide_eq_false c_4]; exact inT_no2 c_15]
          exact hP
        exact c_iret hx hb hr hlocks hK hS (cw, ma, tO, bO) hP ⟨by unfold rBest; rw [show okW w = false from by unfold okW; rw [decide_eq_false c_4]; exact inT_no2 c_15]; rfl, hcw⟩ dX10_best_20
theorem in_X10_digest_X10 : ∀ w ∈ wsX100, w ∈ wsX10_digest := fun w h => List.mem_cons_of_mem _ (List.mem_append_left _ (List.mem_append_left _ (List.mem_append_left _ (List.mem_append_left _ (List.mem_append_left _ (List.mem_append_right _ h))))))
theorem in_X10_digest_X6 : ∀ w ∈ wsX60, w ∈ wsX10_digest := fun w h => List.mem_cons_of_mem _ (List.mem_append_left _ (List.mem_append_left _ (List.mem_append_left _ (List.mem_append_left _ (List.mem_append_right _ h)))))
theorem in_X10_digest_X4 : ∀ w ∈ wsX40, w ∈ wsX10_digest := fun w h => List.mem_cons_of_mem _ (List.mem_append_left _ (List.mem_append_left _ (List.mem_append_left _ (List.mem_append_right _ h))))
set_option maxHeartbeats 4000000 in
set_option maxRecDepth 100000 in
theorem k_X10_digest (l : Launch) (dC : Nat → ClassId) (dI : Nat → Nat → Nat) (y : Nat → ClassId) (A : Nat → Prop) (a : Nat → Nat) (hA0 : ad_ok A a 34) (xK : Nat → Nat) (xV : Nat → Nat) (rn : Nat) (n : Nat) (lo : Int32) (kp : Nat) (dy : Int32) (so : Int32) (he : Int32) (kn : Nat) (ak : Nat) (pl : Nat) (im : Bool) (lo2 : Int32) (dy2 : Int32) (so2 : Int32) (he2 : Int32) (kn2 : Nat) (ma : Nat) (kd : Nat → Nat) (len : Nat → Nat) (ord : Nat → Nat) (kh : Nat → Nat) (km : Nat → Nat) (pg : Nat → Nat) (len2 : Nat → Nat) (ord2 : Nat → Nat) (kh2 : Nat → Nat) (km2 : Nat → Nat) (cw : Nat → Nat) (tl : Nat → Nat) (tO : Nat → Nat) (bO : Nat → Nat) (lf : Nat → Nat → Nat) (wo : Nat → Nat) (hn : n ≤ 6) (hord : PermOn n ord) (hlen : ∀ j, len j ≤ 9) (hkd : ∀ j, kd j ≤ 4) (hcw : ∀ j, cw j ≤ 126) (hkp : kp ≤ 9) (hkn : kn ≤ 6) (hkh : ∀ i, i < kn → kh i < n) (hkm : ∀ i, km i ≤ 150) (htl : ∀ j, tl j ≤ 9) (hpl : pl ≤ 21) : Met l yX10_digest wsX10_digest ({ frames := 6, cells := 0, slots := 0, locals := 137 } : Room) (c_P (dC, dI) vwCl (TY y) (EV xK xV A) (MW y a rn n lo kp dy so he kn ak pl im lo2 dy2 so2 he2 kn2 ma kd len ord kh km pg len2 ord2 kh2 km2 cw tl tO bO lf wo) [.ref (a 0)]) (va_Ql (fun (r : Int64) (u : (Nat → Nat) × Nat × (Nat → Nat) × (Nat → Nat → Nat) × (Nat → Nat)) => r = rDigest n kp kd len lo ord dy so he kn kh km pl rn ak pg ∧ (∀ j, u.1 j ≤ 126) ∧ ∀ j, u.2.2.1 j ≤ 9) (c_B (dC, dI) vwCl (TY y) (fun (u : (Nat → Nat) × Nat × (Nat → Nat) × (Nat → Nat → Nat) × (Nat → Nat)) => (MW y a rn n lo kp dy so he kn ak pl im lo2 dy2 so2 he2 kn2 u.2.1 kd len ord kh km pg len2 ord2 kh2 km2 u.1 u.2.2.1 tO bO u.2.2.2.1 u.2.2.2.2))) A) 0 0 A := by
  refine Met.ofW (cc := cX10_digest) (maxL := 5) (ret := (some .long)) (by decide) rfl ?_
  intro p e s m args below meth c s₁ BB hml hv
  obtain ⟨rfl, hP, hK, hE⟩ := hv
  have hx := BB.exec
  have hb := BB.bytes
  have hr := BB.returns
  have hts := atoms_spec (ws := wsX10_digest) BB.pre
  have hown : s.vm.findClass RX10 = some m.cls := findClass_of_methodNamed BB.named
  have hlocks := BB.notSynchronized
  have hS : va_S A s.heap s.heap [] := va_S.rf
  have hl := lv_entry ([.ref (a 0)]) (n := 5) (Nat.le_of_ble_eq_true rfl)
  rw [lg_entry_eq]
  generalize (lg_sl ([.ref (a 0)]) ++ List.replicate (5 - (lg_sl ([.ref (a 0)])).length) Slot.unset).toArray = ls at hl ⊢
  have hl : lv_has ls 5 [(0, .ref (a 0))] := hl
  refine lv_ldc2 hx hb hown (hts (.constantLong RX10 189 (1087)) (List.mem_of_getElem? (i := 1) rfl)) dX10_digest_0 ?_
  refine lv_lstore_n (lv' := [(1, .long ((1087 : Int64))), (0, .ref (a 0))]) hx hb dX10_digest_3 rfl hl (by decide) rfl (fun ls hl => ?_)
  refine lv_iconst (v := nI (0)) hx hb dX10_digest_4 (by decide) ?_
  refine lv_istore_n (lv' := [(3, .int (nI (0))), (1, .long ((1087 : Int64))), (0, .ref (a 0))]) hx hb dX10_digest_5 rfl hl (by decide) rfl (fun ls hl => ?_)
  have loop_6 : ∀ (dd_6 : Nat) (e9 : Nat) (dv : Int64) (f : Nat → Nat) (m9 : Nat) (t9 : Nat → Nat) (hk : e9 ≤ n) (hdv : dv = fdH (hvF n kp kd len lo ord) 1087 e9) (hf : ∀ j, f j ≤ 126) (ht9 : ∀ j, t9 j ≤ 9), n - e9 < dd_6 → ∀ (H : Heap) (locs : List Loc) (ls : Array Slot), va_P (dC, dI) vwCl (MW y a rn n lo kp dy so he kn ak pl im lo2 dy2 so2 he2 kn2 m9 kd len ord kh km pg len2 ord2 kh2 km2 f t9 tO bO lf wo) H → va_S A s.heap H locs → lv_has ls 5 [(3, .int (nI (e9))), (1, .long (dv)), (0, .ref (a 0))] → W p l e (headSpec wsX10_digest ({ frames := 6, cells := 0, slots := 0, locals := 137 } : Room)).room s m [.ref (a 0)].toArray below meth c H locs 0 0 (MQ below (va_Ql (fun (r : Int64) (u : (Nat → Nat) × Nat × (Nat → Nat) × (Nat → Nat → Nat) × (Nat → Nat)) => r = rDigest n kp kd len lo ord dy so he kn kh km pl rn ak pg ∧ (∀ j, u.1 j ≤ 126) ∧ ∀ j, u.2.2.1 j ≤ 9) (c_B (dC, dI) vwCl (TY y) (fun (u : (Nat → Nat) × Nat × (Nat → Nat) × (Nat → Nat → Nat) × (Nat → Nat)) => (MW y a rn n lo kp dy so he kn ak pl im lo2 dy2 so2 he2 kn2 u.2.1 kd len ord kh km pg len2 ord2 kh2 km2 u.1 u.2.2.1 tO bO u.2.2.2.1 u.2.2.2.2))) A) [.ref (a 0)].toArray s 0 0 A) (F0 m 6 ls []) := by
    intro dd_6
    induction dd_6 with
    | zero => intro e9 dv f m9 t9 hk hdv hf ht9 hd; exact absurd hd (Nat.not_lt_zero _)
    | succ dd_6 ih_6 =>
      intro e9 dv f m9 t9 hk hdv hf ht9 hd_6 H locs ls hP hS hl
      refine lv_iload_n hx hb dX10_digest_6 rfl (lv_at hl 0 rfl) ?_
      refine lv_aload_n hx hb dX10_digest_7 rfl (lv_at hl 2 rfl) ?_
      refine va_get (D := (dC, dI)) (ci := 10) (C := RX10) (T := TX10) (N := 12) hx hb hts in_X10_digest_X10 hown hK hP 0 rfl rfl 1 (by decide) (hts (.fieldLink RX10 19 "MilkRound" "street" "LMilkRound$Street;") (List.mem_of_getElem? (i := 2) rfl)) (fun _ h9 => h9) rfl dX10_digest_8 ?_
      refine va_get (D := (dC, dI)) (ci := 6) (C := RX6) (T := TX6) (N := 8) hx hb hts in_X10_digest_X6 hown hK hP 3 rfl rfl 6 (by decide) (hts (.fieldLink RX10 89 "MilkRound$Street" "size" "I") (List.mem_of_getElem? (i := 3) rfl)) (fun _ h9 => h9) rfl dX10_digest_11 ?_
      refine n_icmp_ge (tgt := 54) hx hb dX10_digest_14 (by decide) (by omega) (by omega) (fun c_14 => ?_) (fun c_14 => ?_)
      · have hen : e9 = n := by omega
        have hdv9 : dv = fdH (hvF n kp kd len lo ord) 1087 n := by rw [hdv, hen]
        refine lv_aload_n hx hb dX10_digest_54 rfl (lv_at hl 2 rfl) ?_
        refine c_calli (va_runV (As := []) (rest := []) ⟨hx, hb, hml, hown, hts⟩ (k_X10_hasNoRound l dC dI y A a hA0 xK xV rn n lo kp dy so he kn ak pl im lo2 dy2 so2 he2 kn2 m9 kd len ord kh km pg len2 ord2 kh2 km2 f t9 tO bO lf wo  hn) (cwV 0 hts gX10_digest_X10_hasNoRound rfl rfl rfl (by decide +kernel) ⟨Nat.le_of_ble_eq_true rfl, Nat.le_of_ble_eq_true rfl⟩) (c_preV (evN xK xV A) hK hE hS hP (va_recv hK hP (ci := 10) (q0 := 0) rfl rfl)) rfl rfl hl.1 rfl (lv_room (Nat.le_of_ble_eq_true rfl)) dX10_digest_55 ⟨Nat.le_refl _, Nat.le_refl _⟩) hS (fun r_55 u_55 H locs hw_55 hP hS => ?_)
        obtain rfl := hw_55
        refine n_bif_ne (tgt := 97) hx hb dX10_digest_58 (by decide) (fun c_58 => ?_) (fun c_58 => ?_)
        · refine lv_iconst (v := nI (0)) hx hb dX10_digest_97 (by decide) ?_
          refine lv_istore_n (lv' := [(3, .int (nI (0))), (1, .long (dv)), (0, .ref (a 0))]) hx hb dX10_digest_98 rfl hl (by decide) rfl (fun ls hl => ?_)
          have loop_99 : ∀ (dd_99 : Nat) (k : Nat) (dk : Int64) (hk : k ≤ pl) (hdk : dk = fdL (fun k => nI (pg k)) (dgS n kd len ord kn kh km (fdH (hvF n kp kd len lo ord) 1087 n)) k), pl - k < dd_99 → ∀ (H : Heap) (locs : List Loc) (ls : Array Slot), va_P (dC, dI) vwCl (MW y a rn n lo kp dy so he kn ak pl im lo2 dy2 so2 he2 kn2 m9 kd len ord kh km pg len2 ord2 kh2 km2 f t9 tO bO lf wo) H → va_S A s.heap H locs → lv_has ls 5 [(3, .int (nI (k))), (1, .long (dk)), (0, .ref (a 0))] → W p l e (headSpec wsX10_digest ({ frames := 6, cells := 0, slots := 0, locals := 137 } : Room)).room s m [.ref (a 0)].toArray below meth c H locs 0 0 (MQ below (va_Ql (fun (r : Int64) (u : (Nat → Nat) × Nat × (Nat → Nat) × (Nat → Nat → Nat) × (Nat → Nat)) => r = rDigest n kp kd len lo ord dy so he kn kh km pl rn ak pg ∧ (∀ j, u.1 j ≤ 126) ∧ ∀ j, u.2.2.1 j ≤ 9) (c_B (dC, dI) vwCl (TY y) (fun (u : (Nat → Nat) × Nat × (Nat → Nat) × (Nat → Nat → Nat) × (Nat → Nat)) => (MW y a rn n lo kp dy so he kn ak pl im lo2 dy2 so2 he2 kn2 u.2.1 kd len ord kh km pg len2 ord2 kh2 km2 u.1 u.2.2.1 tO bO u.2.2.2.1 u.2.2.2.2))) A) [.ref (a 0)].toArray s 0 0 A) (F0 m 99 ls []) := by
            intro dd_99
            induction dd_99 with
            | zero => intro k dk hk hdk hd; exact absurd hd (Nat.not_lt_zero _)
            | succ dd_99 ih_99 =>
              intro k dk hk hdk hd_99 H locs ls hP hS hl
              refine lv_iload_n hx hb dX10_digest_99 rfl (lv_at hl 0 rfl) ?_
              refine lv_aload_n hx hb dX10_digest_100 rfl (lv_at hl 2 rfl) ?_
              refine va_get (D := (dC, dI)) (ci := 10) (C := RX10) (T := TX10) (N := 12) hx hb hts in_X10_digest_X10 hown hK hP 0 rfl rfl 0 (by decide) (hts (.fieldLink RX10 10 "MilkRound" "page" "LMilkRound$Page;") (List.mem_of_getElem? (i := 5) rfl)) (fun _ h9 => h9) rfl dX10_digest_101 ?_
              refine va_get (D := (dC, dI)) (ci := 4) (C := RX4) (T := TX4) (N := 2) hx hb hts in_X10_digest_X4 hown hK hP 1 rfl rfl 1 (by decide) (hts (.fieldLink RX10 74 "MilkRound$Page" "size" "I") (List.mem_of_getElem? (i := 6) rfl)) (fun _ h9 => h9) rfl dX10_digest_104 ?_
              refine n_icmp_ge (tgt := 133) hx hb dX10_digest_107 (by decide) (by omega) (by omega) (fun c_107 => ?_) (fun c_107 => ?_)
              · have hkp9 : k = pl := by omega
                refine lv_iconst (v := nI (0)) hx hb dX10_digest_133 (by decide) ?_
                refine lv_istore_n (lv' := [(3, .int (nI (0))), (1, .long (dk)), (0, .ref (a 0))]) hx hb dX10_digest_134 rfl hl (by decide) rfl (fun ls hl => ?_)
                have loop_135 : ∀ (dd_135 : Nat) (i : Nat) (di : Int64) (f3 : Nat → Nat) (m3 : Nat) (hi : i ≤ 12) (hdi : di = fdL (cvF n kp kd len lo ord dy so he kn pl rn ak) (fdL (fun k => nI (pg k)) (dgS n kd len ord kn kh km (fdH (hvF n kp kd len lo ord) 1087 n)) pl) i) (hf3 : ∀ j, f3 j ≤ 126), 12 - i < dd_135 → ∀ (H : Heap) (locs : List Loc) (ls : Array Slot), va_P (dC, dI) vwCl (MW y a rn n lo kp dy so he kn ak pl im lo2 dy2 so2 he2 kn2 m3 kd len ord kh km pg len2 ord2 kh2 km2 f3 t9 tO bO lf wo) H → va_S A s.heap H locs → lv_has ls 5 [(3, .int (nI (i))), (1, .long (di)), (0, .ref (a 0))] → W p l e (headSpec wsX10_digest ({ frames := 6, cells := 0, slots := 0, locals := 137 } : Room)).room s m [.ref (a 0)].toArray below meth c H locs 0 0 (MQ below (va_Ql (fun (r : Int64) (u : (Nat → Nat) × Nat × (Nat → Nat) × (Nat → Nat → Nat) × (Nat → Nat)) => r = rDigest n kp kd len lo ord dy so he kn kh km pl rn ak pg ∧ (∀ j, u.1 j ≤ 126) ∧ ∀ j, u.2.2.1 j ≤ 9) (c_B (dC, dI) vwCl (TY y) (fun (u : (Nat → Nat) × Nat × (Nat → Nat) × (Nat → Nat → Nat) × (Nat → Nat)) => (MW y a rn n lo kp dy so he kn ak pl im lo2 dy2 so2 he2 kn2 u.2.1 kd len ord kh km pg len2 ord2 kh2 km2 u.1 u.2.2.1 tO bO u.2.2.2.1 u.2.2.2.2))) A) [.ref (a 0)].toArray s 0 0 A) (F0 m 135 ls []) := by
                  intro dd_135
                  induction dd_135 with
                  | zero => intro i di f3 m3 hi hdi hf3 hd; exact absurd hd (Nat.not_lt_zero _)
                  | succ dd_135 ih_135 =>
                    intro i di f3 m3 hi hdi hf3 hd_135 H locs ls hP hS hl
                    refine lv_iload_n hx hb dX10_digest_135 rfl (lv_at hl 0 rfl) ?_
                    refine lv_bipush (v := nI (11)) hx hb dX10_digest_136 (by decide) ?_
                    refine n_icmp_gt (tgt := 160) hx hb dX10_digest_138 (by decide) (by omega) (by omega) (fun c_138 => ?_) (fun c_138 => ?_)
                    · refine lv_lload_n hx hb dX10_digest_160 rfl (lv_at hl 1 rfl) ?_
                      have hi9 : i = 12 := by omega
                      exact c_lret hx hb hr hlocks hK hS (f3, m3, t9, lf, wo) hP ⟨by rw [hdi, hi9]; rfl, hf3, ht9⟩ dX10_digest_161
                    · refine lv_ldc2 hx hb hown (hts (.constantLong RX10 191 (31)) (List.mem_of_getElem? (i := 4) rfl)) dX10_digest_141 ?_
                      refine lv_lload_n hx hb dX10_digest_144 rfl (lv_at hl 1 rfl) ?_
                      refine lv_lmul hx hb dX10_digest_145 ?_
                      refine lv_aload_n hx hb dX10_digest_146 rfl (lv_at hl 2 rfl) ?_
                      refine lv_iload_n hx hb dX10_digest_147 rfl (lv_at hl 0 rfl) ?_
                      refine c_calli (va_runV (As := [.int (nI (i))]) (rest := [.long ((31 : Int64) * di)]) ⟨hx, hb, hml, hown, hts⟩ (k_X10_toldOfAll l dC dI y A a hA0 xK xV rn n lo kp dy so he kn ak pl im lo2 dy2 so2 he2 kn2 m3 kd len ord kh km pg len2 ord2 kh2 km2 f3 t9 tO bO lf wo i hn hord hlen hkd hf3 hkp (by omega)) (cwV 1 hts gX10_digest_X10_toldOfAll rfl rfl rfl (by decide +kernel) ⟨Nat.le_of_ble_eq_true rfl, Nat.le_of_ble_eq_true rfl⟩) (c_preV (evN xK xV A) hK hE hS hP (va_recv hK hP (ci := 10) (q0 := 0) rfl rfl)) rfl rfl hl.1 rfl (lv_room (Nat.le_of_ble_eq_true rfl)) dX10_digest_148 ⟨Nat.le_refl _, Nat.le_refl _⟩) hS (fun r_148 u_148 H locs hw_148 hP hS => ?_)
                      have hP : va_P (dC, dI) vwCl (MW y a rn n lo kp dy so he kn ak pl im lo2 dy2 so2 he2 kn2 u_148.2 kd len ord kh km pg len2 ord2 kh2 km2 u_148.1 t9 tO bO lf wo) H := hP
                      obtain ⟨rfl, hw_148⟩ := hw_148
                      refine lv_i2l (v := (cvF n kp kd len lo ord dy so he kn pl rn ak i).toInt64) hx hb dX10_digest_151 rfl ?_
                      refine lv_ladd hx hb dX10_digest_152 ?_
                      refine lv_lstore_n (lv' := [(1, .long (((31 : Int64) * di) + ((cvF n kp kd len lo ord dy so he kn pl rn ak i).toInt64))), (3, .int (nI (i))), (0, .ref (a 0))]) hx hb dX10_digest_153 rfl hl (by decide) rfl (fun ls hl => ?_)
                      refine lv_iinc (v := nI (i + 1)) (lv' := [(3, .int (nI (i + 1))), (1, .long (((31 : Int64) * di) + ((cvF n kp kd len lo ord dy so he kn pl rn ak i).toInt64))), (0, .ref (a 0))]) hx hb dX10_digest_154 hl (k := 1) rfl (mr_inc _) (by decide) rfl (fun ls hl => ?_)
                      refine lv_goto (tgt := 135) hx hb dX10_digest_157 (by decide) ?_
                      exact ih_135 (i + 1) (mxL di ((cvF n kp kd len lo ord dy so he kn pl rn ak i).toInt64)) u_148.1 u_148.2 (by omega) (by rw [hdi]; rfl) hw_148 (by omega) _ _ _ hP hS (lv_sub hl [0, 1, 2] rfl)
                exact loop_135 _ 0 dk f m9 (Nat.zero_le _) (by show dk = _; rw [hdk, hkp9]; rfl) hf (Nat.lt_succ_self _) _ _ _ hP hS (lv_sub hl [0, 1, 2] rfl)
              · refine lv_ldc2 hx hb hown (hts (.constantLong RX10 191 (31)) (List.mem_of_getElem? (i := 4) rfl)) dX10_digest_110 ?_
                refine lv_lload_n hx hb dX10_digest_113 rfl (lv_at hl 1 rfl) ?_
                refine lv_lmul hx hb dX10_digest_114 ?_
                refine lv_aload_n hx hb dX10_digest_115 rfl (lv_at hl 2 rfl) ?_
                refine va_get (D := (dC, dI)) (ci := 10) (C := RX10) (T := TX10) (N := 12) hx hb hts in_X10_digest_X10 hown hK hP 0 rfl rfl 0 (by decide) (hts (.fieldLink RX10 10 "MilkRound" "page" "LMilkRound$Page;") (List.mem_of_getElem? (i := 5) rfl)) (fun _ h9 => h9) rfl dX10_digest_116 ?_
                refine va_get (D := (dC, dI)) (ci := 4) (C := RX4) (T := TX4) (N := 2) hx hb hts in_X10_digest_X4 hown hK hP 1 rfl rfl 0 (by decide) (hts (.fieldLink RX10 193 "MilkRound$Page" "signs" "[C") (List.mem_of_getElem? (i := 7) rfl)) (fun _ h9 => h9) rfl dX10_digest_119 ?_
                refine lv_iload_n hx hb dX10_digest_122 rfl (lv_at hl 0 rfl) ?_
                refine n_cald hx hb hK hP 2 2 rfl rfl (by omega) (by decide) dX10_digest_123 ?_
                refine lv_i2l (v := (nI (pg k)).toInt64) hx hb dX10_digest_124 rfl ?_
                refine lv_ladd hx hb dX10_digest_125 ?_
                refine lv_lstore_n (lv' := [(1, .long (((31 : Int64) * dk) + ((nI (pg k)).toInt64))), (3, .int (nI (k))), (0, .ref (a 0))]) hx hb dX10_digest_126 rfl hl (by decide) rfl (fun ls hl => ?_)
                refine lv_iinc (v := nI (k + 1)) (lv' := [(3, .int (nI (k + 1))), (1, .long (((31 : Int64) * dk) + ((nI (pg k)).toInt64))), (0, .ref (a 0))]) hx hb dX10_digest_127 hl (k := 1) rfl (mr_inc _) (by decide) rfl (fun ls hl => ?_)
                refine lv_goto (tgt := 99) hx hb dX10_digest_130 (by decide) ?_
                exact ih_99 (k + 1) (mxL dk ((nI (pg k)).toInt64)) (by omega) (by rw [hdk]; rfl) (by omega) _ _ _ hP hS (lv_sub hl [0, 1, 2] rfl)
          exact loop_99 _ 0 dv (Nat.zero_le _) (by show _ = dgS n kd len ord kn kh km _; rw [dgS, if_pos (of_decide_eq_true c_58), hdv, hen]) (Nat.lt_succ_self _) _ _ _ hP hS (lv_sub hl [0, 1, 2] rfl)
        · refine lv_ldc2 hx hb hown (hts (.constantLong RX10 191 (31)) (List.mem_of_getElem? (i := 4) rfl)) dX10_digest_61 ?_
          refine lv_lload_n hx hb dX10_digest_64 rfl (lv_at hl 1 rfl) ?_
          refine lv_lmul hx hb dX10_digest_65 ?_
          refine lv_aload_n hx hb dX10_digest_66 rfl (lv_at hl 2 rfl) ?_
          refine c_calli (va_runV (As := []) (rest := [.long ((31 : Int64) * dv)]) ⟨hx, hb, hml, hown, hts⟩ (k_X10_howManySets l dC dI y A a hA0 xK xV rn n lo kp dy so he kn ak pl im lo2 dy2 so2 he2 kn2 m9 kd len ord kh km pg len2 ord2 kh2 km2 f t9 tO bO lf wo  hn hord hlen hkd hf hkn hkh hkm) (cwV 0 hts gX10_digest_X10_howManySets rfl rfl rfl (by decide +kernel) ⟨Nat.le_of_ble_eq_true rfl, Nat.le_of_ble_eq_true rfl⟩) (c_preV (evN xK xV A) hK hE hS hP (va_recv hK hP (ci := 10) (q0 := 0) rfl rfl)) rfl rfl hl.1 rfl (lv_room (Nat.le_of_ble_eq_true rfl)) dX10_digest_67 ⟨Nat.le_refl _, Nat.le_refl _⟩) hS (fun r_67 u_67 H locs hw_67 hP hS => ?_)
          have hP : va_P (dC, dI) vwCl (MW y a rn n lo kp dy so he kn ak pl im lo2 dy2 so2 he2 kn2 u_67.2 kd len ord kh km pg len2 ord2 kh2 km2 u_67.1 t9 tO bO lf wo) H := hP
          obtain ⟨rfl, hw_67⟩ := hw_67
          refine lv_i2l (v := (nI (ctB (okS n kd len ord kn kh km) (2 ^ n))).toInt64) hx hb dX10_digest_70 rfl ?_
          refine lv_ladd hx hb dX10_digest_71 ?_
          refine lv_lstore_n (lv' := [(1, .long (((31 : Int64) * dv) + ((nI (ctB (okS n kd len ord kn kh km) (2 ^ n))).toInt64))), (3, .int (nI (e9))), (0, .ref (a 0))]) hx hb dX10_digest_72 rfl hl (by decide) rfl (fun ls hl => ?_)
          refine lv_ldc2 hx hb hown (hts (.constantLong RX10 191 (31)) (List.mem_of_getElem? (i := 4) rfl)) dX10_digest_73 ?_
          refine lv_lload_n hx hb dX10_digest_76 rfl (lv_at hl 0 rfl) ?_
          refine lv_lmul hx hb dX10_digest_77 ?_
          refine lv_aload_n hx hb dX10_digest_78 rfl (lv_at hl 2 rfl) ?_
          refine c_calli (va_runV (As := []) (rest := [.long ((31 : Int64) * (((31 : Int64) * dv) + ((nI (ctB (okS n kd len ord kn kh km) (2 ^ n))).toInt64)))]) ⟨hx, hb, hml, hown, hts⟩ (k_X10_leastSet l dC dI y A a hA0 xK xV rn n lo kp dy so he kn ak pl im lo2 dy2 so2 he2 kn2 u_67.2 kd len ord kh km pg len2 ord2 kh2 km2 u_67.1 t9 tO bO lf wo  hn hord hlen hkd hw_67 hkn hkh hkm) (cwV 0 hts gX10_digest_X10_leastSet rfl rfl rfl (by decide +kernel) ⟨Nat.le_of_ble_eq_true rfl, Nat.le_of_ble_eq_true rfl⟩) (c_preV (evN xK xV A) hK hE hS hP (va_recv hK hP (ci := 10) (q0 := 0) rfl rfl)) rfl rfl hl.1 rfl (lv_room (Nat.le_of_ble_eq_true rfl)) dX10_digest_79 ⟨Nat.le_refl _, Nat.le_refl _⟩) hS (fun r_79 u_79 H locs hw_79 hP hS => ?_)
          have hP : va_P (dC, dI) vwCl (MW y a rn n lo kp dy so he kn ak pl im lo2 dy2 so2 he2 kn2 u_79.2 kd len ord kh km pg len2 ord2 kh2 km2 u_79.1 t9 tO bO lf wo) H := hP
          obtain ⟨rfl, hw_79⟩ := hw_79
          refine lv_i2l (v := (lsF (okS n kd len ord kn kh km) 0 (2 ^ n)).toInt64) hx hb dX10_digest_82 rfl ?_
          refine lv_ladd hx hb dX10_digest_83 ?_
          refine lv_lstore_n (lv' := [(1, .long (((31 : Int64) * (((31 : Int64) * dv) + ((nI (ctB (okS n kd len ord kn kh km) (2 ^ n))).toInt64))) + ((lsF (okS n kd len ord kn kh km) 0 (2 ^ n)).toInt64))), (3, .int (nI (e9))), (0, .ref (a 0))]) hx hb dX10_digest_84 rfl hl (by decide) rfl (fun ls hl => ?_)
          refine lv_ldc2 hx hb hown (hts (.constantLong RX10 191 (31)) (List.mem_of_getElem? (i := 4) rfl)) dX10_digest_85 ?_
          refine lv_lload_n hx hb dX10_digest_88 rfl (lv_at hl 0 rfl) ?_
          refine lv_lmul hx hb dX10_digest_89 ?_
          refine lv_aload_n hx hb dX10_digest_90 rfl (lv_at hl 2 rfl) ?_
          refine c_calli (va_runV (As := []) (rest := [.long ((31 : Int64) * (((31 : Int64) * (((31 : Int64) * dv) + ((nI (ctB (okS n kd len ord kn kh km) (2 ^ n))).toInt64))) + ((lsF (okS n kd len ord kn kh km) 0 (2 ^ n)).toInt64)))]) ⟨hx, hb, hml, hown, hts⟩ (k_X10_houseToAsk l dC dI y A a hA0 xK xV rn n lo kp dy so he kn ak pl im lo2 dy2 so2 he2 kn2 u_79.2 kd len ord kh km pg len2 ord2 kh2 km2 u_79.1 t9 tO bO lf wo  hn hord hlen hkd hw_79 hkn hkh hkm (by have := of_decide_eq_false c_58; omega)) (cwV 0 hts gX10_digest_X10_houseToAsk rfl rfl rfl (by decide +kernel) ⟨Nat.le_of_ble_eq_true rfl, Nat.le_of_ble_eq_true rfl⟩) (c_preV (evN xK xV A) hK hE hS hP (va_recv hK hP (ci := 10) (q0 := 0) rfl rfl)) rfl rfl hl.1 rfl (lv_room (Nat.le_of_ble_eq_true rfl)) dX10_digest_91 ⟨Nat.le_refl _, Nat.le_refl _⟩) hS (fun r_91 u_91 H locs hw_91 hP hS => ?_)
          have hP : va_P (dC, dI) vwCl (MW y a rn n lo kp dy so he kn ak pl im lo2 dy2 so2 he2 kn2 u_91.2.1 kd len ord kh km pg len2 ord2 kh2 km2 u_91.1 t9 tO bO u_91.2.2.1 u_91.2.2.2) H := hP
          obtain ⟨rfl, hw_91⟩ := hw_91
          refine lv_i2l (v := (askF n kd len ord kn kh km).toInt64) hx hb dX10_digest_94 rfl ?_
          refine lv_ladd hx hb dX10_digest_95 ?_
          refine lv_lstore_n (lv' := [(1, .long (((31 : Int64) * (((31 : Int64) * (((31 : Int64) * dv) + ((nI (ctB (okS n kd len ord kn kh km) (2 ^ n))).toInt64))) + ((lsF (okS n kd len ord kn kh km) 0 (2 ^ n)).toInt64))) + ((askF n kd len ord kn kh km).toInt64))), (3, .int (nI (e9))), (0, .ref (a 0))]) hx hb dX10_digest_96 rfl hl (by decide) rfl (fun ls hl => ?_)
          refine lv_iconst (v := nI (0)) hx hb dX10_digest_97 (by decide) ?_
          refine lv_istore_n (lv' := [(3, .int (nI (0))), (1, .long (((31 : Int64) * (((31 : Int64) * (((31 : Int64) * dv) + ((nI (ctB (okS n kd len ord kn kh km) (2 ^ n))).toInt64))) + ((lsF (okS n kd len ord kn kh km) 0 (2 ^ n)).toInt64))) + ((askF n kd len ord kn kh km).toInt64))), (0, .ref (a 0))]) hx hb dX10_digest_98 rfl hl (by decide) rfl (fun ls hl => ?_)
          have loop_99 : ∀ (dd_99 : Nat) (k : Nat) (dk : Int64) (hk : k ≤ pl) (hdk : dk = fdL (fun k => nI (pg k)) (dgS n kd len ord kn kh km (fdH (hvF n kp kd len lo ord) 1087 n)) k), pl - k < dd_99 → ∀ (H : Heap) (locs : List Loc) (ls : Array Slot), va_P (dC, dI) vwCl (MW y a rn n lo kp dy so he kn ak pl im lo2 dy2 so2 he2 kn2 u_91.2.1 kd len ord kh km pg len2 ord2 kh2 km2 u_91.1 t9 tO bO u_91.2.2.1 u_91.2.2.2) H → va_S A s.heap H locs → lv_has ls 5 [(3, .int (nI (k))), (1, .long (dk)), (0, .ref (a 0))] → W p l e (headSpec wsX10_digest ({ frames := 6, cells := 0, slots := 0, locals := 137 } : Room)).room s m [.ref (a 0)].toArray below meth c H locs 0 0 (MQ below (va_Ql (fun (r : Int64) (u : (Nat → Nat) × Nat × (Nat → Nat) × (Nat → Nat → Nat) × (Nat → Nat)) => r = rDigest n kp kd len lo ord dy so he kn kh km pl rn ak pg ∧ (∀ j, u.1 j ≤ 126) ∧ ∀ j, u.2.2.1 j ≤ 9) (c_B (dC, dI) vwCl (TY y) (fun (u : (Nat → Nat) × Nat × (Nat → Nat) × (Nat → Nat → Nat) × (Nat → Nat)) => (MW y a rn n lo kp dy so he kn ak pl im lo2 dy2 so2 he2 kn2 u.2.1 kd len ord kh km pg len2 ord2 kh2 km2 u.1 u.2.2.1 tO bO u.2.2.2.1 u.2.2.2.2))) A) [.ref (a 0)].toArray s 0 0 A) (F0 m 99 ls []) := by
            intro dd_99
            induction dd_99 with
            | zero => intro k dk hk hdk hd; exact absurd hd (Nat.not_lt_zero _)
            | succ dd_99 ih_99 =>
              intro k dk hk hdk hd_99 H locs ls hP hS hl
              refine lv_iload_n hx hb dX10_digest_99 rfl (lv_at hl 0 rfl) ?_
              refine lv_aload_n hx hb dX10_digest_100 rfl (lv_at hl 2 rfl) ?_
              refine va_get (D := (dC, dI)) (ci := 10) (C := RX10) (T := TX10) (N := 12) hx hb hts in_X10_digest_X10 hown hK hP 0 rfl rfl 0 (by decide) (hts (.fieldLink RX10 10 "MilkRound" "page" "LMilkRound$Page;") (List.mem_of_getElem? (i := 5) rfl)) (fun _ h9 => h9) rfl dX10_digest_101 ?_
              refine va_get (D := (dC, dI)) (ci := 4) (C := RX4) (T := TX4) (N := 2) hx hb hts in_X10_digest_X4 hown hK hP 1 rfl rfl 1 (by decide) (hts (.fieldLink RX10 74 "MilkRound$Page" "size" "I") (List.mem_of_getElem? (i := 6) rfl)) (fun _ h9 => h9) rfl dX10_digest_104 ?_
              refine n_icmp_ge (tgt := 133) hx hb dX10_digest_107 (by decide) (by omega) (by omega) (fun c_107 => ?_) (fun c_107 => ?_)
              · have hkp9 : k = pl := by omega
                refine lv_iconst (v := nI (0)) hx hb dX10_digest_133 (by decide) ?_
                refine lv_istore_n (lv' := [(3, .int (nI (0))), (1, .long (dk)), (0, .ref (a 0))]) hx hb dX10_digest_134 rfl hl (by decide) rfl (fun ls hl => ?_)
                have loop_135 : ∀ (dd_135 : Nat) (i : Nat) (di : Int64) (f3 : Nat → Nat) (m3 : Nat) (hi : i ≤ 12) (hdi : di = fdL (cvF n kp kd len lo ord dy so he kn pl rn ak) (fdL (fun k => nI (pg k)) (dgS n kd len ord kn kh km (fdH (hvF n kp kd len lo ord) 1087 n)) pl) i) (hf3 : ∀ j, f3 j ≤ 126), 12 - i < dd_135 → ∀ (H : Heap) (locs : List Loc) (ls : Array Slot), va_P (dC, dI) vwCl (MW y a rn n lo kp dy so he kn ak pl im lo2 dy2 so2 he2 kn2 m3 kd len ord kh km pg len2 ord2 kh2 km2 f3 t9 tO bO u_91.2.2.1 u_91.2.2.2) H → va_S A s.heap H locs → lv_has ls 5 [(3, .int (nI (i))), (1, .long (di)), (0, .ref (a 0))] → W p l e (headSpec wsX10_digest ({ frames := 6, cells := 0, slots := 0, locals := 137 } : Room)).room s m [.ref (a 0)].toArray below meth c H locs 0 0 (MQ below (va_Ql (fun (r : Int64) (u : (Nat → Nat) × Nat × (Nat → Nat) × (Nat → Nat → Nat) × (Nat → Nat)) => r = rDigest n kp kd len lo ord dy so he kn kh km pl rn ak pg ∧ (∀ j, u.1 j ≤ 126) ∧ ∀ j, u.2.2.1 j ≤ 9) (c_B (dC, dI) vwCl (TY y) (fun (u : (Nat → Nat) × Nat × (Nat → Nat) × (Nat → Nat → Nat) × (Nat → Nat)) => (MW y a rn n lo kp dy so he kn ak pl im lo2 dy2 so2 he2 kn2 u.2.1 kd len ord kh km pg len2 ord2 kh2 km2 u.1 u.2.2.1 tO bO u.2.2.2.1 u.2.2.2.2))) A) [.ref (a 0)].toArray s 0 0 A) (F0 m 135 ls []) := by
                  intro dd_135
                  induction dd_135 with
                  | zero => intro i di f3 m3 hi hdi hf3 hd; exact absurd hd (Nat.not_lt_zero _)
                  | succ dd_135 ih_135 =>
                    intro i di f3 m3 hi hdi hf3 hd_135 H locs ls hP hS hl
                    refine lv_iload_n hx hb dX10_digest_135 rfl (lv_at hl 0 rfl) ?_
                    refine lv_bipush (v := nI (11)) hx hb dX10_digest_136 (by decide) ?_
                    refine n_icmp_gt (tgt := 160) hx hb dX10_digest_138 (by decide) (by omega) (by omega) (fun c_138 => ?_) (fun c_138 => ?_)
                    · refine lv_lload_n hx hb dX10_digest_160 rfl (lv_at hl 1 rfl) ?_
                      have hi9 : i = 12 := by omega
                      exact c_lret hx hb hr hlocks hK hS (f3, m3, t9, u_91.2.2.1, u_91.2.2.2) hP ⟨by rw [hdi, hi9]; rfl, hf3, ht9⟩ dX10_digest_161
                    · refine lv_ldc2 hx hb hown (hts (.constantLong RX10 191 (31)) (List.mem_of_getElem? (i := 4) rfl)) dX10_digest_141 ?_
                      refine lv_lload_n hx hb dX10_digest_144 rfl (lv_at hl 1 rfl) ?_
                      refine lv_lmul hx hb dX10_digest_145 ?_
                      refine lv_aload_n hx hb dX10_digest_146 rfl (lv_at hl 2 rfl) ?_
                      refine lv_iload_n hx hb dX10_digest_147 rfl (lv_at hl 0 rfl) ?_
                      refine c_calli (va_runV (As := [.int (nI (i))]) (rest := [.long ((31 : Int64) * di)]) ⟨hx, hb, hml, hown, hts⟩ (k_X10_toldOfAll l dC dI y A a hA0 xK xV rn n lo kp dy so he kn ak pl im lo2 dy2 so2 he2 kn2 m3 kd len ord kh km pg len2 ord2 kh2 km2 f3 t9 tO bO u_91.2.2.1 u_91.2.2.2 i hn hord hlen hkd hf3 hkp (by omega)) (cwV 1 hts gX10_digest_X10_toldOfAll rfl rfl rfl (by decide +kernel) ⟨Nat.le_of_ble_eq_true rfl, Nat.le_of_ble_eq_true rfl⟩) (c_preV (evN xK xV A) hK hE hS hP (va_recv hK hP (ci := 10) (q0 := 0) rfl rfl)) rfl rfl hl.1 rfl (lv_room (Nat.le_of_ble_eq_true rfl)) dX10_digest_148 ⟨Nat.le_refl _, Nat.le_refl _⟩) hS (fun r_148 u_148 H locs hw_148 hP hS => ?_)
                      have hP : va_P (dC, dI) vwCl (MW y a rn n lo kp dy so he kn ak pl im lo2 dy2 so2 he2 kn2 u_148.2 kd len ord kh km pg len2 ord2 kh2 km2 u_148.1 t9 tO bO u_91.2.2.1 u_91.2.2.2) H := hP
                      obtain ⟨rfl, hw_148⟩ := hw_148
                      refine lv_i2l (v := (cvF n kp kd len lo ord dy so he kn pl rn ak i).toInt64) hx hb dX10_digest_151 rfl ?_
                      refine lv_ladd hx hb dX10_digest_152 ?_
                      refine lv_lstore_n (lv' := [(1, .long (((31 : Int64) * di) + ((cvF n kp kd len lo ord dy so he kn pl rn ak i).toInt64))), (3, .int (nI (i))), (0, .ref (a 0))]) hx hb dX10_digest_153 rfl hl (by decide) rfl (fun ls hl => ?_)
                      refine lv_iinc (v := nI (i + 1)) (lv' := [(3, .int (nI (i + 1))), (1, .long (((31 : Int64) * di) + ((cvF n kp kd len lo ord dy so he kn pl rn ak i).toInt64))), (0, .ref (a 0))]) hx hb dX10_digest_154 hl (k := 1) rfl (mr_inc _) (by decide) rfl (fun ls hl => ?_)
                      refine lv_goto (tgt := 135) hx hb dX10_digest_157 (by decide) ?_
                      exact ih_135 (i + 1) (mxL di ((cvF n kp kd len lo ord dy so he kn pl rn ak i).toInt64)) u_148.1 u_148.2 (by omega) (by rw [hdi]; rfl) hw_148 (by omega) _ _ _ hP hS (lv_sub hl [0, 1, 2] rfl)
                exact loop_135 _ 0 dk u_91.1 u_91.2.1 (Nat.zero_le _) (by show dk = _; rw [hdk, hkp9]; rfl) hw_91 (Nat.lt_succ_self _) _ _ _ hP hS (lv_sub hl [0, 1, 2] rfl)
              · refine lv_ldc2 hx hb hown (hts (.constantLong RX10 191 (31)) (List.mem_of_getElem? (i := 4) rfl)) dX10_digest_110 ?_
                refine lv_lload_n hx hb dX10_digest_113 rfl (lv_at hl 1 rfl) ?_
                refine lv_lmul hx hb dX10_digest_114 ?_
                refine lv_aload_n hx hb dX10_digest_115 rfl (lv_at hl 2 rfl) ?_
                refine va_get (D := (dC, dI)) (ci := 10) (C := RX10) (T := TX10) (N := 12) hx hb hts in_X10_digest_X10 hown hK hP 0 rfl rfl 0 (by decide) (hts (.fieldLink RX10 10 "MilkRound" "page" "LMilkRound$Page;") (List.mem_of_getElem? (i := 5) rfl)) (fun _ h9 => h9) rfl dX10_digest_116 ?_
                refine va_get (D := (dC, dI)) (ci := 4) (C := RX4) (T := TX4) (N := 2) hx hb hts in_X10_digest_X4 hown hK hP 1 rfl rfl 0 (by decide) (hts (.fieldLink RX10 193 "MilkRound$Page" "signs" "[C") (List.mem_of_getElem? (i := 7) rfl)) (fun _ h9 => h9) rfl dX10_digest_119 ?_
                refine lv_iload_n hx hb dX10_digest_122 rfl (lv_at hl 0 rfl) ?_
                refine n_cald hx hb hK hP 2 2 rfl rfl (by omega) (by decide) dX10_digest_123 ?_
                refine lv_i2l (v := (nI (pg k)).toInt64) hx hb dX10_digest_124 rfl ?_
                refine lv_ladd hx hb dX10_digest_125 ?_
                refine lv_lstore_n (lv' := [(1, .long (((31 : Int64) * dk) + ((nI (pg k)).toInt64))), (3, .int (nI (k))), (0, .ref (a 0))]) hx hb dX10_digest_126 rfl hl (by decide) rfl (fun ls hl => ?_)
                refine lv_iinc (v := nI (k + 1)) (lv' := [(3, .int (nI (k + 1))), (1, .long (((31 : Int64) * dk) + ((nI (pg k)).toInt64))), (0, .ref (a 0))]) hx hb dX10_digest_127 hl (k := 1) rfl (mr_inc _) (by decide) rfl (fun ls hl => ?_)
                refine lv_goto (tgt := 99) hx hb dX10_digest_130 (by decide) ?_
                exact ih_99 (k + 1) (mxL dk ((nI (pg k)).toInt64)) (by omega) (by rw [hdk]; rfl) (by omega) _ _ _ hP hS (lv_sub hl [0, 1, 2] rfl)
          exact loop_99 _ 0 (((31 : Int64) * (((31 : Int64) * (((31 : Int64) * dv) + ((nI (ctB (okS n kd len ord kn kh km) (2 ^ n))).toInt64))) + ((lsF (okS n kd len ord kn kh km) 0 (2 ^ n)).toInt64))) + ((askF n kd len ord kn kh km).toInt64)) (Nat.zero_le _) (by show _ = dgS n kd len ord kn kh km _; rw [dgS, if_neg (of_decide_eq_false c_58), ← hdv9]; rfl) (Nat.lt_succ_self _) _ _ _ hP hS (lv_sub hl [0, 1, 2] rfl)
      · refine lv_iconst (v := nI (0)) hx hb dX10_digest_17 (by decide) ?_
        refine lv_istore (lv' := [(4, .int (nI (0))), (3, .int (nI (e9))), (1, .long (dv)), (0, .ref (a 0))]) hx hb dX10_digest_18 hl (by decide) rfl (fun ls hl => ?_)
        have loop_20 : ∀ (dd_20 : Nat) (w : Nat) (dw : Int64) (f2 : Nat → Nat) (m2 : Nat) (t2 : Nat → Nat) (hw : w ≤ 9) (hdw : dw = fdL (hvF n kp kd len lo ord e9) dv w) (hf2 : ∀ j, f2 j ≤ 126) (ht2 : ∀ j, t2 j ≤ 9), 9 - w < dd_20 → ∀ (H : Heap) (locs : List Loc) (ls : Array Slot), va_P (dC, dI) vwCl (MW y a rn n lo kp dy so he kn ak pl im lo2 dy2 so2 he2 kn2 m2 kd len ord kh km pg len2 ord2 kh2 km2 f2 t2 tO bO lf wo) H → va_S A s.heap H locs → lv_has ls 5 [(4, .int (nI (w))), (3, .int (nI (e9))), (1, .long (dw)), (0, .ref (a 0))] → W p l e (headSpec wsX10_digest ({ frames := 6, cells := 0, slots := 0, locals := 137 } : Room)).room s m [.ref (a 0)].toArray below meth c H locs 0 0 (MQ below (va_Ql (fun (r : Int64) (u : (Nat → Nat) × Nat × (Nat → Nat) × (Nat → Nat → Nat) × (Nat → Nat)) => r = rDigest n kp kd len lo ord dy so he kn kh km pl rn ak pg ∧ (∀ j, u.1 j ≤ 126) ∧ ∀ j, u.2.2.1 j ≤ 9) (c_B (dC, dI) vwCl (TY y) (fun (u : (Nat → Nat) × Nat × (Nat → Nat) × (Nat → Nat → Nat) × (Nat → Nat)) => (MW y a rn n lo kp dy so he kn ak pl im lo2 dy2 so2 he2 kn2 u.2.1 kd len ord kh km pg len2 ord2 kh2 km2 u.1 u.2.2.1 tO bO u.2.2.2.1 u.2.2.2.2))) A) [.ref (a 0)].toArray s 0 0 A) (F0 m 20 ls []) := by
          intro dd_20
          induction dd_20 with
          | zero => intro w dw f2 m2 t2 hw hdw hf2 ht2 hd; exact absurd hd (Nat.not_lt_zero _)
          | succ dd_20 ih_20 =>
            intro w dw f2 m2 t2 hw hdw hf2 ht2 hd_20 H locs ls hP hS hl
            refine lv_iload hx hb dX10_digest_20 (lv_at hl 0 rfl) ?_
            refine lv_bipush (v := nI (8)) hx hb dX10_digest_22 (by decide) ?_
            refine n_icmp_gt (tgt := 48) hx hb dX10_digest_24 (by decide) (by omega) (by omega) (fun c_24 => ?_) (fun c_24 => ?_)
            · refine lv_iinc (v := nI (e9 + 1)) (lv' := [(3, .int (nI (e9 + 1))), (4, .int (nI (w))), (1, .long (dw)), (0, .ref (a 0))]) hx hb dX10_digest_48 hl (k := 1) rfl (mr_inc _) (by decide) rfl (fun ls hl => ?_)
              refine lv_goto (tgt := 6) hx hb dX10_digest_51 (by decide) ?_
              have hw9 : w = 9 := by omega
              exact ih_6 (e9 + 1) dw f2 m2 t2 (by omega) (by rw [hdw, hw9, hdv]; rfl) hf2 ht2 (by omega) _ _ _ hP hS (lv_sub hl [0, 2, 3] rfl)
            · refine lv_ldc2 hx hb hown (hts (.constantLong RX10 191 (31)) (List.mem_of_getElem? (i := 4) rfl)) dX10_digest_27 ?_
              refine lv_lload_n hx hb dX10_digest_30 rfl (lv_at hl 2 rfl) ?_
              refine lv_lmul hx hb dX10_digest_31 ?_
              refine lv_aload_n hx hb dX10_digest_32 rfl (lv_at hl 3 rfl) ?_
              refine lv_iload_n hx hb dX10_digest_33 rfl (lv_at hl 1 rfl) ?_
              refine lv_iload hx hb dX10_digest_34 (lv_at hl 0 rfl) ?_
              refine c_calli (va_runV (As := [.int (nI (e9)), .int (nI (w))]) (rest := [.long ((31 : Int64) * dw)]) ⟨hx, hb, hml, hown, hts⟩ (k_X10_toldOfHouse l dC dI y A a hA0 xK xV rn n lo kp dy so he kn ak pl im lo2 dy2 so2 he2 kn2 m2 kd len ord kh km pg len2 ord2 kh2 km2 f2 t2 tO bO lf wo e9 w hn hord hlen hkd hf2 hkp ht2 (by omega) (by omega)) (cwV 2 hts gX10_digest_X10_toldOfHouse rfl rfl rfl (by decide +kernel) ⟨Nat.le_of_ble_eq_true rfl, Nat.le_of_ble_eq_true rfl⟩) (c_preV (evN xK xV A) hK hE hS hP (va_recv hK hP (ci := 10) (q0 := 0) rfl rfl)) rfl rfl hl.1 rfl (lv_room (Nat.le_of_ble_eq_true rfl)) dX10_digest_36 ⟨Nat.le_refl _, Nat.le_refl _⟩) hS (fun r_36 u_36 H locs hw_36 hP hS => ?_)
              have hP : va_P (dC, dI) vwCl (MW y a rn n lo kp dy so he kn ak pl im lo2 dy2 so2 he2 kn2 u_36.2.1 kd len ord kh km pg len2 ord2 kh2 km2 u_36.1 u_36.2.2 tO bO lf wo) H := hP
              obtain ⟨rfl, hw_36⟩ := hw_36
              refine lv_i2l (v := (hvF n kp kd len lo ord e9 w).toInt64) hx hb dX10_digest_39 rfl ?_
              refine lv_ladd hx hb dX10_digest_40 ?_
              refine lv_lstore_n (lv' := [(1, .long (((31 : Int64) * dw) + ((hvF n kp kd len lo ord e9 w).toInt64))), (4, .int (nI (w))), (3, .int (nI (e9))), (0, .ref (a 0))]) hx hb dX10_digest_41 rfl hl (by decide) rfl (fun ls hl => ?_)
              refine lv_iinc (v := nI (w + 1)) (lv' := [(4, .int (nI (w + 1))), (1, .long (((31 : Int64) * dw) + ((hvF n kp kd len lo ord e9 w).toInt64))), (3, .int (nI (e9))), (0, .ref (a 0))]) hx hb dX10_digest_42 hl (k := 1) rfl (mr_inc _) (by decide) rfl (fun ls hl => ?_)
              refine lv_goto (tgt := 20) hx hb dX10_digest_45 (by decide) ?_
              exact ih_20 (w + 1) (mxL dw ((hvF n kp kd len lo ord e9 w).toInt64)) u_36.1 u_36.2.1 u_36.2.2 (by omega) (by rw [hdw]; rfl) hw_36.1 hw_36.2 (by omega) _ _ _ hP hS (lv_sub hl [0, 2, 1, 3] rfl)
        exact loop_20 _ 0 dv f m9 t9 (Nat.zero_le _) rfl hf ht9 (Nat.lt_succ_self _) _ _ _ hP hS (lv_sub hl [0, 1, 2, 3] rfl)
  exact loop_6 _ 0 1087 cw ma tl (Nat.zero_le _) rfl hcw htl (Nat.lt_succ_self _) _ _ _ hP hS (lv_sub hl [0, 1, 2] rfl)
