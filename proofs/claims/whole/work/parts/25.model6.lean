theorem in_X11_change_X11 : ∀ w ∈ wsX110, w ∈ wsX11_change := fun w h => List.mem_cons_of_mem _ (List.mem_append_right _ h)
set_option maxHeartbeats 4000000 in
set_option maxRecDepth 100000 in
theorem k_X11_change (l : Launch) (dC : Nat → ClassId) (dI : Nat → Nat → Nat) (y : Nat → ClassId) (A : Nat → Prop) (b : Nat → Nat) (hA0 : ad_ok A b 16) (rn : Nat) (n : Nat) (lo : Int32) (kp : Nat) (dy : Int32) (so : Int32) (he : Int32) (kn : Nat) (ak : Nat) (pl : Nat) (iw : Bool) (nm : Nat) (sd : Int64) (ik : Bool) (kr : Nat) (lo2 : Int32) (dy2 : Int32) (so2 : Int32) (he2 : Int32) (kn2 : Nat) (dgv : Int64) (kd : Nat → Nat) (len : Nat → Nat) (ord : Nat → Nat) (kh : Nat → Nat) (km : Nat → Nat) (pg : Nat → Nat) (cm : Nat → Nat) (sav : Nat → Nat) (bo : Nat → Nat) (cb : Nat → Nat) (sl : Nat → Nat) (len2 : Nat → Nat) (ord2 : Nat → Nat) (kh2 : Nat → Nat) (km2 : Nat → Nat) (i : Nat) (j : Nat) (hi : i < 6) (hj : j < 6) : Met l yX11_change wsX11_change ({ frames := 0, cells := 0, slots := 0, locals := 0 } : Room) (c_P (dC, dI) vwCl (TY y) (fun _ => True) (DW y b rn n lo kp dy so he kn ak pl iw nm sd ik kr lo2 dy2 so2 he2 kn2 dgv kd len ord kh km pg cm sav bo cb sl len2 ord2 kh2 km2) [.ref (b 0), .int (nI (i)), .int (nI (j))]) (va_Qv (fun (u : Unit) => True) (c_B (dC, dI) vwCl (TY y) (fun (u : Unit) => (DW y b rn n lo kp dy so he kn ak pl iw nm sd ik kr lo2 dy2 so2 he2 kn2 dgv kd len (swF ord i j) kh km pg cm sav bo cb sl len2 ord2 kh2 km2))) A) 0 0 A := by
  refine Met.ofW (cc := cX11_change) (maxL := 4) (ret := none) (by decide) rfl ?_
  intro p e s m args below meth c s₁ BB hml hv
  obtain ⟨rfl, hP, hK, hE⟩ := hv
  have hx := BB.exec
  have hb := BB.bytes
  have hr := BB.returns
  have hts := atoms_spec (ws := wsX11_change) BB.pre
  have hown : s.vm.findClass RX11 = some m.cls := findClass_of_methodNamed BB.named
  have hlocks := BB.notSynchronized
  have hS : va_S A s.heap s.heap [] := va_S.rf
  have hl := lv_entry ([.ref (b 0), .int (nI (i)), .int (nI (j))]) (n := 4) (Nat.le_of_ble_eq_true rfl)
  rw [lg_entry_eq]
  generalize (lg_sl ([.ref (b 0), .int (nI (i)), .int (nI (j))]) ++ List.replicate (4 - (lg_sl ([.ref (b 0), .int (nI (i)), .int (nI (j))])).length) Slot.unset).toArray = ls at hl ⊢
  have hl : lv_has ls 4 [(0, .ref (b 0)), (1, .int (nI (i))), (2, .int (nI (j)))] := hl
  refine lv_aload_n hx hb dX11_change_0 rfl (lv_at hl 0 rfl) ?_
  refine va_get (D := (dC, dI)) (ci := 11) (C := RX11) (T := TX11) (N := 36) hx hb hts in_X11_change_X11 hown hK hP 0 rfl rfl 4 (by decide) (hts (.fieldLink RX11 16 "MilkRoundModel" "orderAt" "[I") (List.mem_of_getElem? (i := 1) rfl)) (fun _ h9 => h9) rfl dX11_change_1 ?_
  refine lv_iload_n hx hb dX11_change_4 rfl (lv_at hl 1 rfl) ?_
  refine n_iald hx hb hK hP 3 0 rfl rfl (by omega) (by decide) dX11_change_5 ?_
  refine lv_istore_n (lv' := [(3, .int (nI (ord i))), (0, .ref (b 0)), (1, .int (nI (i))), (2, .int (nI (j)))]) hx hb dX11_change_6 rfl hl (by decide) rfl (fun ls hl => ?_)
  refine lv_aload_n hx hb dX11_change_7 rfl (lv_at hl 1 rfl) ?_
  refine va_get (D := (dC, dI)) (ci := 11) (C := RX11) (T := TX11) (N := 36) hx hb hts in_X11_change_X11 hown hK hP 0 rfl rfl 4 (by decide) (hts (.fieldLink RX11 16 "MilkRoundModel" "orderAt" "[I") (List.mem_of_getElem? (i := 1) rfl)) (fun _ h9 => h9) rfl dX11_change_8 ?_
  refine lv_iload_n hx hb dX11_change_11 rfl (lv_at hl 2 rfl) ?_
  refine lv_aload_n hx hb dX11_change_12 rfl (lv_at hl 1 rfl) ?_
  refine va_get (D := (dC, dI)) (ci := 11) (C := RX11) (T := TX11) (N := 36) hx hb hts in_X11_change_X11 hown hK hP 0 rfl rfl 4 (by decide) (hts (.fieldLink RX11 16 "MilkRoundModel" "orderAt" "[I") (List.mem_of_getElem? (i := 1) rfl)) (fun _ h9 => h9) rfl dX11_change_13 ?_
  refine lv_iload_n hx hb dX11_change_16 rfl (lv_at hl 3 rfl) ?_
  refine n_iald hx hb hK hP 3 0 rfl rfl (by omega) (by decide) dX11_change_17 ?_
  refine n_iast hx hb hK hP (ad_D hA0 rfl) hS 3 0 rfl rfl (by omega) (by decide) dX11_change_18 (fun H locs hP hS => ?_)
  have hP : va_P (dC, dI) vwCl (DW y b rn n lo kp dy so he kn ak pl iw nm sd ik kr lo2 dy2 so2 he2 kn2 dgv kd len (va_up ord i (ord j)) kh km pg cm sav bo cb sl len2 ord2 kh2 km2) H := hP
  refine lv_aload_n hx hb dX11_change_19 rfl (lv_at hl 1 rfl) ?_
  refine va_get (D := (dC, dI)) (ci := 11) (C := RX11) (T := TX11) (N := 36) hx hb hts in_X11_change_X11 hown hK hP 0 rfl rfl 4 (by decide) (hts (.fieldLink RX11 16 "MilkRoundModel" "orderAt" "[I") (List.mem_of_getElem? (i := 1) rfl)) (fun _ h9 => h9) rfl dX11_change_20 ?_
  refine lv_iload_n hx hb dX11_change_23 rfl (lv_at hl 3 rfl) ?_
  refine lv_iload_n hx hb dX11_change_24 rfl (lv_at hl 0 rfl) ?_
  refine n_iast hx hb hK hP (ad_D hA0 rfl) hS 3 0 rfl rfl (by omega) (by decide) dX11_change_25 (fun H locs hP hS => ?_)
  have hP : va_P (dC, dI) vwCl (DW y b rn n lo kp dy so he kn ak pl iw nm sd ik kr lo2 dy2 so2 he2 kn2 dgv kd len (va_up (va_up ord i (ord j)) j (ord i)) kh km pg cm sav bo cb sl len2 ord2 kh2 km2) H := hP
  exact c_vret hx hb hr hlocks hK hS () hP trivial dX11_change_26
theorem in_X11_nextOrder_X11 : ∀ w ∈ wsX110, w ∈ wsX11_nextOrder := fun w h => List.mem_cons_of_mem _ (List.mem_append_right _ h)
set_option maxHeartbeats 4000000 in
set_option maxRecDepth 100000 in
theorem k_X11_nextOrder (l : Launch) (dC : Nat → ClassId) (dI : Nat → Nat → Nat) (y : Nat → ClassId) (A : Nat → Prop) (b : Nat → Nat) (hA0 : ad_ok A b 16) (rn : Nat) (n : Nat) (lo : Int32) (kp : Nat) (dy : Int32) (so : Int32) (he : Int32) (kn : Nat) (ak : Nat) (pl : Nat) (iw : Bool) (nm : Nat) (sd : Int64) (ik : Bool) (kr : Nat) (lo2 : Int32) (dy2 : Int32) (so2 : Int32) (he2 : Int32) (kn2 : Nat) (dgv : Int64) (kd : Nat → Nat) (len : Nat → Nat) (ord : Nat → Nat) (kh : Nat → Nat) (km : Nat → Nat) (pg : Nat → Nat) (cm : Nat → Nat) (sav : Nat → Nat) (bo : Nat → Nat) (cb : Nat → Nat) (sl : Nat → Nat) (len2 : Nat → Nat) (ord2 : Nat → Nat) (kh2 : Nat → Nat) (km2 : Nat → Nat) (hn2 : 2 ≤ n) (hn : n ≤ 6) (hord : PermOn n ord) : Met l yX11_nextOrder wsX11_nextOrder ({ frames := 1, cells := 0, slots := 0, locals := 23 } : Room) (c_P (dC, dI) vwCl (TY y) (fun _ => True) (DW y b rn n lo kp dy so he kn ak pl iw nm sd ik kr lo2 dy2 so2 he2 kn2 dgv kd len ord kh km pg cm sav bo cb sl len2 ord2 kh2 km2) [.ref (b 0)]) (va_Qi (fun (r : Int32) (u : Unit) => r = bI (decide (¬ dnF ord (n - 1) = 0))) (c_B (dC, dI) vwCl (TY y) (fun (u : Unit) => (DW y b rn n lo kp dy so he kn ak pl iw nm sd ik kr lo2 dy2 so2 he2 kn2 dgv kd len (nxO n ord) kh km pg cm sav bo cb sl len2 ord2 kh2 km2))) A) 0 0 A := by
  refine Met.ofW (cc := cX11_nextOrder) (maxL := 5) (ret := (some .boolean)) (by decide) rfl ?_
  intro p e s m args below meth c s₁ BB hml hv
  obtain ⟨rfl, hP, hK, hE⟩ := hv
  have hx := BB.exec
  have hb := BB.bytes
  have hr := BB.returns
  have hts := atoms_spec (ws := wsX11_nextOrder) BB.pre
  have hown : s.vm.findClass RX11 = some m.cls := findClass_of_methodNamed BB.named
  have hlocks := BB.notSynchronized
  have hS : va_S A s.heap s.heap [] := va_S.rf
  have hl := lv_entry ([.ref (b 0)]) (n := 5) (Nat.le_of_ble_eq_true rfl)
  rw [lg_entry_eq]
  generalize (lg_sl ([.ref (b 0)]) ++ List.replicate (5 - (lg_sl ([.ref (b 0)])).length) Slot.unset).toArray = ls at hl ⊢
  have hl : lv_has ls 5 [(0, .ref (b 0))] := hl
  refine lv_aload_n hx hb dX11_nextOrder_0 rfl (lv_at hl 0 rfl) ?_
  refine va_get (D := (dC, dI)) (ci := 11) (C := RX11) (T := TX11) (N := 36) hx hb hts in_X11_nextOrder_X11 hown hK hP 0 rfl rfl 1 (by decide) (hts (.fieldLink RX11 82 "MilkRoundModel" "houses" "I") (List.mem_of_getElem? (i := 1) rfl)) (fun _ h9 => h9) rfl dX11_nextOrder_1 ?_
  refine lv_iconst (v := nI (2)) hx hb dX11_nextOrder_4 (by decide) ?_
  refine n_isub hx hb (by omega) dX11_nextOrder_5 ?_
  refine n_top (y := nI (n - 1) - nI 1) (by rw [pk_sub (by omega), show n - 1 - 1 = n - 2 by omega]) ?_
  refine lv_istore_n (lv' := [(1, .int (nI (n - 1) - nI 1)), (0, .ref (b 0))]) hx hb dX11_nextOrder_6 rfl hl (by decide) rfl (fun ls hl => ?_)
  have loop_7 : ∀ (dd_7 : Nat) (t9 : Nat) (ht : t9 ≤ n - 1) (hdn : dnF ord (n - 1) = dnF ord t9), t9 < dd_7 → ∀ (H : Heap) (locs : List Loc) (ls : Array Slot), va_P (dC, dI) vwCl (DW y b rn n lo kp dy so he kn ak pl iw nm sd ik kr lo2 dy2 so2 he2 kn2 dgv kd len ord kh km pg cm sav bo cb sl len2 ord2 kh2 km2) H → va_S A s.heap H locs → lv_has ls 5 [(1, .int (nI t9 - nI 1)), (0, .ref (b 0))] → W p l e (headSpec wsX11_nextOrder ({ frames := 1, cells := 0, slots := 0, locals := 23 } : Room)).room s m [.ref (b 0)].toArray below meth c H locs 0 0 (MQ below (va_Qi (fun (r : Int32) (u : Unit) => r = bI (decide (¬ dnF ord (n - 1) = 0))) (c_B (dC, dI) vwCl (TY y) (fun (u : Unit) => (DW y b rn n lo kp dy so he kn ak pl iw nm sd ik kr lo2 dy2 so2 he2 kn2 dgv kd len (nxO n ord) kh km pg cm sav bo cb sl len2 ord2 kh2 km2))) A) [.ref (b 0)].toArray s 0 0 A) (F0 m 7 ls []) := by
    intro dd_7
    induction dd_7 with
    | zero => intro t9 ht hdn hd; exact absurd hd (Nat.not_lt_zero _)
    | succ dd_7 ih_7 =>
      intro t9 ht hdn hd_7 H locs ls hP hS hl
      refine lv_iload_n hx hb dX11_nextOrder_7 rfl (lv_at hl 0 rfl) ?_
      refine lv_if_lt (tgt := 34) hx hb dX11_nextOrder_8 (by decide) (fun c_8 => ?_) (fun c_8 => ?_)
      · have hk0 : t9 = 0 := by
          rcases Nat.eq_zero_or_pos t9 with z | z
          · exact z
          · exact absurd c_8 (by rw [pk_sub z]; exact nI_pos (by omega))
        refine lv_iload_n hx hb dX11_nextOrder_34 rfl (lv_at hl 0 rfl) ?_
        refine lv_if_ge (tgt := 40) hx hb dX11_nextOrder_35 (by decide) (fun c_35 => ?_) (fun c_35 => ?_)
        · exact absurd c_35 (by rw [hk0]; decide)
        · refine lv_iconst (v := nI (0)) hx hb dX11_nextOrder_38 (by decide) ?_
          have hP : va_P (dC, dI) vwCl (DW y b rn n lo kp dy so he kn ak pl iw nm sd ik kr lo2 dy2 so2 he2 kn2 dgv kd len (nxO n ord) kh km pg cm sav bo cb sl len2 ord2 kh2 km2) H := by
            rw [nxO, if_pos (by rw [hdn, hk0]; rfl)]
            exact hP
          exact c_zret hx hb hr hlocks hK hS () rfl hP (bI_0 (decide_eq_false (fun z => z (by rw [hdn, hk0]; rfl)))) dX11_nextOrder_39
      · obtain ⟨q, hq9⟩ : ∃ q, t9 = q + 1 := ⟨t9 - 1, by
          rcases Nat.eq_zero_or_pos t9 with z | z
          · exact absurd (by rw [z]; decide) c_8
          · omega⟩
        have ho1 := hord.1 q (by omega)
        have ho2 := hord.1 (q + 1) (by omega)
        rw [show nI t9 - nI 1 = nI q by rw [hq9]; exact pk_sub (by omega)] at hl
        have hl : lv_has ls 5 [(1, .int (nI (q))), (0, .ref (b 0))] := hl
        refine lv_aload_n hx hb dX11_nextOrder_11 rfl (lv_at hl 1 rfl) ?_
        refine va_get (D := (dC, dI)) (ci := 11) (C := RX11) (T := TX11) (N := 36) hx hb hts in_X11_nextOrder_X11 hown hK hP 0 rfl rfl 4 (by decide) (hts (.fieldLink RX11 16 "MilkRoundModel" "orderAt" "[I") (List.mem_of_getElem? (i := 2) rfl)) (fun _ h9 => h9) rfl dX11_nextOrder_12 ?_
        refine lv_iload_n hx hb dX11_nextOrder_15 rfl (lv_at hl 0 rfl) ?_
        refine n_iald hx hb hK hP 3 0 rfl rfl (by omega) (by decide) dX11_nextOrder_16 ?_
        refine lv_aload_n hx hb dX11_nextOrder_17 rfl (lv_at hl 1 rfl) ?_
        refine va_get (D := (dC, dI)) (ci := 11) (C := RX11) (T := TX11) (N := 36) hx hb hts in_X11_nextOrder_X11 hown hK hP 0 rfl rfl 4 (by decide) (hts (.fieldLink RX11 16 "MilkRoundModel" "orderAt" "[I") (List.mem_of_getElem? (i := 2) rfl)) (fun _ h9 => h9) rfl dX11_nextOrder_18 ?_
        refine lv_iload_n hx hb dX11_nextOrder_21 rfl (lv_at hl 0 rfl) ?_
        refine lv_iconst (v := nI (1)) hx hb dX11_nextOrder_22 (by decide) ?_
        refine n_iadd hx hb dX11_nextOrder_23 ?_
        refine n_iald hx hb hK hP 3 0 rfl rfl (by omega) (by decide) dX11_nextOrder_24 ?_
        refine n_icmp_le (tgt := 34) hx hb dX11_nextOrder_25 (by decide) (by omega) (by omega) (fun c_25 => ?_) (fun c_25 => ?_)
        · refine lv_iload_n hx hb dX11_nextOrder_34 rfl (lv_at hl 0 rfl) ?_
          refine n_if_ge (tgt := 40) hx hb dX11_nextOrder_35 (by decide) (by omega) (fun c_35 => ?_) (fun c_35 => ?_)
          · have hd9 : dnF ord (n - 1) = q + 1 := by rw [hdn, hq9, dnF_hit (by omega)]
            refine lv_aload_n hx hb dX11_nextOrder_40 rfl (lv_at hl 1 rfl) ?_
            refine va_get (D := (dC, dI)) (ci := 11) (C := RX11) (T := TX11) (N := 36) hx hb hts in_X11_nextOrder_X11 hown hK hP 0 rfl rfl 1 (by decide) (hts (.fieldLink RX11 82 "MilkRoundModel" "houses" "I") (List.mem_of_getElem? (i := 1) rfl)) (fun _ h9 => h9) rfl dX11_nextOrder_41 ?_
            refine lv_iconst (v := nI (1)) hx hb dX11_nextOrder_44 (by decide) ?_
            refine n_isub hx hb (by omega) dX11_nextOrder_45 ?_
            refine lv_istore_n (lv' := [(2, .int (nI (n - 1))), (1, .int (nI (q))), (0, .ref (b 0))]) hx hb dX11_nextOrder_46 rfl hl (by decide) rfl (fun ls hl => ?_)
            have loop_47 : ∀ (dd_47 : Nat) (e9 : Nat) (he1 : q + 1 ≤ e9) (he9 : e9 ≤ n - 1) (hen : enF ord q (n - 1) = enF ord q e9), e9 < dd_47 → ∀ (H : Heap) (locs : List Loc) (ls : Array Slot), va_P (dC, dI) vwCl (DW y b rn n lo kp dy so he kn ak pl iw nm sd ik kr lo2 dy2 so2 he2 kn2 dgv kd len ord kh km pg cm sav bo cb sl len2 ord2 kh2 km2) H → va_S A s.heap H locs → lv_has ls 5 [(2, .int (nI (e9))), (1, .int (nI (q))), (0, .ref (b 0))] → W p l e (headSpec wsX11_nextOrder ({ frames := 1, cells := 0, slots := 0, locals := 23 } : Room)).room s m [.ref (b 0)].toArray below meth c H locs 0 0 (MQ below (va_Qi (fun (r : Int32) (u : Unit) => r = bI (decide (¬ dnF ord (n - 1) = 0))) (c_B (dC, dI) vwCl (TY y) (fun (u : Unit) => (DW y b rn n lo kp dy so he kn ak pl iw nm sd ik kr lo2 dy2 so2 he2 kn2 dgv kd len (nxO n ord) kh km pg cm sav bo cb sl len2 ord2 kh2 km2))) A) [.ref (b 0)].toArray s 0 0 A) (F0 m 47 ls []) := by
              intro dd_47
              induction dd_47 with
              | zero => intro e9 he1 he9 hen hd; exact absurd hd (Nat.not_lt_zero _)
              | succ dd_47 ih_47 =>
                intro e9 he1 he9 hen hd_47 H locs ls hP hS hl
                have ho3 := hord.1 e9 (by omega)
                refine lv_aload_n hx hb dX11_nextOrder_47 rfl (lv_at hl 2 rfl) ?_
                refine va_get (D := (dC, dI)) (ci := 11) (C := RX11) (T := TX11) (N := 36) hx hb hts in_X11_nextOrder_X11 hown hK hP 0 rfl rfl 4 (by decide) (hts (.fieldLink RX11 16 "MilkRoundModel" "orderAt" "[I") (List.mem_of_getElem? (i := 2) rfl)) (fun _ h9 => h9) rfl dX11_nextOrder_48 ?_
                refine lv_iload_n hx hb dX11_nextOrder_51 rfl (lv_at hl 0 rfl) ?_
                refine n_iald hx hb hK hP 3 0 rfl rfl (by omega) (by decide) dX11_nextOrder_52 ?_
                refine lv_aload_n hx hb dX11_nextOrder_53 rfl (lv_at hl 2 rfl) ?_
                refine va_get (D := (dC, dI)) (ci := 11) (C := RX11) (T := TX11) (N := 36) hx hb hts in_X11_nextOrder_X11 hown hK hP 0 rfl rfl 4 (by decide) (hts (.fieldLink RX11 16 "MilkRoundModel" "orderAt" "[I") (List.mem_of_getElem? (i := 2) rfl)) (fun _ h9 => h9) rfl dX11_nextOrder_54 ?_
                refine lv_iload_n hx hb dX11_nextOrder_57 rfl (lv_at hl 1 rfl) ?_
                refine n_iald hx hb hK hP 3 0 rfl rfl (by omega) (by decide) dX11_nextOrder_58 ?_
                refine n_icmp_ge (tgt := 68) hx hb dX11_nextOrder_59 (by decide) (by omega) (by omega) (fun c_59 => ?_) (fun c_59 => ?_)
                · have hen9 : enF ord q (n - 1) = e9 := by rw [hen, enF_hit (by omega) (by omega)]
                  refine lv_aload_n hx hb dX11_nextOrder_68 rfl (lv_at hl 2 rfl) ?_
                  refine lv_iload_n hx hb dX11_nextOrder_69 rfl (lv_at hl 1 rfl) ?_
                  refine lv_iload_n hx hb dX11_nextOrder_70 rfl (lv_at hl 0 rfl) ?_
                  refine c_callv (va_runV (As := [.int (nI (q)), .int (nI (e9))]) (rest := []) ⟨hx, hb, hml, hown, hts⟩ (k_X11_change l dC dI y A b hA0 rn n lo kp dy so he kn ak pl iw nm sd ik kr lo2 dy2 so2 he2 kn2 dgv kd len ord kh km pg cm sav bo cb sl len2 ord2 kh2 km2 q e9 (by omega) (by omega)) (cwV 2 hts gX11_nextOrder_X11_change rfl rfl rfl (by decide +kernel) ⟨Nat.le_of_ble_eq_true rfl, Nat.le_of_ble_eq_true rfl⟩) (c_preV (c_N0 A) hK hE hS hP (va_recv hK hP (ci := 11) (q0 := 0) rfl rfl)) rfl rfl hl.1 rfl (lv_room (Nat.le_of_ble_eq_true rfl)) dX11_nextOrder_71 ⟨Nat.le_refl _, Nat.le_refl _⟩) hS (fun u_71 H locs hw_71 hP hS => ?_)
                  have hP : va_P (dC, dI) vwCl (DW y b rn n lo kp dy so he kn ak pl iw nm sd ik kr lo2 dy2 so2 he2 kn2 dgv kd len (swF ord q e9) kh km pg cm sav bo cb sl len2 ord2 kh2 km2) H := hP
                  refine lv_iload_n hx hb dX11_nextOrder_74 rfl (lv_at hl 1 rfl) ?_
                  refine lv_iconst (v := nI (1)) hx hb dX11_nextOrder_75 (by decide) ?_
                  refine n_iadd hx hb dX11_nextOrder_76 ?_
                  refine lv_istore_n (lv' := [(3, .int (nI (q + 1))), (2, .int (nI (e9))), (1, .int (nI (q))), (0, .ref (b 0))]) hx hb dX11_nextOrder_77 rfl hl (by decide) rfl (fun ls hl => ?_)
                  refine lv_aload_n hx hb dX11_nextOrder_78 rfl (lv_at hl 3 rfl) ?_
                  refine va_get (D := (dC, dI)) (ci := 11) (C := RX11) (T := TX11) (N := 36) hx hb hts in_X11_nextOrder_X11 hown hK hP 0 rfl rfl 1 (by decide) (hts (.fieldLink RX11 82 "MilkRoundModel" "houses" "I") (List.mem_of_getElem? (i := 1) rfl)) (fun _ h9 => h9) rfl dX11_nextOrder_79 ?_
                  refine lv_iconst (v := nI (1)) hx hb dX11_nextOrder_82 (by decide) ?_
                  refine n_isub hx hb (by omega) dX11_nextOrder_83 ?_
                  refine lv_istore (lv' := [(4, .int (nI (n - 1))), (3, .int (nI (q + 1))), (2, .int (nI (e9))), (1, .int (nI (q))), (0, .ref (b 0))]) hx hb dX11_nextOrder_84 hl (by decide) rfl (fun ls hl => ?_)
                  have loop_86 : ∀ (dd_86 : Nat) (i9 : Nat) (j9 : Nat) (o9 : Nat → Nat) (d9 : Nat) (hj9 : j9 ≤ n - 1) (hi9 : i9 ≤ 6) (hd : j9 ≤ i9 + 2 * d9) (hrv : rvF d9 o9 i9 j9 = rvF n (swF ord q e9) (q + 1) (n - 1)), d9 < dd_86 → ∀ (H : Heap) (locs : List Loc) (ls : Array Slot), va_P (dC, dI) vwCl (DW y b rn n lo kp dy so he kn ak pl iw nm sd ik kr lo2 dy2 so2 he2 kn2 dgv kd len o9 kh km pg cm sav bo cb sl len2 ord2 kh2 km2) H → va_S A s.heap H locs → lv_has ls 5 [(4, .int (nI (j9))), (3, .int (nI (i9))), (2, .int (nI (e9))), (1, .int (nI (q))), (0, .ref (b 0))] → W p l e (headSpec wsX11_nextOrder ({ frames := 1, cells := 0, slots := 0, locals := 23 } : Room)).room s m [.ref (b 0)].toArray below meth c H locs 0 0 (MQ below (va_Qi (fun (r : Int32) (u : Unit) => r = bI (decide (¬ dnF ord (n - 1) = 0))) (c_B (dC, dI) vwCl (TY y) (fun (u : Unit) => (DW y b rn n lo kp dy so he kn ak pl iw nm sd ik kr lo2 dy2 so2 he2 kn2 dgv kd len (nxO n ord) kh km pg cm sav bo cb sl len2 ord2 kh2 km2))) A) [.ref (b 0)].toArray s 0 0 A) (F0 m 86 ls []) := by
                    intro dd_86
                    induction dd_86 with
                    | zero => intro i9 j9 o9 d9 hj9 hi9 hd hrv hd; exact absurd hd (Nat.not_lt_zero _)
                    | succ dd_86 ih_86 =>
                      intro i9 j9 o9 d9 hj9 hi9 hd hrv hd_86 H locs ls hP hS hl
                      refine lv_iload_n hx hb dX11_nextOrder_86 rfl (lv_at hl 1 rfl) ?_
                      refine lv_iload hx hb dX11_nextOrder_87 (lv_at hl 0 rfl) ?_
                      refine n_icmp_ge (tgt := 108) hx hb dX11_nextOrder_89 (by decide) (by omega) (by omega) (fun c_89 => ?_) (fun c_89 => ?_)
                      · refine lv_iconst (v := nI (1)) hx hb dX11_nextOrder_108 (by decide) ?_
                        have hP : va_P (dC, dI) vwCl (DW y b rn n lo kp dy so he kn ak pl iw nm sd ik kr lo2 dy2 so2 he2 kn2 dgv kd len (nxO n ord) kh km pg cm sav bo cb sl len2 ord2 kh2 km2) H := by
                          rw [nxO_of hd9 hen9, ← hrv, rvF_end (by omega)]
                          exact hP
                        exact c_zret hx hb hr hlocks hK hS () rfl hP (bI_1 (decide_eq_true (by omega))) dX11_nextOrder_109
                      · refine lv_aload_n hx hb dX11_nextOrder_92 rfl (lv_at hl 4 rfl) ?_
                        refine lv_iload_n hx hb dX11_nextOrder_93 rfl (lv_at hl 1 rfl) ?_
                        refine lv_iload hx hb dX11_nextOrder_94 (lv_at hl 0 rfl) ?_
                        refine c_callv (va_runV (As := [.int (nI (i9)), .int (nI (j9))]) (rest := []) ⟨hx, hb, hml, hown, hts⟩ (k_X11_change l dC dI y A b hA0 rn n lo kp dy so he kn ak pl iw nm sd ik kr lo2 dy2 so2 he2 kn2 dgv kd len o9 kh km pg cm sav bo cb sl len2 ord2 kh2 km2 i9 j9 (by omega) (by omega)) (cwV 2 hts gX11_nextOrder_X11_change rfl rfl rfl (by decide +kernel) ⟨Nat.le_of_ble_eq_true rfl, Nat.le_of_ble_eq_true rfl⟩) (c_preV (c_N0 A) hK hE hS hP (va_recv hK hP (ci := 11) (q0 := 0) rfl rfl)) rfl rfl hl.1 rfl (lv_room (Nat.le_of_ble_eq_true rfl)) dX11_nextOrder_96 ⟨Nat.le_refl _, Nat.le_refl _⟩) hS (fun u_96 H locs hw_96 hP hS => ?_)
                        have hP : va_P (dC, dI) vwCl (DW y b rn n lo kp dy so he kn ak pl iw nm sd ik kr lo2 dy2 so2 he2 kn2 dgv kd len (swF o9 i9 j9) kh km pg cm sav bo cb sl len2 ord2 kh2 km2) H := hP
                        refine lv_iinc (v := nI (i9 + 1)) (lv' := [(3, .int (nI (i9 + 1))), (4, .int (nI (j9))), (2, .int (nI (e9))), (1, .int (nI (q))), (0, .ref (b 0))]) hx hb dX11_nextOrder_99 hl (k := 1) rfl (mr_inc _) (by decide) rfl (fun ls hl => ?_)
                        refine lv_iinc (v := nI (j9 - 1)) (lv' := [(4, .int (nI (j9 - 1))), (3, .int (nI (i9 + 1))), (2, .int (nI (e9))), (1, .int (nI (q))), (0, .ref (b 0))]) hx hb dX11_nextOrder_102 hl (k := 1) rfl (mr_dec (by omega)) (by decide) rfl (fun ls hl => ?_)
                        refine lv_goto (tgt := 86) hx hb dX11_nextOrder_105 (by decide) ?_
                        obtain ⟨x9, hx9⟩ : ∃ x9, d9 = x9 + 1 := ⟨d9 - 1, by omega⟩
                        exact ih_86 (i9 + 1) (j9 - 1) (swF o9 i9 j9) x9 (by omega) (by omega) (by omega) (by rw [← hrv, hx9, rvF_go (by omega)]) (by omega) _ _ _ hP hS (lv_sub hl [0, 1, 2, 3, 4] rfl)
                  exact loop_86 _ (q + 1) (n - 1) (swF ord q e9) n (Nat.le_refl _) (by omega) (by omega) rfl (Nat.lt_succ_self _) _ _ _ hP hS (lv_sub hl [0, 1, 2, 3, 4] rfl)
                · refine lv_iinc (v := nI (e9 - 1)) (lv' := [(2, .int (nI (e9 - 1))), (1, .int (nI (q))), (0, .ref (b 0))]) hx hb dX11_nextOrder_62 hl (k := 0) rfl (mr_dec (by omega)) (by decide) rfl (fun ls hl => ?_)
                  refine lv_goto (tgt := 47) hx hb dX11_nextOrder_65 (by decide) ?_
                  have hne : e9 ≠ q + 1 := fun z => by rw [z] at c_59; omega
                  exact ih_47 (e9 - 1) (by omega) (by omega) (by rw [hen, enF_down (by omega) (by omega)]) (by omega) _ _ _ hP hS (lv_sub hl [0, 1, 2] rfl)
            exact loop_47 _ (n - 1) (by omega) (Nat.le_refl _) rfl (Nat.lt_succ_self _) _ _ _ hP hS (lv_sub hl [0, 1, 2] rfl)
          · exact absurd (Nat.zero_le q) c_35
        · refine lv_iinc (v := nI q - nI 1) (lv' := [(1, .int (nI q - nI 1)), (0, .ref (b 0))]) hx hb dX11_nextOrder_28 hl (k := 0) rfl (mr_decR q) (by decide) rfl (fun ls hl => ?_)
          refine lv_goto (tgt := 7) hx hb dX11_nextOrder_31 (by decide) ?_
          exact ih_7 q (by omega) (by rw [hdn, hq9, dnF_down (by omega)]) (by omega) _ _ _ hP hS (lv_sub hl [0, 1] rfl)
  exact loop_7 _ (n - 1) (Nat.le_refl _) rfl (Nat.lt_succ_self _) _ _ _ hP hS (lv_sub hl [0, 1] rfl)
theorem in_X11_bestNow_X11 : ∀ w ∈ wsX110, w ∈ wsX11_bestNow := fun w h => List.mem_cons_of_mem _ (List.mem_append_right _ h)
set_option maxHeartbeats 4000000 in
set_option maxRecDepth 100000 in
theorem k_X11_bestNow (l : Launch) (dC : Nat → ClassId) (dI : Nat → Nat → Nat) (y : Nat → ClassId) (A : Nat → Prop) (b : Nat → Nat) (hA0 : ad_ok A b 16) (rn : Nat) (n : Nat) (lo : Int32) (kp : Nat) (dy : Int32) (so : Int32) (he : Int32) (kn : Nat) (ak : Nat) (pl : Nat) (iw : Bool) (nm : Nat) (sd : Int64) (ik : Bool) (kr : Nat) (lo2 : Int32) (dy2 : Int32) (so2 : Int32) (he2 : Int32) (kn2 : Nat) (dgv : Int64) (kd : Nat → Nat) (len : Nat → Nat) (ord : Nat → Nat) (kh : Nat → Nat) (km : Nat → Nat) (pg : Nat → Nat) (cm : Nat → Nat) (sav : Nat → Nat) (bo : Nat → Nat) (cb : Nat → Nat) (sl : Nat → Nat) (len2 : Nat → Nat) (ord2 : Nat → Nat) (kh2 : Nat → Nat) (km2 : Nat → Nat) (w : Nat) (hn2 : 2 ≤ n) (hn : n ≤ 6) (hord : PermOn n ord) (hlen : ∀ j, len j ≤ 9) (hkd : ∀ j, kd j ≤ 4) (hcm : ∀ j, cm j ≤ 126) (hkp : kp ≤ 9) (hw : w = 0 ∨ (10 ≤ w ∧ w ≤ 15)) : Met l yX11_bestNow wsX11_bestNow ({ frames := 6, cells := 0, slots := 0, locals := 128 } : Room) (c_P (dC, dI) vwCl (TY y) (fun _ => True) (DW y b rn n lo kp dy so he kn ak pl iw nm sd ik kr lo2 dy2 so2 he2 kn2 dgv kd len ord kh km pg cm sav bo cb sl len2 ord2 kh2 km2) [.ref (b 0), .int (nI (w))]) (va_Qi (fun (r : Int32) (u : (Nat → Nat) × (Nat → Nat) × (Nat → Nat)) => r = bvF n kp kd len lo w ∧ ∀ j, u.1 j ≤ 126) (c_B (dC, dI) vwCl (TY y) (fun (u : (Nat → Nat) × (Nat → Nat) × (Nat → Nat)) => (DW y b rn n lo kp dy so he kn ak pl iw nm sd ik kr lo2 dy2 so2 he2 kn2 dgv kd len ord kh km pg u.1 u.2.1 u.2.2 cb sl len2 ord2 kh2 km2))) A) 0 0 A := by
  refine Met.ofW (cc := cX11_bestNow) (maxL := 6) (ret := (some .int)) (by decide) rfl ?_
  intro p e s m args below meth c s₁ BB hml hv
  obtain ⟨rfl, hP, hK, hE⟩ := hv
  have hx := BB.exec
  have hb := BB.bytes
  have hr := BB.returns
  have hts := atoms_spec (ws := wsX11_bestNow) BB.pre
  have hown : s.vm.findClass RX11 = some m.cls := findClass_of_methodNamed BB.named
  have hlocks := BB.notSynchronized
  have hS : va_S A s.heap s.heap [] := va_S.rf
  have hl := lv_entry ([.ref (b 0), .int (nI (w))]) (n := 6) (Nat.le_of_ble_eq_true rfl)
  rw [lg_entry_eq]
  generalize (lg_sl ([.ref (b 0), .int (nI (w))]) ++ List.replicate (6 - (lg_sl ([.ref (b 0), .int (nI (w))])).length) Slot.unset).toArray = ls at hl ⊢
  have hl : lv_has ls 6 [(0, .ref (b 0)), (1, .int (nI (w)))] := hl
  refine lv_iconst (v := nI (0)) hx hb dX11_bestNow_0 (by decide) ?_
  refine lv_istore_n (lv' := [(2, .int (nI (0))), (0, .ref (b 0)), (1, .int (nI (w)))]) hx hb dX11_bestNow_1 rfl hl (by decide) rfl (fun ls hl => ?_)
  have loop_2 : ∀ (dd_2 : Nat) (k : Nat) (hk : k ≤ 6), 6 - k < dd_2 → ∀ (H : Heap) (locs : List Loc) (ls : Array Slot), va_P (dC, dI) vwCl (DW y b rn n lo kp dy so he kn ak pl iw nm sd ik kr lo2 dy2 so2 he2 kn2 dgv kd len ord kh km pg cm (mixF k ord sav) bo cb sl len2 ord2 kh2 km2) H → va_S A s.heap H locs → lv_has ls 6 [(2, .int (nI (k))), (0, .ref (b 0)), (1, .int (nI (w)))] → W p l e (headSpec wsX11_bestNow ({ frames := 6, cells := 0, slots := 0, locals := 128 } : Room)).room s m [.ref (b 0), .int (nI (w))].toArray below meth c H locs 0 0 (MQ below (va_Qi (fun (r : Int32) (u : (Nat → Nat) × (Nat → Nat) × (Nat → Nat)) => r = bvF n kp kd len lo w ∧ ∀ j, u.1 j ≤ 126) (c_B (dC, dI) vwCl (TY y) (fun (u : (Nat → Nat) × (Nat → Nat) × (Nat → Nat)) => (DW y b rn n lo kp dy so he kn ak pl iw nm sd ik kr lo2 dy2 so2 he2 kn2 dgv kd len ord kh km pg u.1 u.2.1 u.2.2 cb sl len2 ord2 kh2 km2))) A) [.ref (b 0), .int (nI (w))].toArray s 0 0 A) (F0 m 2 ls []) := by
    intro dd_2
    induction dd_2 with
    | zero => intro k hk hd; exact absurd hd (Nat.not_lt_zero _)
    | succ dd_2 ih_2 =>
      intro k hk hd_2 H locs ls hP hS hl
      refine lv_iload_n hx hb dX11_bestNow_2 rfl (lv_at hl 0 rfl) ?_
      refine lv_bipush (v := nI (6)) hx hb dX11_bestNow_3 (by decide) ?_
      refine n_icmp_ge (tgt := 26) hx hb dX11_bestNow_5 (by decide) (by omega) (by omega) (fun c_5 => ?_) (fun c_5 => ?_)
      · have hk6 : k = 6 := by omega
        rw [hk6] at hP
        have hP : va_P (dC, dI) vwCl (DW y b rn n lo kp dy so he kn ak pl iw nm sd ik kr lo2 dy2 so2 he2 kn2 dgv kd len ord kh km pg cm (mixF 6 ord sav) bo cb sl len2 ord2 kh2 km2) H := hP
        refine lv_iconst (v := nI (0)) hx hb dX11_bestNow_26 (by decide) ?_
        refine lv_istore_n (lv' := [(2, .int (nI (0))), (0, .ref (b 0)), (1, .int (nI (w)))]) hx hb dX11_bestNow_27 rfl hl (by decide) rfl (fun ls hl => ?_)
        have loop_28 : ∀ (dd_28 : Nat) (k : Nat) (hk : k ≤ n), n - k < dd_28 → ∀ (H : Heap) (locs : List Loc) (ls : Array Slot), va_P (dC, dI) vwCl (DW y b rn n lo kp dy so he kn ak pl iw nm sd ik kr lo2 dy2 so2 he2 kn2 dgv kd len (mixF k (fun j => j) ord) kh km pg cm (mixF 6 ord sav) bo cb sl len2 ord2 kh2 km2) H → va_S A s.heap H locs → lv_has ls 6 [(2, .int (nI (k))), (0, .ref (b 0)), (1, .int (nI (w)))] → W p l e (headSpec wsX11_bestNow ({ frames := 6, cells := 0, slots := 0, locals := 128 } : Room)).room s m [.ref (b 0), .int (nI (w))].toArray below meth c H locs 0 0 (MQ below (va_Qi (fun (r : Int32) (u : (Nat → Nat) × (Nat → Nat) × (Nat → Nat)) => r = bvF n kp kd len lo w ∧ ∀ j, u.1 j ≤ 126) (c_B (dC, dI) vwCl (TY y) (fun (u : (Nat → Nat) × (Nat → Nat) × (Nat → Nat)) => (DW y b rn n lo kp dy so he kn ak pl iw nm sd ik kr lo2 dy2 so2 he2 kn2 dgv kd len ord kh km pg u.1 u.2.1 u.2.2 cb sl len2 ord2 kh2 km2))) A) [.ref (b 0), .int (nI (w))].toArray s 0 0 A) (F0 m 28 ls []) := by
          intro dd_28
          induction dd_28 with
          | zero => intro k hk hd; exact absurd hd (Nat.not_lt_zero _)
          | succ dd_28 ih_28 =>
            intro k hk hd_28 H locs ls hP hS hl
            refine lv_iload_n hx hb dX11_bestNow_28 rfl (lv_at hl 0 rfl) ?_
            refine lv_aload_n hx hb dX11_bestNow_29 rfl (lv_at hl 1 rfl) ?_
            refine va_get (D := (dC, dI)) (ci := 11) (C := RX11) (T := TX11) (N := 36) hx hb hts in_X11_bestNow_X11 hown hK hP 0 rfl rfl 1 (by decide) (hts (.fieldLink RX11 82 "MilkRoundModel" "houses" "I") (List.mem_of_getElem? (i := 3) rfl)) (fun _ h9 => h9) rfl dX11_bestNow_30 ?_
            refine n_icmp_ge (tgt := 49) hx hb dX11_bestNow_33 (by decide) (by omega) (by omega) (fun c_33 => ?_) (fun c_33 => ?_)
            · have hkn : k = n := by omega
              have hid : EqOn n (mixF k (fun j => j) ord) (fun j => j) := fun j hj => mixF_in (by omega)
              refine lv_ldc hx hb hown (hts (.constant RX11 155 (268435456)) (List.mem_of_getElem? (i := 4) rfl)) dX11_bestNow_49 ?_
              refine n_top (y := nI (268435456)) rfl ?_
              refine lv_istore_n (lv' := [(2, .int (nI (268435456))), (0, .ref (b 0)), (1, .int (nI (w)))]) hx hb dX11_bestNow_51 rfl hl (by decide) rfl (fun ls hl => ?_)
              refine lv_iconst (v := nI (1)) hx hb dX11_bestNow_52 (by decide) ?_
              refine lv_istore_n (lv' := [(3, .int (nI (1))), (2, .int (nI (268435456))), (0, .ref (b 0)), (1, .int (nI (w)))]) hx hb dX11_bestNow_53 rfl hl (by decide) rfl (fun ls hl => ?_)
              have loop_54 : ∀ (dd_54 : Nat) (mo : Bool) (fl : Nat) (o9 : Nat → Nat) (Lx : List Nat) (fw : Nat) (bo9 : Nat → Nat) (Lb : List Nat) (f : Nat → Nat) (hI : BstI n kp kd len lo mo fl o9 Lx fw bo9 Lb) (hp : PermOn n o9) (hfw : fw < 2 ^ 31) (hf : ∀ j, f j ≤ 126) (hou : ∀ j, ¬ j < 6 → o9 j = ord j), (bif mo then fl + 1 else 0) < dd_54 → ∀ (H : Heap) (locs : List Loc) (ls : Array Slot), va_P (dC, dI) vwCl (DW y b rn n lo kp dy so he kn ak pl iw nm sd ik kr lo2 dy2 so2 he2 kn2 dgv kd len o9 kh km pg f (mixF 6 ord sav) bo9 cb sl len2 ord2 kh2 km2) H → va_S A s.heap H locs → lv_has ls 6 [(3, .int (bI (mo))), (2, .int (nI (fw))), (0, .ref (b 0)), (1, .int (nI (w)))] → W p l e (headSpec wsX11_bestNow ({ frames := 6, cells := 0, slots := 0, locals := 128 } : Room)).room s m [.ref (b 0), .int (nI (w))].toArray below meth c H locs 0 0 (MQ below (va_Qi (fun (r : Int32) (u : (Nat → Nat) × (Nat → Nat) × (Nat → Nat)) => r = bvF n kp kd len lo w ∧ ∀ j, u.1 j ≤ 126) (c_B (dC, dI) vwCl (TY y) (fun (u : (Nat → Nat) × (Nat → Nat) × (Nat → Nat)) => (DW y b rn n lo kp dy so he kn ak pl iw nm sd ik kr lo2 dy2 so2 he2 kn2 dgv kd len ord kh km pg u.1 u.2.1 u.2.2 cb sl len2 ord2 kh2 km2))) A) [.ref (b 0), .int (nI (w))].toArray s 0 0 A) (F0 m 54 ls []) := by
                intro dd_54
                induction dd_54 with
                | zero => intro mo fl o9 Lx fw bo9 Lb f hI hp hfw hf hou hd; exact absurd hd (Nat.not_lt_zero _)
                | succ dd_54 ih_54 =>
                  intro mo fl o9 Lx fw bo9 Lb f hI hp hfw hf hou hd_54 H locs ls hP hS hl
                  refine lv_iload_n hx hb dX11_bestNow_54 rfl (lv_at hl 0 rfl) ?_
                  refine n_bif_eq (tgt := 113) hx hb dX11_bestNow_55 (by decide) (fun c_55 => ?_) (fun c_55 => ?_)
                  · have hfin := hI.2.1 c_55
                    have hres := hfin.1
                    refine lv_iconst (v := nI (0)) hx hb dX11_bestNow_113 (by decide) ?_
                    refine lv_istore (lv' := [(4, .int (nI (0))), (3, .int (bI (mo))), (2, .int (nI (fw))), (0, .ref (b 0)), (1, .int (nI (w)))]) hx hb dX11_bestNow_114 hl (by decide) rfl (fun ls hl => ?_)
                    have loop_116 : ∀ (dd_116 : Nat) (k4 : Nat) (hk4 : k4 ≤ 6), 6 - k4 < dd_116 → ∀ (H : Heap) (locs : List Loc) (ls : Array Slot), va_P (dC, dI) vwCl (DW y b rn n lo kp dy so he kn ak pl iw nm sd ik kr lo2 dy2 so2 he2 kn2 dgv kd len (mixF k4 (mixF 6 ord sav) o9) kh km pg f (mixF 6 ord sav) bo9 cb sl len2 ord2 kh2 km2) H → va_S A s.heap H locs → lv_has ls 6 [(4, .int (nI (k4))), (3, .int (bI (mo))), (2, .int (nI (fw))), (0, .ref (b 0)), (1, .int (nI (w)))] → W p l e (headSpec wsX11_bestNow ({ frames := 6, cells := 0, slots := 0, locals := 128 } : Room)).room s m [.ref (b 0), .int (nI (w))].toArray below meth c H locs 0 0 (MQ below (va_Qi (fun (r : Int32) (u : (Nat → Nat) × (Nat → Nat) × (Nat → Nat)) => r = bvF n kp kd len lo w ∧ ∀ j, u.1 j ≤ 126) (c_B (dC, dI) vwCl (TY y) (fun (u : (Nat → Nat) × (Nat → Nat) × (Nat → Nat)) => (DW y b rn n lo kp dy so he kn ak pl iw nm sd ik kr lo2 dy2 so2 he2 kn2 dgv kd len ord kh km pg u.1 u.2.1 u.2.2 cb sl len2 ord2 kh2 km2))) A) [.ref (b 0), .int (nI (w))].toArray s 0 0 A) (F0 m 116 ls []) := by
                      intro dd_116
                      induction dd_116 with
                      | zero => intro k4 hk4 hd; exact absurd hd (Nat.not_lt_zero _)
                      | succ dd_116 ih_116 =>
                        intro k4 hk4 hd_116 H locs ls hP hS hl
                        refine lv_iload hx hb dX11_bestNow_116 (lv_at hl 0 rfl) ?_
                        refine lv_bipush (v := nI (6)) hx hb dX11_bestNow_118 (by decide) ?_
                        refine n_icmp_ge (tgt := 143) hx hb dX11_bestNow_120 (by decide) (by omega) (by omega) (fun c_120 => ?_) (fun c_120 => ?_)
                        · have hk46 : k4 = 6 := by omega
                          rw [hk46, mix_back hou] at hP
                          have hP : va_P (dC, dI) vwCl (DW y b rn n lo kp dy so he kn ak pl iw nm sd ik kr lo2 dy2 so2 he2 kn2 dgv kd len ord kh km pg f (mixF 6 ord sav) bo9 cb sl len2 ord2 kh2 km2) H := hP
                          refine lv_iload_n hx hb dX11_bestNow_143 rfl (lv_at hl 4 rfl) ?_
                          refine n_if_ne (tgt := 151) hx hb dX11_bestNow_144 (by decide) (by omega) (fun c_144 => ?_) (fun c_144 => ?_)
                          · refine lv_iload_n hx hb dX11_bestNow_151 rfl (lv_at hl 4 rfl) ?_
                            refine lv_bipush (v := nI (10)) hx hb dX11_bestNow_152 (by decide) ?_
                            refine n_isub hx hb (by omega) dX11_bestNow_154 ?_
                            refine lv_aload_n hx hb dX11_bestNow_155 rfl (lv_at hl 3 rfl) ?_
                            refine va_get (D := (dC, dI)) (ci := 11) (C := RX11) (T := TX11) (N := 36) hx hb hts in_X11_bestNow_X11 hown hK hP 0 rfl rfl 1 (by decide) (hts (.fieldLink RX11 82 "MilkRoundModel" "houses" "I") (List.mem_of_getElem? (i := 3) rfl)) (fun _ h9 => h9) rfl dX11_bestNow_156 ?_
                            refine n_icmp_ge (tgt := 174) hx hb dX11_bestNow_159 (by decide) (by omega) (by omega) (fun c_159 => ?_) (fun c_159 => ?_)
                            · refine lv_iconst (v := (-1)) hx hb dX11_bestNow_174 (by decide) ?_
                              exact c_iret hx hb hr hlocks hK hS (f, mixF 6 ord sav, bo9) hP ⟨by rw [bvF, if_neg c_144, if_neg (by omega)], hf⟩ dX11_bestNow_175
                            · refine lv_aload_n hx hb dX11_bestNow_162 rfl (lv_at hl 3 rfl) ?_
                              refine va_get (D := (dC, dI)) (ci := 11) (C := RX11) (T := TX11) (N := 36) hx hb hts in_X11_bestNow_X11 hown hK hP 0 rfl rfl 20 (by decide) (hts (.fieldLink RX11 35 "MilkRoundModel" "bestOrder" "[I") (List.mem_of_getElem? (i := 5) rfl)) (fun _ h9 => h9) rfl dX11_bestNow_163 ?_
                              refine lv_iload_n hx hb dX11_bestNow_166 rfl (lv_at hl 4 rfl) ?_
                              refine lv_bipush (v := nI (10)) hx hb dX11_bestNow_167 (by decide) ?_
                              refine n_isub hx hb (by omega) dX11_bestNow_169 ?_
                              refine n_iald hx hb hK hP 9 0 rfl rfl (by omega) (by decide) dX11_bestNow_170 ?_
                              refine lv_goto (tgt := 175) hx hb dX11_bestNow_171 (by decide) ?_
                              exact c_iret hx hb hr hlocks hK hS (f, mixF 6 ord sav, bo9) hP ⟨by rw [bvF, if_neg c_144, if_pos (by omega), ← hres, hI.2.2 hfin.2 (w - 10) (by omega)], hf⟩ dX11_bestNow_175
                          · refine lv_iload_n hx hb dX11_bestNow_147 rfl (lv_at hl 2 rfl) ?_
                            refine lv_goto (tgt := 175) hx hb dX11_bestNow_148 (by decide) ?_
                            exact c_iret hx hb hr hlocks hK hS (f, mixF 6 ord sav, bo9) hP ⟨by rw [bvF, if_pos c_144, ← hres], hf⟩ dX11_bestNow_175
                        · refine lv_aload_n hx hb dX11_bestNow_123 rfl (lv_at hl 3 rfl) ?_
                          refine va_get (D := (dC, dI)) (ci := 11) (C := RX11) (T := TX11) (N := 36) hx hb hts in_X11_bestNow_X11 hown hK hP 0 rfl rfl 4 (by decide) (hts (.fieldLink RX11 16 "MilkRoundModel" "orderAt" "[I") (List.mem_of_getElem? (i := 2) rfl)) (fun _ h9 => h9) rfl dX11_bestNow_124 ?_
                          refine lv_iload hx hb dX11_bestNow_127 (lv_at hl 0 rfl) ?_
                          refine lv_aload_n hx hb dX11_bestNow_129 rfl (lv_at hl 3 rfl) ?_
                          refine va_get (D := (dC, dI)) (ci := 11) (C := RX11) (T := TX11) (N := 36) hx hb hts in_X11_bestNow_X11 hown hK hP 0 rfl rfl 19 (by decide) (hts (.fieldLink RX11 32 "MilkRoundModel" "savedOrder" "[I") (List.mem_of_getElem? (i := 1) rfl)) (fun _ h9 => h9) rfl dX11_bestNow_130 ?_
                          refine lv_iload hx hb dX11_bestNow_133 (lv_at hl 0 rfl) ?_
                          refine n_iald hx hb hK hP 8 0 rfl rfl (by omega) (by decide) dX11_bestNow_135 ?_
                          refine n_iast hx hb hK hP (ad_D hA0 rfl) hS 3 0 rfl rfl (by omega) (by decide) dX11_bestNow_136 (fun H locs hP hS => ?_)
                          have hP : va_P (dC, dI) vwCl (DW y b rn n lo kp dy so he kn ak pl iw nm sd ik kr lo2 dy2 so2 he2 kn2 dgv kd len (va_up (mixF k4 (mixF 6 ord sav) o9) k4 ((mixF 6 ord sav) k4)) kh km pg f (mixF 6 ord sav) bo9 cb sl len2 ord2 kh2 km2) H := hP
                          refine lv_iinc (v := nI (k4 + 1)) (lv' := [(4, .int (nI (k4 + 1))), (3, .int (bI (mo))), (2, .int (nI (fw))), (0, .ref (b 0)), (1, .int (nI (w)))]) hx hb dX11_bestNow_137 hl (k := 0) rfl (mr_inc _) (by decide) rfl (fun ls hl => ?_)
                          refine lv_goto (tgt := 116) hx hb dX11_bestNow_140 (by decide) ?_
                          exact ih_116 (k4 + 1) (by omega) (by omega) _ _ _ (by rw [← mixF_s]; exact hP) hS (lv_sub hl [0, 1, 2, 3, 4] rfl)
                    exact loop_116 _ 0 (Nat.zero_le _) (Nat.lt_succ_self _) _ _ _ (by rw [mixF_0]; exact hP) hS (lv_sub hl [0, 1, 2, 3, 4] rfl)
                  · have hI := c_55 ▸ hI
                    obtain ⟨f9, hf9⟩ := runB_pos (hI.1 rfl).1
                    rw [hf9] at hI
                    have hweq : wrg n kp kd len lo o9 = wrg n kp kd len lo (fnL Lx) := wrg_eqO hp (hI.1 rfl).2.1
                    have hwl : wrg n kp kd len lo o9 ≤ n + n := wrg_le
                    refine lv_aload_n hx hb dX11_bestNow_58 rfl (lv_at hl 2 rfl) ?_
                    refine c_calli (va_runV (As := []) (rest := []) ⟨hx, hb, hml, hown, hts⟩ (k_X11_wrongNow l dC dI y A b hA0 rn n lo kp dy so he kn ak pl iw nm sd ik kr lo2 dy2 so2 he2 kn2 dgv kd len o9 kh km pg f (mixF 6 ord sav) bo9 cb sl len2 ord2 kh2 km2  hn hp hlen hkd hf hkp) (cwV 0 hts gX11_bestNow_X11_wrongNow rfl rfl rfl (by decide +kernel) ⟨Nat.le_of_ble_eq_true rfl, Nat.le_of_ble_eq_true rfl⟩) (c_preV (c_N0 A) hK hE hS hP (va_recv hK hP (ci := 11) (q0 := 0) rfl rfl)) rfl rfl hl.1 rfl (lv_room (Nat.le_of_ble_eq_true rfl)) dX11_bestNow_59 ⟨Nat.le_refl _, Nat.le_refl _⟩) hS (fun r_59 u_59 H locs hw_59 hP hS => ?_)
                    have hP : va_P (dC, dI) vwCl (DW y b rn n lo kp dy so he kn ak pl iw nm sd ik kr lo2 dy2 so2 he2 kn2 dgv kd len o9 kh km pg u_59 (mixF 6 ord sav) bo9 cb sl len2 ord2 kh2 km2) H := hP
                    obtain ⟨rfl, hw_59⟩ := hw_59
                    refine lv_istore (lv' := [(4, .int (nI (wrg n kp kd len lo o9))), (3, .int (bI (mo))), (2, .int (nI (fw))), (0, .ref (b 0)), (1, .int (nI (w)))]) hx hb dX11_bestNow_62 hl (by decide) rfl (fun ls hl => ?_)
                    refine lv_iload hx hb dX11_bestNow_64 (lv_at hl 0 rfl) ?_
                    refine lv_iload_n hx hb dX11_bestNow_66 rfl (lv_at hl 2 rfl) ?_
                    refine n_icmp_ge (tgt := 105) hx hb dX11_bestNow_67 (by decide) (by omega) (by omega) (fun c_67 => ?_) (fun c_67 => ?_)
                    · refine lv_aload_n hx hb dX11_bestNow_105 rfl (lv_at hl 3 rfl) ?_
                      refine c_calli (va_runV (As := []) (rest := []) ⟨hx, hb, hml, hown, hts⟩ (k_X11_nextOrder l dC dI y A b hA0 rn n lo kp dy so he kn ak pl iw nm sd ik kr lo2 dy2 so2 he2 kn2 dgv kd len o9 kh km pg u_59 (mixF 6 ord sav) bo9 cb sl len2 ord2 kh2 km2  hn2 hn hp) (cwV 0 hts gX11_bestNow_X11_nextOrder rfl rfl rfl (by decide +kernel) ⟨Nat.le_of_ble_eq_true rfl, Nat.le_of_ble_eq_true rfl⟩) (c_preV (c_N0 A) hK hE hS hP (va_recv hK hP (ci := 11) (q0 := 0) rfl rfl)) rfl rfl hl.1 rfl (lv_room (Nat.le_of_ble_eq_true rfl)) dX11_bestNow_106 ⟨Nat.le_refl _, Nat.le_refl _⟩) hS (fun r_106 u_106 H locs hw_106 hP hS => ?_)
                      have hP : va_P (dC, dI) vwCl (DW y b rn n lo kp dy so he kn ak pl iw nm sd ik kr lo2 dy2 so2 he2 kn2 dgv kd len (nxO n o9) kh km pg u_59 (mixF 6 ord sav) bo9 cb sl len2 ord2 kh2 km2) H := hP
                      obtain rfl := hw_106
                      refine lv_istore_n (lv' := [(3, .int (bI (decide (¬ dnF o9 (n - 1) = 0)))), (4, .int (nI (wrg n kp kd len lo o9))), (2, .int (nI (fw))), (0, .ref (b 0)), (1, .int (nI (w)))]) hx hb dX11_bestNow_109 rfl hl (by decide) rfl (fun ls hl => ?_)
                      refine lv_goto (tgt := 54) hx hb dX11_bestNow_110 (by decide) ?_
                      exact ih_54 (decide (¬ dnF o9 (n - 1) = 0)) f9 (nxO n o9) (stL n Lx) fw bo9 Lb u_59 (BstI_step hn2 hn hp hI (by rw [← hweq, if_neg (by omega)]) hI.2.2) (nxO_perm hp hn2) (by omega) hw_59.2 (fun j hj => by rw [nxO_out hn2 (by omega)]; exact hou j hj) (by rw [c_55, hf9] at hd_54; have hd9 : f9 + 1 + 1 < dd_54 + 1 := hd_54; cases decide (¬ dnF o9 (n - 1) = 0) <;> (first | (show 0 < dd_54; omega) | (show f9 + 1 < dd_54; omega))) _ _ _ hP hS (lv_sub hl [0, 2, 3, 4] rfl)
                    · refine lv_iload hx hb dX11_bestNow_70 (lv_at hl 0 rfl) ?_
                      refine lv_istore_n (lv' := [(2, .int (nI (wrg n kp kd len lo o9))), (4, .int (nI (wrg n kp kd len lo o9))), (3, .int (bI (mo))), (0, .ref (b 0)), (1, .int (nI (w)))]) hx hb dX11_bestNow_72 rfl hl (by decide) rfl (fun ls hl => ?_)
                      refine lv_iconst (v := nI (0)) hx hb dX11_bestNow_73 (by decide) ?_
                      refine lv_istore (lv' := [(5, .int (nI (0))), (2, .int (nI (wrg n kp kd len lo o9))), (4, .int (nI (wrg n kp kd len lo o9))), (3, .int (bI (mo))), (0, .ref (b 0)), (1, .int (nI (w)))]) hx hb dX11_bestNow_74 hl (by decide) rfl (fun ls hl => ?_)
                      have loop_76 : ∀ (dd_76 : Nat) (k5 : Nat) (hk5 : k5 ≤ n), n - k5 < dd_76 → ∀ (H : Heap) (locs : List Loc) (ls : Array Slot), va_P (dC, dI) vwCl (DW y b rn n lo kp dy so he kn ak pl iw nm sd ik kr lo2 dy2 so2 he2 kn2 dgv kd len o9 kh km pg u_59 (mixF 6 ord sav) (mixF k5 o9 bo9) cb sl len2 ord2 kh2 km2) H → va_S A s.heap H locs → lv_has ls 6 [(5, .int (nI (k5))), (2, .int (nI (wrg n kp kd len lo o9))), (4, .int (nI (wrg n kp kd len lo o9))), (3, .int (bI (mo))), (0, .ref (b 0)), (1, .int (nI (w)))] → W p l e (headSpec wsX11_bestNow ({ frames := 6, cells := 0, slots := 0, locals := 128 } : Room)).room s m [.ref (b 0), .int (nI (w))].toArray below meth c H locs 0 0 (MQ below (va_Qi (fun (r : Int32) (u : (Nat → Nat) × (Nat → Nat) × (Nat → Nat)) => r = bvF n kp kd len lo w ∧ ∀ j, u.1 j ≤ 126) (c_B (dC, dI) vwCl (TY y) (fun (u : (Nat → Nat) × (Nat → Nat) × (Nat → Nat)) => (DW y b rn n lo kp dy so he kn ak pl iw nm sd ik kr lo2 dy2 so2 he2 kn2 dgv kd len ord kh km pg u.1 u.2.1 u.2.2 cb sl len2 ord2 kh2 km2))) A) [.ref (b 0), .int (nI (w))].toArray s 0 0 A) (F0 m 76 ls []) := by
                        intro dd_76
                        induction dd_76 with
                        | zero => intro k5 hk5 hd; exact absurd hd (Nat.not_lt_zero _)
                        | succ dd_76 ih_76 =>
                          intro k5 hk5 hd_76 H locs ls hP hS hl
                          refine lv_iload hx hb dX11_bestNow_76 (lv_at hl 0 rfl) ?_
                          refine lv_aload_n hx hb dX11_bestNow_78 rfl (lv_at hl 4 rfl) ?_
                          refine va_get (D := (dC, dI)) (ci := 11) (C := RX11) (T := TX11) (N := 36) hx hb hts in_X11_bestNow_X11 hown hK hP 0 rfl rfl 1 (by decide) (hts (.fieldLink RX11 82 "MilkRoundModel" "houses" "I") (List.mem_of_getElem? (i := 3) rfl)) (fun _ h9 => h9) rfl dX11_bestNow_79 ?_
                          refine n_icmp_ge (tgt := 105) hx hb dX11_bestNow_82 (by decide) (by omega) (by omega) (fun c_82 => ?_) (fun c_82 => ?_)
                          · refine lv_aload_n hx hb dX11_bestNow_105 rfl (lv_at hl 4 rfl) ?_
                            refine c_calli (va_runV (As := []) (rest := []) ⟨hx, hb, hml, hown, hts⟩ (k_X11_nextOrder l dC dI y A b hA0 rn n lo kp dy so he kn ak pl iw nm sd ik kr lo2 dy2 so2 he2 kn2 dgv kd len o9 kh km pg u_59 (mixF 6 ord sav) (mixF k5 o9 bo9) cb sl len2 ord2 kh2 km2  hn2 hn hp) (cwV 0 hts gX11_bestNow_X11_nextOrder rfl rfl rfl (by decide +kernel) ⟨Nat.le_of_ble_eq_true rfl, Nat.le_of_ble_eq_true rfl⟩) (c_preV (c_N0 A) hK hE hS hP (va_recv hK hP (ci := 11) (q0 := 0) rfl rfl)) rfl rfl hl.1 rfl (lv_room (Nat.le_of_ble_eq_true rfl)) dX11_bestNow_106 ⟨Nat.le_refl _, Nat.le_refl _⟩) hS (fun r_106 u_106 H locs hw_106 hP hS => ?_)
                            have hP : va_P (dC, dI) vwCl (DW y b rn n lo kp dy so he kn ak pl iw nm sd ik kr lo2 dy2 so2 he2 kn2 dgv kd len (nxO n o9) kh km pg u_59 (mixF 6 ord sav) (mixF k5 o9 bo9) cb sl len2 ord2 kh2 km2) H := hP
                            obtain rfl := hw_106
                            refine lv_istore_n (lv' := [(3, .int (bI (decide (¬ dnF o9 (n - 1) = 0)))), (5, .int (nI (k5))), (2, .int (nI (wrg n kp kd len lo o9))), (4, .int (nI (wrg n kp kd len lo o9))), (0, .ref (b 0)), (1, .int (nI (w)))]) hx hb dX11_bestNow_109 rfl hl (by decide) rfl (fun ls hl => ?_)
                            refine lv_goto (tgt := 54) hx hb dX11_bestNow_110 (by decide) ?_
                            exact ih_54 (decide (¬ dnF o9 (n - 1) = 0)) f9 (nxO n o9) (stL n Lx) (wrg n kp kd len lo o9) (mixF k5 o9 bo9) Lx u_59 (BstI_step hn2 hn hp hI (by rw [← hweq, if_pos (by omega)]) (fun _ j hj => by rw [mixF_in (by omega)]; exact (hI.1 rfl).2.1 j hj)) (nxO_perm hp hn2) (by omega) hw_59.2 (fun j hj => by rw [nxO_out hn2 (by omega)]; exact hou j hj) (by rw [c_55, hf9] at hd_54; have hd9 : f9 + 1 + 1 < dd_54 + 1 := hd_54; cases decide (¬ dnF o9 (n - 1) = 0) <;> (first | (show 0 < dd_54; omega) | (show f9 + 1 < dd_54; omega))) _ _ _ hP hS (lv_sub hl [0, 2, 4, 5] rfl)
                          · refine lv_aload_n hx hb dX11_bestNow_85 rfl (lv_at hl 4 rfl) ?_
                            refine va_get (D := (dC, dI)) (ci := 11) (C := RX11) (T := TX11) (N := 36) hx hb hts in_X11_bestNow_X11 hown hK hP 0 rfl rfl 20 (by decide) (hts (.fieldLink RX11 35 "MilkRoundModel" "bestOrder" "[I") (List.mem_of_getElem? (i := 5) rfl)) (fun _ h9 => h9) rfl dX11_bestNow_86 ?_
                            refine lv_iload hx hb dX11_bestNow_89 (lv_at hl 0 rfl) ?_
                            refine lv_aload_n hx hb dX11_bestNow_91 rfl (lv_at hl 4 rfl) ?_
                            refine va_get (D := (dC, dI)) (ci := 11) (C := RX11) (T := TX11) (N := 36) hx hb hts in_X11_bestNow_X11 hown hK hP 0 rfl rfl 4 (by decide) (hts (.fieldLink RX11 16 "MilkRoundModel" "orderAt" "[I") (List.mem_of_getElem? (i := 2) rfl)) (fun _ h9 => h9) rfl dX11_bestNow_92 ?_
                            refine lv_iload hx hb dX11_bestNow_95 (lv_at hl 0 rfl) ?_
                            refine n_iald hx hb hK hP 3 0 rfl rfl (by omega) (by decide) dX11_bestNow_97 ?_
                            refine n_iast hx hb hK hP (ad_D hA0 rfl) hS 9 0 rfl rfl (by omega) (by decide) dX11_bestNow_98 (fun H locs hP hS => ?_)
                            have hP : va_P (dC, dI) vwCl (DW y b rn n lo kp dy so he kn ak pl iw nm sd ik kr lo2 dy2 so2 he2 kn2 dgv kd len o9 kh km pg u_59 (mixF 6 ord sav) (va_up (mixF k5 o9 bo9) k5 (o9 k5)) cb sl len2 ord2 kh2 km2) H := hP
                            refine lv_iinc (v := nI (k5 + 1)) (lv' := [(5, .int (nI (k5 + 1))), (2, .int (nI (wrg n kp kd len lo o9))), (4, .int (nI (wrg n kp kd len lo o9))), (3, .int (bI (mo))), (0, .ref (b 0)), (1, .int (nI (w)))]) hx hb dX11_bestNow_99 hl (k := 0) rfl (mr_inc _) (by decide) rfl (fun ls hl => ?_)
                            refine lv_goto (tgt := 76) hx hb dX11_bestNow_102 (by decide) ?_
                            exact ih_76 (k5 + 1) (by omega) (by omega) _ _ _ (by rw [← mixF_s k5 o9 bo9]; exact hP) hS (lv_sub hl [0, 1, 2, 3, 4, 5] rfl)
                      exact loop_76 _ 0 (Nat.zero_le _) (Nat.lt_succ_self _) _ _ _ (by rw [mixF_0]; exact hP) hS (lv_sub hl [0, 1, 2, 3, 4, 5] rfl)
              exact loop_54 _ true 720 (mixF k (fun j => j) ord) (List.range n) 268435456 bo ([]) cm (BstI_0 hn2 hn (by decide) hid) ((id_perm n).eq (fun j hj => (hid j hj).symm)) (by decide) hcm (fun j hj => mixF_out (by omega)) (Nat.lt_succ_self _) _ _ _ hP hS (lv_sub hl [0, 1, 2, 3] rfl)
            · refine lv_aload_n hx hb dX11_bestNow_36 rfl (lv_at hl 1 rfl) ?_
              refine va_get (D := (dC, dI)) (ci := 11) (C := RX11) (T := TX11) (N := 36) hx hb hts in_X11_bestNow_X11 hown hK hP 0 rfl rfl 4 (by decide) (hts (.fieldLink RX11 16 "MilkRoundModel" "orderAt" "[I") (List.mem_of_getElem? (i := 2) rfl)) (fun _ h9 => h9) rfl dX11_bestNow_37 ?_
              refine lv_iload_n hx hb dX11_bestNow_40 rfl (lv_at hl 0 rfl) ?_
              refine lv_iload_n hx hb dX11_bestNow_41 rfl (lv_at hl 0 rfl) ?_
              refine n_iast hx hb hK hP (ad_D hA0 rfl) hS 3 0 rfl rfl (by omega) (by decide) dX11_bestNow_42 (fun H locs hP hS => ?_)
              have hP : va_P (dC, dI) vwCl (DW y b rn n lo kp dy so he kn ak pl iw nm sd ik kr lo2 dy2 so2 he2 kn2 dgv kd len (va_up (mixF k (fun j => j) ord) k k) kh km pg cm (mixF 6 ord sav) bo cb sl len2 ord2 kh2 km2) H := hP
              refine lv_iinc (v := nI (k + 1)) (lv' := [(2, .int (nI (k + 1))), (0, .ref (b 0)), (1, .int (nI (w)))]) hx hb dX11_bestNow_43 hl (k := 0) rfl (mr_inc _) (by decide) rfl (fun ls hl => ?_)
              refine lv_goto (tgt := 28) hx hb dX11_bestNow_46 (by decide) ?_
              exact ih_28 (k + 1) (by omega) (by omega) _ _ _ (by rw [← mixF_s]; exact hP) hS (lv_sub hl [0, 1, 2] rfl)
        exact loop_28 _ 0 (Nat.zero_le _) (Nat.lt_succ_self _) _ _ _ (by rw [mixF_0]; exact hP) hS (lv_sub hl [0, 1, 2] rfl)
      · refine lv_aload_n hx hb dX11_bestNow_8 rfl (lv_at hl 1 rfl) ?_
        refine va_get (D := (dC, dI)) (ci := 11) (C := RX11) (T := TX11) (N := 36) hx hb hts in_X11_bestNow_X11 hown hK hP 0 rfl rfl 19 (by decide) (hts (.fieldLink RX11 32 "MilkRoundModel" "savedOrder" "[I") (List.mem_of_getElem? (i := 1) rfl)) (fun _ h9 => h9) rfl dX11_bestNow_9 ?_
        refine lv_iload_n hx hb dX11_bestNow_12 rfl (lv_at hl 0 rfl) ?_
        refine lv_aload_n hx hb dX11_bestNow_13 rfl (lv_at hl 1 rfl) ?_
        refine va_get (D := (dC, dI)) (ci := 11) (C := RX11) (T := TX11) (N := 36) hx hb hts in_X11_bestNow_X11 hown hK hP 0 rfl rfl 4 (by decide) (hts (.fieldLink RX11 16 "MilkRoundModel" "orderAt" "[I") (List.mem_of_getElem? (i := 2) rfl)) (fun _ h9 => h9) rfl dX11_bestNow_14 ?_
        refine lv_iload_n hx hb dX11_bestNow_17 rfl (lv_at hl 0 rfl) ?_
        refine n_iald hx hb hK hP 3 0 rfl rfl (by omega) (by decide) dX11_bestNow_18 ?_
        refine n_iast hx hb hK hP (ad_D hA0 rfl) hS 8 0 rfl rfl (by omega) (by decide) dX11_bestNow_19 (fun H locs hP hS => ?_)
        have hP : va_P (dC, dI) vwCl (DW y b rn n lo kp dy so he kn ak pl iw nm sd ik kr lo2 dy2 so2 he2 kn2 dgv kd len ord kh km pg cm (va_up (mixF k ord sav) k (ord k)) bo cb sl len2 ord2 kh2 km2) H := hP
        refine lv_iinc (v := nI (k + 1)) (lv' := [(2, .int (nI (k + 1))), (0, .ref (b 0)), (1, .int (nI (w)))]) hx hb dX11_bestNow_20 hl (k := 0) rfl (mr_inc _) (by decide) rfl (fun ls hl => ?_)
        refine lv_goto (tgt := 2) hx hb dX11_bestNow_23 (by decide) ?_
        exact ih_2 (k + 1) (by omega) (by omega) _ _ _ (by rw [← mixF_s]; exact hP) hS (lv_sub hl [0, 1, 2] rfl)
  exact loop_2 _ 0 (Nat.zero_le _) (Nat.lt_succ_self _) _ _ _ (by rw [mixF_0]; exact hP) hS (lv_sub hl [0, 1, 2] rfl)
theorem in_X11_best_X11 : ∀ w ∈ wsX110, w ∈ wsX11_best := fun w h => List.mem_cons_of_mem _ (List.mem_append_right _ h)
set_option maxHeartbeats 4000000 in
set_option maxRecDepth 100000 in
theorem k_X11_best (l : Launch) (dC : Nat → ClassId) (dI : Nat → Nat → Nat) (y : Nat → ClassId) (A : Nat → Prop) (b : Nat → Nat) (hA0 : ad_ok A b 16) (rn : Nat) (n : Nat) (lo : Int32) (kp : Nat) (dy : Int32) (so : Int32) (he : Int32) (kn : Nat) (ak : Nat) (pl : Nat) (iw : Bool) (nm : Nat) (sd : Int64) (ik : Bool) (kr : Nat) (lo2 : Int32) (dy2 : Int32) (so2 : Int32) (he2 : Int32) (kn2 : Nat) (dgv : Int64) (kd : Nat → Nat) (len : Nat → Nat) (ord : Nat → Nat) (kh : Nat → Nat) (km : Nat → Nat) (pg : Nat → Nat) (cm : Nat → Nat) (sav : Nat → Nat) (bo : Nat → Nat) (cb : Nat → Nat) (sl : Nat → Nat) (len2 : Nat → Nat) (ord2 : Nat → Nat) (kh2 : Nat → Nat) (km2 : Nat → Nat) (w : Int32) (hn2 : n = 0 ∨ 2 ≤ n) (hn : n ≤ 6) (hord : PermOn n ord) (hlen : ∀ j, len j ≤ 9) (hkd : ∀ j, kd j ≤ 4) (hcm : ∀ j, cm j ≤ 126) (hkp : kp ≤ 9) (hak : ak ≤ 30) : Met l yX11_best wsX11_best ({ frames := 7, cells := 0, slots := 0, locals := 153 } : Room) (c_P (dC, dI) vwCl (TY y) (fun _ => True) (DW y b rn n lo kp dy so he kn ak pl iw nm sd ik kr lo2 dy2 so2 he2 kn2 dgv kd len ord kh km pg cm sav bo cb sl len2 ord2 kh2 km2) [.ref (b 0), .int (w)]) (va_Qi (fun (r : Int32) (u : (Nat → Nat) × (Nat → Nat) × (Nat → Nat)) => r = rBest n kp kd len lo ak w ∧ ∀ j, u.1 j ≤ 126) (c_B (dC, dI) vwCl (TY y) (fun (u : (Nat → Nat) × (Nat → Nat) × (Nat → Nat)) => (DW y b rn n lo kp dy so he kn (sBest n ak w) pl iw nm sd ik kr lo2 dy2 so2 he2 kn2 dgv kd len ord kh km pg u.1 u.2.1 u.2.2 cb sl len2 ord2 kh2 km2))) A) 0 0 A := by
  refine Met.ofW (cc := cX11_best) (maxL := 2) (ret := (some .int)) (by decide) rfl ?_
  intro p e s m args below meth c s₁ BB hml hv
  obtain ⟨rfl, hP, hK, hE⟩ := hv
  have hx := BB.exec
  have hb := BB.bytes
  have hr := BB.returns
  have hts := atoms_spec (ws := wsX11_best) BB.pre
  have hown : s.vm.findClass RX11 = some m.cls := findClass_of_methodNamed BB.named
  have hlocks := BB.notSynchronized
  have hS : va_S A s.heap s.heap [] := va_S.rf
  have hl := lv_entry ([.ref (b 0), .int (w)]) (n := 2) (Nat.le_of_ble_eq_true rfl)
  rw [lg_entry_eq]
  generalize (lg_sl ([.ref (b 0), .int (w)]) ++ List.replicate (2 - (lg_sl ([.ref (b 0), .int (w)])).length) Slot.unset).toArray = ls at hl ⊢
  have hl : lv_has ls 2 [(0, .ref (b 0)), (1, .int (w))] := hl
  refine lv_iload_n hx hb dX11_best_0 rfl (lv_at hl 1 rfl) ?_
  refine lv_if_eq (tgt := 18) hx hb dX11_best_1 (by decide) (fun c_1 => ?_) (fun c_1 => ?_)
  · refine lv_aload_n hx hb dX11_best_18 rfl (lv_at hl 0 rfl) ?_
    refine va_get (D := (dC, dI)) (ci := 11) (C := RX11) (T := TX11) (N := 36) hx hb hts in_X11_best_X11 hown hK hP 0 rfl rfl 1 (by decide) (hts (.fieldLink RX11 82 "MilkRoundModel" "houses" "I") (List.mem_of_getElem? (i := 1) rfl)) (fun _ h9 => h9) rfl dX11_best_19 ?_
    refine n_if_eq (tgt := 34) hx hb dX11_best_22 (by decide) (by omega) (fun c_22 => ?_) (fun c_22 => ?_)
    · refine lv_bipush (v := (-103)) hx hb dX11_best_34 (by decide) ?_
      have hP : va_P (dC, dI) vwCl (DW y b rn n lo kp dy so he kn (sBest n ak w) pl iw nm sd ik kr lo2 dy2 so2 he2 kn2 dgv kd len ord kh km pg ((cm, sav, bo).1) ((cm, sav, bo).2.1) ((cm, sav, bo).2.2) cb sl len2 ord2 kh2 km2) s.heap := by
        rw [sBest, show okW w = true from by unfold okW; rw [decide_eq_true c_1]; rfl, if_pos (Or.inl c_22)]
        exact hP
      exact c_iret hx hb hr hlocks hK hS (cm, sav, bo) hP ⟨by unfold rBest; rw [show okW w = true from by unfold okW; rw [decide_eq_true c_1]; rfl, if_pos (Or.inl c_22)]; rfl, hcm⟩ dX11_best_36
    · refine lv_aload_n hx hb dX11_best_25 rfl (lv_at hl 0 rfl) ?_
      refine va_get (D := (dC, dI)) (ci := 11) (C := RX11) (T := TX11) (N := 36) hx hb hts in_X11_best_X11 hown hK hP 0 rfl rfl 13 (by decide) (hts (.fieldLink RX11 160 "MilkRoundModel" "asks" "I") (List.mem_of_getElem? (i := 2) rfl)) (fun _ h9 => h9) rfl dX11_best_26 ?_
      refine lv_bipush (v := nI (30)) hx hb dX11_best_29 (by decide) ?_
      refine n_icmp_ne (tgt := 37) hx hb dX11_best_31 (by decide) (by omega) (by omega) (fun c_31 => ?_) (fun c_31 => ?_)
      · obtain ⟨k, hk, ek⟩ : ∃ k : Nat, (k = 0 ∨ (10 ≤ k ∧ k ≤ 15)) ∧ w = nI k := by
          first
          | exact ⟨0, Or.inl rfl, by rw [c_1]; rfl⟩
          | (obtain ⟨k, h1, h2, h3⟩ := inT_of c_12; exact ⟨k, Or.inr ⟨h1, h2⟩, h3⟩)
        rw [ek] at hl
        have hl : lv_has ls 2 [(0, .ref (b 0)), (1, .int (nI (k)))] := hl
        refine lv_aload_n hx hb dX11_best_37 rfl (lv_at hl 0 rfl) ?_
        refine lv_dup hx hb dX11_best_38 rfl ?_
        refine va_get (D := (dC, dI)) (ci := 11) (C := RX11) (T := TX11) (N := 36) hx hb hts in_X11_best_X11 hown hK hP 0 rfl rfl 13 (by decide) (hts (.fieldLink RX11 160 "MilkRoundModel" "asks" "I") (List.mem_of_getElem? (i := 2) rfl)) (fun _ h9 => h9) rfl dX11_best_39 ?_
        refine lv_iconst (v := nI (1)) hx hb dX11_best_42 (by decide) ?_
        refine n_iadd hx hb dX11_best_43 ?_
        refine va_put (D := (dC, dI)) (ci := 11) (ty := tyX11 13) (C := RX11) (T := TX11) (N := 36) hx hb hts in_X11_best_X11 tyX11 tyX11_ok nmX11 hown hK hP (ad_D hA0 rfl) hS 0 rfl rfl 13 (by decide) (hts (.fieldLink RX11 160 "MilkRoundModel" "asks" "I") (List.mem_of_getElem? (i := 2) rfl)) (fun _ h9 => h9) rfl (tyX11_ok 13 (by decide)) rfl rfl (Nat.le_of_ble_eq_true rfl) dX11_best_44 (fun H locs hP _ hS => ?_)
        have hP : va_P (dC, dI) vwCl (DW y b rn n lo kp dy so he kn (ak + 1) pl iw nm sd ik kr lo2 dy2 so2 he2 kn2 dgv kd len ord kh km pg cm sav bo cb sl len2 ord2 kh2 km2) H := hP
        refine lv_aload_n hx hb dX11_best_47 rfl (lv_at hl 0 rfl) ?_
        refine lv_iload_n hx hb dX11_best_48 rfl (lv_at hl 1 rfl) ?_
        refine c_calli (va_runV (As := [.int (nI (k))]) (rest := []) ⟨hx, hb, hml, hown, hts⟩ (k_X11_bestNow l dC dI y A b hA0 rn n lo kp dy so he kn (ak + 1) pl iw nm sd ik kr lo2 dy2 so2 he2 kn2 dgv kd len ord kh km pg cm sav bo cb sl len2 ord2 kh2 km2 k (by omega) hn hord hlen hkd hcm hkp hk) (cwV 1 hts gX11_best_X11_bestNow rfl rfl rfl (by decide +kernel) ⟨Nat.le_of_ble_eq_true rfl, Nat.le_of_ble_eq_true rfl⟩) (c_preV (c_N0 A) hK hE hS hP (va_recv hK hP (ci := 11) (q0 := 0) rfl rfl)) rfl rfl hl.1 rfl (lv_room (Nat.le_of_ble_eq_true rfl)) dX11_best_49 ⟨Nat.le_refl _, Nat.le_refl _⟩) hS (fun r_49 u_49 H locs hw_49 hP hS => ?_)
        have hP : va_P (dC, dI) vwCl (DW y b rn n lo kp dy so he kn (ak + 1) pl iw nm sd ik kr lo2 dy2 so2 he2 kn2 dgv kd len ord kh km pg u_49.1 u_49.2.1 u_49.2.2 cb sl len2 ord2 kh2 km2) H := hP
        obtain ⟨rfl, hw_49⟩ := hw_49
        have hP : va_P (dC, dI) vwCl (DW y b rn n lo kp dy so he kn (sBest n ak w) pl iw nm sd ik kr lo2 dy2 so2 he2 kn2 dgv kd len ord kh km pg u_49.1 u_49.2.1 u_49.2.2 cb sl len2 ord2 kh2 km2) H := by
          rw [sBest, show okW w = true from by unfold okW; rw [decide_eq_true c_1]; rfl, if_neg (by omega)]
          exact hP
        exact c_iret hx hb hr hlocks hK hS u_49 hP ⟨by unfold rBest; rw [show okW w = true from by unfold okW; rw [decide_eq_true c_1]; rfl, if_neg (by omega), ek, nI_clamp (by omega)]; rfl, hw_49⟩ dX11_best_52
      · refine lv_bipush (v := (-103)) hx hb dX11_best_34 (by decide) ?_
        have hP : va_P (dC, dI) vwCl (DW y b rn n lo kp dy so he kn (sBest n ak w) pl iw nm sd ik kr lo2 dy2 so2 he2 kn2 dgv kd len ord kh km pg ((cm, sav, bo).1) ((cm, sav, bo).2.1) ((cm, sav, bo).2.2) cb sl len2 ord2 kh2 km2) s.heap := by
          rw [sBest, show okW w = true from by unfold okW; rw [decide_eq_true c_1]; rfl, if_pos (Or.inr c_31)]
          exact hP
        exact c_iret hx hb hr hlocks hK hS (cm, sav, bo) hP ⟨by unfold rBest; rw [show okW w = true from by unfold okW; rw [decide_eq_true c_1]; rfl, if_pos (Or.inr c_31)]; rfl, hcm⟩ dX11_best_36
  · refine lv_iload_n hx hb dX11_best_4 rfl (lv_at hl 1 rfl) ?_
    refine lv_bipush (v := nI (10)) hx hb dX11_best_5 (by decide) ?_
    refine lv_bipush (v := nI (15)) hx hb dX11_best_7 (by decide) ?_
    refine c_calli (va_runS (As := [.int (w), .int (nI (10)), .int (nI (15))]) (rest := []) ⟨hx, hb, hml, hown, hts⟩ (k_X11_within l dC dI y A (DW y b rn n lo kp dy so he kn ak pl iw nm sd ik kr lo2 dy2 so2 he2 kn2 dgv kd len ord kh km pg cm sav bo cb sl len2 ord2 kh2 km2) (fun _ => True) w (nI (10)) (nI (15)) ) (va_cwS 3 hts gX11_best_X11_within rfl rfl rfl (by decide +kernel) ⟨Nat.le_of_ble_eq_true rfl, Nat.le_of_ble_eq_true rfl⟩) (c_preS (c_N0 A) hK hE hS hP) rfl rfl hl.1 rfl (lv_room (Nat.le_of_ble_eq_true rfl)) dX11_best_9 ⟨Nat.le_refl _, Nat.le_refl _⟩) hS (fun r_9 u_9 H locs hw_9 hP hS => ?_)
    obtain rfl := hw_9
    refine n_bif_ne (tgt := 18) hx hb dX11_best_12 (by decide) (fun c_12 => ?_) (fun c_12 => ?_)
    · refine lv_aload_n hx hb dX11_best_18 rfl (lv_at hl 0 rfl) ?_
      refine va_get (D := (dC, dI)) (ci := 11) (C := RX11) (T := TX11) (N := 36) hx hb hts in_X11_best_X11 hown hK hP 0 rfl rfl 1 (by decide) (hts (.fieldLink RX11 82 "MilkRoundModel" "houses" "I") (List.mem_of_getElem? (i := 1) rfl)) (fun _ h9 => h9) rfl dX11_best_19 ?_
      refine n_if_eq (tgt := 34) hx hb dX11_best_22 (by decide) (by omega) (fun c_22 => ?_) (fun c_22 => ?_)
      · refine lv_bipush (v := (-103)) hx hb dX11_best_34 (by decide) ?_
        have hP : va_P (dC, dI) vwCl (DW y b rn n lo kp dy so he kn (sBest n ak w) pl iw nm sd ik kr lo2 dy2 so2 he2 kn2 dgv kd len ord kh km pg ((cm, sav, bo).1) ((cm, sav, bo).2.1) ((cm, sav, bo).2.2) cb sl len2 ord2 kh2 km2) H := by
          rw [sBest, show okW w = true from by unfold okW; rw [decide_eq_false c_1]; exact c_12, if_pos (Or.inl c_22)]
          exact hP
        exact c_iret hx hb hr hlocks hK hS (cm, sav, bo) hP ⟨by unfold rBest; rw [show okW w = true from by unfold okW; rw [decide_eq_false c_1]; exact c_12, if_pos (Or.inl c_22)]; rfl, hcm⟩ dX11_best_36
      · refine lv_aload_n hx hb dX11_best_25 rfl (lv_at hl 0 rfl) ?_
        refine va_get (D := (dC, dI)) (ci := 11) (C := RX11) (T := TX11) (N := 36) hx hb hts in_X11_best_X11 hown hK hP 0 rfl rfl 13 (by decide) (hts (.fieldLink RX11 160 "MilkRoundModel" "asks" "I") (List.mem_of_getElem? (i := 2) rfl)) (fun _ h9 => h9) rfl dX11_best_26 ?_
        refine lv_bipush (v := nI (30)) hx hb dX11_best_29 (by decide) ?_
        refine n_icmp_ne (tgt := 37) hx hb dX11_best_31 (by decide) (by omega) (by omega) (fun c_31 => ?_) (fun c_31 => ?_)
        · obtain ⟨k, hk, ek⟩ : ∃ k : Nat, (k = 0 ∨ (10 ≤ k ∧ k ≤ 15)) ∧ w = nI k := by
            first
            | exact ⟨0, Or.inl rfl, by rw [c_1]; rfl⟩
            | (obtain ⟨k, h1, h2, h3⟩ := inT_of c_12; exact ⟨k, Or.inr ⟨h1, h2⟩, h3⟩)
          rw [ek] at hl
          have hl : lv_has ls 2 [(0, .ref (b 0)), (1, .int (nI (k)))] := hl
          refine lv_aload_n hx hb dX11_best_37 rfl (lv_at hl 0 rfl) ?_
          refine lv_dup hx hb dX11_best_38 rfl ?_
          refine va_get (D := (dC, dI)) (ci := 11) (C := RX11) (T := TX11) (N := 36) hx hb hts in_X11_best_X11 hown hK hP 0 rfl rfl 13 (by decide) (hts (.fieldLink RX11 160 "MilkRoundModel" "asks" "I") (List.mem_of_getElem? (i := 2) rfl)) (fun _ h9 => h9) rfl dX11_best_39 ?_
          refine lv_iconst (v := nI (1)) hx hb dX11_best_42 (by decide) ?_
          refine n_iadd hx hb dX11_best_43 ?_
          refine va_put (D := (dC, dI)) (ci := 11) (ty := tyX11 13) (C := RX11) (T := TX11) (N := 36) hx hb hts in_X11_best_X11 tyX11 tyX11_ok nmX11 hown hK hP (ad_D hA0 rfl) hS 0 rfl rfl 13 (by decide) (hts (.fieldLink RX11 160 "MilkRoundModel" "asks" "I") (List.mem_of_getElem? (i := 2) rfl)) (fun _ h9 => h9) rfl (tyX11_ok 13 (by decide)) rfl rfl (Nat.le_of_ble_eq_true rfl) dX11_best_44 (fun H locs hP _ hS => ?_)
          have hP : va_P (dC, dI) vwCl (DW y b rn n lo kp dy so he kn (ak + 1) pl iw nm sd ik kr lo2 dy2 so2 he2 kn2 dgv kd len ord kh km pg cm sav bo cb sl len2 ord2 kh2 km2) H := hP
          refine lv_aload_n hx hb dX11_best_47 rfl (lv_at hl 0 rfl) ?_
          refine lv_iload_n hx hb dX11_best_48 rfl (lv_at hl 1 rfl) ?_
          refine c_calli (va_runV (As := [.int (nI (k))]) (rest := []) ⟨hx, hb, hml, hown, hts⟩ (k_X11_bestNow l dC dI y A b hA0 rn n lo kp dy so he kn (ak + 1) pl iw nm sd ik kr lo2 dy2 so2 he2 kn2 dgv kd len ord kh km pg cm sav bo cb sl len2 ord2 kh2 km2 k (by omega) hn hord hlen hkd hcm hkp hk) (cwV 1 hts gX11_best_X11_bestNow rfl rfl rfl (by decide +kernel) ⟨Nat.le_of_ble_eq_true rfl, Nat.le_of_ble_eq_true rfl⟩) (c_preV (c_N0 A) hK hE hS hP (va_recv hK hP (ci := 11) (q0 := 0) rfl rfl)) rfl rfl hl.1 rfl (lv_room (Nat.le_of_ble_eq_true rfl)) dX11_best_49 ⟨Nat.le_refl _, Nat.le_refl _⟩) hS (fun r_49 u_49 H locs hw_49 hP hS => ?_)
          have hP : va_P (dC, dI) vwCl (DW y b rn n lo kp dy so he kn (ak + 1) pl iw nm sd ik kr lo2 dy2 so2 he2 kn2 dgv kd len ord kh km pg u_49.1 u_49.2.1 u_49.2.2 cb sl len2 ord2 kh2 km2) H := hP
          obtain ⟨rfl, hw_49⟩ := hw_49
          have hP : va_P (dC, dI) vwCl (DW y b rn n lo kp dy so he kn (sBest n ak w) pl iw nm sd ik kr lo2 dy2 so2 he2 kn2 dgv kd len ord kh km pg u_49.1 u_49.2.1 u_49.2.2 cb sl len2 ord2 kh2 km2) H := by
            rw [sBest, show okW w = true from by unfold okW; rw [decide_eq_false c_1]; exact c_12, if_neg (by omega)]
            exact hP
          exact c_iret hx hb hr hlocks hK hS u_49 hP ⟨by unfold rBest; rw [show okW w = true from by unfold okW; rw [decide_eq_false c_1]; exact c_12, if_neg (by omega), ek, nI_clamp (by omega)]; rfl, hw_49⟩ dX11_best_52
        · refine lv_bipush (v := (-103)) hx hb dX11_best_34 (by decide) ?_
          have hP : va_P (dC, dI) vwCl (DW y b rn n lo kp dy so he kn (sBest n ak w) pl iw nm sd ik kr lo2 dy2 so2 he2 kn2 dgv kd len ord kh km pg ((cm, sav, bo).1) ((cm, sav, bo).2.1) ((cm, sav, bo).2.2) cb sl len2 ord2 kh2 km2) H := by
            rw [sBest, show okW w = true from by unfold okW; rw [decide_eq_false c_1]; exact c_12, if_pos (Or.inr c_31)]
            exact hP
          exact c_iret hx hb hr hlocks hK hS (cm, sav, bo) hP ⟨by unfold rBest; rw [show okW w = true from by unfold okW; rw [decide_eq_false c_1]; exact c_12, if_pos (Or.inr c_31)]; rfl, hcm⟩ dX11_best_36
    · refine lv_bipush (v := (-102)) hx hb dX11_best_15 (by decide) ?_
      have hP : va_P (dC, dI) vwCl (DW y b rn n lo kp dy so he kn (sBest n ak w) pl iw nm sd ik kr lo2 dy2 so2 he2 kn2 dgv kd len ord kh km pg ((cm, sav, bo).1) ((cm, sav, bo).2.1) ((cm, sav, bo).2.2) cb sl len2 ord2 kh2 km2) H := by
        rw [sBest, show okW w = false from by unfold okW; rw [decide_eq_false c_1]; exact c_12]
        exact hP
      exact c_iret hx hb hr hlocks hK hS (cm, sav, bo) hP ⟨by unfold rBest; rw [show okW w = false from by unfold okW; rw [decide_eq_false c_1]; exact c_12]; rfl, hcm⟩ dX11_best_17
