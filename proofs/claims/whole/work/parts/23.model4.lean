theorem in_X11_draw_X11 : ∀ w ∈ wsX110, w ∈ wsX11_draw := fun w h => List.mem_cons_of_mem _ (List.mem_append_right _ h)
set_option maxHeartbeats 4000000 in
set_option maxRecDepth 100000 in
theorem k_X11_draw (l : Launch) (dC : Nat → ClassId) (dI : Nat → Nat → Nat) (y : Nat → ClassId) (A : Nat → Prop) (b : Nat → Nat) (hA0 : ad_ok A b 16) (rn : Nat) (n : Nat) (lo : Int32) (kp : Nat) (dy : Int32) (so : Int32) (he : Int32) (kn : Nat) (ak : Nat) (pl : Nat) (iw : Bool) (nm : Nat) (ik : Bool) (kr : Nat) (lo2 : Int32) (dy2 : Int32) (so2 : Int32) (he2 : Int32) (kn2 : Nat) (dgv : Int64) (kd : Nat → Nat) (len : Nat → Nat) (ord : Nat → Nat) (kh : Nat → Nat) (km : Nat → Nat) (pg : Nat → Nat) (cm : Nat → Nat) (sav : Nat → Nat) (bo : Nat → Nat) (cb : Nat → Nat) (sl : Nat → Nat) (len2 : Nat → Nat) (ord2 : Nat → Nat) (kh2 : Nat → Nat) (km2 : Nat → Nat) (x : Nat) (hx0 : x < 2147483648) : Met l yX11_draw wsX11_draw ({ frames := 0, cells := 0, slots := 0, locals := 0 } : Room) (c_P (dC, dI) vwCl (TY y) (fun _ => True) (DW y b rn n lo kp dy so he kn ak pl iw nm (lN x) ik kr lo2 dy2 so2 he2 kn2 dgv kd len ord kh km pg cm sav bo cb sl len2 ord2 kh2 km2) [.ref (b 0), .int (nI (10))]) (va_Qi (fun (r : Int32) (u : Unit) => r = nI (dgF (drF x))) (c_B (dC, dI) vwCl (TY y) (fun (u : Unit) => (DW y b rn n lo kp dy so he kn ak pl iw nm (lN (drF x)) ik kr lo2 dy2 so2 he2 kn2 dgv kd len ord kh km pg cm sav bo cb sl len2 ord2 kh2 km2))) A) 0 0 A := by
  refine Met.ofW (cc := cX11_draw) (maxL := 2) (ret := (some .int)) (by decide) rfl ?_
  intro p e s m args below meth c s₁ BB hml hv
  obtain ⟨rfl, hP, hK, hE⟩ := hv
  have hx := BB.exec
  have hb := BB.bytes
  have hr := BB.returns
  have hts := atoms_spec (ws := wsX11_draw) BB.pre
  have hown : s.vm.findClass RX11 = some m.cls := findClass_of_methodNamed BB.named
  have hlocks := BB.notSynchronized
  have hS : va_S A s.heap s.heap [] := va_S.rf
  have hl := lv_entry ([.ref (b 0), .int (nI (10))]) (n := 2) (Nat.le_of_ble_eq_true rfl)
  rw [lg_entry_eq]
  generalize (lg_sl ([.ref (b 0), .int (nI (10))]) ++ List.replicate (2 - (lg_sl ([.ref (b 0), .int (nI (10))])).length) Slot.unset).toArray = ls at hl ⊢
  have hl : lv_has ls 2 [(0, .ref (b 0)), (1, .int (nI (10)))] := hl
  refine lv_aload_n hx hb dX11_draw_0 rfl (lv_at hl 0 rfl) ?_
  refine lv_ldc2 hx hb hown (hts (.constantLong RX11 178 (1103515245)) (List.mem_of_getElem? (i := 1) rfl)) dX11_draw_1 ?_
  refine lv_aload_n hx hb dX11_draw_4 rfl (lv_at hl 0 rfl) ?_
  refine va_get (D := (dC, dI)) (ci := 11) (C := RX11) (T := TX11) (N := 36) hx hb hts in_X11_draw_X11 hown hK hP 0 rfl rfl 22 (by decide) (hts (.fieldLink RX11 180 "MilkRoundModel" "seedNow" "J") (List.mem_of_getElem? (i := 2) rfl)) (fun _ h9 => h9) rfl dX11_draw_5 ?_
  refine lv_lmul hx hb dX11_draw_8 ?_
  refine n_topl (y := lN (1103515245 * x)) (lN_mul 1103515245 x) ?_
  refine lv_ldc2 hx hb hown (hts (.constantLong RX11 184 (12345)) (List.mem_of_getElem? (i := 3) rfl)) dX11_draw_9 ?_
  refine lv_ladd hx hb dX11_draw_12 ?_
  refine n_topl (y := lN (1103515245 * x + 12345)) (lN_add (1103515245 * x) 12345) ?_
  refine lv_ldc2 hx hb hown (hts (.constantLong RX11 186 (2147483647)) (List.mem_of_getElem? (i := 4) rfl)) dX11_draw_13 ?_
  refine lv_land hx hb dX11_draw_16 ?_
  refine n_topl (y := lN (drF x)) (mr_and31 _) ?_
  refine va_put (D := (dC, dI)) (ci := 11) (ty := tyX11 22) (C := RX11) (T := TX11) (N := 36) hx hb hts in_X11_draw_X11 tyX11 tyX11_ok nmX11 hown hK hP (ad_D hA0 rfl) hS 0 rfl rfl 22 (by decide) (hts (.fieldLink RX11 180 "MilkRoundModel" "seedNow" "J") (List.mem_of_getElem? (i := 2) rfl)) (fun _ h9 => h9) rfl (tyX11_ok 22 (by decide)) rfl rfl (Nat.le_of_ble_eq_true rfl) dX11_draw_17 (fun H locs hP _ hS => ?_)
  have hP : va_P (dC, dI) vwCl (DW y b rn n lo kp dy so he kn ak pl iw nm (lN (drF x)) ik kr lo2 dy2 so2 he2 kn2 dgv kd len ord kh km pg cm sav bo cb sl len2 ord2 kh2 km2) H := hP
  have hdr := drF_lt x
  refine lv_aload_n hx hb dX11_draw_20 rfl (lv_at hl 0 rfl) ?_
  refine va_get (D := (dC, dI)) (ci := 11) (C := RX11) (T := TX11) (N := 36) hx hb hts in_X11_draw_X11 hown hK hP 0 rfl rfl 22 (by decide) (hts (.fieldLink RX11 180 "MilkRoundModel" "seedNow" "J") (List.mem_of_getElem? (i := 2) rfl)) (fun _ h9 => h9) rfl dX11_draw_21 ?_
  refine lv_ldc2 hx hb hown (hts (.constantLong RX11 188 (65536)) (List.mem_of_getElem? (i := 5) rfl)) dX11_draw_24 ?_
  refine lv_ldiv hx hb dX11_draw_27 (by decide) ?_
  refine n_topl (y := lN (drF x / 65536)) (pk_lDiv (b := 65536) (by omega) (by decide) (by decide)) ?_
  refine lv_iload_n hx hb dX11_draw_28 rfl (lv_at hl 1 rfl) ?_
  refine lv_i2l (v := lN 10) hx hb dX11_draw_29 (nI_l (by decide)) ?_
  refine lv_lrem hx hb dX11_draw_30 (by decide) ?_
  refine n_topl (y := lN (drF x / 65536 % 10)) (mr_rem (by omega) (by decide) (by decide)) ?_
  refine lv_l2i (v := nI (drF x / 65536 % 10)) hx hb dX11_draw_31 (lN_i _) ?_
  exact c_iret hx hb hr hlocks hK hS () hP rfl dX11_draw_32
theorem in_X11_weeksNow_X11 : ∀ w ∈ wsX110, w ∈ wsX11_weeksNow := fun w h => List.mem_cons_of_mem _ (List.mem_append_right _ h)
set_option maxHeartbeats 4000000 in
set_option maxRecDepth 100000 in
theorem k_X11_weeksNow (l : Launch) (dC : Nat → ClassId) (dI : Nat → Nat → Nat) (y : Nat → ClassId) (A : Nat → Prop) (b : Nat → Nat) (hA0 : ad_ok A b 16) (rn : Nat) (n : Nat) (lo : Int32) (kp : Nat) (dy : Int32) (so : Int32) (he : Int32) (kn : Nat) (ak : Nat) (pl : Nat) (iw : Bool) (nm : Nat) (sd : Int64) (ik : Bool) (kr : Nat) (lo2 : Int32) (dy2 : Int32) (so2 : Int32) (he2 : Int32) (kn2 : Nat) (dgv : Int64) (kd : Nat → Nat) (len : Nat → Nat) (ord : Nat → Nat) (kh : Nat → Nat) (km : Nat → Nat) (pg : Nat → Nat) (cm : Nat → Nat) (sav : Nat → Nat) (bo : Nat → Nat) (cb : Nat → Nat) (sl : Nat → Nat) (len2 : Nat → Nat) (ord2 : Nat → Nat) (kh2 : Nat → Nat) (km2 : Nat → Nat) (d : Nat) (x : Nat) (w : Nat) (hn : n ≤ 6) (hord : PermOn n ord) (hlen : ∀ j, len j ≤ 9) (hkd : ∀ j, kd j ≤ 4) (hcm : ∀ j, cm j ≤ 126) (hkp : kp ≤ 9) (hd : d ≤ 60) (hx0 : x < 2147483648) (hw : w ≤ 2) : Met l yX11_weeksNow wsX11_weeksNow ({ frames := 5, cells := 0, slots := 0, locals := 108 } : Room) (c_P (dC, dI) vwCl (TY y) (fun _ => True) (DW y b rn n lo kp dy so he kn ak pl iw nm sd ik kr lo2 dy2 so2 he2 kn2 dgv kd len ord kh km pg cm sav bo cb sl len2 ord2 kh2 km2) [.ref (b 0), .int (nI (d)), .int (nI (x)), .int (nI (w))]) (va_Qi (fun (r : Int32) (u : (Nat → Nat) × Int64 × (Nat → Nat)) => r = wkF n kp kd lo ord d x w ∧ ∀ j, u.1 j ≤ 126) (c_B (dC, dI) vwCl (TY y) (fun (u : (Nat → Nat) × Int64 × (Nat → Nat)) => (DW y b rn n lo kp dy so he kn ak pl iw nm u.2.1 ik kr lo2 dy2 so2 he2 kn2 dgv kd len ord kh km pg u.1 sav bo cb u.2.2 len2 ord2 kh2 km2))) A) 0 0 A := by
  refine Met.ofW (cc := cX11_weeksNow) (maxL := 8) (ret := (some .int)) (by decide) rfl ?_
  intro p e s m args below meth c s₁ BB hml hv
  obtain ⟨rfl, hP, hK, hE⟩ := hv
  have hx := BB.exec
  have hb := BB.bytes
  have hr := BB.returns
  have hts := atoms_spec (ws := wsX11_weeksNow) BB.pre
  have hown : s.vm.findClass RX11 = some m.cls := findClass_of_methodNamed BB.named
  have hlocks := BB.notSynchronized
  have hS : va_S A s.heap s.heap [] := va_S.rf
  have hl := lv_entry ([.ref (b 0), .int (nI (d)), .int (nI (x)), .int (nI (w))]) (n := 8) (Nat.le_of_ble_eq_true rfl)
  rw [lg_entry_eq]
  generalize (lg_sl ([.ref (b 0), .int (nI (d)), .int (nI (x)), .int (nI (w))]) ++ List.replicate (8 - (lg_sl ([.ref (b 0), .int (nI (d)), .int (nI (x)), .int (nI (w))])).length) Slot.unset).toArray = ls at hl ⊢
  have hl : lv_has ls 8 [(0, .ref (b 0)), (1, .int (nI (d))), (2, .int (nI (x))), (3, .int (nI (w)))] := hl
  refine lv_iconst (v := nI (0)) hx hb dX11_weeksNow_0 (by decide) ?_
  refine lv_istore (lv' := [(4, .int (nI (0))), (0, .ref (b 0)), (1, .int (nI (d))), (2, .int (nI (x))), (3, .int (nI (w)))]) hx hb dX11_weeksNow_1 hl (by decide) rfl (fun ls hl => ?_)
  have loop_3 : ∀ (dd_3 : Nat) (k : Nat) (hk : k ≤ 6), 6 - k < dd_3 → ∀ (H : Heap) (locs : List Loc) (ls : Array Slot), va_P (dC, dI) vwCl (DW y b rn n lo kp dy so he kn ak pl iw nm sd ik kr lo2 dy2 so2 he2 kn2 dgv kd len ord kh km pg cm sav bo cb (mixF k len sl) len2 ord2 kh2 km2) H → va_S A s.heap H locs → lv_has ls 8 [(4, .int (nI (k))), (0, .ref (b 0)), (1, .int (nI (d))), (2, .int (nI (x))), (3, .int (nI (w)))] → W p l e (headSpec wsX11_weeksNow ({ frames := 5, cells := 0, slots := 0, locals := 108 } : Room)).room s m [.ref (b 0), .int (nI (d)), .int (nI (x)), .int (nI (w))].toArray below meth c H locs 0 0 (MQ below (va_Qi (fun (r : Int32) (u : (Nat → Nat) × Int64 × (Nat → Nat)) => r = wkF n kp kd lo ord d x w ∧ ∀ j, u.1 j ≤ 126) (c_B (dC, dI) vwCl (TY y) (fun (u : (Nat → Nat) × Int64 × (Nat → Nat)) => (DW y b rn n lo kp dy so he kn ak pl iw nm u.2.1 ik kr lo2 dy2 so2 he2 kn2 dgv kd len ord kh km pg u.1 sav bo cb u.2.2 len2 ord2 kh2 km2))) A) [.ref (b 0), .int (nI (d)), .int (nI (x)), .int (nI (w))].toArray s 0 0 A) (F0 m 3 ls []) := by
    intro dd_3
    induction dd_3 with
    | zero => intro k hk hd; exact absurd hd (Nat.not_lt_zero _)
    | succ dd_3 ih_3 =>
      intro k hk hd_3 H locs ls hP hS hl
      refine lv_iload hx hb dX11_weeksNow_3 (lv_at hl 0 rfl) ?_
      refine lv_bipush (v := nI (6)) hx hb dX11_weeksNow_5 (by decide) ?_
      refine n_icmp_ge (tgt := 30) hx hb dX11_weeksNow_7 (by decide) (by omega) (by omega) (fun c_7 => ?_) (fun c_7 => ?_)
      · have hk6 : k = 6 := by omega
        rw [hk6] at hP
        have hP : va_P (dC, dI) vwCl (DW y b rn n lo kp dy so he kn ak pl iw nm sd ik kr lo2 dy2 so2 he2 kn2 dgv kd len ord kh km pg cm sav bo cb (mixF 6 len sl) len2 ord2 kh2 km2) H := hP
        refine lv_aload_n hx hb dX11_weeksNow_30 rfl (lv_at hl 1 rfl) ?_
        refine lv_iload_n hx hb dX11_weeksNow_31 rfl (lv_at hl 3 rfl) ?_
        refine lv_i2l (v := lN x) hx hb dX11_weeksNow_32 (nI_l (by omega)) ?_
        refine va_put (D := (dC, dI)) (ci := 11) (ty := tyX11 22) (C := RX11) (T := TX11) (N := 36) hx hb hts in_X11_weeksNow_X11 tyX11 tyX11_ok nmX11 hown hK hP (ad_D hA0 rfl) hS 0 rfl rfl 22 (by decide) (hts (.fieldLink RX11 180 "MilkRoundModel" "seedNow" "J") (List.mem_of_getElem? (i := 3) rfl)) (fun _ h9 => h9) rfl (tyX11_ok 22 (by decide)) rfl rfl (Nat.le_of_ble_eq_true rfl) dX11_weeksNow_33 (fun H locs hP _ hS => ?_)
        have hP : va_P (dC, dI) vwCl (DW y b rn n lo kp dy so he kn ak pl iw nm (lN x) ik kr lo2 dy2 so2 he2 kn2 dgv kd len ord kh km pg cm sav bo cb (mixF 6 len sl) len2 ord2 kh2 km2) H := hP
        refine lv_iconst (v := nI (0)) hx hb dX11_weeksNow_36 (by decide) ?_
        refine lv_istore (lv' := [(4, .int (nI (0))), (0, .ref (b 0)), (1, .int (nI (d))), (2, .int (nI (x))), (3, .int (nI (w)))]) hx hb dX11_weeksNow_37 hl (by decide) rfl (fun ls hl => ?_)
        refine lv_iconst (v := nI (0)) hx hb dX11_weeksNow_39 (by decide) ?_
        refine lv_istore (lv' := [(5, .int (nI (0))), (4, .int (nI (0))), (0, .ref (b 0)), (1, .int (nI (d))), (2, .int (nI (x))), (3, .int (nI (w)))]) hx hb dX11_weeksNow_40 hl (by decide) rfl (fun ls hl => ?_)
        refine lv_iconst (v := nI (0)) hx hb dX11_weeksNow_42 (by decide) ?_
        refine lv_istore (lv' := [(6, .int (nI (0))), (5, .int (nI (0))), (4, .int (nI (0))), (0, .ref (b 0)), (1, .int (nI (d))), (2, .int (nI (x))), (3, .int (nI (w)))]) hx hb dX11_weeksNow_43 hl (by decide) rfl (fun ls hl => ?_)
        have loop_45 : ∀ (dd_45 : Nat) (k : Nat) (s1 : Nat) (s2 : Nat) (z : Nat) (f : Nat → Nat) (ln : Nat → Nat) (hk : k ≤ d) (hs1 : s1 = ssF n kp kd lo ord x k) (hs2 : s2 = hsF n kd lo ord x k) (hz : z = sdF n x k) (hf : ∀ j, f j ≤ 126) (hl9 : ∀ j, ln j ≤ 9) (hln : ∀ j, ¬ j < 6 → ln j = len j), d - k < dd_45 → ∀ (H : Heap) (locs : List Loc) (ls : Array Slot), va_P (dC, dI) vwCl (DW y b rn n lo kp dy so he kn ak pl iw nm (lN z) ik kr lo2 dy2 so2 he2 kn2 dgv kd ln ord kh km pg f sav bo cb (mixF 6 len sl) len2 ord2 kh2 km2) H → va_S A s.heap H locs → lv_has ls 8 [(6, .int (nI (k))), (5, .int (nI (s2))), (4, .int (nI (s1))), (0, .ref (b 0)), (1, .int (nI (d))), (2, .int (nI (x))), (3, .int (nI (w)))] → W p l e (headSpec wsX11_weeksNow ({ frames := 5, cells := 0, slots := 0, locals := 108 } : Room)).room s m [.ref (b 0), .int (nI (d)), .int (nI (x)), .int (nI (w))].toArray below meth c H locs 0 0 (MQ below (va_Qi (fun (r : Int32) (u : (Nat → Nat) × Int64 × (Nat → Nat)) => r = wkF n kp kd lo ord d x w ∧ ∀ j, u.1 j ≤ 126) (c_B (dC, dI) vwCl (TY y) (fun (u : (Nat → Nat) × Int64 × (Nat → Nat)) => (DW y b rn n lo kp dy so he kn ak pl iw nm u.2.1 ik kr lo2 dy2 so2 he2 kn2 dgv kd len ord kh km pg u.1 sav bo cb u.2.2 len2 ord2 kh2 km2))) A) [.ref (b 0), .int (nI (d)), .int (nI (x)), .int (nI (w))].toArray s 0 0 A) (F0 m 45 ls []) := by
          intro dd_45
          induction dd_45 with
          | zero => intro k s1 s2 z f ln hk hs1 hs2 hz hf hl9 hln hd; exact absurd hd (Nat.not_lt_zero _)
          | succ dd_45 ih_45 =>
            intro k s1 s2 z f ln hk hs1 hs2 hz hf hl9 hln hd_45 H locs ls hP hS hl
            refine lv_iload hx hb dX11_weeksNow_45 (lv_at hl 0 rfl) ?_
            refine lv_iload_n hx hb dX11_weeksNow_47 rfl (lv_at hl 4 rfl) ?_
            refine n_icmp_ge (tgt := 106) hx hb dX11_weeksNow_48 (by decide) (by omega) (by omega) (fun c_48 => ?_) (fun c_48 => ?_)
            · refine lv_iconst (v := nI (0)) hx hb dX11_weeksNow_106 (by decide) ?_
              refine lv_istore (lv' := [(6, .int (nI (0))), (5, .int (nI (s2))), (4, .int (nI (s1))), (0, .ref (b 0)), (1, .int (nI (d))), (2, .int (nI (x))), (3, .int (nI (w)))]) hx hb dX11_weeksNow_107 hl (by decide) rfl (fun ls hl => ?_)
              have loop_109 : ∀ (dd_109 : Nat) (q : Nat) (hq : q ≤ 6), 6 - q < dd_109 → ∀ (H : Heap) (locs : List Loc) (ls : Array Slot), va_P (dC, dI) vwCl (DW y b rn n lo kp dy so he kn ak pl iw nm (lN z) ik kr lo2 dy2 so2 he2 kn2 dgv kd (mixF q (mixF 6 len sl) ln) ord kh km pg f sav bo cb (mixF 6 len sl) len2 ord2 kh2 km2) H → va_S A s.heap H locs → lv_has ls 8 [(6, .int (nI (q))), (5, .int (nI (s2))), (4, .int (nI (s1))), (0, .ref (b 0)), (1, .int (nI (d))), (2, .int (nI (x))), (3, .int (nI (w)))] → W p l e (headSpec wsX11_weeksNow ({ frames := 5, cells := 0, slots := 0, locals := 108 } : Room)).room s m [.ref (b 0), .int (nI (d)), .int (nI (x)), .int (nI (w))].toArray below meth c H locs 0 0 (MQ below (va_Qi (fun (r : Int32) (u : (Nat → Nat) × Int64 × (Nat → Nat)) => r = wkF n kp kd lo ord d x w ∧ ∀ j, u.1 j ≤ 126) (c_B (dC, dI) vwCl (TY y) (fun (u : (Nat → Nat) × Int64 × (Nat → Nat)) => (DW y b rn n lo kp dy so he kn ak pl iw nm u.2.1 ik kr lo2 dy2 so2 he2 kn2 dgv kd len ord kh km pg u.1 sav bo cb u.2.2 len2 ord2 kh2 km2))) A) [.ref (b 0), .int (nI (d)), .int (nI (x)), .int (nI (w))].toArray s 0 0 A) (F0 m 109 ls []) := by
                intro dd_109
                induction dd_109 with
                | zero => intro q hq hd; exact absurd hd (Nat.not_lt_zero _)
                | succ dd_109 ih_109 =>
                  intro q hq hd_109 H locs ls hP hS hl
                  refine lv_iload hx hb dX11_weeksNow_109 (lv_at hl 0 rfl) ?_
                  refine lv_bipush (v := nI (6)) hx hb dX11_weeksNow_111 (by decide) ?_
                  refine n_icmp_ge (tgt := 136) hx hb dX11_weeksNow_113 (by decide) (by omega) (by omega) (fun c_113 => ?_) (fun c_113 => ?_)
                  · have hq6 : q = 6 := by omega
                    rw [hq6, mix_back hln] at hP
                    have hP : va_P (dC, dI) vwCl (DW y b rn n lo kp dy so he kn ak pl iw nm (lN z) ik kr lo2 dy2 so2 he2 kn2 dgv kd len ord kh km pg f sav bo cb (mixF 6 len sl) len2 ord2 kh2 km2) H := hP
                    refine lv_iload_n hx hb dX11_weeksNow_136 rfl (lv_at hl 6 rfl) ?_
                    refine n_if_ne (tgt := 145) hx hb dX11_weeksNow_137 (by decide) (by omega) (fun c_137 => ?_) (fun c_137 => ?_)
                    · refine lv_iload_n hx hb dX11_weeksNow_145 rfl (lv_at hl 6 rfl) ?_
                      refine lv_iconst (v := nI (1)) hx hb dX11_weeksNow_146 (by decide) ?_
                      refine n_icmp_ne (tgt := 155) hx hb dX11_weeksNow_147 (by decide) (by omega) (by omega) (fun c_147 => ?_) (fun c_147 => ?_)
                      · refine lv_aload_n hx hb dX11_weeksNow_155 rfl (lv_at hl 3 rfl) ?_
                        refine va_get (D := (dC, dI)) (ci := 11) (C := RX11) (T := TX11) (N := 36) hx hb hts in_X11_weeksNow_X11 hown hK hP 0 rfl rfl 22 (by decide) (hts (.fieldLink RX11 180 "MilkRoundModel" "seedNow" "J") (List.mem_of_getElem? (i := 3) rfl)) (fun _ h9 => h9) rfl dX11_weeksNow_156 ?_
                        refine lv_l2i (v := nI (z)) hx hb dX11_weeksNow_159 (lN_i _) ?_
                        have hkd9 : k = d := by omega
                        exact c_iret hx hb hr hlocks hK hS (f, lN z, mixF 6 len sl) hP ⟨by rw [wkF, if_neg c_137, if_neg c_147, hz, hkd9], hf⟩ dX11_weeksNow_160
                      · refine lv_iload hx hb dX11_weeksNow_150 (lv_at hl 1 rfl) ?_
                        refine lv_goto (tgt := 160) hx hb dX11_weeksNow_152 (by decide) ?_
                        have hkd9 : k = d := by omega
                        exact c_iret hx hb hr hlocks hK hS (f, lN z, mixF 6 len sl) hP ⟨by rw [wkF, if_neg c_137, if_pos c_147, hs2, hkd9], hf⟩ dX11_weeksNow_160
                    · refine lv_iload hx hb dX11_weeksNow_140 (lv_at hl 2 rfl) ?_
                      refine lv_goto (tgt := 160) hx hb dX11_weeksNow_142 (by decide) ?_
                      have hkd9 : k = d := by omega
                      exact c_iret hx hb hr hlocks hK hS (f, lN z, mixF 6 len sl) hP ⟨by rw [wkF, if_pos c_137, hs1, hkd9], hf⟩ dX11_weeksNow_160
                  · refine lv_aload_n hx hb dX11_weeksNow_116 rfl (lv_at hl 3 rfl) ?_
                    refine va_get (D := (dC, dI)) (ci := 11) (C := RX11) (T := TX11) (N := 36) hx hb hts in_X11_weeksNow_X11 hown hK hP 0 rfl rfl 3 (by decide) (hts (.fieldLink RX11 13 "MilkRoundModel" "longOf" "[I") (List.mem_of_getElem? (i := 2) rfl)) (fun _ h9 => h9) rfl dX11_weeksNow_117 ?_
                    refine lv_iload hx hb dX11_weeksNow_120 (lv_at hl 0 rfl) ?_
                    refine lv_aload_n hx hb dX11_weeksNow_122 rfl (lv_at hl 3 rfl) ?_
                    refine va_get (D := (dC, dI)) (ci := 11) (C := RX11) (T := TX11) (N := 36) hx hb hts in_X11_weeksNow_X11 hown hK hP 0 rfl rfl 23 (by decide) (hts (.fieldLink RX11 41 "MilkRoundModel" "savedLong" "[I") (List.mem_of_getElem? (i := 1) rfl)) (fun _ h9 => h9) rfl dX11_weeksNow_123 ?_
                    refine lv_iload hx hb dX11_weeksNow_126 (lv_at hl 0 rfl) ?_
                    refine n_iald hx hb hK hP 11 0 rfl rfl (by omega) (by decide) dX11_weeksNow_128 ?_
                    refine n_iast hx hb hK hP (ad_D hA0 rfl) hS 2 0 rfl rfl (by omega) (by decide) dX11_weeksNow_129 (fun H locs hP hS => ?_)
                    have hP : va_P (dC, dI) vwCl (DW y b rn n lo kp dy so he kn ak pl iw nm (lN z) ik kr lo2 dy2 so2 he2 kn2 dgv kd (va_up (mixF q (mixF 6 len sl) ln) q ((mixF 6 len sl) q)) ord kh km pg f sav bo cb (mixF 6 len sl) len2 ord2 kh2 km2) H := hP
                    refine lv_iinc (v := nI (q + 1)) (lv' := [(6, .int (nI (q + 1))), (5, .int (nI (s2))), (4, .int (nI (s1))), (0, .ref (b 0)), (1, .int (nI (d))), (2, .int (nI (x))), (3, .int (nI (w)))]) hx hb dX11_weeksNow_130 hl (k := 0) rfl (mr_inc _) (by decide) rfl (fun ls hl => ?_)
                    refine lv_goto (tgt := 109) hx hb dX11_weeksNow_133 (by decide) ?_
                    exact ih_109 (q + 1) (by omega) (by omega) _ _ _ (by rw [← mixF_s]; exact hP) hS (lv_sub hl [0, 1, 2, 3, 4, 5, 6] rfl)
              exact loop_109 _ 0 (Nat.zero_le _) (Nat.lt_succ_self _) _ _ _ (by rw [mixF_0]; exact hP) hS (lv_sub hl [0, 1, 2, 3, 4, 5, 6] rfl)
            · have hzl : z < 2147483648 := by rw [hz]; exact sdF_lt hx0 k
              refine lv_iconst (v := nI (0)) hx hb dX11_weeksNow_51 (by decide) ?_
              refine lv_istore (lv' := [(7, .int (nI (0))), (6, .int (nI (k))), (5, .int (nI (s2))), (4, .int (nI (s1))), (0, .ref (b 0)), (1, .int (nI (d))), (2, .int (nI (x))), (3, .int (nI (w)))]) hx hb dX11_weeksNow_52 hl (by decide) rfl (fun ls hl => ?_)
              have loop_54 : ∀ (dd_54 : Nat) (h : Nat) (hh : h ≤ n), n - h < dd_54 → ∀ (H : Heap) (locs : List Loc) (ls : Array Slot), va_P (dC, dI) vwCl (DW y b rn n lo kp dy so he kn ak pl iw nm (lN (itD h z)) ik kr lo2 dy2 so2 he2 kn2 dgv kd (mixF h (rowD z) ln) ord kh km pg f sav bo cb (mixF 6 len sl) len2 ord2 kh2 km2) H → va_S A s.heap H locs → lv_has ls 8 [(7, .int (nI (h))), (6, .int (nI (k))), (5, .int (nI (s2))), (4, .int (nI (s1))), (0, .ref (b 0)), (1, .int (nI (d))), (2, .int (nI (x))), (3, .int (nI (w)))] → W p l e (headSpec wsX11_weeksNow ({ frames := 5, cells := 0, slots := 0, locals := 108 } : Room)).room s m [.ref (b 0), .int (nI (d)), .int (nI (x)), .int (nI (w))].toArray below meth c H locs 0 0 (MQ below (va_Qi (fun (r : Int32) (u : (Nat → Nat) × Int64 × (Nat → Nat)) => r = wkF n kp kd lo ord d x w ∧ ∀ j, u.1 j ≤ 126) (c_B (dC, dI) vwCl (TY y) (fun (u : (Nat → Nat) × Int64 × (Nat → Nat)) => (DW y b rn n lo kp dy so he kn ak pl iw nm u.2.1 ik kr lo2 dy2 so2 he2 kn2 dgv kd len ord kh km pg u.1 sav bo cb u.2.2 len2 ord2 kh2 km2))) A) [.ref (b 0), .int (nI (d)), .int (nI (x)), .int (nI (w))].toArray s 0 0 A) (F0 m 54 ls []) := by
                intro dd_54
                induction dd_54 with
                | zero => intro h hh hd; exact absurd hd (Nat.not_lt_zero _)
                | succ dd_54 ih_54 =>
                  intro h hh hd_54 H locs ls hP hS hl
                  refine lv_iload hx hb dX11_weeksNow_54 (lv_at hl 0 rfl) ?_
                  refine lv_aload_n hx hb dX11_weeksNow_56 rfl (lv_at hl 4 rfl) ?_
                  refine va_get (D := (dC, dI)) (ci := 11) (C := RX11) (T := TX11) (N := 36) hx hb hts in_X11_weeksNow_X11 hown hK hP 0 rfl rfl 1 (by decide) (hts (.fieldLink RX11 82 "MilkRoundModel" "houses" "I") (List.mem_of_getElem? (i := 4) rfl)) (fun _ h9 => h9) rfl dX11_weeksNow_57 ?_
                  refine n_icmp_ge (tgt := 82) hx hb dX11_weeksNow_60 (by decide) (by omega) (by omega) (fun c_60 => ?_) (fun c_60 => ?_)
                  · have hhn : h = n := by omega
                    have hlm : ∀ j, mixF h (rowD z) ln j ≤ 9 := mixF_le (fun j _ => dgF_le _) hl9
                    refine lv_iload hx hb dX11_weeksNow_82 (lv_at hl 3 rfl) ?_
                    refine lv_aload_n hx hb dX11_weeksNow_84 rfl (lv_at hl 4 rfl) ?_
                    refine c_calli (va_runV (As := []) (rest := [.int (nI (s1))]) ⟨hx, hb, hml, hown, hts⟩ (k_X11_sourNow l dC dI y A b hA0 rn n lo kp dy so he kn ak pl iw nm (lN (itD h z)) ik kr lo2 dy2 so2 he2 kn2 dgv kd (mixF h (rowD z) ln) ord kh km pg f sav bo cb (mixF 6 len sl) len2 ord2 kh2 km2  hn hord hlm hkd hf hkp) (cwV 0 hts gX11_weeksNow_X11_sourNow rfl rfl rfl (by decide +kernel) ⟨Nat.le_of_ble_eq_true rfl, Nat.le_of_ble_eq_true rfl⟩) (c_preV (c_N0 A) hK hE hS hP (va_recv hK hP (ci := 11) (q0 := 0) rfl rfl)) rfl rfl hl.1 rfl (lv_room (Nat.le_of_ble_eq_true rfl)) dX11_weeksNow_85 ⟨Nat.le_refl _, Nat.le_refl _⟩) hS (fun r_85 u_85 H locs hw_85 hP hS => ?_)
                    have hP : va_P (dC, dI) vwCl (DW y b rn n lo kp dy so he kn ak pl iw nm (lN (itD h z)) ik kr lo2 dy2 so2 he2 kn2 dgv kd (mixF h (rowD z) ln) ord kh km pg u_85 sav bo cb (mixF 6 len sl) len2 ord2 kh2 km2) H := hP
                    obtain ⟨rfl, hw_85⟩ := hw_85
                    refine n_top (y := nI (scF n kp kd (rowD z) lo ord)) (by rw [scF_cong hord (fun j hj => mixF_in (by omega))]) ?_
                    refine n_iadd hx hb dX11_weeksNow_88 ?_
                    refine lv_istore (lv' := [(4, .int (nI ((s1) + (scF n kp kd (rowD z) lo ord)))), (7, .int (nI (h))), (6, .int (nI (k))), (5, .int (nI (s2))), (0, .ref (b 0)), (1, .int (nI (d))), (2, .int (nI (x))), (3, .int (nI (w)))]) hx hb dX11_weeksNow_89 hl (by decide) rfl (fun ls hl => ?_)
                    refine lv_iload hx hb dX11_weeksNow_91 (lv_at hl 3 rfl) ?_
                    refine lv_aload_n hx hb dX11_weeksNow_93 rfl (lv_at hl 4 rfl) ?_
                    refine c_calli (va_runV (As := []) (rest := [.int (nI (s2))]) ⟨hx, hb, hml, hown, hts⟩ (k_X11_hearNow l dC dI y A b hA0 rn n lo kp dy so he kn ak pl iw nm (lN (itD h z)) ik kr lo2 dy2 so2 he2 kn2 dgv kd (mixF h (rowD z) ln) ord kh km pg u_85 sav bo cb (mixF 6 len sl) len2 ord2 kh2 km2  hn hord hlm hkd hw_85.2 hkp) (cwV 0 hts gX11_weeksNow_X11_hearNow rfl rfl rfl (by decide +kernel) ⟨Nat.le_of_ble_eq_true rfl, Nat.le_of_ble_eq_true rfl⟩) (c_preV (c_N0 A) hK hE hS hP (va_recv hK hP (ci := 11) (q0 := 0) rfl rfl)) rfl rfl hl.1 rfl (lv_room (Nat.le_of_ble_eq_true rfl)) dX11_weeksNow_94 ⟨Nat.le_refl _, Nat.le_refl _⟩) hS (fun r_94 u_94 H locs hw_94 hP hS => ?_)
                    have hP : va_P (dC, dI) vwCl (DW y b rn n lo kp dy so he kn ak pl iw nm (lN (itD h z)) ik kr lo2 dy2 so2 he2 kn2 dgv kd (mixF h (rowD z) ln) ord kh km pg u_94 sav bo cb (mixF 6 len sl) len2 ord2 kh2 km2) H := hP
                    obtain ⟨rfl, hw_94⟩ := hw_94
                    refine n_top (y := nI (hcF n kd (rowD z) lo ord)) (by rw [hcF_cong hord (fun j hj => mixF_in (by omega))]) ?_
                    refine n_iadd hx hb dX11_weeksNow_97 ?_
                    refine lv_istore (lv' := [(5, .int (nI ((s2) + (hcF n kd (rowD z) lo ord)))), (4, .int (nI ((s1) + (scF n kp kd (rowD z) lo ord)))), (7, .int (nI (h))), (6, .int (nI (k))), (0, .ref (b 0)), (1, .int (nI (d))), (2, .int (nI (x))), (3, .int (nI (w)))]) hx hb dX11_weeksNow_98 hl (by decide) rfl (fun ls hl => ?_)
                    refine lv_iinc (v := nI (k + 1)) (lv' := [(6, .int (nI (k + 1))), (5, .int (nI ((s2) + (hcF n kd (rowD z) lo ord)))), (4, .int (nI ((s1) + (scF n kp kd (rowD z) lo ord)))), (7, .int (nI (h))), (0, .ref (b 0)), (1, .int (nI (d))), (2, .int (nI (x))), (3, .int (nI (w)))]) hx hb dX11_weeksNow_100 hl (k := 3) rfl (mr_inc _) (by decide) rfl (fun ls hl => ?_)
                    refine lv_goto (tgt := 45) hx hb dX11_weeksNow_103 (by decide) ?_
                    exact ih_45 (k + 1) (s1 + scF n kp kd (rowD z) lo ord) (s2 + hcF n kd (rowD z) lo ord) (itD h z) u_94 (mixF h (rowD z) ln) (by omega) (by rw [hs1, hz]; rfl) (by rw [hs2, hz]; rfl) (by rw [hhn, hz]; rfl) hw_94.2 (mixF_le (fun j _ => dgF_le _) hl9) (fun j hj => by rw [mixF_out (by omega)]; exact hln j hj) (by omega) _ _ _ hP hS (lv_sub hl [0, 1, 2, 4, 5, 6, 7] rfl)
                  · refine lv_aload_n hx hb dX11_weeksNow_63 rfl (lv_at hl 4 rfl) ?_
                    refine va_get (D := (dC, dI)) (ci := 11) (C := RX11) (T := TX11) (N := 36) hx hb hts in_X11_weeksNow_X11 hown hK hP 0 rfl rfl 3 (by decide) (hts (.fieldLink RX11 13 "MilkRoundModel" "longOf" "[I") (List.mem_of_getElem? (i := 2) rfl)) (fun _ h9 => h9) rfl dX11_weeksNow_64 ?_
                    refine lv_iload hx hb dX11_weeksNow_67 (lv_at hl 0 rfl) ?_
                    refine lv_aload_n hx hb dX11_weeksNow_69 rfl (lv_at hl 4 rfl) ?_
                    refine lv_bipush (v := nI (10)) hx hb dX11_weeksNow_70 (by decide) ?_
                    refine c_calli (va_runV (As := [.int (nI (10))]) (rest := [.int (nI (h)), .ref (b 2)]) ⟨hx, hb, hml, hown, hts⟩ (k_X11_draw l dC dI y A b hA0 rn n lo kp dy so he kn ak pl iw nm ik kr lo2 dy2 so2 he2 kn2 dgv kd (mixF h (rowD z) ln) ord kh km pg f sav bo cb (mixF 6 len sl) len2 ord2 kh2 km2 (itD h z) (itD_lt hzl h)) (cwV 1 hts gX11_weeksNow_X11_draw rfl rfl rfl (by decide +kernel) ⟨Nat.le_of_ble_eq_true rfl, Nat.le_of_ble_eq_true rfl⟩) (c_preV (c_N0 A) hK hE hS hP (va_recv hK hP (ci := 11) (q0 := 0) rfl rfl)) rfl rfl hl.1 rfl (lv_room (Nat.le_of_ble_eq_true rfl)) dX11_weeksNow_72 ⟨Nat.le_refl _, Nat.le_refl _⟩) hS (fun r_72 u_72 H locs hw_72 hP hS => ?_)
                    have hP : va_P (dC, dI) vwCl (DW y b rn n lo kp dy so he kn ak pl iw nm (lN (drF (itD h z))) ik kr lo2 dy2 so2 he2 kn2 dgv kd (mixF h (rowD z) ln) ord kh km pg f sav bo cb (mixF 6 len sl) len2 ord2 kh2 km2) H := hP
                    obtain rfl := hw_72
                    refine n_iast hx hb hK hP (ad_D hA0 rfl) hS 2 0 rfl rfl (by omega) (by decide) dX11_weeksNow_75 (fun H locs hP hS => ?_)
                    have hP : va_P (dC, dI) vwCl (DW y b rn n lo kp dy so he kn ak pl iw nm (lN (drF (itD h z))) ik kr lo2 dy2 so2 he2 kn2 dgv kd (va_up (mixF h (rowD z) ln) h (dgF (drF (itD h z)))) ord kh km pg f sav bo cb (mixF 6 len sl) len2 ord2 kh2 km2) H := hP
                    refine lv_iinc (v := nI (h + 1)) (lv' := [(7, .int (nI (h + 1))), (6, .int (nI (k))), (5, .int (nI (s2))), (4, .int (nI (s1))), (0, .ref (b 0)), (1, .int (nI (d))), (2, .int (nI (x))), (3, .int (nI (w)))]) hx hb dX11_weeksNow_76 hl (k := 0) rfl (mr_inc _) (by decide) rfl (fun ls hl => ?_)
                    refine lv_goto (tgt := 54) hx hb dX11_weeksNow_79 (by decide) ?_
                    exact ih_54 (h + 1) (by omega) (by omega) _ _ _ (by rw [← mixF_s]; exact hP) hS (lv_sub hl [0, 1, 2, 3, 4, 5, 6, 7] rfl)
              exact loop_54 _ 0 (Nat.zero_le _) (Nat.lt_succ_self _) _ _ _ (by rw [mixF_0]; exact hP) hS (lv_sub hl [0, 1, 2, 3, 4, 5, 6, 7] rfl)
        exact loop_45 _ 0 0 0 x cm len (Nat.zero_le _) rfl rfl rfl hcm hlen (fun _ _ => rfl) (Nat.lt_succ_self _) _ _ _ hP hS (lv_sub hl [0, 1, 2, 3, 4, 5, 6] rfl)
      · refine lv_aload_n hx hb dX11_weeksNow_10 rfl (lv_at hl 1 rfl) ?_
        refine va_get (D := (dC, dI)) (ci := 11) (C := RX11) (T := TX11) (N := 36) hx hb hts in_X11_weeksNow_X11 hown hK hP 0 rfl rfl 23 (by decide) (hts (.fieldLink RX11 41 "MilkRoundModel" "savedLong" "[I") (List.mem_of_getElem? (i := 1) rfl)) (fun _ h9 => h9) rfl dX11_weeksNow_11 ?_
        refine lv_iload hx hb dX11_weeksNow_14 (lv_at hl 0 rfl) ?_
        refine lv_aload_n hx hb dX11_weeksNow_16 rfl (lv_at hl 1 rfl) ?_
        refine va_get (D := (dC, dI)) (ci := 11) (C := RX11) (T := TX11) (N := 36) hx hb hts in_X11_weeksNow_X11 hown hK hP 0 rfl rfl 3 (by decide) (hts (.fieldLink RX11 13 "MilkRoundModel" "longOf" "[I") (List.mem_of_getElem? (i := 2) rfl)) (fun _ h9 => h9) rfl dX11_weeksNow_17 ?_
        refine lv_iload hx hb dX11_weeksNow_20 (lv_at hl 0 rfl) ?_
        refine n_iald hx hb hK hP 2 0 rfl rfl (by omega) (by decide) dX11_weeksNow_22 ?_
        refine n_iast hx hb hK hP (ad_D hA0 rfl) hS 11 0 rfl rfl (by omega) (by decide) dX11_weeksNow_23 (fun H locs hP hS => ?_)
        have hP : va_P (dC, dI) vwCl (DW y b rn n lo kp dy so he kn ak pl iw nm sd ik kr lo2 dy2 so2 he2 kn2 dgv kd len ord kh km pg cm sav bo cb (va_up (mixF k len sl) k (len k)) len2 ord2 kh2 km2) H := hP
        refine lv_iinc (v := nI (k + 1)) (lv' := [(4, .int (nI (k + 1))), (0, .ref (b 0)), (1, .int (nI (d))), (2, .int (nI (x))), (3, .int (nI (w)))]) hx hb dX11_weeksNow_24 hl (k := 0) rfl (mr_inc _) (by decide) rfl (fun ls hl => ?_)
        refine lv_goto (tgt := 3) hx hb dX11_weeksNow_27 (by decide) ?_
        exact ih_3 (k + 1) (by omega) (by omega) _ _ _ (by rw [← mixF_s]; exact hP) hS (lv_sub hl [0, 1, 2, 3, 4] rfl)
  exact loop_3 _ 0 (Nat.zero_le _) (Nat.lt_succ_self _) _ _ _ (by rw [mixF_0]; exact hP) hS (lv_sub hl [0, 1, 2, 3, 4] rfl)
theorem in_X11_weeks_X11 : ∀ w ∈ wsX110, w ∈ wsX11_weeks := fun w h => List.mem_cons_of_mem _ (List.mem_append_right _ h)
set_option maxHeartbeats 4000000 in
set_option maxRecDepth 100000 in
theorem k_X11_weeks (l : Launch) (dC : Nat → ClassId) (dI : Nat → Nat → Nat) (y : Nat → ClassId) (A : Nat → Prop) (b : Nat → Nat) (hA0 : ad_ok A b 16) (rn : Nat) (n : Nat) (lo : Int32) (kp : Nat) (dy : Int32) (so : Int32) (he : Int32) (kn : Nat) (ak : Nat) (pl : Nat) (iw : Bool) (nm : Nat) (sd : Int64) (ik : Bool) (kr : Nat) (lo2 : Int32) (dy2 : Int32) (so2 : Int32) (he2 : Int32) (kn2 : Nat) (dgv : Int64) (kd : Nat → Nat) (len : Nat → Nat) (ord : Nat → Nat) (kh : Nat → Nat) (km : Nat → Nat) (pg : Nat → Nat) (cm : Nat → Nat) (sav : Nat → Nat) (bo : Nat → Nat) (cb : Nat → Nat) (sl : Nat → Nat) (len2 : Nat → Nat) (ord2 : Nat → Nat) (kh2 : Nat → Nat) (km2 : Nat → Nat) (d : Int32) (x : Int32) (w : Int32) (hn : n ≤ 6) (hord : PermOn n ord) (hlen : ∀ j, len j ≤ 9) (hkd : ∀ j, kd j ≤ 4) (hcm : ∀ j, cm j ≤ 126) (hkp : kp ≤ 9) : Met l yX11_weeks wsX11_weeks ({ frames := 6, cells := 0, slots := 0, locals := 135 } : Room) (c_P (dC, dI) vwCl (TY y) (fun _ => True) (DW y b rn n lo kp dy so he kn ak pl iw nm sd ik kr lo2 dy2 so2 he2 kn2 dgv kd len ord kh km pg cm sav bo cb sl len2 ord2 kh2 km2) [.ref (b 0), .int (d), .int (x), .int (w)]) (va_Qi (fun (r : Int32) (u : (Nat → Nat) × Int64 × (Nat → Nat)) => r = rWeeks n kp kd lo ord d x w ∧ ∀ j, u.1 j ≤ 126) (c_B (dC, dI) vwCl (TY y) (fun (u : (Nat → Nat) × Int64 × (Nat → Nat)) => (DW y b rn n lo kp dy so he kn ak pl iw nm u.2.1 ik kr lo2 dy2 so2 he2 kn2 dgv kd len ord kh km pg u.1 sav bo cb u.2.2 len2 ord2 kh2 km2))) A) 0 0 A := by
  refine Met.ofW (cc := cX11_weeks) (maxL := 4) (ret := (some .int)) (by decide) rfl ?_
  intro p e s m args below meth c s₁ BB hml hv
  obtain ⟨rfl, hP, hK, hE⟩ := hv
  have hx := BB.exec
  have hb := BB.bytes
  have hr := BB.returns
  have hts := atoms_spec (ws := wsX11_weeks) BB.pre
  have hown : s.vm.findClass RX11 = some m.cls := findClass_of_methodNamed BB.named
  have hlocks := BB.notSynchronized
  have hS : va_S A s.heap s.heap [] := va_S.rf
  have hl := lv_entry ([.ref (b 0), .int (d), .int (x), .int (w)]) (n := 4) (Nat.le_of_ble_eq_true rfl)
  rw [lg_entry_eq]
  generalize (lg_sl ([.ref (b 0), .int (d), .int (x), .int (w)]) ++ List.replicate (4 - (lg_sl ([.ref (b 0), .int (d), .int (x), .int (w)])).length) Slot.unset).toArray = ls at hl ⊢
  have hl : lv_has ls 4 [(0, .ref (b 0)), (1, .int (d)), (2, .int (x)), (3, .int (w))] := hl
  refine lv_iload_n hx hb dX11_weeks_0 rfl (lv_at hl 1 rfl) ?_
  refine lv_iconst (v := nI (1)) hx hb dX11_weeks_1 (by decide) ?_
  refine lv_bipush (v := nI (60)) hx hb dX11_weeks_2 (by decide) ?_
  refine c_calli (va_runS (As := [.int (d), .int (nI (1)), .int (nI (60))]) (rest := []) ⟨hx, hb, hml, hown, hts⟩ (k_X11_within l dC dI y A (DW y b rn n lo kp dy so he kn ak pl iw nm sd ik kr lo2 dy2 so2 he2 kn2 dgv kd len ord kh km pg cm sav bo cb sl len2 ord2 kh2 km2) (fun _ => True) d (nI (1)) (nI (60)) ) (va_cwS 3 hts gX11_weeks_X11_within rfl rfl rfl (by decide +kernel) ⟨Nat.le_of_ble_eq_true rfl, Nat.le_of_ble_eq_true rfl⟩) (c_preS (c_N0 A) hK hE hS hP) rfl rfl hl.1 rfl (lv_room (Nat.le_of_ble_eq_true rfl)) dX11_weeks_4 ⟨Nat.le_refl _, Nat.le_refl _⟩) hS (fun r_4 u_4 H locs hw_4 hP hS => ?_)
  obtain rfl := hw_4
  refine n_bif_eq (tgt := 23) hx hb dX11_weeks_7 (by decide) (fun c_7 => ?_) (fun c_7 => ?_)
  · refine lv_bipush (v := (-102)) hx hb dX11_weeks_23 (by decide) ?_
    exact c_iret hx hb hr hlocks hK hS (cm, sd, sl) hP ⟨by unfold rWeeks; rw [show inD d = false from c_7]; rfl, hcm⟩ dX11_weeks_25
  · refine lv_iload_n hx hb dX11_weeks_10 rfl (lv_at hl 2 rfl) ?_
    refine lv_if_lt (tgt := 23) hx hb dX11_weeks_11 (by decide) (fun c_11 => ?_) (fun c_11 => ?_)
    · refine lv_bipush (v := (-102)) hx hb dX11_weeks_23 (by decide) ?_
      exact c_iret hx hb hr hlocks hK hS (cm, sd, sl) hP ⟨by unfold rWeeks; rw [show inD d = true from c_7, decide_eq_false (fun q => q c_11)]; rfl, hcm⟩ dX11_weeks_25
    · refine lv_iload_n hx hb dX11_weeks_14 rfl (lv_at hl 3 rfl) ?_
      refine lv_iconst (v := nI (0)) hx hb dX11_weeks_15 (by decide) ?_
      refine lv_iconst (v := nI (2)) hx hb dX11_weeks_16 (by decide) ?_
      refine c_calli (va_runS (As := [.int (w), .int (nI (0)), .int (nI (2))]) (rest := []) ⟨hx, hb, hml, hown, hts⟩ (k_X11_within l dC dI y A (DW y b rn n lo kp dy so he kn ak pl iw nm sd ik kr lo2 dy2 so2 he2 kn2 dgv kd len ord kh km pg cm sav bo cb sl len2 ord2 kh2 km2) (fun _ => True) w (nI (0)) (nI (2)) ) (va_cwS 3 hts gX11_weeks_X11_within rfl rfl rfl (by decide +kernel) ⟨Nat.le_of_ble_eq_true rfl, Nat.le_of_ble_eq_true rfl⟩) (c_preS (c_N0 A) hK hE hS hP) rfl rfl hl.1 rfl (lv_room (Nat.le_of_ble_eq_true rfl)) dX11_weeks_17 ⟨Nat.le_refl _, Nat.le_refl _⟩) hS (fun r_17 u_17 H locs hw_17 hP hS => ?_)
      obtain rfl := hw_17
      refine n_bif_ne (tgt := 26) hx hb dX11_weeks_20 (by decide) (fun c_20 => ?_) (fun c_20 => ?_)
      · refine lv_aload_n hx hb dX11_weeks_26 rfl (lv_at hl 0 rfl) ?_
        refine va_get (D := (dC, dI)) (ci := 11) (C := RX11) (T := TX11) (N := 36) hx hb hts in_X11_weeks_X11 hown hK hP 0 rfl rfl 1 (by decide) (hts (.fieldLink RX11 82 "MilkRoundModel" "houses" "I") (List.mem_of_getElem? (i := 1) rfl)) (fun _ h9 => h9) rfl dX11_weeks_27 ?_
        refine n_if_ne (tgt := 38) hx hb dX11_weeks_30 (by decide) (by omega) (fun c_30 => ?_) (fun c_30 => ?_)
        · obtain ⟨dn, hd1, hd2, ed⟩ := inD_of c_7
          obtain ⟨xn, hx31, ex9⟩ := nI_of c_11
          obtain ⟨k, hk, ek⟩ := inR_of (m := 2) (by decide) c_20
          rw [ed] at hl
          rw [ex9] at hl
          rw [ek] at hl
          have hl : lv_has ls 4 [(0, .ref (b 0)), (1, .int (nI (dn))), (2, .int (nI (xn))), (3, .int (nI (k)))] := hl
          refine lv_aload_n hx hb dX11_weeks_38 rfl (lv_at hl 0 rfl) ?_
          refine lv_iload_n hx hb dX11_weeks_39 rfl (lv_at hl 1 rfl) ?_
          refine lv_iload_n hx hb dX11_weeks_40 rfl (lv_at hl 2 rfl) ?_
          refine lv_iload_n hx hb dX11_weeks_41 rfl (lv_at hl 3 rfl) ?_
          refine c_calli (va_runV (As := [.int (nI (dn)), .int (nI (xn)), .int (nI (k))]) (rest := []) ⟨hx, hb, hml, hown, hts⟩ (k_X11_weeksNow l dC dI y A b hA0 rn n lo kp dy so he kn ak pl iw nm sd ik kr lo2 dy2 so2 he2 kn2 dgv kd len ord kh km pg cm sav bo cb sl len2 ord2 kh2 km2 dn xn k hn hord hlen hkd hcm hkp hd2 hx31 hk) (cwV 3 hts gX11_weeks_X11_weeksNow rfl rfl rfl (by decide +kernel) ⟨Nat.le_of_ble_eq_true rfl, Nat.le_of_ble_eq_true rfl⟩) (c_preV (c_N0 A) hK hE hS hP (va_recv hK hP (ci := 11) (q0 := 0) rfl rfl)) rfl rfl hl.1 rfl (lv_room (Nat.le_of_ble_eq_true rfl)) dX11_weeks_42 ⟨Nat.le_refl _, Nat.le_refl _⟩) hS (fun r_42 u_42 H locs hw_42 hP hS => ?_)
          have hP : va_P (dC, dI) vwCl (DW y b rn n lo kp dy so he kn ak pl iw nm u_42.2.1 ik kr lo2 dy2 so2 he2 kn2 dgv kd len ord kh km pg u_42.1 sav bo cb u_42.2.2 len2 ord2 kh2 km2) H := hP
          obtain ⟨rfl, hw_42⟩ := hw_42
          exact c_iret hx hb hr hlocks hK hS u_42 hP ⟨by unfold rWeeks; rw [show inD d = true from c_7, decide_eq_true c_11, show inR w 2 = true from c_20, if_neg c_30, ed, ex9, ek, nI_clamp (by omega), nI_clamp (by omega), nI_clamp (by omega)]; rfl, hw_42⟩ dX11_weeks_45
        · refine lv_bipush (v := (-103)) hx hb dX11_weeks_33 (by decide) ?_
          refine lv_goto (tgt := 45) hx hb dX11_weeks_35 (by decide) ?_
          exact c_iret hx hb hr hlocks hK hS (cm, sd, sl) hP ⟨by unfold rWeeks; rw [show inD d = true from c_7, decide_eq_true c_11, show inR w 2 = true from c_20, if_pos c_30]; rfl, hcm⟩ dX11_weeks_45
      · refine lv_bipush (v := (-102)) hx hb dX11_weeks_23 (by decide) ?_
        exact c_iret hx hb hr hlocks hK hS (cm, sd, sl) hP ⟨by unfold rWeeks; rw [show inD d = true from c_7, decide_eq_true c_11, show inR w 2 = false from c_20]; rfl, hcm⟩ dX11_weeks_25
theorem in_X11_wayAll_X11 : ∀ w ∈ wsX110, w ∈ wsX11_wayAll := fun w h => List.mem_cons_of_mem _ (List.mem_append_right _ h)
set_option maxHeartbeats 4000000 in
set_option maxRecDepth 100000 in
theorem k_X11_wayAll (l : Launch) (dC : Nat → ClassId) (dI : Nat → Nat → Nat) (y : Nat → ClassId) (A : Nat → Prop) (b : Nat → Nat) (hA0 : ad_ok A b 16) (rn : Nat) (n : Nat) (lo : Int32) (kp : Nat) (dy : Int32) (so : Int32) (he : Int32) (kn : Nat) (ak : Nat) (pl : Nat) (iw : Bool) (nm : Nat) (sd : Int64) (ik : Bool) (kr : Nat) (lo2 : Int32) (dy2 : Int32) (so2 : Int32) (he2 : Int32) (kn2 : Nat) (dgv : Int64) (kd : Nat → Nat) (len : Nat → Nat) (ord : Nat → Nat) (kh : Nat → Nat) (km : Nat → Nat) (pg : Nat → Nat) (cm : Nat → Nat) (sav : Nat → Nat) (bo : Nat → Nat) (cb : Nat → Nat) (sl : Nat → Nat) (len2 : Nat → Nat) (ord2 : Nat → Nat) (kh2 : Nat → Nat) (km2 : Nat → Nat) (hn : n ≤ 6) (hord : PermOn n ord) (hlen : ∀ j, len j ≤ 9) (hkd : ∀ j, kd j ≤ 4) : Met l yX11_wayAll wsX11_wayAll ({ frames := 2, cells := 0, slots := 0, locals := 43 } : Room) (c_P (dC, dI) vwCl (TY y) (fun _ => True) (DW y b rn n lo kp dy so he kn ak pl iw nm sd ik kr lo2 dy2 so2 he2 kn2 dgv kd len ord kh km pg cm sav bo cb sl len2 ord2 kh2 km2) [.ref (b 0)]) (va_Qi (fun (r : Int32) (u : Unit) => r = nI (tmF kd len lo ord n)) (c_B (dC, dI) vwCl (TY y) (fun (u : Unit) => (DW y b rn n lo kp dy so he kn ak pl iw nm sd ik kr lo2 dy2 so2 he2 kn2 dgv kd len ord kh km pg cm sav bo cb sl len2 ord2 kh2 km2))) A) 0 0 A := by
  refine Met.ofW (cc := cX11_wayAll) (maxL := 3) (ret := (some .int)) (by decide) rfl ?_
  intro p e s m args below meth c s₁ BB hml hv
  obtain ⟨rfl, hP, hK, hE⟩ := hv
  have hx := BB.exec
  have hb := BB.bytes
  have hr := BB.returns
  have hts := atoms_spec (ws := wsX11_wayAll) BB.pre
  have hown : s.vm.findClass RX11 = some m.cls := findClass_of_methodNamed BB.named
  have hlocks := BB.notSynchronized
  have hS : va_S A s.heap s.heap [] := va_S.rf
  have hl := lv_entry ([.ref (b 0)]) (n := 3) (Nat.le_of_ble_eq_true rfl)
  rw [lg_entry_eq]
  generalize (lg_sl ([.ref (b 0)]) ++ List.replicate (3 - (lg_sl ([.ref (b 0)])).length) Slot.unset).toArray = ls at hl ⊢
  have hl : lv_has ls 3 [(0, .ref (b 0))] := hl
  refine lv_iconst (v := nI (0)) hx hb dX11_wayAll_0 (by decide) ?_
  refine lv_istore_n (lv' := [(1, .int (nI (0))), (0, .ref (b 0))]) hx hb dX11_wayAll_1 rfl hl (by decide) rfl (fun ls hl => ?_)
  refine lv_iconst (v := nI (0)) hx hb dX11_wayAll_2 (by decide) ?_
  refine lv_istore_n (lv' := [(2, .int (nI (0))), (1, .int (nI (0))), (0, .ref (b 0))]) hx hb dX11_wayAll_3 rfl hl (by decide) rfl (fun ls hl => ?_)
  have loop_4 : ∀ (dd_4 : Nat) (k : Nat) (al : Nat) (hk : k ≤ n) (ha : al = smF (fun h => 1 + rdm kd len lo h) k), n - k < dd_4 → ∀ (H : Heap) (locs : List Loc) (ls : Array Slot), va_P (dC, dI) vwCl (DW y b rn n lo kp dy so he kn ak pl iw nm sd ik kr lo2 dy2 so2 he2 kn2 dgv kd len ord kh km pg cm sav bo cb sl len2 ord2 kh2 km2) H → va_S A s.heap H locs → lv_has ls 3 [(2, .int (nI (k))), (1, .int (nI (al))), (0, .ref (b 0))] → W p l e (headSpec wsX11_wayAll ({ frames := 2, cells := 0, slots := 0, locals := 43 } : Room)).room s m [.ref (b 0)].toArray below meth c H locs 0 0 (MQ below (va_Qi (fun (r : Int32) (u : Unit) => r = nI (tmF kd len lo ord n)) (c_B (dC, dI) vwCl (TY y) (fun (u : Unit) => (DW y b rn n lo kp dy so he kn ak pl iw nm sd ik kr lo2 dy2 so2 he2 kn2 dgv kd len ord kh km pg cm sav bo cb sl len2 ord2 kh2 km2))) A) [.ref (b 0)].toArray s 0 0 A) (F0 m 4 ls []) := by
    intro dd_4
    induction dd_4 with
    | zero => intro k al hk ha hd; exact absurd hd (Nat.not_lt_zero _)
    | succ dd_4 ih_4 =>
      intro k al hk ha hd_4 H locs ls hP hS hl
      refine lv_iload_n hx hb dX11_wayAll_4 rfl (lv_at hl 0 rfl) ?_
      refine lv_aload_n hx hb dX11_wayAll_5 rfl (lv_at hl 2 rfl) ?_
      refine va_get (D := (dC, dI)) (ci := 11) (C := RX11) (T := TX11) (N := 36) hx hb hts in_X11_wayAll_X11 hown hK hP 0 rfl rfl 1 (by decide) (hts (.fieldLink RX11 82 "MilkRoundModel" "houses" "I") (List.mem_of_getElem? (i := 1) rfl)) (fun _ h9 => h9) rfl dX11_wayAll_6 ?_
      refine n_icmp_ge (tgt := 28) hx hb dX11_wayAll_9 (by decide) (by omega) (by omega) (fun c_9 => ?_) (fun c_9 => ?_)
      · refine lv_iload_n hx hb dX11_wayAll_28 rfl (lv_at hl 1 rfl) ?_
        have hkn : k = n := by omega
        exact c_iret hx hb hr hlocks hK hS () hP (by rw [ha, hkn, tmF_way hord]) dX11_wayAll_29
      · refine lv_iload_n hx hb dX11_wayAll_12 rfl (lv_at hl 1 rfl) ?_
        refine lv_iconst (v := nI (1)) hx hb dX11_wayAll_13 (by decide) ?_
        refine lv_aload_n hx hb dX11_wayAll_14 rfl (lv_at hl 2 rfl) ?_
        refine lv_iload_n hx hb dX11_wayAll_15 rfl (lv_at hl 0 rfl) ?_
        refine c_calli (va_runV (As := [.int (nI (k))]) (rest := [.int (nI (1)), .int (nI (al))]) ⟨hx, hb, hml, hown, hts⟩ (k_X11_reads l dC dI y A b hA0 rn n lo kp dy so he kn ak pl iw nm sd ik kr lo2 dy2 so2 he2 kn2 dgv kd len ord kh km pg cm sav bo cb sl len2 ord2 kh2 km2 k (by omega) hlen hkd) (cwV 1 hts gX11_wayAll_X11_reads rfl rfl rfl (by decide +kernel) ⟨Nat.le_of_ble_eq_true rfl, Nat.le_of_ble_eq_true rfl⟩) (c_preV (c_N0 A) hK hE hS hP (va_recv hK hP (ci := 11) (q0 := 0) rfl rfl)) rfl rfl hl.1 rfl (lv_room (Nat.le_of_ble_eq_true rfl)) dX11_wayAll_16 ⟨Nat.le_refl _, Nat.le_refl _⟩) hS (fun r_16 u_16 H locs hw_16 hP hS => ?_)
        obtain rfl := hw_16
        refine n_iadd hx hb dX11_wayAll_19 ?_
        refine n_iadd hx hb dX11_wayAll_20 ?_
        refine lv_istore_n (lv' := [(1, .int (nI ((al) + ((1) + (rdm kd len lo k))))), (2, .int (nI (k))), (0, .ref (b 0))]) hx hb dX11_wayAll_21 rfl hl (by decide) rfl (fun ls hl => ?_)
        refine lv_iinc (v := nI (k + 1)) (lv' := [(2, .int (nI (k + 1))), (1, .int (nI ((al) + ((1) + (rdm kd len lo k))))), (0, .ref (b 0))]) hx hb dX11_wayAll_22 hl (k := 1) rfl (mr_inc _) (by decide) rfl (fun ls hl => ?_)
        refine lv_goto (tgt := 4) hx hb dX11_wayAll_25 (by decide) ?_
        exact ih_4 (k + 1) (al + (1 + rdm kd len lo k)) (by omega) (by rw [ha]; rfl) (by omega) _ _ _ hP hS (lv_sub hl [0, 1, 2] rfl)
  exact loop_4 _ 0 0 (Nat.zero_le _) rfl (Nat.lt_succ_self _) _ _ _ hP hS (lv_sub hl [0, 1, 2] rfl)
theorem in_X11_howMany_X11 : ∀ w ∈ wsX110, w ∈ wsX11_howMany := fun w h => List.mem_cons_of_mem _ (List.mem_append_right _ h)
set_option maxHeartbeats 4000000 in
set_option maxRecDepth 100000 in
theorem k_X11_howMany (l : Launch) (dC : Nat → ClassId) (dI : Nat → Nat → Nat) (y : Nat → ClassId) (A : Nat → Prop) (b : Nat → Nat) (hA0 : ad_ok A b 16) (rn : Nat) (n : Nat) (lo : Int32) (kp : Nat) (dy : Int32) (so : Int32) (he : Int32) (kn : Nat) (ak : Nat) (pl : Nat) (iw : Bool) (nm : Nat) (sd : Int64) (ik : Bool) (kr : Nat) (lo2 : Int32) (dy2 : Int32) (so2 : Int32) (he2 : Int32) (kn2 : Nat) (dgv : Int64) (kd : Nat → Nat) (len : Nat → Nat) (ord : Nat → Nat) (kh : Nat → Nat) (km : Nat → Nat) (pg : Nat → Nat) (cm : Nat → Nat) (sav : Nat → Nat) (bo : Nat → Nat) (cb : Nat → Nat) (sl : Nat → Nat) (len2 : Nat → Nat) (ord2 : Nat → Nat) (kh2 : Nat → Nat) (km2 : Nat → Nat) (w : Nat) (hn : n ≤ 6) (hord : PermOn n ord) (hlen : ∀ j, len j ≤ 9) (hkd : ∀ j, kd j ≤ 4) (hcm : ∀ j, cm j ≤ 126) (hkp : kp ≤ 9) (hw : w ≤ 11) : Met l yX11_howMany wsX11_howMany ({ frames := 5, cells := 0, slots := 0, locals := 108 } : Room) (c_P (dC, dI) vwCl (TY y) (fun _ => True) (DW y b rn n lo kp dy so he kn ak pl iw nm sd ik kr lo2 dy2 so2 he2 kn2 dgv kd len ord kh km pg cm sav bo cb sl len2 ord2 kh2 km2) [.ref (b 0), .int (nI (w))]) (va_Qi (fun (r : Int32) (u : Nat → Nat) => r = cvF n kp kd len lo ord dy so he kn pl rn ak w ∧ ∀ j, u j ≤ 126) (c_B (dC, dI) vwCl (TY y) (fun (u : Nat → Nat) => (DW y b rn n lo kp dy so he kn ak pl iw nm sd ik kr lo2 dy2 so2 he2 kn2 dgv kd len ord kh km pg u sav bo cb sl len2 ord2 kh2 km2))) A) 0 0 A := by
  refine Met.ofW (cc := cX11_howMany) (maxL := 2) (ret := (some .int)) (by decide) rfl ?_
  intro p e s m args below meth c s₁ BB hml hv
  obtain ⟨rfl, hP, hK, hE⟩ := hv
  have hx := BB.exec
  have hb := BB.bytes
  have hr := BB.returns
  have hts := atoms_spec (ws := wsX11_howMany) BB.pre
  have hown : s.vm.findClass RX11 = some m.cls := findClass_of_methodNamed BB.named
  have hlocks := BB.notSynchronized
  have hS : va_S A s.heap s.heap [] := va_S.rf
  have hl := lv_entry ([.ref (b 0), .int (nI (w))]) (n := 2) (Nat.le_of_ble_eq_true rfl)
  rw [lg_entry_eq]
  generalize (lg_sl ([.ref (b 0), .int (nI (w))]) ++ List.replicate (2 - (lg_sl ([.ref (b 0), .int (nI (w))])).length) Slot.unset).toArray = ls at hl ⊢
  have hl : lv_has ls 2 [(0, .ref (b 0)), (1, .int (nI (w)))] := hl
  refine lv_iload_n hx hb dX11_howMany_0 rfl (lv_at hl 1 rfl) ?_
  rcases (show w = 0 ∨ w = 1 ∨ w = 2 ∨ w = 3 ∨ w = 4 ∨ w = 5 ∨ w = 6 ∨ w = 7 ∨ w = 8 ∨ w = 9 ∨ w = 10 ∨ w = 11 by omega) with k_1 | k_1 | k_1 | k_1 | k_1 | k_1 | k_1 | k_1 | k_1 | k_1 | k_1 | k_1
  · refine n_top (y := nI 0) (by rw [k_1]) ?_
    refine lv_tableIn (off := 63) (tgt := 64) hx hb dX11_howMany_1 (by decide) (by decide) (by decide) (by decide) ?_
    refine lv_aload_n hx hb dX11_howMany_64 rfl (lv_at hl 0 rfl) ?_
    refine va_get (D := (dC, dI)) (ci := 11) (C := RX11) (T := TX11) (N := 36) hx hb hts in_X11_howMany_X11 hown hK hP 0 rfl rfl 1 (by decide) (hts (.fieldLink RX11 82 "MilkRoundModel" "houses" "I") (List.mem_of_getElem? (i := 1) rfl)) (fun _ h9 => h9) rfl dX11_howMany_65 ?_
    exact c_iret hx hb hr hlocks hK hS cm hP ⟨by rw [k_1, cvF, if_pos rfl], hcm⟩ dX11_howMany_68
  · refine n_top (y := nI 1) (by rw [k_1]) ?_
    refine lv_tableIn (off := 68) (tgt := 69) hx hb dX11_howMany_1 (by decide) (by decide) (by decide) (by decide) ?_
    refine lv_aload_n hx hb dX11_howMany_69 rfl (lv_at hl 0 rfl) ?_
    refine va_get (D := (dC, dI)) (ci := 11) (C := RX11) (T := TX11) (N := 36) hx hb hts in_X11_howMany_X11 hown hK hP 0 rfl rfl 6 (by decide) (hts (.fieldLink RX11 85 "MilkRoundModel" "keep" "I") (List.mem_of_getElem? (i := 2) rfl)) (fun _ h9 => h9) rfl dX11_howMany_70 ?_
    exact c_iret hx hb hr hlocks hK hS cm hP ⟨by rw [k_1, cvF, if_neg (by decide), if_pos rfl], hcm⟩ dX11_howMany_73
  · refine n_top (y := nI 2) (by rw [k_1]) ?_
    refine lv_tableIn (off := 73) (tgt := 74) hx hb dX11_howMany_1 (by decide) (by decide) (by decide) (by decide) ?_
    refine lv_aload_n hx hb dX11_howMany_74 rfl (lv_at hl 0 rfl) ?_
    refine va_get (D := (dC, dI)) (ci := 11) (C := RX11) (T := TX11) (N := 36) hx hb hts in_X11_howMany_X11 hown hK hP 0 rfl rfl 7 (by decide) (hts (.fieldLink RX11 94 "MilkRoundModel" "days" "I") (List.mem_of_getElem? (i := 3) rfl)) (fun _ h9 => h9) rfl dX11_howMany_75 ?_
    exact c_iret hx hb hr hlocks hK hS cm hP ⟨by rw [k_1, cvF, if_neg (by decide), if_neg (by decide), if_pos rfl], hcm⟩ dX11_howMany_78
  · refine n_top (y := nI 3) (by rw [k_1]) ?_
    refine lv_tableIn (off := 78) (tgt := 79) hx hb dX11_howMany_1 (by decide) (by decide) (by decide) (by decide) ?_
    refine lv_aload_n hx hb dX11_howMany_79 rfl (lv_at hl 0 rfl) ?_
    refine va_get (D := (dC, dI)) (ci := 11) (C := RX11) (T := TX11) (N := 36) hx hb hts in_X11_howMany_X11 hown hK hP 0 rfl rfl 8 (by decide) (hts (.fieldLink RX11 97 "MilkRoundModel" "soured" "I") (List.mem_of_getElem? (i := 4) rfl)) (fun _ h9 => h9) rfl dX11_howMany_80 ?_
    exact c_iret hx hb hr hlocks hK hS cm hP ⟨by rw [k_1, cvF, if_neg (by decide), if_neg (by decide), if_neg (by decide), if_pos rfl], hcm⟩ dX11_howMany_83
  · refine n_top (y := nI 4) (by rw [k_1]) ?_
    refine lv_tableIn (off := 83) (tgt := 84) hx hb dX11_howMany_1 (by decide) (by decide) (by decide) (by decide) ?_
    refine lv_aload_n hx hb dX11_howMany_84 rfl (lv_at hl 0 rfl) ?_
    refine va_get (D := (dC, dI)) (ci := 11) (C := RX11) (T := TX11) (N := 36) hx hb hts in_X11_howMany_X11 hown hK hP 0 rfl rfl 9 (by decide) (hts (.fieldLink RX11 100 "MilkRoundModel" "overheard" "I") (List.mem_of_getElem? (i := 5) rfl)) (fun _ h9 => h9) rfl dX11_howMany_85 ?_
    exact c_iret hx hb hr hlocks hK hS cm hP ⟨by rw [k_1, cvF, if_neg (by decide), if_neg (by decide), if_neg (by decide), if_neg (by decide), if_pos rfl], hcm⟩ dX11_howMany_88
  · refine n_top (y := nI 5) (by rw [k_1]) ?_
    refine lv_tableIn (off := 88) (tgt := 89) hx hb dX11_howMany_1 (by decide) (by decide) (by decide) (by decide) ?_
    refine lv_aload_n hx hb dX11_howMany_89 rfl (lv_at hl 0 rfl) ?_
    refine c_calli (va_runV (As := []) (rest := []) ⟨hx, hb, hml, hown, hts⟩ (k_X11_sourNow l dC dI y A b hA0 rn n lo kp dy so he kn ak pl iw nm sd ik kr lo2 dy2 so2 he2 kn2 dgv kd len ord kh km pg cm sav bo cb sl len2 ord2 kh2 km2  hn hord hlen hkd hcm hkp) (cwV 0 hts gX11_howMany_X11_sourNow rfl rfl rfl (by decide +kernel) ⟨Nat.le_of_ble_eq_true rfl, Nat.le_of_ble_eq_true rfl⟩) (c_preV (c_N0 A) hK hE hS hP (va_recv hK hP (ci := 11) (q0 := 0) rfl rfl)) rfl rfl hl.1 rfl (lv_room (Nat.le_of_ble_eq_true rfl)) dX11_howMany_90 ⟨Nat.le_refl _, Nat.le_refl _⟩) hS (fun r_90 u_90 H locs hw_90 hP hS => ?_)
    have hP : va_P (dC, dI) vwCl (DW y b rn n lo kp dy so he kn ak pl iw nm sd ik kr lo2 dy2 so2 he2 kn2 dgv kd len ord kh km pg u_90 sav bo cb sl len2 ord2 kh2 km2) H := hP
    obtain ⟨rfl, hw_90⟩ := hw_90
    exact c_iret hx hb hr hlocks hK hS u_90 hP ⟨by rw [k_1, cvF, if_neg (by decide), if_neg (by decide), if_neg (by decide), if_neg (by decide), if_neg (by decide), if_pos rfl], hw_90.2⟩ dX11_howMany_93
  · refine n_top (y := nI 6) (by rw [k_1]) ?_
    refine lv_tableIn (off := 93) (tgt := 94) hx hb dX11_howMany_1 (by decide) (by decide) (by decide) (by decide) ?_
    refine lv_aload_n hx hb dX11_howMany_94 rfl (lv_at hl 0 rfl) ?_
    refine c_calli (va_runV (As := []) (rest := []) ⟨hx, hb, hml, hown, hts⟩ (k_X11_hearNow l dC dI y A b hA0 rn n lo kp dy so he kn ak pl iw nm sd ik kr lo2 dy2 so2 he2 kn2 dgv kd len ord kh km pg cm sav bo cb sl len2 ord2 kh2 km2  hn hord hlen hkd hcm hkp) (cwV 0 hts gX11_howMany_X11_hearNow rfl rfl rfl (by decide +kernel) ⟨Nat.le_of_ble_eq_true rfl, Nat.le_of_ble_eq_true rfl⟩) (c_preV (c_N0 A) hK hE hS hP (va_recv hK hP (ci := 11) (q0 := 0) rfl rfl)) rfl rfl hl.1 rfl (lv_room (Nat.le_of_ble_eq_true rfl)) dX11_howMany_95 ⟨Nat.le_refl _, Nat.le_refl _⟩) hS (fun r_95 u_95 H locs hw_95 hP hS => ?_)
    have hP : va_P (dC, dI) vwCl (DW y b rn n lo kp dy so he kn ak pl iw nm sd ik kr lo2 dy2 so2 he2 kn2 dgv kd len ord kh km pg u_95 sav bo cb sl len2 ord2 kh2 km2) H := hP
    obtain ⟨rfl, hw_95⟩ := hw_95
    exact c_iret hx hb hr hlocks hK hS u_95 hP ⟨by rw [k_1, cvF, if_neg (by decide), if_neg (by decide), if_neg (by decide), if_neg (by decide), if_neg (by decide), if_neg (by decide), if_pos rfl], hw_95.2⟩ dX11_howMany_98
  · refine n_top (y := nI 7) (by rw [k_1]) ?_
    refine lv_tableIn (off := 98) (tgt := 99) hx hb dX11_howMany_1 (by decide) (by decide) (by decide) (by decide) ?_
    refine lv_aload_n hx hb dX11_howMany_99 rfl (lv_at hl 0 rfl) ?_
    refine c_calli (va_runV (As := []) (rest := []) ⟨hx, hb, hml, hown, hts⟩ (k_X11_wayAll l dC dI y A b hA0 rn n lo kp dy so he kn ak pl iw nm sd ik kr lo2 dy2 so2 he2 kn2 dgv kd len ord kh km pg cm sav bo cb sl len2 ord2 kh2 km2  hn hord hlen hkd) (cwV 0 hts gX11_howMany_X11_wayAll rfl rfl rfl (by decide +kernel) ⟨Nat.le_of_ble_eq_true rfl, Nat.le_of_ble_eq_true rfl⟩) (c_preV (c_N0 A) hK hE hS hP (va_recv hK hP (ci := 11) (q0 := 0) rfl rfl)) rfl rfl hl.1 rfl (lv_room (Nat.le_of_ble_eq_true rfl)) dX11_howMany_100 ⟨Nat.le_refl _, Nat.le_refl _⟩) hS (fun r_100 u_100 H locs hw_100 hP hS => ?_)
    obtain rfl := hw_100
    exact c_iret hx hb hr hlocks hK hS cm hP ⟨by rw [k_1, cvF, if_neg (by decide), if_neg (by decide), if_neg (by decide), if_neg (by decide), if_neg (by decide), if_neg (by decide), if_neg (by decide), if_pos rfl], hcm⟩ dX11_howMany_103
  · refine n_top (y := nI 8) (by rw [k_1]) ?_
    refine lv_tableIn (off := 103) (tgt := 104) hx hb dX11_howMany_1 (by decide) (by decide) (by decide) (by decide) ?_
    refine lv_aload_n hx hb dX11_howMany_104 rfl (lv_at hl 0 rfl) ?_
    refine va_get (D := (dC, dI)) (ci := 11) (C := RX11) (T := TX11) (N := 36) hx hb hts in_X11_howMany_X11 hown hK hP 0 rfl rfl 10 (by decide) (hts (.fieldLink RX11 103 "MilkRoundModel" "known" "I") (List.mem_of_getElem? (i := 6) rfl)) (fun _ h9 => h9) rfl dX11_howMany_105 ?_
    exact c_iret hx hb hr hlocks hK hS cm hP ⟨by rw [k_1, cvF, if_neg (by decide), if_neg (by decide), if_neg (by decide), if_neg (by decide), if_neg (by decide), if_neg (by decide), if_neg (by decide), if_neg (by decide), if_pos rfl], hcm⟩ dX11_howMany_108
  · refine n_top (y := nI 9) (by rw [k_1]) ?_
    refine lv_tableIn (off := 108) (tgt := 109) hx hb dX11_howMany_1 (by decide) (by decide) (by decide) (by decide) ?_
    refine lv_aload_n hx hb dX11_howMany_109 rfl (lv_at hl 0 rfl) ?_
    refine va_get (D := (dC, dI)) (ci := 11) (C := RX11) (T := TX11) (N := 36) hx hb hts in_X11_howMany_X11 hown hK hP 0 rfl rfl 14 (by decide) (hts (.fieldLink RX11 60 "MilkRoundModel" "pageLength" "I") (List.mem_of_getElem? (i := 7) rfl)) (fun _ h9 => h9) rfl dX11_howMany_110 ?_
    exact c_iret hx hb hr hlocks hK hS cm hP ⟨by rw [k_1, cvF, if_neg (by decide), if_neg (by decide), if_neg (by decide), if_neg (by decide), if_neg (by decide), if_neg (by decide), if_neg (by decide), if_neg (by decide), if_neg (by decide), if_pos rfl], hcm⟩ dX11_howMany_113
  · refine n_top (y := nI 10) (by rw [k_1]) ?_
    refine lv_tableIn (off := 113) (tgt := 114) hx hb dX11_howMany_1 (by decide) (by decide) (by decide) (by decide) ?_
    refine lv_aload_n hx hb dX11_howMany_114 rfl (lv_at hl 0 rfl) ?_
    refine va_get (D := (dC, dI)) (ci := 11) (C := RX11) (T := TX11) (N := 36) hx hb hts in_X11_howMany_X11 hown hK hP 0 rfl rfl 0 (by decide) (hts (.fieldLink RX11 88 "MilkRoundModel" "rounds" "I") (List.mem_of_getElem? (i := 8) rfl)) (fun _ h9 => h9) rfl dX11_howMany_115 ?_
    exact c_iret hx hb hr hlocks hK hS cm hP ⟨by rw [k_1, cvF, if_neg (by decide), if_neg (by decide), if_neg (by decide), if_neg (by decide), if_neg (by decide), if_neg (by decide), if_neg (by decide), if_neg (by decide), if_neg (by decide), if_neg (by decide), if_pos rfl], hcm⟩ dX11_howMany_118
  · refine n_top (y := nI 11) (by rw [k_1]) ?_
    refine lv_tableIn (off := 118) (tgt := 119) hx hb dX11_howMany_1 (by decide) (by decide) (by decide) (by decide) ?_
    refine lv_aload_n hx hb dX11_howMany_119 rfl (lv_at hl 0 rfl) ?_
    refine va_get (D := (dC, dI)) (ci := 11) (C := RX11) (T := TX11) (N := 36) hx hb hts in_X11_howMany_X11 hown hK hP 0 rfl rfl 13 (by decide) (hts (.fieldLink RX11 160 "MilkRoundModel" "asks" "I") (List.mem_of_getElem? (i := 9) rfl)) (fun _ h9 => h9) rfl dX11_howMany_120 ?_
    exact c_iret hx hb hr hlocks hK hS cm hP ⟨by rw [k_1, cvF, if_neg (by decide), if_neg (by decide), if_neg (by decide), if_neg (by decide), if_neg (by decide), if_neg (by decide), if_neg (by decide), if_neg (by decide), if_neg (by decide), if_neg (by decide), if_neg (by decide)], hcm⟩ dX11_howMany_123
set_option maxHeartbeats 4000000 in
set_option maxRecDepth 100000 in
theorem k_X11_howMany_out (l : Launch) (dC : Nat → ClassId) (dI : Nat → Nat → Nat) (y : Nat → ClassId) (A : Nat → Prop) (b : Nat → Nat) (hA0 : ad_ok A b 16) (rn : Nat) (n : Nat) (lo : Int32) (kp : Nat) (dy : Int32) (so : Int32) (he : Int32) (kn : Nat) (ak : Nat) (pl : Nat) (iw : Bool) (nm : Nat) (sd : Int64) (ik : Bool) (kr : Nat) (lo2 : Int32) (dy2 : Int32) (so2 : Int32) (he2 : Int32) (kn2 : Nat) (dgv : Int64) (kd : Nat → Nat) (len : Nat → Nat) (ord : Nat → Nat) (kh : Nat → Nat) (km : Nat → Nat) (pg : Nat → Nat) (cm : Nat → Nat) (sav : Nat → Nat) (bo : Nat → Nat) (cb : Nat → Nat) (sl : Nat → Nat) (len2 : Nat → Nat) (ord2 : Nat → Nat) (kh2 : Nat → Nat) (km2 : Nat → Nat) (w : Int32) (hw : inR w 11 = false) : Met l yX11_howMany wsX11_howMany ({ frames := 0, cells := 0, slots := 0, locals := 0 } : Room) (c_P (dC, dI) vwCl (TY y) (fun _ => True) (DW y b rn n lo kp dy so he kn ak pl iw nm sd ik kr lo2 dy2 so2 he2 kn2 dgv kd len ord kh km pg cm sav bo cb sl len2 ord2 kh2 km2) [.ref (b 0), .int (w)]) (va_Qi (fun (r : Int32) (u : Unit) => r = -102) (c_B (dC, dI) vwCl (TY y) (fun (u : Unit) => (DW y b rn n lo kp dy so he kn ak pl iw nm sd ik kr lo2 dy2 so2 he2 kn2 dgv kd len ord kh km pg cm sav bo cb sl len2 ord2 kh2 km2))) A) 0 0 A := by
  refine Met.ofW (cc := cX11_howMany) (maxL := 2) (ret := (some .int)) (by decide) rfl ?_
  intro p e s m args below meth c s₁ BB hml hv
  obtain ⟨rfl, hP, hK, hE⟩ := hv
  have hx := BB.exec
  have hb := BB.bytes
  have hr := BB.returns
  have hts := atoms_spec (ws := wsX11_howMany) BB.pre
  have hown : s.vm.findClass RX11 = some m.cls := findClass_of_methodNamed BB.named
  have hlocks := BB.notSynchronized
  have hS : va_S A s.heap s.heap [] := va_S.rf
  have hl := lv_entry ([.ref (b 0), .int (w)]) (n := 2) (Nat.le_of_ble_eq_true rfl)
  rw [lg_entry_eq]
  generalize (lg_sl ([.ref (b 0), .int (w)]) ++ List.replicate (2 - (lg_sl ([.ref (b 0), .int (w)])).length) Slot.unset).toArray = ls at hl ⊢
  have hl : lv_has ls 2 [(0, .ref (b 0)), (1, .int (w))] := hl
  refine lv_iload_n hx hb dX11_howMany_0 rfl (lv_at hl 1 rfl) ?_
  refine lv_tableOut (tgt := 124) hx hb dX11_howMany_1 (inR_out (m := 11) (by decide) hw) (by decide) ?_
  refine lv_bipush (v := (-102)) hx hb dX11_howMany_124 (by decide) ?_
  exact c_iret hx hb hr hlocks hK hS () hP rfl dX11_howMany_126
set_option maxHeartbeats 4000000 in
set_option maxRecDepth 100000 in
theorem k_X11_count (l : Launch) (dC : Nat → ClassId) (dI : Nat → Nat → Nat) (y : Nat → ClassId) (A : Nat → Prop) (b : Nat → Nat) (hA0 : ad_ok A b 16) (rn : Nat) (n : Nat) (lo : Int32) (kp : Nat) (dy : Int32) (so : Int32) (he : Int32) (kn : Nat) (ak : Nat) (pl : Nat) (iw : Bool) (nm : Nat) (sd : Int64) (ik : Bool) (kr : Nat) (lo2 : Int32) (dy2 : Int32) (so2 : Int32) (he2 : Int32) (kn2 : Nat) (dgv : Int64) (kd : Nat → Nat) (len : Nat → Nat) (ord : Nat → Nat) (kh : Nat → Nat) (km : Nat → Nat) (pg : Nat → Nat) (cm : Nat → Nat) (sav : Nat → Nat) (bo : Nat → Nat) (cb : Nat → Nat) (sl : Nat → Nat) (len2 : Nat → Nat) (ord2 : Nat → Nat) (kh2 : Nat → Nat) (km2 : Nat → Nat) (w : Int32) (hn : n ≤ 6) (hord : PermOn n ord) (hlen : ∀ j, len j ≤ 9) (hkd : ∀ j, kd j ≤ 4) (hcm : ∀ j, cm j ≤ 126) (hkp : kp ≤ 9) : Met l yX11_count wsX11_count ({ frames := 6, cells := 0, slots := 0, locals := 129 } : Room) (c_P (dC, dI) vwCl (TY y) (fun _ => True) (DW y b rn n lo kp dy so he kn ak pl iw nm sd ik kr lo2 dy2 so2 he2 kn2 dgv kd len ord kh km pg cm sav bo cb sl len2 ord2 kh2 km2) [.ref (b 0), .int (w)]) (va_Qi (fun (r : Int32) (u : Nat → Nat) => r = rCount n kp kd len lo ord dy so he kn pl rn ak w ∧ ∀ j, u j ≤ 126) (c_B (dC, dI) vwCl (TY y) (fun (u : Nat → Nat) => (DW y b rn n lo kp dy so he kn ak pl iw nm sd ik kr lo2 dy2 so2 he2 kn2 dgv kd len ord kh km pg u sav bo cb sl len2 ord2 kh2 km2))) A) 0 0 A := by
  refine Met.ofW (cc := cX11_count) (maxL := 2) (ret := (some .int)) (by decide) rfl ?_
  intro p e s m args below meth c s₁ BB hml hv
  obtain ⟨rfl, hP, hK, hE⟩ := hv
  have hx := BB.exec
  have hb := BB.bytes
  have hr := BB.returns
  have hts := atoms_spec (ws := wsX11_count) BB.pre
  have hown : s.vm.findClass RX11 = some m.cls := findClass_of_methodNamed BB.named
  have hlocks := BB.notSynchronized
  have hS : va_S A s.heap s.heap [] := va_S.rf
  have hl := lv_entry ([.ref (b 0), .int (w)]) (n := 2) (Nat.le_of_ble_eq_true rfl)
  rw [lg_entry_eq]
  generalize (lg_sl ([.ref (b 0), .int (w)]) ++ List.replicate (2 - (lg_sl ([.ref (b 0), .int (w)])).length) Slot.unset).toArray = ls at hl ⊢
  have hl : lv_has ls 2 [(0, .ref (b 0)), (1, .int (w))] := hl
  refine lv_aload_n hx hb dX11_count_0 rfl (lv_at hl 0 rfl) ?_
  refine lv_iload_n hx hb dX11_count_1 rfl (lv_at hl 1 rfl) ?_
  cases hc : inR w 11
  · skip
    refine c_calli (va_runV (As := [.int (w)]) (rest := []) ⟨hx, hb, hml, hown, hts⟩ (k_X11_howMany_out l dC dI y A b hA0 rn n lo kp dy so he kn ak pl iw nm sd ik kr lo2 dy2 so2 he2 kn2 dgv kd len ord kh km pg cm sav bo cb sl len2 ord2 kh2 km2 w hc) (cwV 1 hts gX11_count_X11_howMany rfl rfl rfl (by decide +kernel) ⟨Nat.le_of_ble_eq_true rfl, Nat.le_of_ble_eq_true rfl⟩) (c_preV (c_N0 A) hK hE hS hP (va_recv hK hP (ci := 11) (q0 := 0) rfl rfl)) rfl rfl hl.1 rfl (lv_room (Nat.le_of_ble_eq_true rfl)) dX11_count_2 ⟨Nat.le_refl _, Nat.le_refl _⟩) hS (fun r_2 u_2 H locs hw_2 hP hS => ?_)
    obtain rfl := hw_2
    exact c_iret hx hb hr hlocks hK hS cm hP ⟨by unfold rCount; rw [hc]; rfl, hcm⟩ dX11_count_5
  · obtain ⟨k, hk, ek⟩ := inR_of (m := 11) (by decide) hc
    refine n_top (y := nI k) ek ?_
    refine c_calli (va_runV (As := [.int (nI (k))]) (rest := []) ⟨hx, hb, hml, hown, hts⟩ (k_X11_howMany l dC dI y A b hA0 rn n lo kp dy so he kn ak pl iw nm sd ik kr lo2 dy2 so2 he2 kn2 dgv kd len ord kh km pg cm sav bo cb sl len2 ord2 kh2 km2 k hn hord hlen hkd hcm hkp hk) (cwV 1 hts gX11_count_X11_howMany rfl rfl rfl (by decide +kernel) ⟨Nat.le_of_ble_eq_true rfl, Nat.le_of_ble_eq_true rfl⟩) (c_preV (c_N0 A) hK hE hS hP (va_recv hK hP (ci := 11) (q0 := 0) rfl rfl)) rfl rfl hl.1 rfl (lv_room (Nat.le_of_ble_eq_true rfl)) dX11_count_2 ⟨Nat.le_refl _, Nat.le_refl _⟩) hS (fun r_2 u_2 H locs hw_2 hP hS => ?_)
    have hP : va_P (dC, dI) vwCl (DW y b rn n lo kp dy so he kn ak pl iw nm sd ik kr lo2 dy2 so2 he2 kn2 dgv kd len ord kh km pg u_2 sav bo cb sl len2 ord2 kh2 km2) H := hP
    obtain ⟨rfl, hw_2⟩ := hw_2
    exact c_iret hx hb hr hlocks hK hS u_2 hP ⟨by unfold rCount; rw [hc, ek, nI_clamp (by omega)]; rfl, hw_2⟩ dX11_count_5
theorem in_X11_mix_X11 : ∀ w ∈ wsX110, w ∈ wsX11_mix := fun w h => List.mem_cons_of_mem _ (List.mem_append_right _ h)
set_option maxHeartbeats 4000000 in
set_option maxRecDepth 100000 in
theorem k_X11_mix (l : Launch) (dC : Nat → ClassId) (dI : Nat → Nat → Nat) (y : Nat → ClassId) (A : Nat → Prop) (b : Nat → Nat) (hA0 : ad_ok A b 16) (rn : Nat) (n : Nat) (lo : Int32) (kp : Nat) (dy : Int32) (so : Int32) (he : Int32) (kn : Nat) (ak : Nat) (pl : Nat) (iw : Bool) (nm : Nat) (sd : Int64) (ik : Bool) (kr : Nat) (lo2 : Int32) (dy2 : Int32) (so2 : Int32) (he2 : Int32) (kn2 : Nat) (dgv : Int64) (kd : Nat → Nat) (len : Nat → Nat) (ord : Nat → Nat) (kh : Nat → Nat) (km : Nat → Nat) (pg : Nat → Nat) (cm : Nat → Nat) (sav : Nat → Nat) (bo : Nat → Nat) (cb : Nat → Nat) (sl : Nat → Nat) (len2 : Nat → Nat) (ord2 : Nat → Nat) (kh2 : Nat → Nat) (km2 : Nat → Nat) (v : Int64) : Met l yX11_mix wsX11_mix ({ frames := 0, cells := 0, slots := 0, locals := 0 } : Room) (c_P (dC, dI) vwCl (TY y) (fun _ => True) (DW y b rn n lo kp dy so he kn ak pl iw nm sd ik kr lo2 dy2 so2 he2 kn2 dgv kd len ord kh km pg cm sav bo cb sl len2 ord2 kh2 km2) [.ref (b 0), .long (v)]) (va_Qv (fun (u : Unit) => True) (c_B (dC, dI) vwCl (TY y) (fun (u : Unit) => (DW y b rn n lo kp dy so he kn ak pl iw nm sd ik kr lo2 dy2 so2 he2 kn2 (mxL dgv v) kd len ord kh km pg cm sav bo cb sl len2 ord2 kh2 km2))) A) 0 0 A := by
  refine Met.ofW (cc := cX11_mix) (maxL := 3) (ret := none) (by decide) rfl ?_
  intro p e s m args below meth c s₁ BB hml hv
  obtain ⟨rfl, hP, hK, hE⟩ := hv
  have hx := BB.exec
  have hb := BB.bytes
  have hr := BB.returns
  have hts := atoms_spec (ws := wsX11_mix) BB.pre
  have hown : s.vm.findClass RX11 = some m.cls := findClass_of_methodNamed BB.named
  have hlocks := BB.notSynchronized
  have hS : va_S A s.heap s.heap [] := va_S.rf
  have hl := lv_entry ([.ref (b 0), .long (v)]) (n := 3) (Nat.le_of_ble_eq_true rfl)
  rw [lg_entry_eq]
  generalize (lg_sl ([.ref (b 0), .long (v)]) ++ List.replicate (3 - (lg_sl ([.ref (b 0), .long (v)])).length) Slot.unset).toArray = ls at hl ⊢
  have hl : lv_has ls 3 [(0, .ref (b 0)), (1, .long (v))] := hl
  refine lv_aload_n hx hb dX11_mix_0 rfl (lv_at hl 0 rfl) ?_
  refine lv_ldc2 hx hb hown (hts (.constantLong RX11 224 (31)) (List.mem_of_getElem? (i := 1) rfl)) dX11_mix_1 ?_
  refine lv_aload_n hx hb dX11_mix_4 rfl (lv_at hl 0 rfl) ?_
  refine va_get (D := (dC, dI)) (ci := 11) (C := RX11) (T := TX11) (N := 36) hx hb hts in_X11_mix_X11 hown hK hP 0 rfl rfl 35 (by decide) (hts (.fieldLink RX11 226 "MilkRoundModel" "h" "J") (List.mem_of_getElem? (i := 2) rfl)) (fun _ h9 => h9) rfl dX11_mix_5 ?_
  refine lv_lmul hx hb dX11_mix_8 ?_
  refine lv_lload_n hx hb dX11_mix_9 rfl (lv_at hl 1 rfl) ?_
  refine lv_ladd hx hb dX11_mix_10 ?_
  refine va_put (D := (dC, dI)) (ci := 11) (ty := tyX11 35) (C := RX11) (T := TX11) (N := 36) hx hb hts in_X11_mix_X11 tyX11 tyX11_ok nmX11 hown hK hP (ad_D hA0 rfl) hS 0 rfl rfl 35 (by decide) (hts (.fieldLink RX11 226 "MilkRoundModel" "h" "J") (List.mem_of_getElem? (i := 2) rfl)) (fun _ h9 => h9) rfl (tyX11_ok 35 (by decide)) rfl rfl (Nat.le_of_ble_eq_true rfl) dX11_mix_11 (fun H locs hP _ hS => ?_)
  have hP : va_P (dC, dI) vwCl (DW y b rn n lo kp dy so he kn ak pl iw nm sd ik kr lo2 dy2 so2 he2 kn2 (((31 : Int64) * dgv) + v) kd len ord kh km pg cm sav bo cb sl len2 ord2 kh2 km2) H := hP
  exact c_vret hx hb hr hlocks hK hS () hP trivial dX11_mix_14
theorem in_X11_digest_X11 : ∀ w ∈ wsX110, w ∈ wsX11_digest := fun w h => List.mem_cons_of_mem _ (List.mem_append_right _ h)
set_option maxHeartbeats 4000000 in
set_option maxRecDepth 100000 in
theorem k_X11_digest (l : Launch) (dC : Nat → ClassId) (dI : Nat → Nat → Nat) (y : Nat → ClassId) (A : Nat → Prop) (b : Nat → Nat) (hA0 : ad_ok A b 16) (rn : Nat) (n : Nat) (lo : Int32) (kp : Nat) (dy : Int32) (so : Int32) (he : Int32) (kn : Nat) (ak : Nat) (pl : Nat) (iw : Bool) (nm : Nat) (sd : Int64) (ik : Bool) (kr : Nat) (lo2 : Int32) (dy2 : Int32) (so2 : Int32) (he2 : Int32) (kn2 : Nat) (dgv : Int64) (kd : Nat → Nat) (len : Nat → Nat) (ord : Nat → Nat) (kh : Nat → Nat) (km : Nat → Nat) (pg : Nat → Nat) (cm : Nat → Nat) (sav : Nat → Nat) (bo : Nat → Nat) (cb : Nat → Nat) (sl : Nat → Nat) (len2 : Nat → Nat) (ord2 : Nat → Nat) (kh2 : Nat → Nat) (km2 : Nat → Nat) (hn : n ≤ 6) (hord : PermOn n ord) (hlen : ∀ j, len j ≤ 9) (hkd : ∀ j, kd j ≤ 4) (hcm : ∀ j, cm j ≤ 126) (hkp : kp ≤ 9) (hkn : kn ≤ 6) (hkh : ∀ i, i < kn → kh i < n) (hkm : ∀ i, km i ≤ 150) (hpl : pl ≤ 21) : Met l yX11_digest wsX11_digest ({ frames := 8, cells := 0, slots := 0, locals := 175 } : Room) (c_P (dC, dI) vwCl (TY y) (fun _ => True) (DW y b rn n lo kp dy so he kn ak pl iw nm sd ik kr lo2 dy2 so2 he2 kn2 dgv kd len ord kh km pg cm sav bo cb sl len2 ord2 kh2 km2) [.ref (b 0)]) (va_Ql (fun (r : Int64) (u : (Nat → Nat) × (Nat → Nat) × Int64) => r = rDigest n kp kd len lo ord dy so he kn kh km pl rn ak pg ∧ ∀ j, u.1 j ≤ 126) (c_B (dC, dI) vwCl (TY y) (fun (u : (Nat → Nat) × (Nat → Nat) × Int64) => (DW y b rn n lo kp dy so he kn ak pl iw nm sd ik kr lo2 dy2 so2 he2 kn2 u.2.2 kd len ord kh km pg u.1 sav bo u.2.1 sl len2 ord2 kh2 km2))) A) 0 0 A := by
  refine Met.ofW (cc := cX11_digest) (maxL := 3) (ret := (some .long)) (by decide) rfl ?_
  intro p e s m args below meth c s₁ BB hml hv
  obtain ⟨rfl, hP, hK, hE⟩ := hv
  have hx := BB.exec
  have hb := BB.bytes
  have hr := BB.returns
  have hts := atoms_spec (ws := wsX11_digest) BB.pre
  have hown : s.vm.findClass RX11 = some m.cls := findClass_of_methodNamed BB.named
  have hlocks := BB.notSynchronized
  have hS : va_S A s.heap s.heap [] := va_S.rf
  have hl := lv_entry ([.ref (b 0)]) (n := 3) (Nat.le_of_ble_eq_true rfl)
  rw [lg_entry_eq]
  generalize (lg_sl ([.ref (b 0)]) ++ List.replicate (3 - (lg_sl ([.ref (b 0)])).length) Slot.unset).toArray = ls at hl ⊢
  have hl : lv_has ls 3 [(0, .ref (b 0))] := hl
  refine lv_aload_n hx hb dX11_digest_0 rfl (lv_at hl 0 rfl) ?_
  refine lv_ldc2 hx hb hown (hts (.constantLong RX11 229 (1087)) (List.mem_of_getElem? (i := 1) rfl)) dX11_digest_1 ?_
  refine va_put (D := (dC, dI)) (ci := 11) (ty := tyX11 35) (C := RX11) (T := TX11) (N := 36) hx hb hts in_X11_digest_X11 tyX11 tyX11_ok nmX11 hown hK hP (ad_D hA0 rfl) hS 0 rfl rfl 35 (by decide) (hts (.fieldLink RX11 226 "MilkRoundModel" "h" "J") (List.mem_of_getElem? (i := 2) rfl)) (fun _ h9 => h9) rfl (tyX11_ok 35 (by decide)) rfl rfl (Nat.le_of_ble_eq_true rfl) dX11_digest_4 (fun H locs hP _ hS => ?_)
  have hP : va_P (dC, dI) vwCl (DW y b rn n lo kp dy so he kn ak pl iw nm sd ik kr lo2 dy2 so2 he2 kn2 (1087 : Int64) kd len ord kh km pg cm sav bo cb sl len2 ord2 kh2 km2) H := hP
  refine lv_iconst (v := nI (0)) hx hb dX11_digest_7 (by decide) ?_
  refine lv_istore_n (lv' := [(1, .int (nI (0))), (0, .ref (b 0))]) hx hb dX11_digest_8 rfl hl (by decide) rfl (fun ls hl => ?_)
  have loop_9 : ∀ (dd_9 : Nat) (e9 : Nat) (dv : Int64) (f : Nat → Nat) (hk : e9 ≤ n) (hdv : dv = fdH (hvF n kp kd len lo ord) 1087 e9) (hf : ∀ j, f j ≤ 126), n - e9 < dd_9 → ∀ (H : Heap) (locs : List Loc) (ls : Array Slot), va_P (dC, dI) vwCl (DW y b rn n lo kp dy so he kn ak pl iw nm sd ik kr lo2 dy2 so2 he2 kn2 dv kd len ord kh km pg f sav bo cb sl len2 ord2 kh2 km2) H → va_S A s.heap H locs → lv_has ls 3 [(1, .int (nI (e9))), (0, .ref (b 0))] → W p l e (headSpec wsX11_digest ({ frames := 8, cells := 0, slots := 0, locals := 175 } : Room)).room s m [.ref (b 0)].toArray below meth c H locs 0 0 (MQ below (va_Ql (fun (r : Int64) (u : (Nat → Nat) × (Nat → Nat) × Int64) => r = rDigest n kp kd len lo ord dy so he kn kh km pl rn ak pg ∧ ∀ j, u.1 j ≤ 126) (c_B (dC, dI) vwCl (TY y) (fun (u : (Nat → Nat) × (Nat → Nat) × Int64) => (DW y b rn n lo kp dy so he kn ak pl iw nm sd ik kr lo2 dy2 so2 he2 kn2 u.2.2 kd len ord kh km pg u.1 sav bo u.2.1 sl len2 ord2 kh2 km2))) A) [.ref (b 0)].toArray s 0 0 A) (F0 m 9 ls []) := by
    intro dd_9
    induction dd_9 with
    | zero => intro e9 dv f hk hdv hf hd; exact absurd hd (Nat.not_lt_zero _)
    | succ dd_9 ih_9 =>
      intro e9 dv f hk hdv hf hd_9 H locs ls hP hS hl
      refine lv_iload_n hx hb dX11_digest_9 rfl (lv_at hl 0 rfl) ?_
      refine lv_aload_n hx hb dX11_digest_10 rfl (lv_at hl 1 rfl) ?_
      refine va_get (D := (dC, dI)) (ci := 11) (C := RX11) (T := TX11) (N := 36) hx hb hts in_X11_digest_X11 hown hK hP 0 rfl rfl 1 (by decide) (hts (.fieldLink RX11 82 "MilkRoundModel" "houses" "I") (List.mem_of_getElem? (i := 3) rfl)) (fun _ h9 => h9) rfl dX11_digest_11 ?_
      refine n_icmp_ge (tgt := 48) hx hb dX11_digest_14 (by decide) (by omega) (by omega) (fun c_14 => ?_) (fun c_14 => ?_)
      · have hen : e9 = n := by omega
        refine lv_aload_n hx hb dX11_digest_48 rfl (lv_at hl 1 rfl) ?_
        refine va_get (D := (dC, dI)) (ci := 11) (C := RX11) (T := TX11) (N := 36) hx hb hts in_X11_digest_X11 hown hK hP 0 rfl rfl 1 (by decide) (hts (.fieldLink RX11 82 "MilkRoundModel" "houses" "I") (List.mem_of_getElem? (i := 3) rfl)) (fun _ h9 => h9) rfl dX11_digest_49 ?_
        refine n_if_le (tgt := 84) hx hb dX11_digest_52 (by decide) (by omega) (fun c_52 => ?_) (fun c_52 => ?_)
        · refine lv_iconst (v := nI (0)) hx hb dX11_digest_84 (by decide) ?_
          refine lv_istore_n (lv' := [(1, .int (nI (0))), (0, .ref (b 0))]) hx hb dX11_digest_85 rfl hl (by decide) rfl (fun ls hl => ?_)
          have loop_86 : ∀ (dd_86 : Nat) (k : Nat) (dk : Int64) (hk : k ≤ pl) (hdk : dk = fdL (fun k => nI (pg k)) (dgS n kd len ord kn kh km (fdH (hvF n kp kd len lo ord) 1087 n)) k), pl - k < dd_86 → ∀ (H : Heap) (locs : List Loc) (ls : Array Slot), va_P (dC, dI) vwCl (DW y b rn n lo kp dy so he kn ak pl iw nm sd ik kr lo2 dy2 so2 he2 kn2 dk kd len ord kh km pg f sav bo cb sl len2 ord2 kh2 km2) H → va_S A s.heap H locs → lv_has ls 3 [(1, .int (nI (k))), (0, .ref (b 0))] → W p l e (headSpec wsX11_digest ({ frames := 8, cells := 0, slots := 0, locals := 175 } : Room)).room s m [.ref (b 0)].toArray below meth c H locs 0 0 (MQ below (va_Ql (fun (r : Int64) (u : (Nat → Nat) × (Nat → Nat) × Int64) => r = rDigest n kp kd len lo ord dy so he kn kh km pl rn ak pg ∧ ∀ j, u.1 j ≤ 126) (c_B (dC, dI) vwCl (TY y) (fun (u : (Nat → Nat) × (Nat → Nat) × Int64) => (DW y b rn n lo kp dy so he kn ak pl iw nm sd ik kr lo2 dy2 so2 he2 kn2 u.2.2 kd len ord kh km pg u.1 sav bo u.2.1 sl len2 ord2 kh2 km2))) A) [.ref (b 0)].toArray s 0 0 A) (F0 m 86 ls []) := by
            intro dd_86
            induction dd_86 with
            | zero => intro k dk hk hdk hd; exact absurd hd (Nat.not_lt_zero _)
            | succ dd_86 ih_86 =>
              intro k dk hk hdk hd_86 H locs ls hP hS hl
              refine lv_iload_n hx hb dX11_digest_86 rfl (lv_at hl 0 rfl) ?_
              refine lv_aload_n hx hb dX11_digest_87 rfl (lv_at hl 1 rfl) ?_
              refine va_get (D := (dC, dI)) (ci := 11) (C := RX11) (T := TX11) (N := 36) hx hb hts in_X11_digest_X11 hown hK hP 0 rfl rfl 14 (by decide) (hts (.fieldLink RX11 60 "MilkRoundModel" "pageLength" "I") (List.mem_of_getElem? (i := 4) rfl)) (fun _ h9 => h9) rfl dX11_digest_88 ?_
              refine n_icmp_ge (tgt := 111) hx hb dX11_digest_91 (by decide) (by omega) (by omega) (fun c_91 => ?_) (fun c_91 => ?_)
              · have hkp9 : k = pl := by omega
                refine lv_iconst (v := nI (0)) hx hb dX11_digest_111 (by decide) ?_
                refine lv_istore_n (lv' := [(1, .int (nI (0))), (0, .ref (b 0))]) hx hb dX11_digest_112 rfl hl (by decide) rfl (fun ls hl => ?_)
                have loop_113 : ∀ (dd_113 : Nat) (i : Nat) (di : Int64) (f3 : Nat → Nat) (hi : i ≤ 12) (hdi : di = fdL (cvF n kp kd len lo ord dy so he kn pl rn ak) (fdL (fun k => nI (pg k)) (dgS n kd len ord kn kh km (fdH (hvF n kp kd len lo ord) 1087 n)) pl) i) (hf3 : ∀ j, f3 j ≤ 126), 12 - i < dd_113 → ∀ (H : Heap) (locs : List Loc) (ls : Array Slot), va_P (dC, dI) vwCl (DW y b rn n lo kp dy so he kn ak pl iw nm sd ik kr lo2 dy2 so2 he2 kn2 di kd len ord kh km pg f3 sav bo cb sl len2 ord2 kh2 km2) H → va_S A s.heap H locs → lv_has ls 3 [(1, .int (nI (i))), (0, .ref (b 0))] → W p l e (headSpec wsX11_digest ({ frames := 8, cells := 0, slots := 0, locals := 175 } : Room)).room s m [.ref (b 0)].toArray below meth c H locs 0 0 (MQ below (va_Ql (fun (r : Int64) (u : (Nat → Nat) × (Nat → Nat) × Int64) => r = rDigest n kp kd len lo ord dy so he kn kh km pl rn ak pg ∧ ∀ j, u.1 j ≤ 126) (c_B (dC, dI) vwCl (TY y) (fun (u : (Nat → Nat) × (Nat → Nat) × Int64) => (DW y b rn n lo kp dy so he kn ak pl iw nm sd ik kr lo2 dy2 so2 he2 kn2 u.2.2 kd len ord kh km pg u.1 sav bo u.2.1 sl len2 ord2 kh2 km2))) A) [.ref (b 0)].toArray s 0 0 A) (F0 m 113 ls []) := by
                  intro dd_113
                  induction dd_113 with
                  | zero => intro i di f3 hi hdi hf3 hd; exact absurd hd (Nat.not_lt_zero _)
                  | succ dd_113 ih_113 =>
                    intro i di f3 hi hdi hf3 hd_113 H locs ls hP hS hl
                    refine lv_iload_n hx hb dX11_digest_113 rfl (lv_at hl 0 rfl) ?_
                    refine lv_bipush (v := nI (12)) hx hb dX11_digest_114 (by decide) ?_
                    refine n_icmp_ge (tgt := 135) hx hb dX11_digest_116 (by decide) (by omega) (by omega) (fun c_116 => ?_) (fun c_116 => ?_)
                    · refine lv_aload_n hx hb dX11_digest_135 rfl (lv_at hl 1 rfl) ?_
                      refine va_get (D := (dC, dI)) (ci := 11) (C := RX11) (T := TX11) (N := 36) hx hb hts in_X11_digest_X11 hown hK hP 0 rfl rfl 35 (by decide) (hts (.fieldLink RX11 226 "MilkRoundModel" "h" "J") (List.mem_of_getElem? (i := 2) rfl)) (fun _ h9 => h9) rfl dX11_digest_136 ?_
                      have hi9 : i = 12 := by omega
                      exact c_lret hx hb hr hlocks hK hS (f3, cb, di) hP ⟨by rw [hdi, hi9]; rfl, hf3⟩ dX11_digest_139
                    · refine lv_aload_n hx hb dX11_digest_119 rfl (lv_at hl 1 rfl) ?_
                      refine lv_aload_n hx hb dX11_digest_120 rfl (lv_at hl 1 rfl) ?_
                      refine lv_iload_n hx hb dX11_digest_121 rfl (lv_at hl 0 rfl) ?_
                      refine c_calli (va_runV (As := [.int (nI (i))]) (rest := [.ref (b 0)]) ⟨hx, hb, hml, hown, hts⟩ (k_X11_howMany l dC dI y A b hA0 rn n lo kp dy so he kn ak pl iw nm sd ik kr lo2 dy2 so2 he2 kn2 di kd len ord kh km pg f3 sav bo cb sl len2 ord2 kh2 km2 i hn hord hlen hkd hf3 hkp (by omega)) (cwV 1 hts gX11_digest_X11_howMany rfl rfl rfl (by decide +kernel) ⟨Nat.le_of_ble_eq_true rfl, Nat.le_of_ble_eq_true rfl⟩) (c_preV (c_N0 A) hK hE hS hP (va_recv hK hP (ci := 11) (q0 := 0) rfl rfl)) rfl rfl hl.1 rfl (lv_room (Nat.le_of_ble_eq_true rfl)) dX11_digest_122 ⟨Nat.le_refl _, Nat.le_refl _⟩) hS (fun r_122 u_122 H locs hw_122 hP hS => ?_)
                      have hP : va_P (dC, dI) vwCl (DW y b rn n lo kp dy so he kn ak pl iw nm sd ik kr lo2 dy2 so2 he2 kn2 di kd len ord kh km pg u_122 sav bo cb sl len2 ord2 kh2 km2) H := hP
                      obtain ⟨rfl, hw_122⟩ := hw_122
                      refine lv_i2l (v := (cvF n kp kd len lo ord dy so he kn pl rn ak i).toInt64) hx hb dX11_digest_125 rfl ?_
                      refine c_callv (va_runV (As := [.long ((cvF n kp kd len lo ord dy so he kn pl rn ak i).toInt64)]) (rest := []) ⟨hx, hb, hml, hown, hts⟩ (k_X11_mix l dC dI y A b hA0 rn n lo kp dy so he kn ak pl iw nm sd ik kr lo2 dy2 so2 he2 kn2 di kd len ord kh km pg u_122 sav bo cb sl len2 ord2 kh2 km2 ((cvF n kp kd len lo ord dy so he kn pl rn ak i).toInt64) ) (cwV 1 hts gX11_digest_X11_mix rfl rfl rfl (by decide +kernel) ⟨Nat.le_of_ble_eq_true rfl, Nat.le_of_ble_eq_true rfl⟩) (c_preV (c_N0 A) hK hE hS hP (va_recv hK hP (ci := 11) (q0 := 0) rfl rfl)) rfl rfl hl.1 rfl (lv_room (Nat.le_of_ble_eq_true rfl)) dX11_digest_126 ⟨Nat.le_refl _, Nat.le_refl _⟩) hS (fun u_126 H locs hw_126 hP hS => ?_)
                      have hP : va_P (dC, dI) vwCl (DW y b rn n lo kp dy so he kn ak pl iw nm sd ik kr lo2 dy2 so2 he2 kn2 (mxL di ((cvF n kp kd len lo ord dy so he kn pl rn ak i).toInt64)) kd len ord kh km pg u_122 sav bo cb sl len2 ord2 kh2 km2) H := hP
                      refine lv_iinc (v := nI (i + 1)) (lv' := [(1, .int (nI (i + 1))), (0, .ref (b 0))]) hx hb dX11_digest_129 hl (k := 0) rfl (mr_inc _) (by decide) rfl (fun ls hl => ?_)
                      refine lv_goto (tgt := 113) hx hb dX11_digest_132 (by decide) ?_
                      exact ih_113 (i + 1) (mxL di ((cvF n kp kd len lo ord dy so he kn pl rn ak i).toInt64)) u_122 (by omega) (by rw [hdi]; rfl) hw_122 (by omega) _ _ _ hP hS (lv_sub hl [0, 1] rfl)
                exact loop_113 _ 0 dk f (Nat.zero_le _) (by show dk = _; rw [hdk, hkp9]; rfl) hf (Nat.lt_succ_self _) _ _ _ hP hS (lv_sub hl [0, 1] rfl)
              · refine lv_aload_n hx hb dX11_digest_94 rfl (lv_at hl 1 rfl) ?_
                refine lv_aload_n hx hb dX11_digest_95 rfl (lv_at hl 1 rfl) ?_
                refine va_get (D := (dC, dI)) (ci := 11) (C := RX11) (T := TX11) (N := 36) hx hb hts in_X11_digest_X11 hown hK hP 0 rfl rfl 15 (by decide) (hts (.fieldLink RX11 25 "MilkRoundModel" "page" "[B") (List.mem_of_getElem? (i := 5) rfl)) (fun _ h9 => h9) rfl dX11_digest_96 ?_
                refine lv_iload_n hx hb dX11_digest_99 rfl (lv_at hl 0 rfl) ?_
                refine n_bald hx hb hK hP 6 1 rfl rfl (by omega) (by decide) dX11_digest_100 ?_
                refine lv_i2l (v := (nI (pg k)).toInt64) hx hb dX11_digest_101 rfl ?_
                refine c_callv (va_runV (As := [.long ((nI (pg k)).toInt64)]) (rest := []) ⟨hx, hb, hml, hown, hts⟩ (k_X11_mix l dC dI y A b hA0 rn n lo kp dy so he kn ak pl iw nm sd ik kr lo2 dy2 so2 he2 kn2 dk kd len ord kh km pg f sav bo cb sl len2 ord2 kh2 km2 ((nI (pg k)).toInt64) ) (cwV 1 hts gX11_digest_X11_mix rfl rfl rfl (by decide +kernel) ⟨Nat.le_of_ble_eq_true rfl, Nat.le_of_ble_eq_true rfl⟩) (c_preV (c_N0 A) hK hE hS hP (va_recv hK hP (ci := 11) (q0 := 0) rfl rfl)) rfl rfl hl.1 rfl (lv_room (Nat.le_of_ble_eq_true rfl)) dX11_digest_102 ⟨Nat.le_refl _, Nat.le_refl _⟩) hS (fun u_102 H locs hw_102 hP hS => ?_)
                have hP : va_P (dC, dI) vwCl (DW y b rn n lo kp dy so he kn ak pl iw nm sd ik kr lo2 dy2 so2 he2 kn2 (mxL dk ((nI (pg k)).toInt64)) kd len ord kh km pg f sav bo cb sl len2 ord2 kh2 km2) H := hP
                refine lv_iinc (v := nI (k + 1)) (lv' := [(1, .int (nI (k + 1))), (0, .ref (b 0))]) hx hb dX11_digest_105 hl (k := 0) rfl (mr_inc _) (by decide) rfl (fun ls hl => ?_)
                refine lv_goto (tgt := 86) hx hb dX11_digest_108 (by decide) ?_
                exact ih_86 (k + 1) (mxL dk ((nI (pg k)).toInt64)) (by omega) (by rw [hdk]; rfl) (by omega) _ _ _ hP hS (lv_sub hl [0, 1] rfl)
          exact loop_86 _ 0 dv (Nat.zero_le _) (by show _ = dgS n kd len ord kn kh km _; rw [dgS, if_pos (by omega), hdv, hen]) (Nat.lt_succ_self _) _ _ _ hP hS (lv_sub hl [0, 1] rfl)
        · refine lv_aload_n hx hb dX11_digest_55 rfl (lv_at hl 1 rfl) ?_
          refine lv_aload_n hx hb dX11_digest_56 rfl (lv_at hl 1 rfl) ?_
          refine lv_iconst (v := nI (0)) hx hb dX11_digest_57 (by decide) ?_
          refine c_calli (va_runV (As := [.int (nI (0))]) (rest := [.ref (b 0)]) ⟨hx, hb, hml, hown, hts⟩ (k_X11_setsNow l dC dI y A b hA0 rn n lo kp dy so he kn ak pl iw nm sd ik kr lo2 dy2 so2 he2 kn2 dv kd len ord kh km pg f sav bo cb sl len2 ord2 kh2 km2 0 hn hord hlen hkd hf hkn hkh hkm (by decide)) (cwV 1 hts gX11_digest_X11_setsNow rfl rfl rfl (by decide +kernel) ⟨Nat.le_of_ble_eq_true rfl, Nat.le_of_ble_eq_true rfl⟩) (c_preV (c_N0 A) hK hE hS hP (va_recv hK hP (ci := 11) (q0 := 0) rfl rfl)) rfl rfl hl.1 rfl (lv_room (Nat.le_of_ble_eq_true rfl)) dX11_digest_58 ⟨Nat.le_refl _, Nat.le_refl _⟩) hS (fun r_58 u_58 H locs hw_58 hP hS => ?_)
          have hP : va_P (dC, dI) vwCl (DW y b rn n lo kp dy so he kn ak pl iw nm sd ik kr lo2 dy2 so2 he2 kn2 dv kd len ord kh km pg u_58 sav bo cb sl len2 ord2 kh2 km2) H := hP
          obtain ⟨rfl, hw_58⟩ := hw_58
          refine lv_i2l (v := (stsF n kd len ord kn kh km 0).toInt64) hx hb dX11_digest_61 rfl ?_
          refine c_callv (va_runV (As := [.long ((stsF n kd len ord kn kh km 0).toInt64)]) (rest := []) ⟨hx, hb, hml, hown, hts⟩ (k_X11_mix l dC dI y A b hA0 rn n lo kp dy so he kn ak pl iw nm sd ik kr lo2 dy2 so2 he2 kn2 dv kd len ord kh km pg u_58 sav bo cb sl len2 ord2 kh2 km2 ((stsF n kd len ord kn kh km 0).toInt64) ) (cwV 1 hts gX11_digest_X11_mix rfl rfl rfl (by decide +kernel) ⟨Nat.le_of_ble_eq_true rfl, Nat.le_of_ble_eq_true rfl⟩) (c_preV (c_N0 A) hK hE hS hP (va_recv hK hP (ci := 11) (q0 := 0) rfl rfl)) rfl rfl hl.1 rfl (lv_room (Nat.le_of_ble_eq_true rfl)) dX11_digest_62 ⟨Nat.le_refl _, Nat.le_refl _⟩) hS (fun u_62 H locs hw_62 hP hS => ?_)
          have hP : va_P (dC, dI) vwCl (DW y b rn n lo kp dy so he kn ak pl iw nm sd ik kr lo2 dy2 so2 he2 kn2 (mxL dv ((stsF n kd len ord kn kh km 0).toInt64)) kd len ord kh km pg u_58 sav bo cb sl len2 ord2 kh2 km2) H := hP
          refine lv_aload_n hx hb dX11_digest_65 rfl (lv_at hl 1 rfl) ?_
          refine lv_aload_n hx hb dX11_digest_66 rfl (lv_at hl 1 rfl) ?_
          refine lv_iconst (v := nI (1)) hx hb dX11_digest_67 (by decide) ?_
          refine c_calli (va_runV (As := [.int (nI (1))]) (rest := [.ref (b 0)]) ⟨hx, hb, hml, hown, hts⟩ (k_X11_setsNow l dC dI y A b hA0 rn n lo kp dy so he kn ak pl iw nm sd ik kr lo2 dy2 so2 he2 kn2 (mxL dv ((stsF n kd len ord kn kh km 0).toInt64)) kd len ord kh km pg u_58 sav bo cb sl len2 ord2 kh2 km2 1 hn hord hlen hkd hw_58 hkn hkh hkm (by decide)) (cwV 1 hts gX11_digest_X11_setsNow rfl rfl rfl (by decide +kernel) ⟨Nat.le_of_ble_eq_true rfl, Nat.le_of_ble_eq_true rfl⟩) (c_preV (c_N0 A) hK hE hS hP (va_recv hK hP (ci := 11) (q0 := 0) rfl rfl)) rfl rfl hl.1 rfl (lv_room (Nat.le_of_ble_eq_true rfl)) dX11_digest_68 ⟨Nat.le_refl _, Nat.le_refl _⟩) hS (fun r_68 u_68 H locs hw_68 hP hS => ?_)
          have hP : va_P (dC, dI) vwCl (DW y b rn n lo kp dy so he kn ak pl iw nm sd ik kr lo2 dy2 so2 he2 kn2 (mxL dv ((stsF n kd len ord kn kh km 0).toInt64)) kd len ord kh km pg u_68 sav bo cb sl len2 ord2 kh2 km2) H := hP
          obtain ⟨rfl, hw_68⟩ := hw_68
          refine lv_i2l (v := (stsF n kd len ord kn kh km 1).toInt64) hx hb dX11_digest_71 rfl ?_
          refine c_callv (va_runV (As := [.long ((stsF n kd len ord kn kh km 1).toInt64)]) (rest := []) ⟨hx, hb, hml, hown, hts⟩ (k_X11_mix l dC dI y A b hA0 rn n lo kp dy so he kn ak pl iw nm sd ik kr lo2 dy2 so2 he2 kn2 (mxL dv ((stsF n kd len ord kn kh km 0).toInt64)) kd len ord kh km pg u_68 sav bo cb sl len2 ord2 kh2 km2 ((stsF n kd len ord kn kh km 1).toInt64) ) (cwV 1 hts gX11_digest_X11_mix rfl rfl rfl (by decide +kernel) ⟨Nat.le_of_ble_eq_true rfl, Nat.le_of_ble_eq_true rfl⟩) (c_preV (c_N0 A) hK hE hS hP (va_recv hK hP (ci := 11) (q0 := 0) rfl rfl)) rfl rfl hl.1 rfl (lv_room (Nat.le_of_ble_eq_true rfl)) dX11_digest_72 ⟨Nat.le_refl _, Nat.le_refl _⟩) hS (fun u_72 H locs hw_72 hP hS => ?_)
          have hP : va_P (dC, dI) vwCl (DW y b rn n lo kp dy so he kn ak pl iw nm sd ik kr lo2 dy2 so2 he2 kn2 (mxL (mxL dv ((stsF n kd len ord kn kh km 0).toInt64)) ((stsF n kd len ord kn kh km 1).toInt64)) kd len ord kh km pg u_68 sav bo cb sl len2 ord2 kh2 km2) H := hP
          refine lv_aload_n hx hb dX11_digest_75 rfl (lv_at hl 1 rfl) ?_
          refine lv_aload_n hx hb dX11_digest_76 rfl (lv_at hl 1 rfl) ?_
          refine c_calli (va_runV (As := []) (rest := [.ref (b 0)]) ⟨hx, hb, hml, hown, hts⟩ (k_X11_askNow l dC dI y A b hA0 rn n lo kp dy so he kn ak pl iw nm sd ik kr lo2 dy2 so2 he2 kn2 (mxL (mxL dv ((stsF n kd len ord kn kh km 0).toInt64)) ((stsF n kd len ord kn kh km 1).toInt64)) kd len ord kh km pg u_68 sav bo cb sl len2 ord2 kh2 km2  hn hord hlen hkd hw_68 hkn hkh hkm (by omega)) (cwV 0 hts gX11_digest_X11_askNow rfl rfl rfl (by decide +kernel) ⟨Nat.le_of_ble_eq_true rfl, Nat.le_of_ble_eq_true rfl⟩) (c_preV (c_N0 A) hK hE hS hP (va_recv hK hP (ci := 11) (q0 := 0) rfl rfl)) rfl rfl hl.1 rfl (lv_room (Nat.le_of_ble_eq_true rfl)) dX11_digest_77 ⟨Nat.le_refl _, Nat.le_refl _⟩) hS (fun r_77 u_77 H locs hw_77 hP hS => ?_)
          have hP : va_P (dC, dI) vwCl (DW y b rn n lo kp dy so he kn ak pl iw nm sd ik kr lo2 dy2 so2 he2 kn2 (mxL (mxL dv ((stsF n kd len ord kn kh km 0).toInt64)) ((stsF n kd len ord kn kh km 1).toInt64)) kd len ord kh km pg u_77.1 sav bo u_77.2 sl len2 ord2 kh2 km2) H := hP
          obtain ⟨rfl, hw_77⟩ := hw_77
          refine lv_i2l (v := (askF n kd len ord kn kh km).toInt64) hx hb dX11_digest_80 rfl ?_
          refine c_callv (va_runV (As := [.long ((askF n kd len ord kn kh km).toInt64)]) (rest := []) ⟨hx, hb, hml, hown, hts⟩ (k_X11_mix l dC dI y A b hA0 rn n lo kp dy so he kn ak pl iw nm sd ik kr lo2 dy2 so2 he2 kn2 (mxL (mxL dv ((stsF n kd len ord kn kh km 0).toInt64)) ((stsF n kd len ord kn kh km 1).toInt64)) kd len ord kh km pg u_77.1 sav bo u_77.2 sl len2 ord2 kh2 km2 ((askF n kd len ord kn kh km).toInt64) ) (cwV 1 hts gX11_digest_X11_mix rfl rfl rfl (by decide +kernel) ⟨Nat.le_of_ble_eq_true rfl, Nat.le_of_ble_eq_true rfl⟩) (c_preV (c_N0 A) hK hE hS hP (va_recv hK hP (ci := 11) (q0 := 0) rfl rfl)) rfl rfl hl.1 rfl (lv_room (Nat.le_of_ble_eq_true rfl)) dX11_digest_81 ⟨Nat.le_refl _, Nat.le_refl _⟩) hS (fun u_81 H locs hw_81 hP hS => ?_)
          have hP : va_P (dC, dI) vwCl (DW y b rn n lo kp dy so he kn ak pl iw nm sd ik kr lo2 dy2 so2 he2 kn2 (mxL (mxL (mxL dv ((stsF n kd len ord kn kh km 0).toInt64)) ((stsF n kd len ord kn kh km 1).toInt64)) ((askF n kd len ord kn kh km).toInt64)) kd len ord kh km pg u_77.1 sav bo u_77.2 sl len2 ord2 kh2 km2) H := hP
          refine lv_iconst (v := nI (0)) hx hb dX11_digest_84 (by decide) ?_
          refine lv_istore_n (lv' := [(1, .int (nI (0))), (0, .ref (b 0))]) hx hb dX11_digest_85 rfl hl (by decide) rfl (fun ls hl => ?_)
          have loop_86 : ∀ (dd_86 : Nat) (k : Nat) (dk : Int64) (hk : k ≤ pl) (hdk : dk = fdL (fun k => nI (pg k)) (dgS n kd len ord kn kh km (fdH (hvF n kp kd len lo ord) 1087 n)) k), pl - k < dd_86 → ∀ (H : Heap) (locs : List Loc) (ls : Array Slot), va_P (dC, dI) vwCl (DW y b rn n lo kp dy so he kn ak pl iw nm sd ik kr lo2 dy2 so2 he2 kn2 dk kd len ord kh km pg u_77.1 sav bo u_77.2 sl len2 ord2 kh2 km2) H → va_S A s.heap H locs → lv_has ls 3 [(1, .int (nI (k))), (0, .ref (b 0))] → W p l e (headSpec wsX11_digest ({ frames := 8, cells := 0, slots := 0, locals := 175 } : Room)).room s m [.ref (b 0)].toArray below meth c H locs 0 0 (MQ below (va_Ql (fun (r : Int64) (u : (Nat → Nat) × (Nat → Nat) × Int64) => r = rDigest n kp kd len lo ord dy so he kn kh km pl rn ak pg ∧ ∀ j, u.1 j ≤ 126) (c_B (dC, dI) vwCl (TY y) (fun (u : (Nat → Nat) × (Nat → Nat) × Int64) => (DW y b rn n lo kp dy so he kn ak pl iw nm sd ik kr lo2 dy2 so2 he2 kn2 u.2.2 kd len ord kh km pg u.1 sav bo u.2.1 sl len2 ord2 kh2 km2))) A) [.ref (b 0)].toArray s 0 0 A) (F0 m 86 ls []) := by
            intro dd_86
            induction dd_86 with
            | zero => intro k dk hk hdk hd; exact absurd hd (Nat.not_lt_zero _)
            | succ dd_86 ih_86 =>
              intro k dk hk hdk hd_86 H locs ls hP hS hl
              refine lv_iload_n hx hb dX11_digest_86 rfl (lv_at hl 0 rfl) ?_
              refine lv_aload_n hx hb dX11_digest_87 rfl (lv_at hl 1 rfl) ?_
              refine va_get (D := (dC, dI)) (ci := 11) (C := RX11) (T := TX11) (N := 36) hx hb hts in_X11_digest_X11 hown hK hP 0 rfl rfl 14 (by decide) (hts (.fieldLink RX11 60 "MilkRoundModel" "pageLength" "I") (List.mem_of_getElem? (i := 4) rfl)) (fun _ h9 => h9) rfl dX11_digest_88 ?_
              refine n_icmp_ge (tgt := 111) hx hb dX11_digest_91 (by decide) (by omega) (by omega) (fun c_91 => ?_) (fun c_91 => ?_)
              · have hkp9 : k = pl := by omega
                refine lv_iconst (v := nI (0)) hx hb dX11_digest_111 (by decide) ?_
                refine lv_istore_n (lv' := [(1, .int (nI (0))), (0, .ref (b 0))]) hx hb dX11_digest_112 rfl hl (by decide) rfl (fun ls hl => ?_)
                have loop_113 : ∀ (dd_113 : Nat) (i : Nat) (di : Int64) (f3 : Nat → Nat) (hi : i ≤ 12) (hdi : di = fdL (cvF n kp kd len lo ord dy so he kn pl rn ak) (fdL (fun k => nI (pg k)) (dgS n kd len ord kn kh km (fdH (hvF n kp kd len lo ord) 1087 n)) pl) i) (hf3 : ∀ j, f3 j ≤ 126), 12 - i < dd_113 → ∀ (H : Heap) (locs : List Loc) (ls : Array Slot), va_P (dC, dI) vwCl (DW y b rn n lo kp dy so he kn ak pl iw nm sd ik kr lo2 dy2 so2 he2 kn2 di kd len ord kh km pg f3 sav bo u_77.2 sl len2 ord2 kh2 km2) H → va_S A s.heap H locs → lv_has ls 3 [(1, .int (nI (i))), (0, .ref (b 0))] → W p l e (headSpec wsX11_digest ({ frames := 8, cells := 0, slots := 0, locals := 175 } : Room)).room s m [.ref (b 0)].toArray below meth c H locs 0 0 (MQ below (va_Ql (fun (r : Int64) (u : (Nat → Nat) × (Nat → Nat) × Int64) => r = rDigest n kp kd len lo ord dy so he kn kh km pl rn ak pg ∧ ∀ j, u.1 j ≤ 126) (c_B (dC, dI) vwCl (TY y) (fun (u : (Nat → Nat) × (Nat → Nat) × Int64) => (DW y b rn n lo kp dy so he kn ak pl iw nm sd ik kr lo2 dy2 so2 he2 kn2 u.2.2 kd len ord kh km pg u.1 sav bo u.2.1 sl len2 ord2 kh2 km2))) A) [.ref (b 0)].toArray s 0 0 A) (F0 m 113 ls []) := by
                  intro dd_113
                  induction dd_113 with
                  | zero => intro i di f3 hi hdi hf3 hd; exact absurd hd (Nat.not_lt_zero _)
                  | succ dd_113 ih_113 =>
                    intro i di f3 hi hdi hf3 hd_113 H locs ls hP hS hl
                    refine lv_iload_n hx hb dX11_digest_113 rfl (lv_at hl 0 rfl) ?_
                    refine lv_bipush (v := nI (12)) hx hb dX11_digest_114 (by decide) ?_
                    refine n_icmp_ge (tgt := 135) hx hb dX11_digest_116 (by decide) (by omega) (by omega) (fun c_116 => ?_) (fun c_116 => ?_)
                    · refine lv_aload_n hx hb dX11_digest_135 rfl (lv_at hl 1 rfl) ?_
                      refine va_get (D := (dC, dI)) (ci := 11) (C := RX11) (T := TX11) (N := 36) hx hb hts in_X11_digest_X11 hown hK hP 0 rfl rfl 35 (by decide) (hts (.fieldLink RX11 226 "MilkRoundModel" "h" "J") (List.mem_of_getElem? (i := 2) rfl)) (fun _ h9 => h9) rfl dX11_digest_136 ?_
                      have hi9 : i = 12 := by omega
                      exact c_lret hx hb hr hlocks hK hS (f3, u_77.2, di) hP ⟨by rw [hdi, hi9]; rfl, hf3⟩ dX11_digest_139
                    · refine lv_aload_n hx hb dX11_digest_119 rfl (lv_at hl 1 rfl) ?_
                      refine lv_aload_n hx hb dX11_digest_120 rfl (lv_at hl 1 rfl) ?_
                      refine lv_iload_n hx hb dX11_digest_121 rfl (lv_at hl 0 rfl) ?_
                      refine c_calli (va_runV (As := [.int (nI (i))]) (rest := [.ref (b 0)]) ⟨hx, hb, hml, hown, hts⟩ (k_X11_howMany l dC dI y A b hA0 rn n lo kp dy so he kn ak pl iw nm sd ik kr lo2 dy2 so2 he2 kn2 di kd len ord kh km pg f3 sav bo u_77.2 sl len2 ord2 kh2 km2 i hn hord hlen hkd hf3 hkp (by omega)) (cwV 1 hts gX11_digest_X11_howMany rfl rfl rfl (by decide +kernel) ⟨Nat.le_of_ble_eq_true rfl, Nat.le_of_ble_eq_true rfl⟩) (c_preV (c_N0 A) hK hE hS hP (va_recv hK hP (ci := 11) (q0 := 0) rfl rfl)) rfl rfl hl.1 rfl (lv_room (Nat.le_of_ble_eq_true rfl)) dX11_digest_122 ⟨Nat.le_refl _, Nat.le_refl _⟩) hS (fun r_122 u_122 H locs hw_122 hP hS => ?_)
                      have hP : va_P (dC, dI) vwCl (DW y b rn n lo kp dy so he kn ak pl iw nm sd ik kr lo2 dy2 so2 he2 kn2 di kd len ord kh km pg u_122 sav bo u_77.2 sl len2 ord2 kh2 km2) H := hP
                      obtain ⟨rfl, hw_122⟩ := hw_122
                      refine lv_i2l (v := (cvF n kp kd len lo ord dy so he kn pl rn ak i).toInt64) hx hb dX11_digest_125 rfl ?_
                      refine c_callv (va_runV (As := [.long ((cvF n kp kd len lo ord dy so he kn pl rn ak i).toInt64)]) (rest := []) ⟨hx, hb, hml, hown, hts⟩ (k_X11_mix l dC dI y A b hA0 rn n lo kp dy so he kn ak pl iw nm sd ik kr lo2 dy2 so2 he2 kn2 di kd len ord kh km pg u_122 sav bo u_77.2 sl len2 ord2 kh2 km2 ((cvF n kp kd len lo ord dy so he kn pl rn ak i).toInt64) ) (cwV 1 hts gX11_digest_X11_mix rfl rfl rfl (by decide +kernel) ⟨Nat.le_of_ble_eq_true rfl, Nat.le_of_ble_eq_true rfl⟩) (c_preV (c_N0 A) hK hE hS hP (va_recv hK hP (ci := 11) (q0 := 0) rfl rfl)) rfl rfl hl.1 rfl (lv_room (Nat.le_of_ble_eq_true rfl)) dX11_digest_126 ⟨Nat.le_refl _, Nat.le_refl _⟩) hS (fun u_126 H locs hw_126 hP hS => ?_)
                      have hP : va_P (dC, dI) vwCl (DW y b rn n lo kp dy so he kn ak pl iw nm sd ik kr lo2 dy2 so2 he2 kn2 (mxL di ((cvF n kp kd len lo ord dy so he kn pl rn ak i).toInt64)) kd len ord kh km pg u_122 sav bo u_77.2 sl len2 ord2 kh2 km2) H := hP
                      refine lv_iinc (v := nI (i + 1)) (lv' := [(1, .int (nI (i + 1))), (0, .ref (b 0))]) hx hb dX11_digest_129 hl (k := 0) rfl (mr_inc _) (by decide) rfl (fun ls hl => ?_)
                      refine lv_goto (tgt := 113) hx hb dX11_digest_132 (by decide) ?_
                      exact ih_113 (i + 1) (mxL di ((cvF n kp kd len lo ord dy so he kn pl rn ak i).toInt64)) u_122 (by omega) (by rw [hdi]; rfl) hw_122 (by omega) _ _ _ hP hS (lv_sub hl [0, 1] rfl)
                exact loop_113 _ 0 dk u_77.1 (Nat.zero_le _) (by show dk = _; rw [hdk, hkp9]; rfl) hw_77 (Nat.lt_succ_self _) _ _ _ hP hS (lv_sub hl [0, 1] rfl)
              · refine lv_aload_n hx hb dX11_digest_94 rfl (lv_at hl 1 rfl) ?_
                refine lv_aload_n hx hb dX11_digest_95 rfl (lv_at hl 1 rfl) ?_
                refine va_get (D := (dC, dI)) (ci := 11) (C := RX11) (T := TX11) (N := 36) hx hb hts in_X11_digest_X11 hown hK hP 0 rfl rfl 15 (by decide) (hts (.fieldLink RX11 25 "MilkRoundModel" "page" "[B") (List.mem_of_getElem? (i := 5) rfl)) (fun _ h9 => h9) rfl dX11_digest_96 ?_
                refine lv_iload_n hx hb dX11_digest_99 rfl (lv_at hl 0 rfl) ?_
                refine n_bald hx hb hK hP 6 1 rfl rfl (by omega) (by decide) dX11_digest_100 ?_
                refine lv_i2l (v := (nI (pg k)).toInt64) hx hb dX11_digest_101 rfl ?_
                refine c_callv (va_runV (As := [.long ((nI (pg k)).toInt64)]) (rest := []) ⟨hx, hb, hml, hown, hts⟩ (k_X11_mix l dC dI y A b hA0 rn n lo kp dy so he kn ak pl iw nm sd ik kr lo2 dy2 so2 he2 kn2 dk kd len ord kh km pg u_77.1 sav bo u_77.2 sl len2 ord2 kh2 km2 ((nI (pg k)).toInt64) ) (cwV 1 hts gX11_digest_X11_mix rfl rfl rfl (by decide +kernel) ⟨Nat.le_of_ble_eq_true rfl, Nat.le_of_ble_eq_true rfl⟩) (c_preV (c_N0 A) hK hE hS hP (va_recv hK hP (ci := 11) (q0 := 0) rfl rfl)) rfl rfl hl.1 rfl (lv_room (Nat.le_of_ble_eq_true rfl)) dX11_digest_102 ⟨Nat.le_refl _, Nat.le_refl _⟩) hS (fun u_102 H locs hw_102 hP hS => ?_)
                have hP : va_P (dC, dI) vwCl (DW y b rn n lo kp dy so he kn ak pl iw nm sd ik kr lo2 dy2 so2 he2 kn2 (mxL dk ((nI (pg k)).toInt64)) kd len ord kh km pg u_77.1 sav bo u_77.2 sl len2 ord2 kh2 km2) H := hP
                refine lv_iinc (v := nI (k + 1)) (lv' := [(1, .int (nI (k + 1))), (0, .ref (b 0))]) hx hb dX11_digest_105 hl (k := 0) rfl (mr_inc _) (by decide) rfl (fun ls hl => ?_)
                refine lv_goto (tgt := 86) hx hb dX11_digest_108 (by decide) ?_
                exact ih_86 (k + 1) (mxL dk ((nI (pg k)).toInt64)) (by omega) (by rw [hdk]; rfl) (by omega) _ _ _ hP hS (lv_sub hl [0, 1] rfl)
          exact loop_86 _ 0 (mxL (mxL (mxL dv ((stsF n kd len ord kn kh km 0).toInt64)) ((stsF n kd len ord kn kh km 1).toInt64)) ((askF n kd len ord kn kh km).toInt64)) (Nat.zero_le _) (by show _ = dgS n kd len ord kn kh km _; rw [dgS, if_neg (by omega), hdv, hen]) (Nat.lt_succ_self _) _ _ _ hP hS (lv_sub hl [0, 1] rfl)
      · refine lv_iconst (v := nI (0)) hx hb dX11_digest_17 (by decide) ?_
        refine lv_istore_n (lv' := [(2, .int (nI (0))), (1, .int (nI (e9))), (0, .ref (b 0))]) hx hb dX11_digest_18 rfl hl (by decide) rfl (fun ls hl => ?_)
        have loop_19 : ∀ (dd_19 : Nat) (w : Nat) (dw : Int64) (f2 : Nat → Nat) (hw : w ≤ 9) (hdw : dw = fdL (hvF n kp kd len lo ord e9) dv w) (hf2 : ∀ j, f2 j ≤ 126), 9 - w < dd_19 → ∀ (H : Heap) (locs : List Loc) (ls : Array Slot), va_P (dC, dI) vwCl (DW y b rn n lo kp dy so he kn ak pl iw nm sd ik kr lo2 dy2 so2 he2 kn2 dw kd len ord kh km pg f2 sav bo cb sl len2 ord2 kh2 km2) H → va_S A s.heap H locs → lv_has ls 3 [(2, .int (nI (w))), (1, .int (nI (e9))), (0, .ref (b 0))] → W p l e (headSpec wsX11_digest ({ frames := 8, cells := 0, slots := 0, locals := 175 } : Room)).room s m [.ref (b 0)].toArray below meth c H locs 0 0 (MQ below (va_Ql (fun (r : Int64) (u : (Nat → Nat) × (Nat → Nat) × Int64) => r = rDigest n kp kd len lo ord dy so he kn kh km pl rn ak pg ∧ ∀ j, u.1 j ≤ 126) (c_B (dC, dI) vwCl (TY y) (fun (u : (Nat → Nat) × (Nat → Nat) × Int64) => (DW y b rn n lo kp dy so he kn ak pl iw nm sd ik kr lo2 dy2 so2 he2 kn2 u.2.2 kd len ord kh km pg u.1 sav bo u.2.1 sl len2 ord2 kh2 km2))) A) [.ref (b 0)].toArray s 0 0 A) (F0 m 19 ls []) := by
          intro dd_19
          induction dd_19 with
          | zero => intro w dw f2 hw hdw hf2 hd; exact absurd hd (Nat.not_lt_zero _)
          | succ dd_19 ih_19 =>
            intro w dw f2 hw hdw hf2 hd_19 H locs ls hP hS hl
            refine lv_iload_n hx hb dX11_digest_19 rfl (lv_at hl 0 rfl) ?_
            refine lv_bipush (v := nI (9)) hx hb dX11_digest_20 (by decide) ?_
            refine n_icmp_ge (tgt := 42) hx hb dX11_digest_22 (by decide) (by omega) (by omega) (fun c_22 => ?_) (fun c_22 => ?_)
            · refine lv_iinc (v := nI (e9 + 1)) (lv' := [(1, .int (nI (e9 + 1))), (2, .int (nI (w))), (0, .ref (b 0))]) hx hb dX11_digest_42 hl (k := 1) rfl (mr_inc _) (by decide) rfl (fun ls hl => ?_)
              refine lv_goto (tgt := 9) hx hb dX11_digest_45 (by decide) ?_
              have hw9 : w = 9 := by omega
              exact ih_9 (e9 + 1) dw f2 (by omega) (by rw [hdw, hw9, hdv]; rfl) hf2 (by omega) _ _ _ hP hS (lv_sub hl [0, 2] rfl)
            · refine lv_aload_n hx hb dX11_digest_25 rfl (lv_at hl 2 rfl) ?_
              refine lv_aload_n hx hb dX11_digest_26 rfl (lv_at hl 2 rfl) ?_
              refine lv_iload_n hx hb dX11_digest_27 rfl (lv_at hl 1 rfl) ?_
              refine lv_iload_n hx hb dX11_digest_28 rfl (lv_at hl 0 rfl) ?_
              refine c_calli (va_runV (As := [.int (nI (e9)), .int (nI (w))]) (rest := [.ref (b 0)]) ⟨hx, hb, hml, hown, hts⟩ (k_X11_houseNow l dC dI y A b hA0 rn n lo kp dy so he kn ak pl iw nm sd ik kr lo2 dy2 so2 he2 kn2 dw kd len ord kh km pg f2 sav bo cb sl len2 ord2 kh2 km2 e9 w hn hord hlen hkd hf2 hkp (by omega) (by omega)) (cwV 2 hts gX11_digest_X11_houseNow rfl rfl rfl (by decide +kernel) ⟨Nat.le_of_ble_eq_true rfl, Nat.le_of_ble_eq_true rfl⟩) (c_preV (c_N0 A) hK hE hS hP (va_recv hK hP (ci := 11) (q0 := 0) rfl rfl)) rfl rfl hl.1 rfl (lv_room (Nat.le_of_ble_eq_true rfl)) dX11_digest_29 ⟨Nat.le_refl _, Nat.le_refl _⟩) hS (fun r_29 u_29 H locs hw_29 hP hS => ?_)
              have hP : va_P (dC, dI) vwCl (DW y b rn n lo kp dy so he kn ak pl iw nm sd ik kr lo2 dy2 so2 he2 kn2 dw kd len ord kh km pg u_29 sav bo cb sl len2 ord2 kh2 km2) H := hP
              obtain ⟨rfl, hw_29⟩ := hw_29
              refine lv_i2l (v := (hvF n kp kd len lo ord e9 w).toInt64) hx hb dX11_digest_32 rfl ?_
              refine c_callv (va_runV (As := [.long ((hvF n kp kd len lo ord e9 w).toInt64)]) (rest := []) ⟨hx, hb, hml, hown, hts⟩ (k_X11_mix l dC dI y A b hA0 rn n lo kp dy so he kn ak pl iw nm sd ik kr lo2 dy2 so2 he2 kn2 dw kd len ord kh km pg u_29 sav bo cb sl len2 ord2 kh2 km2 ((hvF n kp kd len lo ord e9 w).toInt64) ) (cwV 1 hts gX11_digest_X11_mix rfl rfl rfl (by decide +kernel) ⟨Nat.le_of_ble_eq_true rfl, Nat.le_of_ble_eq_true rfl⟩) (c_preV (c_N0 A) hK hE hS hP (va_recv hK hP (ci := 11) (q0 := 0) rfl rfl)) rfl rfl hl.1 rfl (lv_room (Nat.le_of_ble_eq_true rfl)) dX11_digest_33 ⟨Nat.le_refl _, Nat.le_refl _⟩) hS (fun u_33 H locs hw_33 hP hS => ?_)
              have hP : va_P (dC, dI) vwCl (DW y b rn n lo kp dy so he kn ak pl iw nm sd ik kr lo2 dy2 so2 he2 kn2 (mxL dw ((hvF n kp kd len lo ord e9 w).toInt64)) kd len ord kh km pg u_29 sav bo cb sl len2 ord2 kh2 km2) H := hP
              refine lv_iinc (v := nI (w + 1)) (lv' := [(2, .int (nI (w + 1))), (1, .int (nI (e9))), (0, .ref (b 0))]) hx hb dX11_digest_36 hl (k := 0) rfl (mr_inc _) (by decide) rfl (fun ls hl => ?_)
              refine lv_goto (tgt := 19) hx hb dX11_digest_39 (by decide) ?_
              exact ih_19 (w + 1) (mxL dw ((hvF n kp kd len lo ord e9 w).toInt64)) u_29 (by omega) (by rw [hdw]; rfl) hw_29 (by omega) _ _ _ hP hS (lv_sub hl [0, 1, 2] rfl)
        exact loop_19 _ 0 dv f (Nat.zero_le _) rfl hf (Nat.lt_succ_self _) _ _ _ hP hS (lv_sub hl [0, 1, 2] rfl)
  exact loop_9 _ 0 1087 cm (Nat.zero_le _) rfl hcm (Nat.lt_succ_self _) _ _ _ hP hS (lv_sub hl [0, 1] rfl)
theorem in_X11_image_X11 : ∀ w ∈ wsX110, w ∈ wsX11_image := fun w h => List.mem_cons_of_mem _ (List.mem_append_right _ h)
set_option maxHeartbeats 4000000 in
set_option maxRecDepth 100000 in
theorem k_X11_image (l : Launch) (dC : Nat → ClassId) (dI : Nat → Nat → Nat) (y : Nat → ClassId) (A : Nat → Prop) (b : Nat → Nat) (hA0 : ad_ok A b 16) (rn : Nat) (n : Nat) (lo : Int32) (kp : Nat) (dy : Int32) (so : Int32) (he : Int32) (kn : Nat) (ak : Nat) (pl : Nat) (iw : Bool) (nm : Nat) (sd : Int64) (ik : Bool) (kr : Nat) (lo2 : Int32) (dy2 : Int32) (so2 : Int32) (he2 : Int32) (kn2 : Nat) (dgv : Int64) (kd : Nat → Nat) (len : Nat → Nat) (ord : Nat → Nat) (kh : Nat → Nat) (km : Nat → Nat) (pg : Nat → Nat) (cm : Nat → Nat) (sav : Nat → Nat) (bo : Nat → Nat) (cb : Nat → Nat) (sl : Nat → Nat) (len2 : Nat → Nat) (ord2 : Nat → Nat) (kh2 : Nat → Nat) (km2 : Nat → Nat) (hn : n ≤ 6) : Met l yX11_image wsX11_image ({ frames := 0, cells := 0, slots := 0, locals := 0 } : Room) (c_P (dC, dI) vwCl (TY y) (fun _ => True) (DW y b rn n lo kp dy so he kn ak pl iw nm sd ik kr lo2 dy2 so2 he2 kn2 dgv kd len ord kh km pg cm sav bo cb sl len2 ord2 kh2 km2) [.ref (b 0)]) (va_Qi (fun (r : Int32) (u : Unit) => r = (bif decide (n = 0) then -103 else dy)) (c_B (dC, dI) vwCl (TY y) (fun (u : Unit) => (DW y b rn n lo kp dy so he kn ak pl iw nm sd (bif decide (n = 0) then ik else true) (bif decide (n = 0) then kr else rn) (bif decide (n = 0) then lo2 else lo) (bif decide (n = 0) then dy2 else dy) (bif decide (n = 0) then so2 else so) (bif decide (n = 0) then he2 else he) (bif decide (n = 0) then kn2 else kn) dgv kd len ord kh km pg cm sav bo cb sl (bif decide (n = 0) then len2 else mixF 6 len len2) (bif decide (n = 0) then ord2 else mixF 6 ord ord2) (bif decide (n = 0) then kh2 else mixF 6 kh kh2) (bif decide (n = 0) then km2 else mixF 6 km km2)))) A) 0 0 A := by
  refine Met.ofW (cc := cX11_image) (maxL := 2) (ret := (some .int)) (by decide) rfl ?_
  intro p e s m args below meth c s₁ BB hml hv
  obtain ⟨rfl, hP, hK, hE⟩ := hv
  have hx := BB.exec
  have hb := BB.bytes
  have hr := BB.returns
  have hts := atoms_spec (ws := wsX11_image) BB.pre
  have hown : s.vm.findClass RX11 = some m.cls := findClass_of_methodNamed BB.named
  have hlocks := BB.notSynchronized
  have hS : va_S A s.heap s.heap [] := va_S.rf
  have hl := lv_entry ([.ref (b 0)]) (n := 2) (Nat.le_of_ble_eq_true rfl)
  rw [lg_entry_eq]
  generalize (lg_sl ([.ref (b 0)]) ++ List.replicate (2 - (lg_sl ([.ref (b 0)])).length) Slot.unset).toArray = ls at hl ⊢
  have hl : lv_has ls 2 [(0, .ref (b 0))] := hl
  refine lv_aload_n hx hb dX11_image_0 rfl (lv_at hl 0 rfl) ?_
  refine va_get (D := (dC, dI)) (ci := 11) (C := RX11) (T := TX11) (N := 36) hx hb hts in_X11_image_X11 hown hK hP 0 rfl rfl 1 (by decide) (hts (.fieldLink RX11 82 "MilkRoundModel" "houses" "I") (List.mem_of_getElem? (i := 1) rfl)) (fun _ h9 => h9) rfl dX11_image_1 ?_
  refine n_if_ne (tgt := 10) hx hb dX11_image_4 (by decide) (by omega) (fun c_4 => ?_) (fun c_4 => ?_)
  · refine lv_aload_n hx hb dX11_image_10 rfl (lv_at hl 0 rfl) ?_
    refine lv_iconst (v := nI (1)) hx hb dX11_image_11 (by decide) ?_
    refine va_put (D := (dC, dI)) (ci := 11) (ty := tyX11 24) (C := RX11) (T := TX11) (N := 36) hx hb hts in_X11_image_X11 tyX11 tyX11_ok nmX11 hown hK hP (ad_D hA0 rfl) hS 0 rfl rfl 24 (by decide) (hts (.fieldLink RX11 197 "MilkRoundModel" "isKept" "Z") (List.mem_of_getElem? (i := 2) rfl)) (fun _ h9 => h9) rfl (tyX11_ok 24 (by decide)) rfl rfl (Nat.le_of_ble_eq_true rfl) dX11_image_12 (fun H locs hP _ hS => ?_)
    have hP : va_P (dC, dI) vwCl (DW y b rn n lo kp dy so he kn ak pl iw nm sd true kr lo2 dy2 so2 he2 kn2 dgv kd len ord kh km pg cm sav bo cb sl len2 ord2 kh2 km2) H := hP
    refine lv_aload_n hx hb dX11_image_15 rfl (lv_at hl 0 rfl) ?_
    refine lv_aload_n hx hb dX11_image_16 rfl (lv_at hl 0 rfl) ?_
    refine va_get (D := (dC, dI)) (ci := 11) (C := RX11) (T := TX11) (N := 36) hx hb hts in_X11_image_X11 hown hK hP 0 rfl rfl 0 (by decide) (hts (.fieldLink RX11 88 "MilkRoundModel" "rounds" "I") (List.mem_of_getElem? (i := 3) rfl)) (fun _ h9 => h9) rfl dX11_image_17 ?_
    refine va_put (D := (dC, dI)) (ci := 11) (ty := tyX11 25) (C := RX11) (T := TX11) (N := 36) hx hb hts in_X11_image_X11 tyX11 tyX11_ok nmX11 hown hK hP (ad_D hA0 rfl) hS 0 rfl rfl 25 (by decide) (hts (.fieldLink RX11 200 "MilkRoundModel" "keptRound" "I") (List.mem_of_getElem? (i := 4) rfl)) (fun _ h9 => h9) rfl (tyX11_ok 25 (by decide)) rfl rfl (Nat.le_of_ble_eq_true rfl) dX11_image_20 (fun H locs hP _ hS => ?_)
    have hP : va_P (dC, dI) vwCl (DW y b rn n lo kp dy so he kn ak pl iw nm sd true rn lo2 dy2 so2 he2 kn2 dgv kd len ord kh km pg cm sav bo cb sl len2 ord2 kh2 km2) H := hP
    refine lv_aload_n hx hb dX11_image_23 rfl (lv_at hl 0 rfl) ?_
    refine lv_aload_n hx hb dX11_image_24 rfl (lv_at hl 0 rfl) ?_
    refine va_get (D := (dC, dI)) (ci := 11) (C := RX11) (T := TX11) (N := 36) hx hb hts in_X11_image_X11 hown hK hP 0 rfl rfl 5 (by decide) (hts (.fieldLink RX11 91 "MilkRoundModel" "leftOut" "I") (List.mem_of_getElem? (i := 5) rfl)) (fun _ h9 => h9) rfl dX11_image_25 ?_
    refine va_put (D := (dC, dI)) (ci := 11) (ty := tyX11 26) (C := RX11) (T := TX11) (N := 36) hx hb hts in_X11_image_X11 tyX11 tyX11_ok nmX11 hown hK hP (ad_D hA0 rfl) hS 0 rfl rfl 26 (by decide) (hts (.fieldLink RX11 203 "MilkRoundModel" "keptLeft" "I") (List.mem_of_getElem? (i := 6) rfl)) (fun _ h9 => h9) rfl (tyX11_ok 26 (by decide)) rfl rfl (Nat.le_of_ble_eq_true rfl) dX11_image_28 (fun H locs hP _ hS => ?_)
    have hP : va_P (dC, dI) vwCl (DW y b rn n lo kp dy so he kn ak pl iw nm sd true rn lo dy2 so2 he2 kn2 dgv kd len ord kh km pg cm sav bo cb sl len2 ord2 kh2 km2) H := hP
    refine lv_aload_n hx hb dX11_image_31 rfl (lv_at hl 0 rfl) ?_
    refine lv_aload_n hx hb dX11_image_32 rfl (lv_at hl 0 rfl) ?_
    refine va_get (D := (dC, dI)) (ci := 11) (C := RX11) (T := TX11) (N := 36) hx hb hts in_X11_image_X11 hown hK hP 0 rfl rfl 7 (by decide) (hts (.fieldLink RX11 94 "MilkRoundModel" "days" "I") (List.mem_of_getElem? (i := 7) rfl)) (fun _ h9 => h9) rfl dX11_image_33 ?_
    refine va_put (D := (dC, dI)) (ci := 11) (ty := tyX11 27) (C := RX11) (T := TX11) (N := 36) hx hb hts in_X11_image_X11 tyX11 tyX11_ok nmX11 hown hK hP (ad_D hA0 rfl) hS 0 rfl rfl 27 (by decide) (hts (.fieldLink RX11 206 "MilkRoundModel" "keptDays" "I") (List.mem_of_getElem? (i := 8) rfl)) (fun _ h9 => h9) rfl (tyX11_ok 27 (by decide)) rfl rfl (Nat.le_of_ble_eq_true rfl) dX11_image_36 (fun H locs hP _ hS => ?_)
    have hP : va_P (dC, dI) vwCl (DW y b rn n lo kp dy so he kn ak pl iw nm sd true rn lo dy so2 he2 kn2 dgv kd len ord kh km pg cm sav bo cb sl len2 ord2 kh2 km2) H := hP
    refine lv_aload_n hx hb dX11_image_39 rfl (lv_at hl 0 rfl) ?_
    refine lv_aload_n hx hb dX11_image_40 rfl (lv_at hl 0 rfl) ?_
    refine va_get (D := (dC, dI)) (ci := 11) (C := RX11) (T := TX11) (N := 36) hx hb hts in_X11_image_X11 hown hK hP 0 rfl rfl 8 (by decide) (hts (.fieldLink RX11 97 "MilkRoundModel" "soured" "I") (List.mem_of_getElem? (i := 9) rfl)) (fun _ h9 => h9) rfl dX11_image_41 ?_
    refine va_put (D := (dC, dI)) (ci := 11) (ty := tyX11 28) (C := RX11) (T := TX11) (N := 36) hx hb hts in_X11_image_X11 tyX11 tyX11_ok nmX11 hown hK hP (ad_D hA0 rfl) hS 0 rfl rfl 28 (by decide) (hts (.fieldLink RX11 209 "MilkRoundModel" "keptSoured" "I") (List.mem_of_getElem? (i := 10) rfl)) (fun _ h9 => h9) rfl (tyX11_ok 28 (by decide)) rfl rfl (Nat.le_of_ble_eq_true rfl) dX11_image_44 (fun H locs hP _ hS => ?_)
    have hP : va_P (dC, dI) vwCl (DW y b rn n lo kp dy so he kn ak pl iw nm sd true rn lo dy so he2 kn2 dgv kd len ord kh km pg cm sav bo cb sl len2 ord2 kh2 km2) H := hP
    refine lv_aload_n hx hb dX11_image_47 rfl (lv_at hl 0 rfl) ?_
    refine lv_aload_n hx hb dX11_image_48 rfl (lv_at hl 0 rfl) ?_
    refine va_get (D := (dC, dI)) (ci := 11) (C := RX11) (T := TX11) (N := 36) hx hb hts in_X11_image_X11 hown hK hP 0 rfl rfl 9 (by decide) (hts (.fieldLink RX11 100 "MilkRoundModel" "overheard" "I") (List.mem_of_getElem? (i := 11) rfl)) (fun _ h9 => h9) rfl dX11_image_49 ?_
    refine va_put (D := (dC, dI)) (ci := 11) (ty := tyX11 29) (C := RX11) (T := TX11) (N := 36) hx hb hts in_X11_image_X11 tyX11 tyX11_ok nmX11 hown hK hP (ad_D hA0 rfl) hS 0 rfl rfl 29 (by decide) (hts (.fieldLink RX11 212 "MilkRoundModel" "keptOverheard" "I") (List.mem_of_getElem? (i := 12) rfl)) (fun _ h9 => h9) rfl (tyX11_ok 29 (by decide)) rfl rfl (Nat.le_of_ble_eq_true rfl) dX11_image_52 (fun H locs hP _ hS => ?_)
    have hP : va_P (dC, dI) vwCl (DW y b rn n lo kp dy so he kn ak pl iw nm sd true rn lo dy so he kn2 dgv kd len ord kh km pg cm sav bo cb sl len2 ord2 kh2 km2) H := hP
    refine lv_aload_n hx hb dX11_image_55 rfl (lv_at hl 0 rfl) ?_
    refine lv_aload_n hx hb dX11_image_56 rfl (lv_at hl 0 rfl) ?_
    refine va_get (D := (dC, dI)) (ci := 11) (C := RX11) (T := TX11) (N := 36) hx hb hts in_X11_image_X11 hown hK hP 0 rfl rfl 10 (by decide) (hts (.fieldLink RX11 103 "MilkRoundModel" "known" "I") (List.mem_of_getElem? (i := 13) rfl)) (fun _ h9 => h9) rfl dX11_image_57 ?_
    refine va_put (D := (dC, dI)) (ci := 11) (ty := tyX11 30) (C := RX11) (T := TX11) (N := 36) hx hb hts in_X11_image_X11 tyX11 tyX11_ok nmX11 hown hK hP (ad_D hA0 rfl) hS 0 rfl rfl 30 (by decide) (hts (.fieldLink RX11 215 "MilkRoundModel" "keptKnown" "I") (List.mem_of_getElem? (i := 14) rfl)) (fun _ h9 => h9) rfl (tyX11_ok 30 (by decide)) rfl rfl (Nat.le_of_ble_eq_true rfl) dX11_image_60 (fun H locs hP _ hS => ?_)
    have hP : va_P (dC, dI) vwCl (DW y b rn n lo kp dy so he kn ak pl iw nm sd true rn lo dy so he kn dgv kd len ord kh km pg cm sav bo cb sl len2 ord2 kh2 km2) H := hP
    refine lv_iconst (v := nI (0)) hx hb dX11_image_63 (by decide) ?_
    refine lv_istore_n (lv' := [(1, .int (nI (0))), (0, .ref (b 0))]) hx hb dX11_image_64 rfl hl (by decide) rfl (fun ls hl => ?_)
    have loop_65 : ∀ (dd_65 : Nat) (k : Nat) (hk : k ≤ 6), 6 - k < dd_65 → ∀ (H : Heap) (locs : List Loc) (ls : Array Slot), va_P (dC, dI) vwCl (DW y b rn n lo kp dy so he kn ak pl iw nm sd true rn lo dy so he kn dgv kd len ord kh km pg cm sav bo cb sl (mixF k len len2) (mixF k ord ord2) (mixF k kh kh2) (mixF k km km2)) H → va_S A s.heap H locs → lv_has ls 2 [(1, .int (nI (k))), (0, .ref (b 0))] → W p l e (headSpec wsX11_image ({ frames := 0, cells := 0, slots := 0, locals := 0 } : Room)).room s m [.ref (b 0)].toArray below meth c H locs 0 0 (MQ below (va_Qi (fun (r : Int32) (u : Unit) => r = (bif decide (n = 0) then -103 else dy)) (c_B (dC, dI) vwCl (TY y) (fun (u : Unit) => (DW y b rn n lo kp dy so he kn ak pl iw nm sd (bif decide (n = 0) then ik else true) (bif decide (n = 0) then kr else rn) (bif decide (n = 0) then lo2 else lo) (bif decide (n = 0) then dy2 else dy) (bif decide (n = 0) then so2 else so) (bif decide (n = 0) then he2 else he) (bif decide (n = 0) then kn2 else kn) dgv kd len ord kh km pg cm sav bo cb sl (bif decide (n = 0) then len2 else mixF 6 len len2) (bif decide (n = 0) then ord2 else mixF 6 ord ord2) (bif decide (n = 0) then kh2 else mixF 6 kh kh2) (bif decide (n = 0) then km2 else mixF 6 km km2)))) A) [.ref (b 0)].toArray s 0 0 A) (F0 m 65 ls []) := by
      intro dd_65
      induction dd_65 with
      | zero => intro k hk hd; exact absurd hd (Nat.not_lt_zero _)
      | succ dd_65 ih_65 =>
        intro k hk hd_65 H locs ls hP hS hl
        refine lv_iload_n hx hb dX11_image_65 rfl (lv_at hl 0 rfl) ?_
        refine lv_bipush (v := nI (6)) hx hb dX11_image_66 (by decide) ?_
        refine n_icmp_ge (tgt := 125) hx hb dX11_image_68 (by decide) (by omega) (by omega) (fun c_68 => ?_) (fun c_68 => ?_)
        · refine lv_aload_n hx hb dX11_image_125 rfl (lv_at hl 1 rfl) ?_
          refine va_get (D := (dC, dI)) (ci := 11) (C := RX11) (T := TX11) (N := 36) hx hb hts in_X11_image_X11 hown hK hP 0 rfl rfl 7 (by decide) (hts (.fieldLink RX11 94 "MilkRoundModel" "days" "I") (List.mem_of_getElem? (i := 7) rfl)) (fun _ h9 => h9) rfl dX11_image_126 ?_
          have hP : va_P (dC, dI) vwCl (DW y b rn n lo kp dy so he kn ak pl iw nm sd (bif decide (n = 0) then ik else true) (bif decide (n = 0) then kr else rn) (bif decide (n = 0) then lo2 else lo) (bif decide (n = 0) then dy2 else dy) (bif decide (n = 0) then so2 else so) (bif decide (n = 0) then he2 else he) (bif decide (n = 0) then kn2 else kn) dgv kd len ord kh km pg cm sav bo cb sl (bif decide (n = 0) then len2 else mixF 6 len len2) (bif decide (n = 0) then ord2 else mixF 6 ord ord2) (bif decide (n = 0) then kh2 else mixF 6 kh kh2) (bif decide (n = 0) then km2 else mixF 6 km km2)) H := by
            have hk6 : k = 6 := by omega
            rw [hk6] at hP
            rw [decide_eq_false c_4]
            exact hP
          exact c_iret hx hb hr hlocks hK hS () hP (by rw [decide_eq_false c_4]; rfl) dX11_image_129
        · refine lv_aload_n hx hb dX11_image_71 rfl (lv_at hl 1 rfl) ?_
          refine va_get (D := (dC, dI)) (ci := 11) (C := RX11) (T := TX11) (N := 36) hx hb hts in_X11_image_X11 hown hK hP 0 rfl rfl 31 (by decide) (hts (.fieldLink RX11 44 "MilkRoundModel" "keptLong" "[I") (List.mem_of_getElem? (i := 15) rfl)) (fun _ h9 => h9) rfl dX11_image_72 ?_
          refine lv_iload_n hx hb dX11_image_75 rfl (lv_at hl 0 rfl) ?_
          refine lv_aload_n hx hb dX11_image_76 rfl (lv_at hl 1 rfl) ?_
          refine va_get (D := (dC, dI)) (ci := 11) (C := RX11) (T := TX11) (N := 36) hx hb hts in_X11_image_X11 hown hK hP 0 rfl rfl 3 (by decide) (hts (.fieldLink RX11 13 "MilkRoundModel" "longOf" "[I") (List.mem_of_getElem? (i := 16) rfl)) (fun _ h9 => h9) rfl dX11_image_77 ?_
          refine lv_iload_n hx hb dX11_image_80 rfl (lv_at hl 0 rfl) ?_
          refine n_iald hx hb hK hP 2 0 rfl rfl (by omega) (by decide) dX11_image_81 ?_
          refine n_iast hx hb hK hP (ad_D hA0 rfl) hS 12 0 rfl rfl (by omega) (by decide) dX11_image_82 (fun H locs hP hS => ?_)
          have hP : va_P (dC, dI) vwCl (DW y b rn n lo kp dy so he kn ak pl iw nm sd true rn lo dy so he kn dgv kd len ord kh km pg cm sav bo cb sl (va_up (mixF k len len2) k (len k)) (mixF k ord ord2) (mixF k kh kh2) (mixF k km km2)) H := hP
          refine lv_aload_n hx hb dX11_image_83 rfl (lv_at hl 1 rfl) ?_
          refine va_get (D := (dC, dI)) (ci := 11) (C := RX11) (T := TX11) (N := 36) hx hb hts in_X11_image_X11 hown hK hP 0 rfl rfl 32 (by decide) (hts (.fieldLink RX11 47 "MilkRoundModel" "keptOrder" "[I") (List.mem_of_getElem? (i := 17) rfl)) (fun _ h9 => h9) rfl dX11_image_84 ?_
          refine lv_iload_n hx hb dX11_image_87 rfl (lv_at hl 0 rfl) ?_
          refine lv_aload_n hx hb dX11_image_88 rfl (lv_at hl 1 rfl) ?_
          refine va_get (D := (dC, dI)) (ci := 11) (C := RX11) (T := TX11) (N := 36) hx hb hts in_X11_image_X11 hown hK hP 0 rfl rfl 4 (by decide) (hts (.fieldLink RX11 16 "MilkRoundModel" "orderAt" "[I") (List.mem_of_getElem? (i := 18) rfl)) (fun _ h9 => h9) rfl dX11_image_89 ?_
          refine lv_iload_n hx hb dX11_image_92 rfl (lv_at hl 0 rfl) ?_
          refine n_iald hx hb hK hP 3 0 rfl rfl (by omega) (by decide) dX11_image_93 ?_
          refine n_iast hx hb hK hP (ad_D hA0 rfl) hS 13 0 rfl rfl (by omega) (by decide) dX11_image_94 (fun H locs hP hS => ?_)
          have hP : va_P (dC, dI) vwCl (DW y b rn n lo kp dy so he kn ak pl iw nm sd true rn lo dy so he kn dgv kd len ord kh km pg cm sav bo cb sl (va_up (mixF k len len2) k (len k)) (va_up (mixF k ord ord2) k (ord k)) (mixF k kh kh2) (mixF k km km2)) H := hP
          refine lv_aload_n hx hb dX11_image_95 rfl (lv_at hl 1 rfl) ?_
          refine va_get (D := (dC, dI)) (ci := 11) (C := RX11) (T := TX11) (N := 36) hx hb hts in_X11_image_X11 hown hK hP 0 rfl rfl 33 (by decide) (hts (.fieldLink RX11 50 "MilkRoundModel" "keptHouse" "[I") (List.mem_of_getElem? (i := 19) rfl)) (fun _ h9 => h9) rfl dX11_image_96 ?_
          refine lv_iload_n hx hb dX11_image_99 rfl (lv_at hl 0 rfl) ?_
          refine lv_aload_n hx hb dX11_image_100 rfl (lv_at hl 1 rfl) ?_
          refine va_get (D := (dC, dI)) (ci := 11) (C := RX11) (T := TX11) (N := 36) hx hb hts in_X11_image_X11 hown hK hP 0 rfl rfl 11 (by decide) (hts (.fieldLink RX11 19 "MilkRoundModel" "knownHouse" "[I") (List.mem_of_getElem? (i := 20) rfl)) (fun _ h9 => h9) rfl dX11_image_101 ?_
          refine lv_iload_n hx hb dX11_image_104 rfl (lv_at hl 0 rfl) ?_
          refine n_iald hx hb hK hP 4 0 rfl rfl (by omega) (by decide) dX11_image_105 ?_
          refine n_iast hx hb hK hP (ad_D hA0 rfl) hS 14 0 rfl rfl (by omega) (by decide) dX11_image_106 (fun H locs hP hS => ?_)
          have hP : va_P (dC, dI) vwCl (DW y b rn n lo kp dy so he kn ak pl iw nm sd true rn lo dy so he kn dgv kd len ord kh km pg cm sav bo cb sl (va_up (mixF k len len2) k (len k)) (va_up (mixF k ord ord2) k (ord k)) (va_up (mixF k kh kh2) k (kh k)) (mixF k km km2)) H := hP
          refine lv_aload_n hx hb dX11_image_107 rfl (lv_at hl 1 rfl) ?_
          refine va_get (D := (dC, dI)) (ci := 11) (C := RX11) (T := TX11) (N := 36) hx hb hts in_X11_image_X11 hown hK hP 0 rfl rfl 34 (by decide) (hts (.fieldLink RX11 53 "MilkRoundModel" "keptMinutes" "[I") (List.mem_of_getElem? (i := 21) rfl)) (fun _ h9 => h9) rfl dX11_image_108 ?_
          refine lv_iload_n hx hb dX11_image_111 rfl (lv_at hl 0 rfl) ?_
          refine lv_aload_n hx hb dX11_image_112 rfl (lv_at hl 1 rfl) ?_
          refine va_get (D := (dC, dI)) (ci := 11) (C := RX11) (T := TX11) (N := 36) hx hb hts in_X11_image_X11 hown hK hP 0 rfl rfl 12 (by decide) (hts (.fieldLink RX11 22 "MilkRoundModel" "knownMinutes" "[I") (List.mem_of_getElem? (i := 22) rfl)) (fun _ h9 => h9) rfl dX11_image_113 ?_
          refine lv_iload_n hx hb dX11_image_116 rfl (lv_at hl 0 rfl) ?_
          refine n_iald hx hb hK hP 5 0 rfl rfl (by omega) (by decide) dX11_image_117 ?_
          refine n_iast hx hb hK hP (ad_D hA0 rfl) hS 15 0 rfl rfl (by omega) (by decide) dX11_image_118 (fun H locs hP hS => ?_)
          have hP : va_P (dC, dI) vwCl (DW y b rn n lo kp dy so he kn ak pl iw nm sd true rn lo dy so he kn dgv kd len ord kh km pg cm sav bo cb sl (va_up (mixF k len len2) k (len k)) (va_up (mixF k ord ord2) k (ord k)) (va_up (mixF k kh kh2) k (kh k)) (va_up (mixF k km km2) k (km k))) H := hP
          refine lv_iinc (v := nI (k + 1)) (lv' := [(1, .int (nI (k + 1))), (0, .ref (b 0))]) hx hb dX11_image_119 hl (k := 0) rfl (mr_inc _) (by decide) rfl (fun ls hl => ?_)
          refine lv_goto (tgt := 65) hx hb dX11_image_122 (by decide) ?_
          exact ih_65 (k + 1) (by omega) (by omega) _ _ _ (by rw [← mixF_s, ← mixF_s, ← mixF_s, ← mixF_s]; exact hP) hS (lv_sub hl [0, 1] rfl)
    exact loop_65 _ 0 (Nat.zero_le _) (Nat.lt_succ_self _) _ _ _ (by rw [mixF_0, mixF_0, mixF_0, mixF_0]; exact hP) hS (lv_sub hl [0, 1] rfl)
  · refine lv_bipush (v := (-103)) hx hb dX11_image_7 (by decide) ?_
    have hP : va_P (dC, dI) vwCl (DW y b rn n lo kp dy so he kn ak pl iw nm sd (bif decide (n = 0) then ik else true) (bif decide (n = 0) then kr else rn) (bif decide (n = 0) then lo2 else lo) (bif decide (n = 0) then dy2 else dy) (bif decide (n = 0) then so2 else so) (bif decide (n = 0) then he2 else he) (bif decide (n = 0) then kn2 else kn) dgv kd len ord kh km pg cm sav bo cb sl (bif decide (n = 0) then len2 else mixF 6 len len2) (bif decide (n = 0) then ord2 else mixF 6 ord ord2) (bif decide (n = 0) then kh2 else mixF 6 kh kh2) (bif decide (n = 0) then km2 else mixF 6 km km2)) s.heap := by
      rw [decide_eq_true c_4]
      exact hP
    exact c_iret hx hb hr hlocks hK hS () hP (by rw [decide_eq_true c_4]; rfl) dX11_image_9
theorem in_X11_restore_X11 : ∀ w ∈ wsX110, w ∈ wsX11_restore := fun w h => List.mem_cons_of_mem _ (List.mem_append_right _ h)
set_option maxHeartbeats 4000000 in
set_option maxRecDepth 100000 in
theorem k_X11_restore (l : Launch) (dC : Nat → ClassId) (dI : Nat → Nat → Nat) (y : Nat → ClassId) (A : Nat → Prop) (b : Nat → Nat) (hA0 : ad_ok A b 16) (rn : Nat) (n : Nat) (lo : Int32) (kp : Nat) (dy : Int32) (so : Int32) (he : Int32) (kn : Nat) (ak : Nat) (pl : Nat) (iw : Bool) (nm : Nat) (sd : Int64) (ik : Bool) (kr : Nat) (lo2 : Int32) (dy2 : Int32) (so2 : Int32) (he2 : Int32) (kn2 : Nat) (dgv : Int64) (kd : Nat → Nat) (len : Nat → Nat) (ord : Nat → Nat) (kh : Nat → Nat) (km : Nat → Nat) (pg : Nat → Nat) (cm : Nat → Nat) (sav : Nat → Nat) (bo : Nat → Nat) (cb : Nat → Nat) (sl : Nat → Nat) (len2 : Nat → Nat) (ord2 : Nat → Nat) (kh2 : Nat → Nat) (km2 : Nat → Nat) (hrn : rn < 2 ^ 31) (hkr : kr < 2 ^ 31) : Met l yX11_restore wsX11_restore ({ frames := 0, cells := 0, slots := 0, locals := 0 } : Room) (c_P (dC, dI) vwCl (TY y) (fun _ => True) (DW y b rn n lo kp dy so he kn ak pl iw nm sd ik kr lo2 dy2 so2 he2 kn2 dgv kd len ord kh km pg cm sav bo cb sl len2 ord2 kh2 km2) [.ref (b 0)]) (va_Qi (fun (r : Int32) (u : Unit) => r = (bif rsB ik kr rn then dy2 else -103)) (c_B (dC, dI) vwCl (TY y) (fun (u : Unit) => (DW y b rn n (bif rsB ik kr rn then lo2 else lo) kp (bif rsB ik kr rn then dy2 else dy) (bif rsB ik kr rn then so2 else so) (bif rsB ik kr rn then he2 else he) (bif rsB ik kr rn then kn2 else kn) ak pl iw nm sd ik kr lo2 dy2 so2 he2 kn2 dgv kd (bif rsB ik kr rn then mixF 6 len2 len else len) (bif rsB ik kr rn then mixF 6 ord2 ord else ord) (bif rsB ik kr rn then mixF 6 kh2 kh else kh) (bif rsB ik kr rn then mixF 6 km2 km else km) pg cm sav bo cb sl len2 ord2 kh2 km2))) A) 0 0 A := by
  refine Met.ofW (cc := cX11_restore) (maxL := 2) (ret := (some .int)) (by decide) rfl ?_
  intro p e s m args below meth c s₁ BB hml hv
  obtain ⟨rfl, hP, hK, hE⟩ := hv
  have hx := BB.exec
  have hb := BB.bytes
  have hr := BB.returns
  have hts := atoms_spec (ws := wsX11_restore) BB.pre
  have hown : s.vm.findClass RX11 = some m.cls := findClass_of_methodNamed BB.named
  have hlocks := BB.notSynchronized
  have hS : va_S A s.heap s.heap [] := va_S.rf
  have hl := lv_entry ([.ref (b 0)]) (n := 2) (Nat.le_of_ble_eq_true rfl)
  rw [lg_entry_eq]
  generalize (lg_sl ([.ref (b 0)]) ++ List.replicate (2 - (lg_sl ([.ref (b 0)])).length) Slot.unset).toArray = ls at hl ⊢
  have hl : lv_has ls 2 [(0, .ref (b 0))] := hl
  refine lv_aload_n hx hb dX11_restore_0 rfl (lv_at hl 0 rfl) ?_
  refine va_get (D := (dC, dI)) (ci := 11) (C := RX11) (T := TX11) (N := 36) hx hb hts in_X11_restore_X11 hown hK hP 0 rfl rfl 24 (by decide) (hts (.fieldLink RX11 197 "MilkRoundModel" "isKept" "Z") (List.mem_of_getElem? (i := 1) rfl)) (fun _ h9 => h9) rfl dX11_restore_1 ?_
  refine n_bif_eq (tgt := 18) hx hb dX11_restore_4 (by decide) (fun c_4 => ?_) (fun c_4 => ?_)
  · refine lv_bipush (v := (-103)) hx hb dX11_restore_18 (by decide) ?_
    have hP : va_P (dC, dI) vwCl (DW y b rn n (bif rsB ik kr rn then lo2 else lo) kp (bif rsB ik kr rn then dy2 else dy) (bif rsB ik kr rn then so2 else so) (bif rsB ik kr rn then he2 else he) (bif rsB ik kr rn then kn2 else kn) ak pl iw nm sd ik kr lo2 dy2 so2 he2 kn2 dgv kd (bif rsB ik kr rn then mixF 6 len2 len else len) (bif rsB ik kr rn then mixF 6 ord2 ord else ord) (bif rsB ik kr rn then mixF 6 kh2 kh else kh) (bif rsB ik kr rn then mixF 6 km2 km else km) pg cm sav bo cb sl len2 ord2 kh2 km2) s.heap := by
      have hrs : rsB ik kr rn = false := by rw [rsB, c_4]; rfl
      rw [hrs]
      exact hP
    exact c_iret hx hb hr hlocks hK hS () hP (by rw [rsB, c_4]; rfl) dX11_restore_20
  · refine lv_aload_n hx hb dX11_restore_7 rfl (lv_at hl 0 rfl) ?_
    refine va_get (D := (dC, dI)) (ci := 11) (C := RX11) (T := TX11) (N := 36) hx hb hts in_X11_restore_X11 hown hK hP 0 rfl rfl 25 (by decide) (hts (.fieldLink RX11 200 "MilkRoundModel" "keptRound" "I") (List.mem_of_getElem? (i := 2) rfl)) (fun _ h9 => h9) rfl dX11_restore_8 ?_
    refine lv_aload_n hx hb dX11_restore_11 rfl (lv_at hl 0 rfl) ?_
    refine va_get (D := (dC, dI)) (ci := 11) (C := RX11) (T := TX11) (N := 36) hx hb hts in_X11_restore_X11 hown hK hP 0 rfl rfl 0 (by decide) (hts (.fieldLink RX11 88 "MilkRoundModel" "rounds" "I") (List.mem_of_getElem? (i := 3) rfl)) (fun _ h9 => h9) rfl dX11_restore_12 ?_
    refine n_icmp_eq (tgt := 21) hx hb dX11_restore_15 (by decide) (by omega) (by omega) (fun c_15 => ?_) (fun c_15 => ?_)
    · refine lv_aload_n hx hb dX11_restore_21 rfl (lv_at hl 0 rfl) ?_
      refine lv_aload_n hx hb dX11_restore_22 rfl (lv_at hl 0 rfl) ?_
      refine va_get (D := (dC, dI)) (ci := 11) (C := RX11) (T := TX11) (N := 36) hx hb hts in_X11_restore_X11 hown hK hP 0 rfl rfl 26 (by decide) (hts (.fieldLink RX11 203 "MilkRoundModel" "keptLeft" "I") (List.mem_of_getElem? (i := 4) rfl)) (fun _ h9 => h9) rfl dX11_restore_23 ?_
      refine va_put (D := (dC, dI)) (ci := 11) (ty := tyX11 5) (C := RX11) (T := TX11) (N := 36) hx hb hts in_X11_restore_X11 tyX11 tyX11_ok nmX11 hown hK hP (ad_D hA0 rfl) hS 0 rfl rfl 5 (by decide) (hts (.fieldLink RX11 91 "MilkRoundModel" "leftOut" "I") (List.mem_of_getElem? (i := 5) rfl)) (fun _ h9 => h9) rfl (tyX11_ok 5 (by decide)) rfl rfl (Nat.le_of_ble_eq_true rfl) dX11_restore_26 (fun H locs hP _ hS => ?_)
      have hP : va_P (dC, dI) vwCl (DW y b rn n lo2 kp dy so he kn ak pl iw nm sd ik kr lo2 dy2 so2 he2 kn2 dgv kd len ord kh km pg cm sav bo cb sl len2 ord2 kh2 km2) H := hP
      refine lv_aload_n hx hb dX11_restore_29 rfl (lv_at hl 0 rfl) ?_
      refine lv_aload_n hx hb dX11_restore_30 rfl (lv_at hl 0 rfl) ?_
      refine va_get (D := (dC, dI)) (ci := 11) (C := RX11) (T := TX11) (N := 36) hx hb hts in_X11_restore_X11 hown hK hP 0 rfl rfl 27 (by decide) (hts (.fieldLink RX11 206 "MilkRoundModel" "keptDays" "I") (List.mem_of_getElem? (i := 6) rfl)) (fun _ h9 => h9) rfl dX11_restore_31 ?_
      refine va_put (D := (dC, dI)) (ci := 11) (ty := tyX11 7) (C := RX11) (T := TX11) (N := 36) hx hb hts in_X11_restore_X11 tyX11 tyX11_ok nmX11 hown hK hP (ad_D hA0 rfl) hS 0 rfl rfl 7 (by decide) (hts (.fieldLink RX11 94 "MilkRoundModel" "days" "I") (List.mem_of_getElem? (i := 7) rfl)) (fun _ h9 => h9) rfl (tyX11_ok 7 (by decide)) rfl rfl (Nat.le_of_ble_eq_true rfl) dX11_restore_34 (fun H locs hP _ hS => ?_)
      have hP : va_P (dC, dI) vwCl (DW y b rn n lo2 kp dy2 so he kn ak pl iw nm sd ik kr lo2 dy2 so2 he2 kn2 dgv kd len ord kh km pg cm sav bo cb sl len2 ord2 kh2 km2) H := hP
      refine lv_aload_n hx hb dX11_restore_37 rfl (lv_at hl 0 rfl) ?_
      refine lv_aload_n hx hb dX11_restore_38 rfl (lv_at hl 0 rfl) ?_
      refine va_get (D := (dC, dI)) (ci := 11) (C := RX11) (T := TX11) (N := 36) hx hb hts in_X11_restore_X11 hown hK hP 0 rfl rfl 28 (by decide) (hts (.fieldLink RX11 209 "MilkRoundModel" "keptSoured" "I") (List.mem_of_getElem? (i := 8) rfl)) (fun _ h9 => h9) rfl dX11_restore_39 ?_
      refine va_put (D := (dC, dI)) (ci := 11) (ty := tyX11 8) (C := RX11) (T := TX11) (N := 36) hx hb hts in_X11_restore_X11 tyX11 tyX11_ok nmX11 hown hK hP (ad_D hA0 rfl) hS 0 rfl rfl 8 (by decide) (hts (.fieldLink RX11 97 "MilkRoundModel" "soured" "I") (List.mem_of_getElem? (i := 9) rfl)) (fun _ h9 => h9) rfl (tyX11_ok 8 (by decide)) rfl rfl (Nat.le_of_ble_eq_true rfl) dX11_restore_42 (fun H locs hP _ hS => ?_)
      have hP : va_P (dC, dI) vwCl (DW y b rn n lo2 kp dy2 so2 he kn ak pl iw nm sd ik kr lo2 dy2 so2 he2 kn2 dgv kd len ord kh km pg cm sav bo cb sl len2 ord2 kh2 km2) H := hP
      refine lv_aload_n hx hb dX11_restore_45 rfl (lv_at hl 0 rfl) ?_
      refine lv_aload_n hx hb dX11_restore_46 rfl (lv_at hl 0 rfl) ?_
      refine va_get (D := (dC, dI)) (ci := 11) (C := RX11) (T := TX11) (N := 36) hx hb hts in_X11_restore_X11 hown hK hP 0 rfl rfl 29 (by decide) (hts (.fieldLink RX11 212 "MilkRoundModel" "keptOverheard" "I") (List.mem_of_getElem? (i := 10) rfl)) (fun _ h9 => h9) rfl dX11_restore_47 ?_
      refine va_put (D := (dC, dI)) (ci := 11) (ty := tyX11 9) (C := RX11) (T := TX11) (N := 36) hx hb hts in_X11_restore_X11 tyX11 tyX11_ok nmX11 hown hK hP (ad_D hA0 rfl) hS 0 rfl rfl 9 (by decide) (hts (.fieldLink RX11 100 "MilkRoundModel" "overheard" "I") (List.mem_of_getElem? (i := 11) rfl)) (fun _ h9 => h9) rfl (tyX11_ok 9 (by decide)) rfl rfl (Nat.le_of_ble_eq_true rfl) dX11_restore_50 (fun H locs hP _ hS => ?_)
      have hP : va_P (dC, dI) vwCl (DW y b rn n lo2 kp dy2 so2 he2 kn ak pl iw nm sd ik kr lo2 dy2 so2 he2 kn2 dgv kd len ord kh km pg cm sav bo cb sl len2 ord2 kh2 km2) H := hP
      refine lv_aload_n hx hb dX11_restore_53 rfl (lv_at hl 0 rfl) ?_
      refine lv_aload_n hx hb dX11_restore_54 rfl (lv_at hl 0 rfl) ?_
      refine va_get (D := (dC, dI)) (ci := 11) (C := RX11) (T := TX11) (N := 36) hx hb hts in_X11_restore_X11 hown hK hP 0 rfl rfl 30 (by decide) (hts (.fieldLink RX11 215 "MilkRoundModel" "keptKnown" "I") (List.mem_of_getElem? (i := 12) rfl)) (fun _ h9 => h9) rfl dX11_restore_55 ?_
      refine va_put (D := (dC, dI)) (ci := 11) (ty := tyX11 10) (C := RX11) (T := TX11) (N := 36) hx hb hts in_X11_restore_X11 tyX11 tyX11_ok nmX11 hown hK hP (ad_D hA0 rfl) hS 0 rfl rfl 10 (by decide) (hts (.fieldLink RX11 103 "MilkRoundModel" "known" "I") (List.mem_of_getElem? (i := 13) rfl)) (fun _ h9 => h9) rfl (tyX11_ok 10 (by decide)) rfl rfl (Nat.le_of_ble_eq_true rfl) dX11_restore_58 (fun H locs hP _ hS => ?_)
      have hP : va_P (dC, dI) vwCl (DW y b rn n lo2 kp dy2 so2 he2 kn2 ak pl iw nm sd ik kr lo2 dy2 so2 he2 kn2 dgv kd len ord kh km pg cm sav bo cb sl len2 ord2 kh2 km2) H := hP
      refine lv_iconst (v := nI (0)) hx hb dX11_restore_61 (by decide) ?_
      refine lv_istore_n (lv' := [(1, .int (nI (0))), (0, .ref (b 0))]) hx hb dX11_restore_62 rfl hl (by decide) rfl (fun ls hl => ?_)
      have loop_63 : ∀ (dd_63 : Nat) (k : Nat) (hk : k ≤ 6), 6 - k < dd_63 → ∀ (H : Heap) (locs : List Loc) (ls : Array Slot), va_P (dC, dI) vwCl (DW y b rn n lo2 kp dy2 so2 he2 kn2 ak pl iw nm sd ik kr lo2 dy2 so2 he2 kn2 dgv kd (mixF k len2 len) (mixF k ord2 ord) (mixF k kh2 kh) (mixF k km2 km) pg cm sav bo cb sl len2 ord2 kh2 km2) H → va_S A s.heap H locs → lv_has ls 2 [(1, .int (nI (k))), (0, .ref (b 0))] → W p l e (headSpec wsX11_restore ({ frames := 0, cells := 0, slots := 0, locals := 0 } : Room)).room s m [.ref (b 0)].toArray below meth c H locs 0 0 (MQ below (va_Qi (fun (r : Int32) (u : Unit) => r = (bif rsB ik kr rn then dy2 else -103)) (c_B (dC, dI) vwCl (TY y) (fun (u : Unit) => (DW y b rn n (bif rsB ik kr rn then lo2 else lo) kp (bif rsB ik kr rn then dy2 else dy) (bif rsB ik kr rn then so2 else so) (bif rsB ik kr rn then he2 else he) (bif rsB ik kr rn then kn2 else kn) ak pl iw nm sd ik kr lo2 dy2 so2 he2 kn2 dgv kd (bif rsB ik kr rn then mixF 6 len2 len else len) (bif rsB ik kr rn then mixF 6 ord2 ord else ord) (bif rsB ik kr rn then mixF 6 kh2 kh else kh) (bif rsB ik kr rn then mixF 6 km2 km else km) pg cm sav bo cb sl len2 ord2 kh2 km2))) A) [.ref (b 0)].toArray s 0 0 A) (F0 m 63 ls []) := by
        intro dd_63
        induction dd_63 with
        | zero => intro k hk hd; exact absurd hd (Nat.not_lt_zero _)
        | succ dd_63 ih_63 =>
          intro k hk hd_63 H locs ls hP hS hl
          refine lv_iload_n hx hb dX11_restore_63 rfl (lv_at hl 0 rfl) ?_
          refine lv_bipush (v := nI (6)) hx hb dX11_restore_64 (by decide) ?_
          refine n_icmp_ge (tgt := 123) hx hb dX11_restore_66 (by decide) (by omega) (by omega) (fun c_66 => ?_) (fun c_66 => ?_)
          · refine lv_aload_n hx hb dX11_restore_123 rfl (lv_at hl 1 rfl) ?_
            refine va_get (D := (dC, dI)) (ci := 11) (C := RX11) (T := TX11) (N := 36) hx hb hts in_X11_restore_X11 hown hK hP 0 rfl rfl 7 (by decide) (hts (.fieldLink RX11 94 "MilkRoundModel" "days" "I") (List.mem_of_getElem? (i := 7) rfl)) (fun _ h9 => h9) rfl dX11_restore_124 ?_
            have hP : va_P (dC, dI) vwCl (DW y b rn n (bif rsB ik kr rn then lo2 else lo) kp (bif rsB ik kr rn then dy2 else dy) (bif rsB ik kr rn then so2 else so) (bif rsB ik kr rn then he2 else he) (bif rsB ik kr rn then kn2 else kn) ak pl iw nm sd ik kr lo2 dy2 so2 he2 kn2 dgv kd (bif rsB ik kr rn then mixF 6 len2 len else len) (bif rsB ik kr rn then mixF 6 ord2 ord else ord) (bif rsB ik kr rn then mixF 6 kh2 kh else kh) (bif rsB ik kr rn then mixF 6 km2 km else km) pg cm sav bo cb sl len2 ord2 kh2 km2) H := by
              have hk6 : k = 6 := by omega
              rw [hk6] at hP
              have hrs : rsB ik kr rn = true := by rw [rsB, c_4, decide_eq_true c_15]; rfl
              rw [hrs]
              exact hP
            exact c_iret hx hb hr hlocks hK hS () hP (by rw [rsB, c_4, decide_eq_true c_15]; rfl) dX11_restore_127
          · refine lv_aload_n hx hb dX11_restore_69 rfl (lv_at hl 1 rfl) ?_
            refine va_get (D := (dC, dI)) (ci := 11) (C := RX11) (T := TX11) (N := 36) hx hb hts in_X11_restore_X11 hown hK hP 0 rfl rfl 3 (by decide) (hts (.fieldLink RX11 13 "MilkRoundModel" "longOf" "[I") (List.mem_of_getElem? (i := 14) rfl)) (fun _ h9 => h9) rfl dX11_restore_70 ?_
            refine lv_iload_n hx hb dX11_restore_73 rfl (lv_at hl 0 rfl) ?_
            refine lv_aload_n hx hb dX11_restore_74 rfl (lv_at hl 1 rfl) ?_
            refine va_get (D := (dC, dI)) (ci := 11) (C := RX11) (T := TX11) (N := 36) hx hb hts in_X11_restore_X11 hown hK hP 0 rfl rfl 31 (by decide) (hts (.fieldLink RX11 44 "MilkRoundModel" "keptLong" "[I") (List.mem_of_getElem? (i := 15) rfl)) (fun _ h9 => h9) rfl dX11_restore_75 ?_
            refine lv_iload_n hx hb dX11_restore_78 rfl (lv_at hl 0 rfl) ?_
            refine n_iald hx hb hK hP 12 0 rfl rfl (by omega) (by decide) dX11_restore_79 ?_
            refine n_iast hx hb hK hP (ad_D hA0 rfl) hS 2 0 rfl rfl (by omega) (by decide) dX11_restore_80 (fun H locs hP hS => ?_)
            have hP : va_P (dC, dI) vwCl (DW y b rn n lo2 kp dy2 so2 he2 kn2 ak pl iw nm sd ik kr lo2 dy2 so2 he2 kn2 dgv kd (va_up (mixF k len2 len) k (len2 k)) (mixF k ord2 ord) (mixF k kh2 kh) (mixF k km2 km) pg cm sav bo cb sl len2 ord2 kh2 km2) H := hP
            refine lv_aload_n hx hb dX11_restore_81 rfl (lv_at hl 1 rfl) ?_
            refine va_get (D := (dC, dI)) (ci := 11) (C := RX11) (T := TX11) (N := 36) hx hb hts in_X11_restore_X11 hown hK hP 0 rfl rfl 4 (by decide) (hts (.fieldLink RX11 16 "MilkRoundModel" "orderAt" "[I") (List.mem_of_getElem? (i := 16) rfl)) (fun _ h9 => h9) rfl dX11_restore_82 ?_
            refine lv_iload_n hx hb dX11_restore_85 rfl (lv_at hl 0 rfl) ?_
            refine lv_aload_n hx hb dX11_restore_86 rfl (lv_at hl 1 rfl) ?_
            refine va_get (D := (dC, dI)) (ci := 11) (C := RX11) (T := TX11) (N := 36) hx hb hts in_X11_restore_X11 hown hK hP 0 rfl rfl 32 (by decide) (hts (.fieldLink RX11 47 "MilkRoundModel" "keptOrder" "[I") (List.mem_of_getElem? (i := 17) rfl)) (fun _ h9 => h9) rfl dX11_restore_87 ?_
            refine lv_iload_n hx hb dX11_restore_90 rfl (lv_at hl 0 rfl) ?_
            refine n_iald hx hb hK hP 13 0 rfl rfl (by omega) (by decide) dX11_restore_91 ?_
            refine n_iast hx hb hK hP (ad_D hA0 rfl) hS 3 0 rfl rfl (by omega) (by decide) dX11_restore_92 (fun H locs hP hS => ?_)
            have hP : va_P (dC, dI) vwCl (DW y b rn n lo2 kp dy2 so2 he2 kn2 ak pl iw nm sd ik kr lo2 dy2 so2 he2 kn2 dgv kd (va_up (mixF k len2 len) k (len2 k)) (va_up (mixF k ord2 ord) k (ord2 k)) (mixF k kh2 kh) (mixF k km2 km) pg cm sav bo cb sl len2 ord2 kh2 km2) H := hP
            refine lv_aload_n hx hb dX11_restore_93 rfl (lv_at hl 1 rfl) ?_
            refine va_get (D := (dC, dI)) (ci := 11) (C := RX11) (T := TX11) (N := 36) hx hb hts in_X11_restore_X11 hown hK hP 0 rfl rfl 11 (by decide) (hts (.fieldLink RX11 19 "MilkRoundModel" "knownHouse" "[I") (List.mem_of_getElem? (i := 18) rfl)) (fun _ h9 => h9) rfl dX11_restore_94 ?_
            refine lv_iload_n hx hb dX11_restore_97 rfl (lv_at hl 0 rfl) ?_
            refine lv_aload_n hx hb dX11_restore_98 rfl (lv_at hl 1 rfl) ?_
            refine va_get (D := (dC, dI)) (ci := 11) (C := RX11) (T := TX11) (N := 36) hx hb hts in_X11_restore_X11 hown hK hP 0 rfl rfl 33 (by decide) (hts (.fieldLink RX11 50 "MilkRoundModel" "keptHouse" "[I") (List.mem_of_getElem? (i := 19) rfl)) (fun _ h9 => h9) rfl dX11_restore_99 ?_
            refine lv_iload_n hx hb dX11_restore_102 rfl (lv_at hl 0 rfl) ?_
            refine n_iald hx hb hK hP 14 0 rfl rfl (by omega) (by decide) dX11_restore_103 ?_
            refine n_iast hx hb hK hP (ad_D hA0 rfl) hS 4 0 rfl rfl (by omega) (by decide) dX11_restore_104 (fun H locs hP hS => ?_)
            have hP : va_P (dC, dI) vwCl (DW y b rn n lo2 kp dy2 so2 he2 kn2 ak pl iw nm sd ik kr lo2 dy2 so2 he2 kn2 dgv kd (va_up (mixF k len2 len) k (len2 k)) (va_up (mixF k ord2 ord) k (ord2 k)) (va_up (mixF k kh2 kh) k (kh2 k)) (mixF k km2 km) pg cm sav bo cb sl len2 ord2 kh2 km2) H := hP
            refine lv_aload_n hx hb dX11_restore_105 rfl (lv_at hl 1 rfl) ?_
            refine va_get (D := (dC, dI)) (ci := 11) (C := RX11) (T := TX11) (N := 36) hx hb hts in_X11_restore_X11 hown hK hP 0 rfl rfl 12 (by decide) (hts (.fieldLink RX11 22 "MilkRoundModel" "knownMinutes" "[I") (List.mem_of_getElem? (i := 20) rfl)) (fun _ h9 => h9) rfl dX11_restore_106 ?_
            refine lv_iload_n hx hb dX11_restore_109 rfl (lv_at hl 0 rfl) ?_
            refine lv_aload_n hx hb dX11_restore_110 rfl (lv_at hl 1 rfl) ?_
            refine va_get (D := (dC, dI)) (ci := 11) (C := RX11) (T := TX11) (N := 36) hx hb hts in_X11_restore_X11 hown hK hP 0 rfl rfl 34 (by decide) (hts (.fieldLink RX11 53 "MilkRoundModel" "keptMinutes" "[I") (List.mem_of_getElem? (i := 21) rfl)) (fun _ h9 => h9) rfl dX11_restore_111 ?_
            refine lv_iload_n hx hb dX11_restore_114 rfl (lv_at hl 0 rfl) ?_
            refine n_iald hx hb hK hP 15 0 rfl rfl (by omega) (by decide) dX11_restore_115 ?_
            refine n_iast hx hb hK hP (ad_D hA0 rfl) hS 5 0 rfl rfl (by omega) (by decide) dX11_restore_116 (fun H locs hP hS => ?_)
            have hP : va_P (dC, dI) vwCl (DW y b rn n lo2 kp dy2 so2 he2 kn2 ak pl iw nm sd ik kr lo2 dy2 so2 he2 kn2 dgv kd (va_up (mixF k len2 len) k (len2 k)) (va_up (mixF k ord2 ord) k (ord2 k)) (va_up (mixF k kh2 kh) k (kh2 k)) (va_up (mixF k km2 km) k (km2 k)) pg cm sav bo cb sl len2 ord2 kh2 km2) H := hP
            refine lv_iinc (v := nI (k + 1)) (lv' := [(1, .int (nI (k + 1))), (0, .ref (b 0))]) hx hb dX11_restore_117 hl (k := 0) rfl (mr_inc _) (by decide) rfl (fun ls hl => ?_)
            refine lv_goto (tgt := 63) hx hb dX11_restore_120 (by decide) ?_
            exact ih_63 (k + 1) (by omega) (by omega) _ _ _ (by rw [← mixF_s, ← mixF_s, ← mixF_s, ← mixF_s]; exact hP) hS (lv_sub hl [0, 1] rfl)
      exact loop_63 _ 0 (Nat.zero_le _) (Nat.lt_succ_self _) _ _ _ (by rw [mixF_0, mixF_0, mixF_0, mixF_0]; exact hP) hS (lv_sub hl [0, 1] rfl)
    · refine lv_bipush (v := (-103)) hx hb dX11_restore_18 (by decide) ?_
      have hP : va_P (dC, dI) vwCl (DW y b rn n (bif rsB ik kr rn then lo2 else lo) kp (bif rsB ik kr rn then dy2 else dy) (bif rsB ik kr rn then so2 else so) (bif rsB ik kr rn then he2 else he) (bif rsB ik kr rn then kn2 else kn) ak pl iw nm sd ik kr lo2 dy2 so2 he2 kn2 dgv kd (bif rsB ik kr rn then mixF 6 len2 len else len) (bif rsB ik kr rn then mixF 6 ord2 ord else ord) (bif rsB ik kr rn then mixF 6 kh2 kh else kh) (bif rsB ik kr rn then mixF 6 km2 km else km) pg cm sav bo cb sl len2 ord2 kh2 km2) s.heap := by
        have hrs : rsB ik kr rn = false := by rw [rsB, c_4, decide_eq_false c_15]; rfl
        rw [hrs]
        exact hP
      exact c_iret hx hb hr hlocks hK hS () hP (by rw [rsB, c_4, decide_eq_false c_15]; rfl) dX11_restore_20
theorem in_X11_letter_X11 : ∀ w ∈ wsX110, w ∈ wsX11_letter := fun w h => List.mem_cons_of_mem _ (List.mem_append_right _ h)
set_option maxHeartbeats 4000000 in
set_option maxRecDepth 100000 in
theorem k_X11_letter (l : Launch) (dC : Nat → ClassId) (dI : Nat → Nat → Nat) (y : Nat → ClassId) (A : Nat → Prop) (b : Nat → Nat) (hA0 : ad_ok A b 16) (rn : Nat) (n : Nat) (lo : Int32) (kp : Nat) (dy : Int32) (so : Int32) (he : Int32) (kn : Nat) (ak : Nat) (pl : Nat) (iw : Bool) (nm : Nat) (sd : Int64) (ik : Bool) (kr : Nat) (lo2 : Int32) (dy2 : Int32) (so2 : Int32) (he2 : Int32) (kn2 : Nat) (dgv : Int64) (kd : Nat → Nat) (len : Nat → Nat) (ord : Nat → Nat) (kh : Nat → Nat) (km : Nat → Nat) (pg : Nat → Nat) (cm : Nat → Nat) (sav : Nat → Nat) (bo : Nat → Nat) (cb : Nat → Nat) (sl : Nat → Nat) (len2 : Nat → Nat) (ord2 : Nat → Nat) (kh2 : Nat → Nat) (km2 : Nat → Nat) (w : Int32) (hpl : pl ≤ 21) : Met l yX11_letter wsX11_letter ({ frames := 1, cells := 0, slots := 0, locals := 22 } : Room) (c_P (dC, dI) vwCl (TY y) (fun _ => True) (DW y b rn n lo kp dy so he kn ak pl iw nm sd ik kr lo2 dy2 so2 he2 kn2 dgv kd len ord kh km pg cm sav bo cb sl len2 ord2 kh2 km2) [.ref (b 0), .int (w)]) (va_Qi (fun (r : Int32) (u : Unit) => r = rLetter pl w) (c_B (dC, dI) vwCl (TY y) (fun (u : Unit) => (DW y b rn n lo kp dy so he kn ak (plLetter pl w) iw nm sd ik kr lo2 dy2 so2 he2 kn2 dgv kd len ord kh km (pgLetter pl pg w) cm sav bo cb sl len2 ord2 kh2 km2))) A) 0 0 A := by
  refine Met.ofW (cc := cX11_letter) (maxL := 2) (ret := (some .int)) (by decide) rfl ?_
  intro p e s m args below meth c s₁ BB hml hv
  obtain ⟨rfl, hP, hK, hE⟩ := hv
  have hx := BB.exec
  have hb := BB.bytes
  have hr := BB.returns
  have hts := atoms_spec (ws := wsX11_letter) BB.pre
  have hown : s.vm.findClass RX11 = some m.cls := findClass_of_methodNamed BB.named
  have hlocks := BB.notSynchronized
  have hS : va_S A s.heap s.heap [] := va_S.rf
  have hl := lv_entry ([.ref (b 0), .int (w)]) (n := 2) (Nat.le_of_ble_eq_true rfl)
  rw [lg_entry_eq]
  generalize (lg_sl ([.ref (b 0), .int (w)]) ++ List.replicate (2 - (lg_sl ([.ref (b 0), .int (w)])).length) Slot.unset).toArray = ls at hl ⊢
  have hl : lv_has ls 2 [(0, .ref (b 0)), (1, .int (w))] := hl
  refine lv_iload_n hx hb dX11_letter_0 rfl (lv_at hl 1 rfl) ?_
  refine lv_bipush (v := nI (32)) hx hb dX11_letter_1 (by decide) ?_
  refine lv_bipush (v := nI (126)) hx hb dX11_letter_3 (by decide) ?_
  refine c_calli (va_runS (As := [.int (w), .int (nI (32)), .int (nI (126))]) (rest := []) ⟨hx, hb, hml, hown, hts⟩ (k_X11_within l dC dI y A (DW y b rn n lo kp dy so he kn ak pl iw nm sd ik kr lo2 dy2 so2 he2 kn2 dgv kd len ord kh km pg cm sav bo cb sl len2 ord2 kh2 km2) (fun _ => True) w (nI (32)) (nI (126)) ) (va_cwS 3 hts gX11_letter_X11_within rfl rfl rfl (by decide +kernel) ⟨Nat.le_of_ble_eq_true rfl, Nat.le_of_ble_eq_true rfl⟩) (c_preS (c_N0 A) hK hE hS hP) rfl rfl hl.1 rfl (lv_room (Nat.le_of_ble_eq_true rfl)) dX11_letter_5 ⟨Nat.le_refl _, Nat.le_refl _⟩) hS (fun r_5 u_5 H locs hw_5 hP hS => ?_)
  obtain rfl := hw_5
  refine n_bif_ne (tgt := 14) hx hb dX11_letter_8 (by decide) (fun c_8 => ?_) (fun c_8 => ?_)
  · obtain ⟨k, hk1, hk2, ek⟩ := okC_of c_8
    rw [ek] at hl
    have hl : lv_has ls 2 [(0, .ref (b 0)), (1, .int (nI (k)))] := hl
    refine lv_aload_n hx hb dX11_letter_14 rfl (lv_at hl 0 rfl) ?_
    refine va_get (D := (dC, dI)) (ci := 11) (C := RX11) (T := TX11) (N := 36) hx hb hts in_X11_letter_X11 hown hK hP 0 rfl rfl 14 (by decide) (hts (.fieldLink RX11 60 "MilkRoundModel" "pageLength" "I") (List.mem_of_getElem? (i := 1) rfl)) (fun _ h9 => h9) rfl dX11_letter_15 ?_
    refine lv_bipush (v := nI (21)) hx hb dX11_letter_18 (by decide) ?_
    refine n_icmp_ne (tgt := 26) hx hb dX11_letter_20 (by decide) (by omega) (by omega) (fun c_20 => ?_) (fun c_20 => ?_)
    · refine lv_aload_n hx hb dX11_letter_26 rfl (lv_at hl 0 rfl) ?_
      refine va_get (D := (dC, dI)) (ci := 11) (C := RX11) (T := TX11) (N := 36) hx hb hts in_X11_letter_X11 hown hK hP 0 rfl rfl 15 (by decide) (hts (.fieldLink RX11 25 "MilkRoundModel" "page" "[B") (List.mem_of_getElem? (i := 2) rfl)) (fun _ h9 => h9) rfl dX11_letter_27 ?_
      refine lv_aload_n hx hb dX11_letter_30 rfl (lv_at hl 0 rfl) ?_
      refine va_get (D := (dC, dI)) (ci := 11) (C := RX11) (T := TX11) (N := 36) hx hb hts in_X11_letter_X11 hown hK hP 0 rfl rfl 14 (by decide) (hts (.fieldLink RX11 60 "MilkRoundModel" "pageLength" "I") (List.mem_of_getElem? (i := 1) rfl)) (fun _ h9 => h9) rfl dX11_letter_31 ?_
      refine lv_iload_n hx hb dX11_letter_34 rfl (lv_at hl 1 rfl) ?_
      refine lv_i2b (v := nI (k)) hx hb dX11_letter_35 (mr_b8 k (by omega)) ?_
      refine n_bast hx hb hK hP (ad_D hA0 rfl) hS 6 1 rfl rfl (by omega) (by decide) (by omega) dX11_letter_36 (fun H locs hP hS => ?_)
      have hP : va_P (dC, dI) vwCl (DW y b rn n lo kp dy so he kn ak pl iw nm sd ik kr lo2 dy2 so2 he2 kn2 dgv kd len ord kh km (va_up pg pl k) cm sav bo cb sl len2 ord2 kh2 km2) H := hP
      refine lv_aload_n hx hb dX11_letter_37 rfl (lv_at hl 0 rfl) ?_
      refine lv_dup hx hb dX11_letter_38 rfl ?_
      refine va_get (D := (dC, dI)) (ci := 11) (C := RX11) (T := TX11) (N := 36) hx hb hts in_X11_letter_X11 hown hK hP 0 rfl rfl 14 (by decide) (hts (.fieldLink RX11 60 "MilkRoundModel" "pageLength" "I") (List.mem_of_getElem? (i := 1) rfl)) (fun _ h9 => h9) rfl dX11_letter_39 ?_
      refine lv_iconst (v := nI (1)) hx hb dX11_letter_42 (by decide) ?_
      refine n_iadd hx hb dX11_letter_43 ?_
      refine va_put (D := (dC, dI)) (ci := 11) (ty := tyX11 14) (C := RX11) (T := TX11) (N := 36) hx hb hts in_X11_letter_X11 tyX11 tyX11_ok nmX11 hown hK hP (ad_D hA0 rfl) hS 0 rfl rfl 14 (by decide) (hts (.fieldLink RX11 60 "MilkRoundModel" "pageLength" "I") (List.mem_of_getElem? (i := 1) rfl)) (fun _ h9 => h9) rfl (tyX11_ok 14 (by decide)) rfl rfl (Nat.le_of_ble_eq_true rfl) dX11_letter_44 (fun H locs hP _ hS => ?_)
      have hP : va_P (dC, dI) vwCl (DW y b rn n lo kp dy so he kn ak (pl + 1) iw nm sd ik kr lo2 dy2 so2 he2 kn2 dgv kd len ord kh km (va_up pg pl k) cm sav bo cb sl len2 ord2 kh2 km2) H := hP
      refine lv_aload_n hx hb dX11_letter_47 rfl (lv_at hl 0 rfl) ?_
      refine va_get (D := (dC, dI)) (ci := 11) (C := RX11) (T := TX11) (N := 36) hx hb hts in_X11_letter_X11 hown hK hP 0 rfl rfl 14 (by decide) (hts (.fieldLink RX11 60 "MilkRoundModel" "pageLength" "I") (List.mem_of_getElem? (i := 1) rfl)) (fun _ h9 => h9) rfl dX11_letter_48 ?_
      have hP : va_P (dC, dI) vwCl (DW y b rn n lo kp dy so he kn ak (plLetter pl w) iw nm sd ik kr lo2 dy2 so2 he2 kn2 dgv kd len ord kh km (pgLetter pl pg w) cm sav bo cb sl len2 ord2 kh2 km2) H := by
        unfold plLetter pgLetter; rw [show okC w = true from c_8, if_neg c_20, if_neg c_20, ek, nI_clamp (by omega)]
        exact hP
      exact c_iret hx hb hr hlocks hK hS () hP (by unfold rLetter; rw [show okC w = true from c_8, if_neg c_20]; rfl) dX11_letter_51
    · refine lv_bipush (v := (-104)) hx hb dX11_letter_23 (by decide) ?_
      have hP : va_P (dC, dI) vwCl (DW y b rn n lo kp dy so he kn ak (plLetter pl w) iw nm sd ik kr lo2 dy2 so2 he2 kn2 dgv kd len ord kh km (pgLetter pl pg w) cm sav bo cb sl len2 ord2 kh2 km2) H := by
        unfold plLetter pgLetter; rw [show okC w = true from c_8, if_pos c_20, if_pos c_20]
        exact hP
      exact c_iret hx hb hr hlocks hK hS () hP (by unfold rLetter; rw [show okC w = true from c_8, if_pos c_20]; rfl) dX11_letter_25
  · refine lv_bipush (v := (-102)) hx hb dX11_letter_11 (by decide) ?_
    have hP : va_P (dC, dI) vwCl (DW y b rn n lo kp dy so he kn ak (plLetter pl w) iw nm sd ik kr lo2 dy2 so2 he2 kn2 dgv kd len ord kh km (pgLetter pl pg w) cm sav bo cb sl len2 ord2 kh2 km2) H := by
      unfold plLetter pgLetter; rw [show okC w = false from c_8]
      exact hP
    exact c_iret hx hb hr hlocks hK hS () hP (by unfold rLetter; rw [show okC w = false from c_8]; rfl) dX11_letter_13
