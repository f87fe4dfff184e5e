set_option maxHeartbeats 4000000 in
set_option maxRecDepth 100000 in
theorem k_X3_kind (l : Launch) (dC : Nat → ClassId) (dI : Nat → Nat → Nat) (y : Nat → ClassId) (A : Nat → Prop) (ws : va_W) (Nv : State → Prop) (h0 : Nat) : Met l yX3_kind wsX3_kind ({ frames := 0, cells := 0, slots := 0, locals := 0 } : Room) (c_P (dC, dI) vwCl (TY y) Nv ws [.ref (h0)]) (va_Qi (fun (r : Int32) (u : Unit) => r = nI 0) (c_B (dC, dI) vwCl (TY y) (fun (u : Unit) => ws)) A) 0 0 A := by
  refine Met.ofW (cc := cX3_kind) (maxL := 1) (ret := (some .int)) (by decide) rfl ?_
  intro p e s m args below meth c s₁ BB hml hv
  obtain ⟨rfl, hP, hK, hE⟩ := hv
  have hx := BB.exec
  have hb := BB.bytes
  have hr := BB.returns
  have hts := atoms_spec (ws := wsX3_kind) BB.pre
  have hown : s.vm.findClass RX3 = some m.cls := findClass_of_methodNamed BB.named
  have hlocks := BB.notSynchronized
  have hS : va_S A s.heap s.heap [] := va_S.rf
  have hl := lv_entry ([.ref (h0)]) (n := 1) (Nat.le_of_ble_eq_true rfl)
  rw [lg_entry_eq]
  generalize (lg_sl ([.ref (h0)]) ++ List.replicate (1 - (lg_sl ([.ref (h0)])).length) Slot.unset).toArray = ls at hl ⊢
  have hl : lv_has ls 1 [(0, .ref (h0))] := hl
  refine lv_iconst (v := nI (0)) hx hb dX3_kind_0 (by decide) ?_
  exact c_iret hx hb hr hlocks hK hS () hP rfl dX3_kind_1
set_option maxHeartbeats 4000000 in
set_option maxRecDepth 100000 in
theorem k_X5_kind (l : Launch) (dC : Nat → ClassId) (dI : Nat → Nat → Nat) (y : Nat → ClassId) (A : Nat → Prop) (ws : va_W) (Nv : State → Prop) (h0 : Nat) : Met l yX5_kind wsX5_kind ({ frames := 0, cells := 0, slots := 0, locals := 0 } : Room) (c_P (dC, dI) vwCl (TY y) Nv ws [.ref (h0)]) (va_Qi (fun (r : Int32) (u : Unit) => r = nI 1) (c_B (dC, dI) vwCl (TY y) (fun (u : Unit) => ws)) A) 0 0 A := by
  refine Met.ofW (cc := cX5_kind) (maxL := 1) (ret := (some .int)) (by decide) rfl ?_
  intro p e s m args below meth c s₁ BB hml hv
  obtain ⟨rfl, hP, hK, hE⟩ := hv
  have hx := BB.exec
  have hb := BB.bytes
  have hr := BB.returns
  have hts := atoms_spec (ws := wsX5_kind) BB.pre
  have hown : s.vm.findClass RX5 = some m.cls := findClass_of_methodNamed BB.named
  have hlocks := BB.notSynchronized
  have hS : va_S A s.heap s.heap [] := va_S.rf
  have hl := lv_entry ([.ref (h0)]) (n := 1) (Nat.le_of_ble_eq_true rfl)
  rw [lg_entry_eq]
  generalize (lg_sl ([.ref (h0)]) ++ List.replicate (1 - (lg_sl ([.ref (h0)])).length) Slot.unset).toArray = ls at hl ⊢
  have hl : lv_has ls 1 [(0, .ref (h0))] := hl
  refine lv_iconst (v := nI (1)) hx hb dX5_kind_0 (by decide) ?_
  exact c_iret hx hb hr hlocks hK hS () hP rfl dX5_kind_1
set_option maxHeartbeats 4000000 in
set_option maxRecDepth 100000 in
theorem k_X0_kind (l : Launch) (dC : Nat → ClassId) (dI : Nat → Nat → Nat) (y : Nat → ClassId) (A : Nat → Prop) (ws : va_W) (Nv : State → Prop) (h0 : Nat) : Met l yX0_kind wsX0_kind ({ frames := 0, cells := 0, slots := 0, locals := 0 } : Room) (c_P (dC, dI) vwCl (TY y) Nv ws [.ref (h0)]) (va_Qi (fun (r : Int32) (u : Unit) => r = nI 2) (c_B (dC, dI) vwCl (TY y) (fun (u : Unit) => ws)) A) 0 0 A := by
  refine Met.ofW (cc := cX0_kind) (maxL := 1) (ret := (some .int)) (by decide) rfl ?_
  intro p e s m args below meth c s₁ BB hml hv
  obtain ⟨rfl, hP, hK, hE⟩ := hv
  have hx := BB.exec
  have hb := BB.bytes
  have hr := BB.returns
  have hts := atoms_spec (ws := wsX0_kind) BB.pre
  have hown : s.vm.findClass RX0 = some m.cls := findClass_of_methodNamed BB.named
  have hlocks := BB.notSynchronized
  have hS : va_S A s.heap s.heap [] := va_S.rf
  have hl := lv_entry ([.ref (h0)]) (n := 1) (Nat.le_of_ble_eq_true rfl)
  rw [lg_entry_eq]
  generalize (lg_sl ([.ref (h0)]) ++ List.replicate (1 - (lg_sl ([.ref (h0)])).length) Slot.unset).toArray = ls at hl ⊢
  have hl : lv_has ls 1 [(0, .ref (h0))] := hl
  refine lv_iconst (v := nI (2)) hx hb dX0_kind_0 (by decide) ?_
  exact c_iret hx hb hr hlocks hK hS () hP rfl dX0_kind_1
set_option maxHeartbeats 4000000 in
set_option maxRecDepth 100000 in
theorem k_X1_kind (l : Launch) (dC : Nat → ClassId) (dI : Nat → Nat → Nat) (y : Nat → ClassId) (A : Nat → Prop) (ws : va_W) (Nv : State → Prop) (h0 : Nat) : Met l yX1_kind wsX1_kind ({ frames := 0, cells := 0, slots := 0, locals := 0 } : Room) (c_P (dC, dI) vwCl (TY y) Nv ws [.ref (h0)]) (va_Qi (fun (r : Int32) (u : Unit) => r = nI 3) (c_B (dC, dI) vwCl (TY y) (fun (u : Unit) => ws)) A) 0 0 A := by
  refine Met.ofW (cc := cX1_kind) (maxL := 1) (ret := (some .int)) (by decide) rfl ?_
  intro p e s m args below meth c s₁ BB hml hv
  obtain ⟨rfl, hP, hK, hE⟩ := hv
  have hx := BB.exec
  have hb := BB.bytes
  have hr := BB.returns
  have hts := atoms_spec (ws := wsX1_kind) BB.pre
  have hown : s.vm.findClass RX1 = some m.cls := findClass_of_methodNamed BB.named
  have hlocks := BB.notSynchronized
  have hS : va_S A s.heap s.heap [] := va_S.rf
  have hl := lv_entry ([.ref (h0)]) (n := 1) (Nat.le_of_ble_eq_true rfl)
  rw [lg_entry_eq]
  generalize (lg_sl ([.ref (h0)]) ++ List.replicate (1 - (lg_sl ([.ref (h0)])).length) Slot.unset).toArray = ls at hl ⊢
  have hl : lv_has ls 1 [(0, .ref (h0))] := hl
  refine lv_iconst (v := nI (3)) hx hb dX1_kind_0 (by decide) ?_
  exact c_iret hx hb hr hlocks hK hS () hP rfl dX1_kind_1
set_option maxHeartbeats 4000000 in
set_option maxRecDepth 100000 in
theorem k_X9_kind (l : Launch) (dC : Nat → ClassId) (dI : Nat → Nat → Nat) (y : Nat → ClassId) (A : Nat → Prop) (ws : va_W) (Nv : State → Prop) (h0 : Nat) : Met l yX9_kind wsX9_kind ({ frames := 0, cells := 0, slots := 0, locals := 0 } : Room) (c_P (dC, dI) vwCl (TY y) Nv ws [.ref (h0)]) (va_Qi (fun (r : Int32) (u : Unit) => r = nI 4) (c_B (dC, dI) vwCl (TY y) (fun (u : Unit) => ws)) A) 0 0 A := by
  refine Met.ofW (cc := cX9_kind) (maxL := 1) (ret := (some .int)) (by decide) rfl ?_
  intro p e s m args below meth c s₁ BB hml hv
  obtain ⟨rfl, hP, hK, hE⟩ := hv
  have hx := BB.exec
  have hb := BB.bytes
  have hr := BB.returns
  have hts := atoms_spec (ws := wsX9_kind) BB.pre
  have hown : s.vm.findClass RX9 = some m.cls := findClass_of_methodNamed BB.named
  have hlocks := BB.notSynchronized
  have hS : va_S A s.heap s.heap [] := va_S.rf
  have hl := lv_entry ([.ref (h0)]) (n := 1) (Nat.le_of_ble_eq_true rfl)
  rw [lg_entry_eq]
  generalize (lg_sl ([.ref (h0)]) ++ List.replicate (1 - (lg_sl ([.ref (h0)])).length) Slot.unset).toArray = ls at hl ⊢
  have hl : lv_has ls 1 [(0, .ref (h0))] := hl
  refine lv_iconst (v := nI (4)) hx hb dX9_kind_0 (by decide) ?_
  exact c_iret hx hb hr hlocks hK hS () hP rfl dX9_kind_1
set_option maxHeartbeats 4000000 in
set_option maxRecDepth 100000 in
theorem k_X3_timesKeep (l : Launch) (dC : Nat → ClassId) (dI : Nat → Nat → Nat) (y : Nat → ClassId) (A : Nat → Prop) (ws : va_W) (Nv : State → Prop) (h0 : Nat) : Met l yX3_timesKeep wsX3_timesKeep ({ frames := 0, cells := 0, slots := 0, locals := 0 } : Room) (c_P (dC, dI) vwCl (TY y) Nv ws [.ref (h0)]) (va_Qi (fun (r : Int32) (u : Unit) => r = nI 4) (c_B (dC, dI) vwCl (TY y) (fun (u : Unit) => ws)) A) 0 0 A := by
  refine Met.ofW (cc := cX3_timesKeep) (maxL := 1) (ret := (some .int)) (by decide) rfl ?_
  intro p e s m args below meth c s₁ BB hml hv
  obtain ⟨rfl, hP, hK, hE⟩ := hv
  have hx := BB.exec
  have hb := BB.bytes
  have hr := BB.returns
  have hts := atoms_spec (ws := wsX3_timesKeep) BB.pre
  have hown : s.vm.findClass RX3 = some m.cls := findClass_of_methodNamed BB.named
  have hlocks := BB.notSynchronized
  have hS : va_S A s.heap s.heap [] := va_S.rf
  have hl := lv_entry ([.ref (h0)]) (n := 1) (Nat.le_of_ble_eq_true rfl)
  rw [lg_entry_eq]
  generalize (lg_sl ([.ref (h0)]) ++ List.replicate (1 - (lg_sl ([.ref (h0)])).length) Slot.unset).toArray = ls at hl ⊢
  have hl : lv_has ls 1 [(0, .ref (h0))] := hl
  refine lv_iconst (v := nI (4)) hx hb dX3_timesKeep_0 (by decide) ?_
  exact c_iret hx hb hr hlocks hK hS () hP rfl dX3_timesKeep_1
set_option maxHeartbeats 4000000 in
set_option maxRecDepth 100000 in
theorem k_X0_timesKeep (l : Launch) (dC : Nat → ClassId) (dI : Nat → Nat → Nat) (y : Nat → ClassId) (A : Nat → Prop) (ws : va_W) (Nv : State → Prop) (h0 : Nat) : Met l yX0_timesKeep wsX0_timesKeep ({ frames := 0, cells := 0, slots := 0, locals := 0 } : Room) (c_P (dC, dI) vwCl (TY y) Nv ws [.ref (h0)]) (va_Qi (fun (r : Int32) (u : Unit) => r = nI 2) (c_B (dC, dI) vwCl (TY y) (fun (u : Unit) => ws)) A) 0 0 A := by
  refine Met.ofW (cc := cX0_timesKeep) (maxL := 1) (ret := (some .int)) (by decide) rfl ?_
  intro p e s m args below meth c s₁ BB hml hv
  obtain ⟨rfl, hP, hK, hE⟩ := hv
  have hx := BB.exec
  have hb := BB.bytes
  have hr := BB.returns
  have hts := atoms_spec (ws := wsX0_timesKeep) BB.pre
  have hown : s.vm.findClass RX0 = some m.cls := findClass_of_methodNamed BB.named
  have hlocks := BB.notSynchronized
  have hS : va_S A s.heap s.heap [] := va_S.rf
  have hl := lv_entry ([.ref (h0)]) (n := 1) (Nat.le_of_ble_eq_true rfl)
  rw [lg_entry_eq]
  generalize (lg_sl ([.ref (h0)]) ++ List.replicate (1 - (lg_sl ([.ref (h0)])).length) Slot.unset).toArray = ls at hl ⊢
  have hl : lv_has ls 1 [(0, .ref (h0))] := hl
  refine lv_iconst (v := nI (2)) hx hb dX0_timesKeep_0 (by decide) ?_
  exact c_iret hx hb hr hlocks hK hS () hP rfl dX0_timesKeep_1
set_option maxHeartbeats 4000000 in
set_option maxRecDepth 100000 in
theorem k_X3_listens (l : Launch) (dC : Nat → ClassId) (dI : Nat → Nat → Nat) (y : Nat → ClassId) (A : Nat → Prop) (ws : va_W) (Nv : State → Prop) (h0 : Nat) : Met l yX3_listens wsX3_listens ({ frames := 0, cells := 0, slots := 0, locals := 0 } : Room) (c_P (dC, dI) vwCl (TY y) Nv ws [.ref (h0)]) (va_Qi (fun (r : Int32) (u : Unit) => r = bI true) (c_B (dC, dI) vwCl (TY y) (fun (u : Unit) => ws)) A) 0 0 A := by
  refine Met.ofW (cc := cX3_listens) (maxL := 1) (ret := (some .boolean)) (by decide) rfl ?_
  intro p e s m args below meth c s₁ BB hml hv
  obtain ⟨rfl, hP, hK, hE⟩ := hv
  have hx := BB.exec
  have hb := BB.bytes
  have hr := BB.returns
  have hts := atoms_spec (ws := wsX3_listens) BB.pre
  have hown : s.vm.findClass RX3 = some m.cls := findClass_of_methodNamed BB.named
  have hlocks := BB.notSynchronized
  have hS : va_S A s.heap s.heap [] := va_S.rf
  have hl := lv_entry ([.ref (h0)]) (n := 1) (Nat.le_of_ble_eq_true rfl)
  rw [lg_entry_eq]
  generalize (lg_sl ([.ref (h0)]) ++ List.replicate (1 - (lg_sl ([.ref (h0)])).length) Slot.unset).toArray = ls at hl ⊢
  have hl : lv_has ls 1 [(0, .ref (h0))] := hl
  refine lv_iconst (v := nI (1)) hx hb dX3_listens_0 (by decide) ?_
  exact c_zret hx hb hr hlocks hK hS () rfl hP rfl dX3_listens_1
set_option maxHeartbeats 4000000 in
set_option maxRecDepth 100000 in
theorem k_X0_listens (l : Launch) (dC : Nat → ClassId) (dI : Nat → Nat → Nat) (y : Nat → ClassId) (A : Nat → Prop) (ws : va_W) (Nv : State → Prop) (h0 : Nat) : Met l yX0_listens wsX0_listens ({ frames := 0, cells := 0, slots := 0, locals := 0 } : Room) (c_P (dC, dI) vwCl (TY y) Nv ws [.ref (h0)]) (va_Qi (fun (r : Int32) (u : Unit) => r = bI false) (c_B (dC, dI) vwCl (TY y) (fun (u : Unit) => ws)) A) 0 0 A := by
  refine Met.ofW (cc := cX0_listens) (maxL := 1) (ret := (some .boolean)) (by decide) rfl ?_
  intro p e s m args below meth c s₁ BB hml hv
  obtain ⟨rfl, hP, hK, hE⟩ := hv
  have hx := BB.exec
  have hb := BB.bytes
  have hr := BB.returns
  have hts := atoms_spec (ws := wsX0_listens) BB.pre
  have hown : s.vm.findClass RX0 = some m.cls := findClass_of_methodNamed BB.named
  have hlocks := BB.notSynchronized
  have hS : va_S A s.heap s.heap [] := va_S.rf
  have hl := lv_entry ([.ref (h0)]) (n := 1) (Nat.le_of_ble_eq_true rfl)
  rw [lg_entry_eq]
  generalize (lg_sl ([.ref (h0)]) ++ List.replicate (1 - (lg_sl ([.ref (h0)])).length) Slot.unset).toArray = ls at hl ⊢
  have hl : lv_has ls 1 [(0, .ref (h0))] := hl
  refine lv_iconst (v := nI (0)) hx hb dX0_listens_0 (by decide) ?_
  exact c_zret hx hb hr hlocks hK hS () rfl hP rfl dX0_listens_1
set_option maxHeartbeats 4000000 in
set_option maxRecDepth 100000 in
theorem k_X3_lengthBehindDay (l : Launch) (dC : Nat → ClassId) (dI : Nat → Nat → Nat) (y : Nat → ClassId) (A : Nat → Prop) (ws : va_W) (Nv : State → Prop) (h0 : Nat) (L : Nat) : Met l yX3_lengthBehindDay wsX3_lengthBehindDay ({ frames := 0, cells := 0, slots := 0, locals := 0 } : Room) (c_P (dC, dI) vwCl (TY y) Nv ws [.ref (h0), .int (nI (L))]) (va_Qi (fun (r : Int32) (u : Unit) => r = nI 0) (c_B (dC, dI) vwCl (TY y) (fun (u : Unit) => ws)) A) 0 0 A := by
  refine Met.ofW (cc := cX3_lengthBehindDay) (maxL := 2) (ret := (some .int)) (by decide) rfl ?_
  intro p e s m args below meth c s₁ BB hml hv
  obtain ⟨rfl, hP, hK, hE⟩ := hv
  have hx := BB.exec
  have hb := BB.bytes
  have hr := BB.returns
  have hts := atoms_spec (ws := wsX3_lengthBehindDay) BB.pre
  have hown : s.vm.findClass RX3 = some m.cls := findClass_of_methodNamed BB.named
  have hlocks := BB.notSynchronized
  have hS : va_S A s.heap s.heap [] := va_S.rf
  have hl := lv_entry ([.ref (h0), .int (nI (L))]) (n := 2) (Nat.le_of_ble_eq_true rfl)
  rw [lg_entry_eq]
  generalize (lg_sl ([.ref (h0), .int (nI (L))]) ++ List.replicate (2 - (lg_sl ([.ref (h0), .int (nI (L))])).length) Slot.unset).toArray = ls at hl ⊢
  have hl : lv_has ls 2 [(0, .ref (h0)), (1, .int (nI (L)))] := hl
  refine lv_iconst (v := nI (0)) hx hb dX3_lengthBehindDay_0 (by decide) ?_
  exact c_iret hx hb hr hlocks hK hS () hP rfl dX3_lengthBehindDay_1
set_option maxHeartbeats 4000000 in
set_option maxRecDepth 100000 in
theorem k_X1_lengthBehindDay (l : Launch) (dC : Nat → ClassId) (dI : Nat → Nat → Nat) (y : Nat → ClassId) (A : Nat → Prop) (ws : va_W) (Nv : State → Prop) (h0 : Nat) (L : Nat) (hL : L ≤ 9) : Met l yX1_lengthBehindDay wsX1_lengthBehindDay ({ frames := 0, cells := 0, slots := 0, locals := 0 } : Room) (c_P (dC, dI) vwCl (TY y) Nv ws [.ref (h0), .int (nI (L))]) (va_Qi (fun (r : Int32) (u : Unit) => r = nI (L / 2)) (c_B (dC, dI) vwCl (TY y) (fun (u : Unit) => ws)) A) 0 0 A := by
  refine Met.ofW (cc := cX1_lengthBehindDay) (maxL := 2) (ret := (some .int)) (by decide) rfl ?_
  intro p e s m args below meth c s₁ BB hml hv
  obtain ⟨rfl, hP, hK, hE⟩ := hv
  have hx := BB.exec
  have hb := BB.bytes
  have hr := BB.returns
  have hts := atoms_spec (ws := wsX1_lengthBehindDay) BB.pre
  have hown : s.vm.findClass RX1 = some m.cls := findClass_of_methodNamed BB.named
  have hlocks := BB.notSynchronized
  have hS : va_S A s.heap s.heap [] := va_S.rf
  have hl := lv_entry ([.ref (h0), .int (nI (L))]) (n := 2) (Nat.le_of_ble_eq_true rfl)
  rw [lg_entry_eq]
  generalize (lg_sl ([.ref (h0), .int (nI (L))]) ++ List.replicate (2 - (lg_sl ([.ref (h0), .int (nI (L))])).length) Slot.unset).toArray = ls at hl ⊢
  have hl : lv_has ls 2 [(0, .ref (h0)), (1, .int (nI (L)))] := hl
  refine lv_iload_n hx hb dX1_lengthBehindDay_0 rfl (lv_at hl 1 rfl) ?_
  refine lv_iconst (v := nI (2)) hx hb dX1_lengthBehindDay_1 (by decide) ?_
  refine n_idiv hx hb (by decide) (by omega) (by decide) dX1_lengthBehindDay_2 ?_
  exact c_iret hx hb hr hlocks hK hS () hP rfl dX1_lengthBehindDay_3
set_option maxHeartbeats 4000000 in
set_option maxRecDepth 100000 in
theorem k_X3_minutesFor (l : Launch) (dC : Nat → ClassId) (dI : Nat → Nat → Nat) (y : Nat → ClassId) (A : Nat → Prop) (ws : va_W) (Nv : State → Prop) (h0 : Nat) (L : Nat) : Met l yX3_minutesFor wsX3_minutesFor ({ frames := 0, cells := 0, slots := 0, locals := 0 } : Room) (c_P (dC, dI) vwCl (TY y) Nv ws [.ref (h0), .int (nI (L))]) (va_Qi (fun (r : Int32) (u : Unit) => r = nI L) (c_B (dC, dI) vwCl (TY y) (fun (u : Unit) => ws)) A) 0 0 A := by
  refine Met.ofW (cc := cX3_minutesFor) (maxL := 2) (ret := (some .int)) (by decide) rfl ?_
  intro p e s m args below meth c s₁ BB hml hv
  obtain ⟨rfl, hP, hK, hE⟩ := hv
  have hx := BB.exec
  have hb := BB.bytes
  have hr := BB.returns
  have hts := atoms_spec (ws := wsX3_minutesFor) BB.pre
  have hown : s.vm.findClass RX3 = some m.cls := findClass_of_methodNamed BB.named
  have hlocks := BB.notSynchronized
  have hS : va_S A s.heap s.heap [] := va_S.rf
  have hl := lv_entry ([.ref (h0), .int (nI (L))]) (n := 2) (Nat.le_of_ble_eq_true rfl)
  rw [lg_entry_eq]
  generalize (lg_sl ([.ref (h0), .int (nI (L))]) ++ List.replicate (2 - (lg_sl ([.ref (h0), .int (nI (L))])).length) Slot.unset).toArray = ls at hl ⊢
  have hl : lv_has ls 2 [(0, .ref (h0)), (1, .int (nI (L)))] := hl
  refine lv_iload_n hx hb dX3_minutesFor_0 rfl (lv_at hl 1 rfl) ?_
  exact c_iret hx hb hr hlocks hK hS () hP rfl dX3_minutesFor_1
set_option maxHeartbeats 4000000 in
set_option maxRecDepth 100000 in
theorem k_X5_minutesFor (l : Launch) (dC : Nat → ClassId) (dI : Nat → Nat → Nat) (y : Nat → ClassId) (A : Nat → Prop) (ws : va_W) (Nv : State → Prop) (h0 : Nat) (L : Nat) : Met l yX5_minutesFor wsX5_minutesFor ({ frames := 0, cells := 0, slots := 0, locals := 0 } : Room) (c_P (dC, dI) vwCl (TY y) Nv ws [.ref (h0), .int (nI (L))]) (va_Qi (fun (r : Int32) (u : Unit) => r = nI (2 * L)) (c_B (dC, dI) vwCl (TY y) (fun (u : Unit) => ws)) A) 0 0 A := by
  refine Met.ofW (cc := cX5_minutesFor) (maxL := 2) (ret := (some .int)) (by decide) rfl ?_
  intro p e s m args below meth c s₁ BB hml hv
  obtain ⟨rfl, hP, hK, hE⟩ := hv
  have hx := BB.exec
  have hb := BB.bytes
  have hr := BB.returns
  have hts := atoms_spec (ws := wsX5_minutesFor) BB.pre
  have hown : s.vm.findClass RX5 = some m.cls := findClass_of_methodNamed BB.named
  have hlocks := BB.notSynchronized
  have hS : va_S A s.heap s.heap [] := va_S.rf
  have hl := lv_entry ([.ref (h0), .int (nI (L))]) (n := 2) (Nat.le_of_ble_eq_true rfl)
  rw [lg_entry_eq]
  generalize (lg_sl ([.ref (h0), .int (nI (L))]) ++ List.replicate (2 - (lg_sl ([.ref (h0), .int (nI (L))])).length) Slot.unset).toArray = ls at hl ⊢
  have hl : lv_has ls 2 [(0, .ref (h0)), (1, .int (nI (L)))] := hl
  refine lv_iconst (v := nI (2)) hx hb dX5_minutesFor_0 (by decide) ?_
  refine lv_iload_n hx hb dX5_minutesFor_1 rfl (lv_at hl 1 rfl) ?_
  refine n_imul hx hb dX5_minutesFor_2 ?_
  exact c_iret hx hb hr hlocks hK hS () hP rfl dX5_minutesFor_3
set_option maxHeartbeats 4000000 in
set_option maxRecDepth 100000 in
theorem k_X0_minutesFor (l : Launch) (dC : Nat → ClassId) (dI : Nat → Nat → Nat) (y : Nat → ClassId) (A : Nat → Prop) (ws : va_W) (Nv : State → Prop) (h0 : Nat) (L : Nat) : Met l yX0_minutesFor wsX0_minutesFor ({ frames := 0, cells := 0, slots := 0, locals := 0 } : Room) (c_P (dC, dI) vwCl (TY y) Nv ws [.ref (h0), .int (nI (L))]) (va_Qi (fun (r : Int32) (u : Unit) => r = nI (L + 3)) (c_B (dC, dI) vwCl (TY y) (fun (u : Unit) => ws)) A) 0 0 A := by
  refine Met.ofW (cc := cX0_minutesFor) (maxL := 2) (ret := (some .int)) (by decide) rfl ?_
  intro p e s m args below meth c s₁ BB hml hv
  obtain ⟨rfl, hP, hK, hE⟩ := hv
  have hx := BB.exec
  have hb := BB.bytes
  have hr := BB.returns
  have hts := atoms_spec (ws := wsX0_minutesFor) BB.pre
  have hown : s.vm.findClass RX0 = some m.cls := findClass_of_methodNamed BB.named
  have hlocks := BB.notSynchronized
  have hS : va_S A s.heap s.heap [] := va_S.rf
  have hl := lv_entry ([.ref (h0), .int (nI (L))]) (n := 2) (Nat.le_of_ble_eq_true rfl)
  rw [lg_entry_eq]
  generalize (lg_sl ([.ref (h0), .int (nI (L))]) ++ List.replicate (2 - (lg_sl ([.ref (h0), .int (nI (L))])).length) Slot.unset).toArray = ls at hl ⊢
  have hl : lv_has ls 2 [(0, .ref (h0)), (1, .int (nI (L)))] := hl
  refine lv_iload_n hx hb dX0_minutesFor_0 rfl (lv_at hl 1 rfl) ?_
  refine lv_iconst (v := nI (3)) hx hb dX0_minutesFor_1 (by decide) ?_
  refine n_iadd hx hb dX0_minutesFor_2 ?_
  exact c_iret hx hb hr hlocks hK hS () hP rfl dX0_minutesFor_3
set_option maxHeartbeats 4000000 in
set_option maxRecDepth 100000 in
theorem k_X1_minutesFor (l : Launch) (dC : Nat → ClassId) (dI : Nat → Nat → Nat) (y : Nat → ClassId) (A : Nat → Prop) (ws : va_W) (Nv : State → Prop) (h0 : Nat) (L : Nat) (hL : L ≤ 9) : Met l yX1_minutesFor wsX1_minutesFor ({ frames := 0, cells := 0, slots := 0, locals := 0 } : Room) (c_P (dC, dI) vwCl (TY y) Nv ws [.ref (h0), .int (nI (L))]) (va_Qi (fun (r : Int32) (u : Unit) => r = nI ((L + 1) / 2)) (c_B (dC, dI) vwCl (TY y) (fun (u : Unit) => ws)) A) 0 0 A := by
  refine Met.ofW (cc := cX1_minutesFor) (maxL := 2) (ret := (some .int)) (by decide) rfl ?_
  intro p e s m args below meth c s₁ BB hml hv
  obtain ⟨rfl, hP, hK, hE⟩ := hv
  have hx := BB.exec
  have hb := BB.bytes
  have hr := BB.returns
  have hts := atoms_spec (ws := wsX1_minutesFor) BB.pre
  have hown : s.vm.findClass RX1 = some m.cls := findClass_of_methodNamed BB.named
  have hlocks := BB.notSynchronized
  have hS : va_S A s.heap s.heap [] := va_S.rf
  have hl := lv_entry ([.ref (h0), .int (nI (L))]) (n := 2) (Nat.le_of_ble_eq_true rfl)
  rw [lg_entry_eq]
  generalize (lg_sl ([.ref (h0), .int (nI (L))]) ++ List.replicate (2 - (lg_sl ([.ref (h0), .int (nI (L))])).length) Slot.unset).toArray = ls at hl ⊢
  have hl : lv_has ls 2 [(0, .ref (h0)), (1, .int (nI (L)))] := hl
  refine lv_iload_n hx hb dX1_minutesFor_0 rfl (lv_at hl 1 rfl) ?_
  refine lv_iconst (v := nI (1)) hx hb dX1_minutesFor_1 (by decide) ?_
  refine n_iadd hx hb dX1_minutesFor_2 ?_
  refine lv_iconst (v := nI (2)) hx hb dX1_minutesFor_3 (by decide) ?_
  refine n_idiv hx hb (by decide) (by omega) (by decide) dX1_minutesFor_4 ?_
  exact c_iret hx hb hr hlocks hK hS () hP rfl dX1_minutesFor_5
set_option maxHeartbeats 4000000 in
set_option maxRecDepth 100000 in
theorem k_X9_minutesFor (l : Launch) (dC : Nat → ClassId) (dI : Nat → Nat → Nat) (y : Nat → ClassId) (A : Nat → Prop) (a : Nat → Nat) (hA0 : ad_ok A a 34) (xK : Nat → Nat) (xV : Nat → Nat) (rn : Nat) (n : Nat) (lo : Int32) (kp : Nat) (dy : Int32) (so : Int32) (he : Int32) (kn : Nat) (ak : Nat) (pl : Nat) (im : Bool) (lo2 : Int32) (dy2 : Int32) (so2 : Int32) (he2 : Int32) (kn2 : Nat) (ma : Nat) (kd : Nat → Nat) (len : Nat → Nat) (ord : Nat → Nat) (kh : Nat → Nat) (km : Nat → Nat) (pg : Nat → Nat) (len2 : Nat → Nat) (ord2 : Nat → Nat) (kh2 : Nat → Nat) (km2 : Nat → Nat) (cw : Nat → Nat) (tl : Nat → Nat) (tO : Nat → Nat) (bO : Nat → Nat) (lf : Nat → Nat → Nat) (wo : Nat → Nat) (L : Nat) : Met l yX9_minutesFor wsX9_minutesFor ({ frames := 1, cells := 0, slots := 0, locals := 21 } : Room) (c_P (dC, dI) vwCl (TY y) (EV xK xV A) (MW y a rn n lo kp dy so he kn ak pl im lo2 dy2 so2 he2 kn2 ma kd len ord kh km pg len2 ord2 kh2 km2 cw tl tO bO lf wo) [.ref (a 8), .int (nI (L))]) (va_Qi (fun (r : Int32) (u : Unit) => r = nI (2 * L + 2)) (c_B (dC, dI) vwCl (TY y) (fun (u : Unit) => (MW y a rn n lo kp dy so he kn ak pl im lo2 dy2 so2 he2 kn2 ma kd len ord kh km pg len2 ord2 kh2 km2 cw tl tO bO lf wo))) A) 0 0 A := by
  refine Met.ofW (cc := cX9_minutesFor) (maxL := 2) (ret := (some .int)) (by decide) rfl ?_
  intro p e s m args below meth c s₁ BB hml hv
  obtain ⟨rfl, hP, hK, hE⟩ := hv
  have hx := BB.exec
  have hb := BB.bytes
  have hr := BB.returns
  have hts := atoms_spec (ws := wsX9_minutesFor) BB.pre
  have hown : s.vm.findClass RX9 = some m.cls := findClass_of_methodNamed BB.named
  have hlocks := BB.notSynchronized
  have hS : va_S A s.heap s.heap [] := va_S.rf
  have hl := lv_entry ([.ref (a 8), .int (nI (L))]) (n := 2) (Nat.le_of_ble_eq_true rfl)
  rw [lg_entry_eq]
  generalize (lg_sl ([.ref (a 8), .int (nI (L))]) ++ List.replicate (2 - (lg_sl ([.ref (a 8), .int (nI (L))])).length) Slot.unset).toArray = ls at hl ⊢
  have hl : lv_has ls 2 [(0, .ref (a 8)), (1, .int (nI (L)))] := hl
  refine lv_aload_n hx hb dX9_minutesFor_0 rfl (lv_at hl 0 rfl) ?_
  refine lv_iload_n hx hb dX9_minutesFor_1 rfl (lv_at hl 1 rfl) ?_
  refine c_calli (va_runSU (As := [.int (nI (L))]) (rest := []) (hK.1 9 _ rfl).2 ⟨hx, hb, hml, hown, hts⟩ (k_X5_minutesFor l dC dI y A (MW y a rn n lo kp dy so he kn ak pl im lo2 dy2 so2 he2 kn2 ma kd len ord kh km pg len2 ord2 kh2 km2 cw tl tO bO lf wo) (EV xK xV A) (a 8) L ) (va_cwSU 1 hts gX9_minutesFor_X5_minutesFor_s7 rfl rfl rfl (by decide +kernel) ⟨Nat.le_of_ble_eq_true rfl, Nat.le_of_ble_eq_true rfl⟩) (c_preV (evN xK xV A) hK hE hS hP (va_recv hK hP (ci := 9) (q0 := 8) rfl rfl)) rfl rfl hl.1 rfl (lv_room (Nat.le_of_ble_eq_true rfl)) dX9_minutesFor_2 ⟨Nat.le_refl _, Nat.le_refl _⟩) hS (fun r_2 u_2 H locs hw_2 hP hS => ?_)
  obtain rfl := hw_2
  refine lv_iconst (v := nI (2)) hx hb dX9_minutesFor_5 (by decide) ?_
  refine n_iadd hx hb dX9_minutesFor_6 ?_
  exact c_iret hx hb hr hlocks hK hS () hP rfl dX9_minutesFor_7
set_option maxHeartbeats 4000000 in
set_option maxRecDepth 100000 in
theorem k_X10_bitOf (l : Launch) (dC : Nat → ClassId) (dI : Nat → Nat → Nat) (y : Nat → ClassId) (A : Nat → Prop) (ws : va_W) (Nv : State → Prop) (bs : Int32) (k : Nat) : Met l yX10_bitOf wsX10_bitOf ({ frames := 0, cells := 0, slots := 0, locals := 0 } : Room) (c_P (dC, dI) vwCl (TY y) Nv ws [.int (bs), .int (nI (k))]) (va_Qi (fun (r : Int32) (u : Unit) => r = bitL bs k) (c_B (dC, dI) vwCl (TY y) (fun (u : Unit) => ws)) A) 0 0 A := by
  refine Met.ofW (cc := cX10_bitOf) (maxL := 2) (ret := (some .int)) (by decide) rfl ?_
  intro p e s m args below meth c s₁ BB hml hv
  obtain ⟨rfl, hP, hK, hE⟩ := hv
  have hx := BB.exec
  have hb := BB.bytes
  have hr := BB.returns
  have hts := atoms_spec (ws := wsX10_bitOf) BB.pre
  have hown : s.vm.findClass RX10 = some m.cls := findClass_of_methodNamed BB.named
  have hlocks := BB.notSynchronized
  have hS : va_S A s.heap s.heap [] := va_S.rf
  have hl := lv_entry ([.int (bs), .int (nI (k))]) (n := 2) (Nat.le_of_ble_eq_true rfl)
  rw [lg_entry_eq]
  generalize (lg_sl ([.int (bs), .int (nI (k))]) ++ List.replicate (2 - (lg_sl ([.int (bs), .int (nI (k))])).length) Slot.unset).toArray = ls at hl ⊢
  have hl : lv_has ls 2 [(0, .int (bs)), (1, .int (nI (k)))] := hl
  refine lv_iload_n hx hb dX10_bitOf_0 rfl (lv_at hl 0 rfl) ?_
  refine lv_iload_n hx hb dX10_bitOf_1 rfl (lv_at hl 1 rfl) ?_
  refine lv_ishr hx hb dX10_bitOf_2 ?_
  refine lv_iconst (v := nI (1)) hx hb dX10_bitOf_3 (by decide) ?_
  refine lv_iand hx hb dX10_bitOf_4 ?_
  exact c_iret hx hb hr hlocks hK hS () hP rfl dX10_bitOf_5
theorem in_X6_has_X6 : ∀ w ∈ wsX60, w ∈ wsX6_has := fun w h => List.mem_cons_of_mem _ (List.mem_append_right _ h)
set_option maxHeartbeats 4000000 in
set_option maxRecDepth 100000 in
theorem k_X6_has (l : Launch) (dC : Nat → ClassId) (dI : Nat → Nat → Nat) (y : Nat → ClassId) (A : Nat → Prop) (a : Nat → Nat) (hA0 : ad_ok A a 34) (xK : Nat → Nat) (xV : Nat → Nat) (rn : Nat) (n : Nat) (lo : Int32) (kp : Nat) (dy : Int32) (so : Int32) (he : Int32) (kn : Nat) (ak : Nat) (pl : Nat) (im : Bool) (lo2 : Int32) (dy2 : Int32) (so2 : Int32) (he2 : Int32) (kn2 : Nat) (ma : Nat) (kd : Nat → Nat) (len : Nat → Nat) (ord : Nat → Nat) (kh : Nat → Nat) (km : Nat → Nat) (pg : Nat → Nat) (len2 : Nat → Nat) (ord2 : Nat → Nat) (kh2 : Nat → Nat) (km2 : Nat → Nat) (cw : Nat → Nat) (tl : Nat → Nat) (tO : Nat → Nat) (bO : Nat → Nat) (lf : Nat → Nat → Nat) (wo : Nat → Nat) (h : Int32) : Met l yX6_has wsX6_has ({ frames := 0, cells := 0, slots := 0, locals := 0 } : Room) (c_P (dC, dI) vwCl (TY y) (EV xK xV A) (MW y a rn n lo kp dy so he kn ak pl im lo2 dy2 so2 he2 kn2 ma kd len ord kh km pg len2 ord2 kh2 km2 cw tl tO bO lf wo) [.ref (a 3), .int (h)]) (va_Qi (fun (r : Int32) (u : Unit) => r = bI (isH h n)) (c_B (dC, dI) vwCl (TY y) (fun (u : Unit) => (MW y a rn n lo kp dy so he kn ak pl im lo2 dy2 so2 he2 kn2 ma kd len ord kh km pg len2 ord2 kh2 km2 cw tl tO bO lf wo))) A) 0 0 A := by
  refine Met.ofW (cc := cX6_has) (maxL := 2) (ret := (some .boolean)) (by decide) rfl ?_
  intro p e s m args below meth c s₁ BB hml hv
  obtain ⟨rfl, hP, hK, hE⟩ := hv
  have hx := BB.exec
  have hb := BB.bytes
  have hr := BB.returns
  have hts := atoms_spec (ws := wsX6_has) BB.pre
  have hown : s.vm.findClass RX6 = some m.cls := findClass_of_methodNamed BB.named
  have hlocks := BB.notSynchronized
  have hS : va_S A s.heap s.heap [] := va_S.rf
  have hl := lv_entry ([.ref (a 3), .int (h)]) (n := 2) (Nat.le_of_ble_eq_true rfl)
  rw [lg_entry_eq]
  generalize (lg_sl ([.ref (a 3), .int (h)]) ++ List.replicate (2 - (lg_sl ([.ref (a 3), .int (h)])).length) Slot.unset).toArray = ls at hl ⊢
  have hl : lv_has ls 2 [(0, .ref (a 3)), (1, .int (h))] := hl
  refine lv_iload_n hx hb dX6_has_0 rfl (lv_at hl 1 rfl) ?_
  refine lv_if_lt (tgt := 16) hx hb dX6_has_1 (by decide) (fun c_1 => ?_) (fun c_1 => ?_)
  · refine lv_iconst (v := nI (0)) hx hb dX6_has_16 (by decide) ?_
    exact c_zret hx hb hr hlocks hK hS () rfl hP (bI_0 (isH_no1 c_1)) dX6_has_17
  · refine lv_iload_n hx hb dX6_has_4 rfl (lv_at hl 1 rfl) ?_
    refine lv_aload_n hx hb dX6_has_5 rfl (lv_at hl 0 rfl) ?_
    refine va_get (D := (dC, dI)) (ci := 6) (C := RX6) (T := TX6) (N := 8) hx hb hts in_X6_has_X6 hown hK hP 3 rfl rfl 6 (by decide) (hts (.fieldLink RX6 44 "MilkRound$Street" "size" "I") (List.mem_of_getElem? (i := 1) rfl)) (fun _ h9 => h9) rfl dX6_has_6 ?_
    refine lv_icmp_ge (tgt := 16) hx hb dX6_has_9 (by decide) (fun c_9 => ?_) (fun c_9 => ?_)
    · refine lv_iconst (v := nI (0)) hx hb dX6_has_16 (by decide) ?_
      exact c_zret hx hb hr hlocks hK hS () rfl hP (bI_0 (isH_no2 c_9)) dX6_has_17
    · refine lv_iconst (v := nI (1)) hx hb dX6_has_12 (by decide) ?_
      refine lv_goto (tgt := 17) hx hb dX6_has_13 (by decide) ?_
      exact c_zret hx hb hr hlocks hK hS () rfl hP (bI_1 (isH_mk c_1 c_9)) dX6_has_17
theorem in_X6_reading_X6 : ∀ w ∈ wsX60, w ∈ wsX6_reading := fun w h => List.mem_cons_of_mem _ (List.mem_append_right _ h)
set_option maxHeartbeats 4000000 in
set_option maxRecDepth 100000 in
theorem k_X6_reading (l : Launch) (dC : Nat → ClassId) (dI : Nat → Nat → Nat) (y : Nat → ClassId) (A : Nat → Prop) (a : Nat → Nat) (hA0 : ad_ok A a 34) (xK : Nat → Nat) (xV : Nat → Nat) (rn : Nat) (n : Nat) (lo : Int32) (kp : Nat) (dy : Int32) (so : Int32) (he : Int32) (kn : Nat) (ak : Nat) (pl : Nat) (im : Bool) (lo2 : Int32) (dy2 : Int32) (so2 : Int32) (he2 : Int32) (kn2 : Nat) (ma : Nat) (kd : Nat → Nat) (len : Nat → Nat) (ord : Nat → Nat) (kh : Nat → Nat) (km : Nat → Nat) (pg : Nat → Nat) (len2 : Nat → Nat) (ord2 : Nat → Nat) (kh2 : Nat → Nat) (km2 : Nat → Nat) (cw : Nat → Nat) (tl : Nat → Nat) (tO : Nat → Nat) (bO : Nat → Nat) (lf : Nat → Nat → Nat) (wo : Nat → Nat) (h : Nat) (L : Nat) (lx : Int32) (hh : h < 6) (hL : L ≤ 9) (hkd : ∀ j, kd j ≤ 4) : Met l yX6_reading wsX6_reading ({ frames := 2, cells := 0, slots := 0, locals := 42 } : Room) (c_P (dC, dI) vwCl (TY y) (EV xK xV A) (MW y a rn n lo kp dy so he kn ak pl im lo2 dy2 so2 he2 kn2 ma kd len ord kh km pg len2 ord2 kh2 km2 cw tl tO bO lf wo) [.ref (a 3), .int (nI (h)), .int (nI (L)), .int (lx)]) (va_Qi (fun (r : Int32) (u : Unit) => r = nI (rdK (kd h) L lx h)) (c_B (dC, dI) vwCl (TY y) (fun (u : Unit) => (MW y a rn n lo kp dy so he kn ak pl im lo2 dy2 so2 he2 kn2 ma kd len ord kh km pg len2 ord2 kh2 km2 cw tl tO bO lf wo))) A) 0 0 A := by
  refine Met.ofW (cc := cX6_reading) (maxL := 5) (ret := (some .int)) (by decide) rfl ?_
  intro p e s m args below meth c s₁ BB hml hv
  obtain ⟨rfl, hP, hK, hE⟩ := hv
  have hx := BB.exec
  have hb := BB.bytes
  have hr := BB.returns
  have hts := atoms_spec (ws := wsX6_reading) BB.pre
  have hown : s.vm.findClass RX6 = some m.cls := findClass_of_methodNamed BB.named
  have hlocks := BB.notSynchronized
  have hS : va_S A s.heap s.heap [] := va_S.rf
  have hl := lv_entry ([.ref (a 3), .int (nI (h)), .int (nI (L)), .int (lx)]) (n := 5) (Nat.le_of_ble_eq_true rfl)
  rw [lg_entry_eq]
  generalize (lg_sl ([.ref (a 3), .int (nI (h)), .int (nI (L)), .int (lx)]) ++ List.replicate (5 - (lg_sl ([.ref (a 3), .int (nI (h)), .int (nI (L)), .int (lx)])).length) Slot.unset).toArray = ls at hl ⊢
  have hl : lv_has ls 5 [(0, .ref (a 3)), (1, .int (nI (h))), (2, .int (nI (L))), (3, .int (lx))] := hl
  have hkh := hkd h
  have hw9 := whl_le (k := kd h) hL
  refine lv_aload_n hx hb dX6_reading_0 rfl (lv_at hl 0 rfl) ?_
  refine va_get (D := (dC, dI)) (ci := 6) (C := RX6) (T := TX6) (N := 8) hx hb hts in_X6_reading_X6 hown hK hP 3 rfl rfl 5 (by decide) (hts (.fieldLink RX6 40 "MilkRound$Street" "houses" "[LMilkRound$House;") (List.mem_of_getElem? (i := 1) rfl)) (fun _ h9 => h9) rfl dX6_reading_1 ?_
  refine lv_iload_n hx hb dX6_reading_4 rfl (lv_at hl 1 rfl) ?_
  refine n_aldr hx hb hK hP 9 3 rfl rfl (by omega) (by decide) rfl dX6_reading_5 ?_
  rcases (show kd h = 0 ∨ kd h = 1 ∨ kd h = 2 ∨ kd h = 3 ∨ kd h = 4 by omega) with ek_6 | ek_6 | ek_6 | ek_6 | ek_6
  · refine n_topr (z := a (4 + 0)) (by rw [ek_6]) ?_
    refine lv_iload_n hx hb dX6_reading_6 rfl (lv_at hl 2 rfl) ?_
    refine c_calli (va_runV (As := [.int (nI (L))]) (rest := []) ⟨hx, hb, hml, hown, hts⟩ (k_X3_minutesFor l dC dI y A (MW y a rn n lo kp dy so he kn ak pl im lo2 dy2 so2 he2 kn2 ma kd len ord kh km pg len2 ord2 kh2 km2 cw tl tO bO lf wo) (EV xK xV A) (a (4 + 0)) L ) (cwV 1 hts gX6_reading_X3_minutesFor rfl rfl rfl (by decide +kernel) ⟨Nat.le_of_ble_eq_true rfl, Nat.le_of_ble_eq_true rfl⟩) (c_preV (evN xK xV A) hK hE hS hP (va_recv hK hP (ci := 3) (q0 := 4) rfl rfl)) rfl rfl hl.1 rfl (lv_room (Nat.le_of_ble_eq_true rfl)) dX6_reading_7 ⟨Nat.le_refl _, Nat.le_refl _⟩) hS (fun r_7 u_7 H locs hw_7 hP hS => ?_)
    obtain rfl := hw_7
    refine n_top (y := nI (whl (kd h) L)) (by rw [ek_6]; rfl) ?_
    refine lv_istore (lv' := [(4, .int (nI (whl (kd h) L))), (0, .ref (a 3)), (1, .int (nI (h))), (2, .int (nI (L))), (3, .int (lx))]) hx hb dX6_reading_10 hl (by decide) rfl (fun ls hl => ?_)
    refine lv_iload_n hx hb dX6_reading_12 rfl (lv_at hl 4 rfl) ?_
    refine lv_iload_n hx hb dX6_reading_13 rfl (lv_at hl 2 rfl) ?_
    refine c_calli (va_runSN (As := [.int (lx), .int (nI (h))]) (rest := []) ⟨hx, hb, hml, hown, hts⟩ (k_X10_bitOf l dC dI y A (MW y a rn n lo kp dy so he kn ak pl im lo2 dy2 so2 he2 kn2 ma kd len ord kh km pg len2 ord2 kh2 km2 cw tl tO bO lf wo) (EV xK xV A) lx h ) ⟨va_cnB 2 hts gX6_reading_X10_bitOf_n71 rfl rfl rfl hE.1 (hts (.initialized RX10) (List.mem_of_getElem? (i := 30) rfl)) (by decide +kernel) ⟨Nat.le_of_ble_eq_true rfl, Nat.le_of_ble_eq_true rfl⟩, (hts (.static yX10_bitOf) (List.mem_of_getElem? (i := 29) rfl)), trivial⟩ (c_preS (evN xK xV A) hK hE hS hP) rfl rfl hl.1 rfl (lv_room (Nat.le_of_ble_eq_true rfl)) dX6_reading_14 ⟨Nat.le_refl _, Nat.le_refl _⟩) hS (fun r_14 u_14 H locs hw_14 hP hS => ?_)
    obtain rfl := hw_14
    refine lv_iconst (v := nI (1)) hx hb dX6_reading_17 (by decide) ?_
    refine lv_icmp_ne (tgt := 28) hx hb dX6_reading_18 (by decide) (fun c_18 => ?_) (fun c_18 => ?_)
    · refine lv_iload hx hb dX6_reading_28 (lv_at hl 0 rfl) ?_
      exact c_iret hx hb hr hlocks hK hS () hP (by rw [rdK, show inB lx h = false from decide_eq_false c_18]; rfl) dX6_reading_30
    · refine lv_iload hx hb dX6_reading_21 (lv_at hl 0 rfl) ?_
      refine lv_iconst (v := nI (2)) hx hb dX6_reading_23 (by decide) ?_
      refine n_idiv hx hb (by decide) (by omega) (by decide) dX6_reading_24 ?_
      refine lv_goto (tgt := 30) hx hb dX6_reading_25 (by decide) ?_
      exact c_iret hx hb hr hlocks hK hS () hP (by rw [rdK, show inB lx h = true from decide_eq_true c_18]; rfl) dX6_reading_30
  · refine n_topr (z := a (4 + 1)) (by rw [ek_6]) ?_
    refine lv_iload_n hx hb dX6_reading_6 rfl (lv_at hl 2 rfl) ?_
    refine c_calli (va_runU (As := [.int (nI (L))]) (rest := []) ⟨hx, hb, hml, hown, hts⟩ (k_X5_minutesFor l dC dI y A (MW y a rn n lo kp dy so he kn ak pl im lo2 dy2 so2 he2 kn2 ma kd len ord kh km pg len2 ord2 kh2 km2 cw tl tO bO lf wo) (EV xK xV A) (a (4 + 1)) L ) (va_cwO 1 hts gX6_reading_X5_minutesFor_u67X5 rfl rfl rfl (List.mem_of_getElem? (i := 9) rfl) (by decide +kernel) ⟨Nat.le_of_ble_eq_true rfl, Nat.le_of_ble_eq_true rfl⟩) (c_preV (evN xK xV A) hK hE hS hP (va_recv hK hP (ci := 5) (q0 := 5) rfl rfl)) rfl rfl hl.1 rfl (lv_room (Nat.le_of_ble_eq_true rfl)) dX6_reading_7 ⟨Nat.le_refl _, Nat.le_refl _⟩) hS (fun r_7 u_7 H locs hw_7 hP hS => ?_)
    obtain rfl := hw_7
    refine n_top (y := nI (whl (kd h) L)) (by rw [ek_6]; rfl) ?_
    refine lv_istore (lv' := [(4, .int (nI (whl (kd h) L))), (0, .ref (a 3)), (1, .int (nI (h))), (2, .int (nI (L))), (3, .int (lx))]) hx hb dX6_reading_10 hl (by decide) rfl (fun ls hl => ?_)
    refine lv_iload_n hx hb dX6_reading_12 rfl (lv_at hl 4 rfl) ?_
    refine lv_iload_n hx hb dX6_reading_13 rfl (lv_at hl 2 rfl) ?_
    refine c_calli (va_runSN (As := [.int (lx), .int (nI (h))]) (rest := []) ⟨hx, hb, hml, hown, hts⟩ (k_X10_bitOf l dC dI y A (MW y a rn n lo kp dy so he kn ak pl im lo2 dy2 so2 he2 kn2 ma kd len ord kh km pg len2 ord2 kh2 km2 cw tl tO bO lf wo) (EV xK xV A) lx h ) ⟨va_cnB 2 hts gX6_reading_X10_bitOf_n71 rfl rfl rfl hE.1 (hts (.initialized RX10) (List.mem_of_getElem? (i := 30) rfl)) (by decide +kernel) ⟨Nat.le_of_ble_eq_true rfl, Nat.le_of_ble_eq_true rfl⟩, (hts (.static yX10_bitOf) (List.mem_of_getElem? (i := 29) rfl)), trivial⟩ (c_preS (evN xK xV A) hK hE hS hP) rfl rfl hl.1 rfl (lv_room (Nat.le_of_ble_eq_true rfl)) dX6_reading_14 ⟨Nat.le_refl _, Nat.le_refl _⟩) hS (fun r_14 u_14 H locs hw_14 hP hS => ?_)
    obtain rfl := hw_14
    refine lv_iconst (v := nI (1)) hx hb dX6_reading_17 (by decide) ?_
    refine lv_icmp_ne (tgt := 28) hx hb dX6_reading_18 (by decide) (fun c_18 => ?_) (fun c_18 => ?_)
    · refine lv_iload hx hb dX6_reading_28 (lv_at hl 0 rfl) ?_
      exact c_iret hx hb hr hlocks hK hS () hP (by rw [rdK, show inB lx h = false from decide_eq_false c_18]; rfl) dX6_reading_30
    · refine lv_iload hx hb dX6_reading_21 (lv_at hl 0 rfl) ?_
      refine lv_iconst (v := nI (2)) hx hb dX6_reading_23 (by decide) ?_
      refine n_idiv hx hb (by decide) (by omega) (by decide) dX6_reading_24 ?_
      refine lv_goto (tgt := 30) hx hb dX6_reading_25 (by decide) ?_
      exact c_iret hx hb hr hlocks hK hS () hP (by rw [rdK, show inB lx h = true from decide_eq_true c_18]; rfl) dX6_reading_30
  · refine n_topr (z := a (4 + 2)) (by rw [ek_6]) ?_
    refine lv_iload_n hx hb dX6_reading_6 rfl (lv_at hl 2 rfl) ?_
    refine c_calli (va_runU (As := [.int (nI (L))]) (rest := []) ⟨hx, hb, hml, hown, hts⟩ (k_X0_minutesFor l dC dI y A (MW y a rn n lo kp dy so he kn ak pl im lo2 dy2 so2 he2 kn2 ma kd len ord kh km pg len2 ord2 kh2 km2 cw tl tO bO lf wo) (EV xK xV A) (a (4 + 2)) L ) (va_cwO 1 hts gX6_reading_X0_minutesFor_u67X0 rfl rfl rfl (List.mem_of_getElem? (i := 9) rfl) (by decide +kernel) ⟨Nat.le_of_ble_eq_true rfl, Nat.le_of_ble_eq_true rfl⟩) (c_preV (evN xK xV A) hK hE hS hP (va_recv hK hP (ci := 0) (q0 := 6) rfl rfl)) rfl rfl hl.1 rfl (lv_room (Nat.le_of_ble_eq_true rfl)) dX6_reading_7 ⟨Nat.le_refl _, Nat.le_refl _⟩) hS (fun r_7 u_7 H locs hw_7 hP hS => ?_)
    obtain rfl := hw_7
    refine n_top (y := nI (whl (kd h) L)) (by rw [ek_6]; rfl) ?_
    refine lv_istore (lv' := [(4, .int (nI (whl (kd h) L))), (0, .ref (a 3)), (1, .int (nI (h))), (2, .int (nI (L))), (3, .int (lx))]) hx hb dX6_reading_10 hl (by decide) rfl (fun ls hl => ?_)
    refine lv_iload_n hx hb dX6_reading_12 rfl (lv_at hl 4 rfl) ?_
    refine lv_iload_n hx hb dX6_reading_13 rfl (lv_at hl 2 rfl) ?_
    refine c_calli (va_runSN (As := [.int (lx), .int (nI (h))]) (rest := []) ⟨hx, hb, hml, hown, hts⟩ (k_X10_bitOf l dC dI y A (MW y a rn n lo kp dy so he kn ak pl im lo2 dy2 so2 he2 kn2 ma kd len ord kh km pg len2 ord2 kh2 km2 cw tl tO bO lf wo) (EV xK xV A) lx h ) ⟨va_cnB 2 hts gX6_reading_X10_bitOf_n71 rfl rfl rfl hE.1 (hts (.initialized RX10) (List.mem_of_getElem? (i := 30) rfl)) (by decide +kernel) ⟨Nat.le_of_ble_eq_true rfl, Nat.le_of_ble_eq_true rfl⟩, (hts (.static yX10_bitOf) (List.mem_of_getElem? (i := 29) rfl)), trivial⟩ (c_preS (evN xK xV A) hK hE hS hP) rfl rfl hl.1 rfl (lv_room (Nat.le_of_ble_eq_true rfl)) dX6_reading_14 ⟨Nat.le_refl _, Nat.le_refl _⟩) hS (fun r_14 u_14 H locs hw_14 hP hS => ?_)
    obtain rfl := hw_14
    refine lv_iconst (v := nI (1)) hx hb dX6_reading_17 (by decide) ?_
    refine lv_icmp_ne (tgt := 28) hx hb dX6_reading_18 (by decide) (fun c_18 => ?_) (fun c_18 => ?_)
    · refine lv_iload hx hb dX6_reading_28 (lv_at hl 0 rfl) ?_
      exact c_iret hx hb hr hlocks hK hS () hP (by rw [rdK, show inB lx h = false from decide_eq_false c_18]; rfl) dX6_reading_30
    · refine lv_iload hx hb dX6_reading_21 (lv_at hl 0 rfl) ?_
      refine lv_iconst (v := nI (2)) hx hb dX6_reading_23 (by decide) ?_
      refine n_idiv hx hb (by decide) (by omega) (by decide) dX6_reading_24 ?_
      refine lv_goto (tgt := 30) hx hb dX6_reading_25 (by decide) ?_
      exact c_iret hx hb hr hlocks hK hS () hP (by rw [rdK, show inB lx h = true from decide_eq_true c_18]; rfl) dX6_reading_30
  · refine n_topr (z := a (4 + 3)) (by rw [ek_6]) ?_
    refine lv_iload_n hx hb dX6_reading_6 rfl (lv_at hl 2 rfl) ?_
    refine c_calli (va_runU (As := [.int (nI (L))]) (rest := []) ⟨hx, hb, hml, hown, hts⟩ (k_X1_minutesFor l dC dI y A (MW y a rn n lo kp dy so he kn ak pl im lo2 dy2 so2 he2 kn2 ma kd len ord kh km pg len2 ord2 kh2 km2 cw tl tO bO lf wo) (EV xK xV A) (a (4 + 3)) L hL) (va_cwO 1 hts gX6_reading_X1_minutesFor_u67X1 rfl rfl rfl (List.mem_of_getElem? (i := 9) rfl) (by decide +kernel) ⟨Nat.le_of_ble_eq_true rfl, Nat.le_of_ble_eq_true rfl⟩) (c_preV (evN xK xV A) hK hE hS hP (va_recv hK hP (ci := 1) (q0 := 7) rfl rfl)) rfl rfl hl.1 rfl (lv_room (Nat.le_of_ble_eq_true rfl)) dX6_reading_7 ⟨Nat.le_refl _, Nat.le_refl _⟩) hS (fun r_7 u_7 H locs hw_7 hP hS => ?_)
    obtain rfl := hw_7
    refine n_top (y := nI (whl (kd h) L)) (by rw [ek_6]; rfl) ?_
    refine lv_istore (lv' := [(4, .int (nI (whl (kd h) L))), (0, .ref (a 3)), (1, .int (nI (h))), (2, .int (nI (L))), (3, .int (lx))]) hx hb dX6_reading_10 hl (by decide) rfl (fun ls hl => ?_)
    refine lv_iload_n hx hb dX6_reading_12 rfl (lv_at hl 4 rfl) ?_
    refine lv_iload_n hx hb dX6_reading_13 rfl (lv_at hl 2 rfl) ?_
    refine c_calli (va_runSN (As := [.int (lx), .int (nI (h))]) (rest := []) ⟨hx, hb, hml, hown, hts⟩ (k_X10_bitOf l dC dI y A (MW y a rn n lo kp dy so he kn ak pl im lo2 dy2 so2 he2 kn2 ma kd len ord kh km pg len2 ord2 kh2 km2 cw tl tO bO lf wo) (EV xK xV A) lx h ) ⟨va_cnB 2 hts gX6_reading_X10_bitOf_n71 rfl rfl rfl hE.1 (hts (.initialized RX10) (List.mem_of_getElem? (i := 30) rfl)) (by decide +kernel) ⟨Nat.le_of_ble_eq_true rfl, Nat.le_of_ble_eq_true rfl⟩, (hts (.static yX10_bitOf) (List.mem_of_getElem? (i := 29) rfl)), trivial⟩ (c_preS (evN xK xV A) hK hE hS hP) rfl rfl hl.1 rfl (lv_room (Nat.le_of_ble_eq_true rfl)) dX6_reading_14 ⟨Nat.le_refl _, Nat.le_refl _⟩) hS (fun r_14 u_14 H locs hw_14 hP hS => ?_)
    obtain rfl := hw_14
    refine lv_iconst (v := nI (1)) hx hb dX6_reading_17 (by decide) ?_
    refine lv_icmp_ne (tgt := 28) hx hb dX6_reading_18 (by decide) (fun c_18 => ?_) (fun c_18 => ?_)
    · refine lv_iload hx hb dX6_reading_28 (lv_at hl 0 rfl) ?_
      exact c_iret hx hb hr hlocks hK hS () hP (by rw [rdK, show inB lx h = false from decide_eq_false c_18]; rfl) dX6_reading_30
    · refine lv_iload hx hb dX6_reading_21 (lv_at hl 0 rfl) ?_
      refine lv_iconst (v := nI (2)) hx hb dX6_reading_23 (by decide) ?_
      refine n_idiv hx hb (by decide) (by omega) (by decide) dX6_reading_24 ?_
      refine lv_goto (tgt := 30) hx hb dX6_reading_25 (by decide) ?_
      exact c_iret hx hb hr hlocks hK hS () hP (by rw [rdK, show inB lx h = true from decide_eq_true c_18]; rfl) dX6_reading_30
  · refine n_topr (z := a (4 + 4)) (by rw [ek_6]) ?_
    refine lv_iload_n hx hb dX6_reading_6 rfl (lv_at hl 2 rfl) ?_
    refine c_calli (va_runU (As := [.int (nI (L))]) (rest := []) ⟨hx, hb, hml, hown, hts⟩ (k_X9_minutesFor l dC dI y A a hA0 xK xV rn n lo kp dy so he kn ak pl im lo2 dy2 so2 he2 kn2 ma kd len ord kh km pg len2 ord2 kh2 km2 cw tl tO bO lf wo L ) (va_cwO 1 hts gX6_reading_X9_minutesFor_u67X9 rfl rfl rfl (List.mem_of_getElem? (i := 9) rfl) (by decide +kernel) ⟨Nat.le_of_ble_eq_true rfl, Nat.le_of_ble_eq_true rfl⟩) (c_preV (evN xK xV A) hK hE hS hP (va_recv hK hP (ci := 9) (q0 := 8) rfl rfl)) rfl rfl hl.1 rfl (lv_room (Nat.le_of_ble_eq_true rfl)) dX6_reading_7 ⟨Nat.le_refl _, Nat.le_refl _⟩) hS (fun r_7 u_7 H locs hw_7 hP hS => ?_)
    obtain rfl := hw_7
    refine n_top (y := nI (whl (kd h) L)) (by rw [ek_6]; rfl) ?_
    refine lv_istore (lv' := [(4, .int (nI (whl (kd h) L))), (0, .ref (a 3)), (1, .int (nI (h))), (2, .int (nI (L))), (3, .int (lx))]) hx hb dX6_reading_10 hl (by decide) rfl (fun ls hl => ?_)
    refine lv_iload_n hx hb dX6_reading_12 rfl (lv_at hl 4 rfl) ?_
    refine lv_iload_n hx hb dX6_reading_13 rfl (lv_at hl 2 rfl) ?_
    refine c_calli (va_runSN (As := [.int (lx), .int (nI (h))]) (rest := []) ⟨hx, hb, hml, hown, hts⟩ (k_X10_bitOf l dC dI y A (MW y a rn n lo kp dy so he kn ak pl im lo2 dy2 so2 he2 kn2 ma kd len ord kh km pg len2 ord2 kh2 km2 cw tl tO bO lf wo) (EV xK xV A) lx h ) ⟨va_cnB 2 hts gX6_reading_X10_bitOf_n71 rfl rfl rfl hE.1 (hts (.initialized RX10) (List.mem_of_getElem? (i := 30) rfl)) (by decide +kernel) ⟨Nat.le_of_ble_eq_true rfl, Nat.le_of_ble_eq_true rfl⟩, (hts (.static yX10_bitOf) (List.mem_of_getElem? (i := 29) rfl)), trivial⟩ (c_preS (evN xK xV A) hK hE hS hP) rfl rfl hl.1 rfl (lv_room (Nat.le_of_ble_eq_true rfl)) dX6_reading_14 ⟨Nat.le_refl _, Nat.le_refl _⟩) hS (fun r_14 u_14 H locs hw_14 hP hS => ?_)
    obtain rfl := hw_14
    refine lv_iconst (v := nI (1)) hx hb dX6_reading_17 (by decide) ?_
    refine lv_icmp_ne (tgt := 28) hx hb dX6_reading_18 (by decide) (fun c_18 => ?_) (fun c_18 => ?_)
    · refine lv_iload hx hb dX6_reading_28 (lv_at hl 0 rfl) ?_
      exact c_iret hx hb hr hlocks hK hS () hP (by rw [rdK, show inB lx h = false from decide_eq_false c_18]; rfl) dX6_reading_30
    · refine lv_iload hx hb dX6_reading_21 (lv_at hl 0 rfl) ?_
      refine lv_iconst (v := nI (2)) hx hb dX6_reading_23 (by decide) ?_
      refine n_idiv hx hb (by decide) (by omega) (by decide) dX6_reading_24 ?_
      refine lv_goto (tgt := 30) hx hb dX6_reading_25 (by decide) ?_
      exact c_iret hx hb hr hlocks hK hS () hP (by rw [rdK, show inB lx h = true from decide_eq_true c_18]; rfl) dX6_reading_30
theorem in_X8_go_a_X8 : ∀ w ∈ wsX80, w ∈ wsX8_go := fun w h => List.mem_cons_of_mem _ (List.mem_append_left _ (List.mem_append_right _ h))
theorem in_X8_go_a_X6 : ∀ w ∈ wsX60, w ∈ wsX8_go := fun w h => List.mem_cons_of_mem _ (List.mem_append_right _ h)
set_option maxHeartbeats 4000000 in
set_option maxRecDepth 100000 in
theorem k_X8_go_a (l : Launch) (dC : Nat → ClassId) (dI : Nat → Nat → Nat) (y : Nat → ClassId) (A : Nat → Prop) (a : Nat → Nat) (hA0 : ad_ok A a 34) (xK : Nat → Nat) (xV : Nat → Nat) (rn : Nat) (n : Nat) (lo : Int32) (kp : Nat) (dy : Int32) (so : Int32) (he : Int32) (kn : Nat) (ak : Nat) (pl : Nat) (im : Bool) (lo2 : Int32) (dy2 : Int32) (so2 : Int32) (he2 : Int32) (kn2 : Nat) (ma : Nat) (kd : Nat → Nat) (len : Nat → Nat) (ord : Nat → Nat) (kh : Nat → Nat) (km : Nat → Nat) (pg : Nat → Nat) (len2 : Nat → Nat) (ord2 : Nat → Nat) (kh2 : Nat → Nat) (km2 : Nat → Nat) (cw : Nat → Nat) (tl : Nat → Nat) (tO : Nat → Nat) (bO : Nat → Nat) (lf : Nat → Nat → Nat) (wo : Nat → Nat) (lx : Int32) (hn : n ≤ 6) (hord : PermOn n ord) (hlen : ∀ j, len j ≤ 9) (hkd : ∀ j, kd j ≤ 4) (hcw : ∀ j, cw j ≤ 126) : Met l yX8_go wsX8_go ({ frames := 3, cells := 0, slots := 0, locals := 66 } : Room) (c_P (dC, dI) vwCl (TY y) (EV xK xV A) (MW y a rn n lo kp dy so he kn ak pl im lo2 dy2 so2 he2 kn2 ma kd len ord kh km pg len2 ord2 kh2 km2 cw tl tO bO lf wo) [.ref (a 20), .ref (a 11), .ref (a 12), .int (lx)]) (va_Qv (fun (u : (Nat → Nat) × Nat) => CamOk kd len lx ord n u.1 ∧ u.2 = tmF kd len lx ord n) (c_B (dC, dI) vwCl (TY y) (fun (u : (Nat → Nat) × Nat) => (MW y a rn n lo kp dy so he kn ak pl im lo2 dy2 so2 he2 kn2 u.2 kd len ord kh km pg len2 ord2 kh2 km2 u.1 tl tO bO lf wo))) A) 0 0 A := by
  refine Met.ofW (cc := cX8_go) (maxL := 7) (ret := none) (by decide) rfl ?_
  intro p e s m args below meth c s₁ BB hml hv
  obtain ⟨rfl, hP, hK, hE⟩ := hv
  have hx := BB.exec
  have hb := BB.bytes
  have hr := BB.returns
  have hts := atoms_spec (ws := wsX8_go) BB.pre
  have hown : s.vm.findClass RX8 = some m.cls := findClass_of_methodNamed BB.named
  have hlocks := BB.notSynchronized
  have hS : va_S A s.heap s.heap [] := va_S.rf
  have hl := lv_entry ([.ref (a 20), .ref (a 11), .ref (a 12), .int (lx)]) (n := 7) (Nat.le_of_ble_eq_true rfl)
  rw [lg_entry_eq]
  generalize (lg_sl ([.ref (a 20), .ref (a 11), .ref (a 12), .int (lx)]) ++ List.replicate (7 - (lg_sl ([.ref (a 20), .ref (a 11), .ref (a 12), .int (lx)])).length) Slot.unset).toArray = ls at hl ⊢
  have hl : lv_has ls 7 [(0, .ref (a 20)), (1, .ref (a 11)), (2, .ref (a 12)), (3, .int (lx))] := hl
  refine lv_iconst (v := nI (0)) hx hb dX8_go_0 (by decide) ?_
  refine lv_istore (lv' := [(4, .int (nI (0))), (0, .ref (a 20)), (1, .ref (a 11)), (2, .ref (a 12)), (3, .int (lx))]) hx hb dX8_go_1 hl (by decide) rfl (fun ls hl => ?_)
  refine lv_iconst (v := nI (0)) hx hb dX8_go_3 (by decide) ?_
  refine lv_istore (lv' := [(5, .int (nI (0))), (4, .int (nI (0))), (0, .ref (a 20)), (1, .ref (a 11)), (2, .ref (a 12)), (3, .int (lx))]) hx hb dX8_go_4 hl (by decide) rfl (fun ls hl => ?_)
  have loop_6 : ∀ (dd_6 : Nat) (k : Nat) (tt : Nat) (f : Nat → Nat) (hk : k ≤ n) (ht : tt = tmF kd len lx ord k) (hf : f = gof kd len lx ord cw k), n - k < dd_6 → ∀ (H : Heap) (locs : List Loc) (ls : Array Slot), va_P (dC, dI) vwCl (MW y a rn n lo kp dy so he kn ak pl im lo2 dy2 so2 he2 kn2 ma kd len ord kh km pg len2 ord2 kh2 km2 f tl tO bO lf wo) H → va_S A s.heap H locs → lv_has ls 7 [(5, .int (nI (k))), (4, .int (nI (tt))), (0, .ref (a 20)), (1, .ref (a 11)), (2, .ref (a 12)), (3, .int (lx))] → W p l e (headSpec wsX8_go ({ frames := 3, cells := 0, slots := 0, locals := 66 } : Room)).room s m [.ref (a 20), .ref (a 11), .ref (a 12), .int (lx)].toArray below meth c H locs 0 0 (MQ below (va_Qv (fun (u : (Nat → Nat) × Nat) => CamOk kd len lx ord n u.1 ∧ u.2 = tmF kd len lx ord n) (c_B (dC, dI) vwCl (TY y) (fun (u : (Nat → Nat) × Nat) => (MW y a rn n lo kp dy so he kn ak pl im lo2 dy2 so2 he2 kn2 u.2 kd len ord kh km pg len2 ord2 kh2 km2 u.1 tl tO bO lf wo))) A) [.ref (a 20), .ref (a 11), .ref (a 12), .int (lx)].toArray s 0 0 A) (F0 m 6 ls []) := by
    intro dd_6
    induction dd_6 with
    | zero => intro k tt f hk ht hf hd; exact absurd hd (Nat.not_lt_zero _)
    | succ dd_6 ih_6 =>
      intro k tt f hk ht hf hd_6 H locs ls hP hS hl
      refine lv_iload hx hb dX8_go_6 (lv_at hl 0 rfl) ?_
      refine lv_aload_n hx hb dX8_go_8 rfl (lv_at hl 2 rfl) ?_
      refine va_get (D := (dC, dI)) (ci := 8) (C := RX8) (T := TX8) (N := 3) hx hb hts in_X8_go_a_X8 hown hK hP 20 rfl rfl 0 (by decide) (hts (.fieldLink RX8 19 "MilkRound$Walk" "street" "LMilkRound$Street;") (List.mem_of_getElem? (i := 1) rfl)) (fun _ h9 => h9) rfl dX8_go_9 ?_
      refine va_get (D := (dC, dI)) (ci := 6) (C := RX6) (T := TX6) (N := 8) hx hb hts in_X8_go_a_X6 hown hK hP 3 rfl rfl 6 (by decide) (hts (.fieldLink RX8 23 "MilkRound$Street" "size" "I") (List.mem_of_getElem? (i := 2) rfl)) (fun _ h9 => h9) rfl dX8_go_12 ?_
      refine n_icmp_ge (tgt := 72) hx hb dX8_go_15 (by decide) (by omega) (by omega) (fun c_15 => ?_) (fun c_15 => ?_)
      · refine lv_aload_n hx hb dX8_go_72 rfl (lv_at hl 2 rfl) ?_
        refine lv_iload hx hb dX8_go_73 (lv_at hl 1 rfl) ?_
        refine va_put (D := (dC, dI)) (ci := 8) (ty := tyX8 2) (C := RX8) (T := TX8) (N := 3) hx hb hts in_X8_go_a_X8 tyX8 tyX8_ok nmX8 hown hK hP (ad_D hA0 rfl) hS 20 rfl rfl 2 (by decide) (hts (.fieldLink RX8 15 "MilkRound$Walk" "minutesOfAll" "I") (List.mem_of_getElem? (i := 4) rfl)) (fun _ h9 => h9) rfl (tyX8_ok 2 (by decide)) rfl rfl (Nat.le_of_ble_eq_true rfl) dX8_go_75 (fun H locs hP _ hS => ?_)
        have hP : va_P (dC, dI) vwCl (MW y a rn n lo kp dy so he kn ak pl im lo2 dy2 so2 he2 kn2 tt kd len ord kh km pg len2 ord2 kh2 km2 f tl tO bO lf wo) H := hP
        have hkn : k = n := by omega
        subst hkn
        exact c_vret hx hb hr hlocks hK hS (f, tt) hP ⟨by rw [hf]; exact gof_cam hord hn hlen hcw, ht⟩ dX8_go_78
      · have hok := hord.1 k (by omega)
        refine lv_aload_n hx hb dX8_go_18 rfl (lv_at hl 4 rfl) ?_
        refine lv_iload hx hb dX8_go_19 (lv_at hl 0 rfl) ?_
        refine n_iald hx hb hK hP 12 0 rfl rfl (by omega) (by decide) dX8_go_21 ?_
        refine lv_istore (lv' := [(6, .int (nI (ord k))), (5, .int (nI (k))), (4, .int (nI (tt))), (0, .ref (a 20)), (1, .ref (a 11)), (2, .ref (a 12)), (3, .int (lx))]) hx hb dX8_go_22 hl (by decide) rfl (fun ls hl => ?_)
        refine lv_aload_n hx hb dX8_go_24 rfl (lv_at hl 3 rfl) ?_
        refine va_get (D := (dC, dI)) (ci := 8) (C := RX8) (T := TX8) (N := 3) hx hb hts in_X8_go_a_X8 hown hK hP 20 rfl rfl 0 (by decide) (hts (.fieldLink RX8 19 "MilkRound$Walk" "street" "LMilkRound$Street;") (List.mem_of_getElem? (i := 1) rfl)) (fun _ h9 => h9) rfl dX8_go_25 ?_
        refine lv_iload hx hb dX8_go_28 (lv_at hl 0 rfl) ?_
        refine c_calli (va_runV (As := [.int (nI (ord k))]) (rest := []) ⟨hx, hb, hml, hown, hts⟩ (k_X6_has l dC dI y A a hA0 xK xV rn n lo kp dy so he kn ak pl im lo2 dy2 so2 he2 kn2 ma kd len ord kh km pg len2 ord2 kh2 km2 f tl tO bO lf wo (nI (ord k)) ) (cwV 1 hts gX8_go_X6_has rfl rfl rfl (by decide +kernel) ⟨Nat.le_of_ble_eq_true rfl, Nat.le_of_ble_eq_true rfl⟩) (c_preV (evN xK xV A) hK hE hS hP (va_recv hK hP (ci := 6) (q0 := 3) rfl rfl)) rfl rfl hl.1 rfl (lv_room (Nat.le_of_ble_eq_true rfl)) dX8_go_30 ⟨Nat.le_refl _, Nat.le_refl _⟩) hS (fun r_30 u_30 H locs hw_30 hP hS => ?_)
        obtain rfl := hw_30
        refine n_bif_eq (tgt := 66) hx hb dX8_go_33 (by decide) (fun c_33 => ?_) (fun c_33 => ?_)
        · exact absurd c_33 (by rw [isH_nat (by omega) (by omega), decide_eq_true hok]; decide)
        · refine lv_iload hx hb dX8_go_36 (lv_at hl 2 rfl) ?_
          refine lv_iconst (v := nI (1)) hx hb dX8_go_38 (by decide) ?_
          refine lv_aload_n hx hb dX8_go_39 rfl (lv_at hl 3 rfl) ?_
          refine va_get (D := (dC, dI)) (ci := 8) (C := RX8) (T := TX8) (N := 3) hx hb hts in_X8_go_a_X8 hown hK hP 20 rfl rfl 0 (by decide) (hts (.fieldLink RX8 19 "MilkRound$Walk" "street" "LMilkRound$Street;") (List.mem_of_getElem? (i := 1) rfl)) (fun _ h9 => h9) rfl dX8_go_40 ?_
          refine lv_iload hx hb dX8_go_43 (lv_at hl 0 rfl) ?_
          refine lv_aload_n hx hb dX8_go_45 rfl (lv_at hl 4 rfl) ?_
          refine lv_iload hx hb dX8_go_46 (lv_at hl 0 rfl) ?_
          refine n_iald hx hb hK hP 11 0 rfl rfl (by omega) (by decide) dX8_go_48 ?_
          refine lv_iload_n hx hb dX8_go_49 rfl (lv_at hl 6 rfl) ?_
          refine c_calli (va_runV (As := [.int (nI (ord k)), .int (nI (len (ord k))), .int (lx)]) (rest := [.int (nI (1)), .int (nI (tt))]) ⟨hx, hb, hml, hown, hts⟩ (k_X6_reading l dC dI y A a hA0 xK xV rn n lo kp dy so he kn ak pl im lo2 dy2 so2 he2 kn2 ma kd len ord kh km pg len2 ord2 kh2 km2 f tl tO bO lf wo (ord k) (len (ord k)) lx (by omega) (hlen _) hkd) (cwV 3 hts gX8_go_X6_reading rfl rfl rfl (by decide +kernel) ⟨Nat.le_of_ble_eq_true rfl, Nat.le_of_ble_eq_true rfl⟩) (c_preV (evN xK xV A) hK hE hS hP (va_recv hK hP (ci := 6) (q0 := 3) rfl rfl)) rfl rfl hl.1 rfl (lv_room (Nat.le_of_ble_eq_true rfl)) dX8_go_50 ⟨Nat.le_refl _, Nat.le_refl _⟩) hS (fun r_50 u_50 H locs hw_50 hP hS => ?_)
          obtain rfl := hw_50
          refine n_iadd hx hb dX8_go_53 ?_
          refine n_iadd hx hb dX8_go_54 ?_
          refine lv_istore (lv' := [(4, .int (nI ((tt) + ((1) + (rdK (kd (ord k)) (len (ord k)) lx (ord k)))))), (6, .int (nI (ord k))), (5, .int (nI (k))), (0, .ref (a 20)), (1, .ref (a 11)), (2, .ref (a 12)), (3, .int (lx))]) hx hb dX8_go_55 hl (by decide) rfl (fun ls hl => ?_)
          refine lv_aload_n hx hb dX8_go_57 rfl (lv_at hl 3 rfl) ?_
          refine va_get (D := (dC, dI)) (ci := 8) (C := RX8) (T := TX8) (N := 3) hx hb hts in_X8_go_a_X8 hown hK hP 20 rfl rfl 1 (by decide) (hts (.fieldLink RX8 9 "MilkRound$Walk" "came" "[I") (List.mem_of_getElem? (i := 3) rfl)) (fun _ h9 => h9) rfl dX8_go_58 ?_
          refine lv_iload hx hb dX8_go_61 (lv_at hl 1 rfl) ?_
          refine lv_iload hx hb dX8_go_63 (lv_at hl 0 rfl) ?_
          refine n_iast hx hb hK hP (ad_D hA0 rfl) hS 21 0 rfl rfl (by omega) (by decide) dX8_go_65 (fun H locs hP hS => ?_)
          have hP : va_P (dC, dI) vwCl (MW y a rn n lo kp dy so he kn ak pl im lo2 dy2 so2 he2 kn2 ma kd len ord kh km pg len2 ord2 kh2 km2 (va_up f (ord k) ((tt) + ((1) + (rdK (kd (ord k)) (len (ord k)) lx (ord k))))) tl tO bO lf wo) H := hP
          refine lv_iinc (v := nI (k + 1)) (lv' := [(5, .int (nI (k + 1))), (4, .int (nI ((tt) + ((1) + (rdK (kd (ord k)) (len (ord k)) lx (ord k)))))), (6, .int (nI (ord k))), (0, .ref (a 20)), (1, .ref (a 11)), (2, .ref (a 12)), (3, .int (lx))]) hx hb dX8_go_66 hl (k := 2) rfl (mr_inc _) (by decide) rfl (fun ls hl => ?_)
          refine lv_goto (tgt := 6) hx hb dX8_go_69 (by decide) ?_
          exact ih_6 (k + 1) (tt + (1 + rdm kd len lx (ord k))) (va_up f (ord k) (tt + (1 + rdm kd len lx (ord k)))) (by omega) (by rw [ht]; rfl) (by rw [hf, ht]; rfl) (by omega) _ _ _ hP hS (lv_sub hl [0, 1, 3, 4, 5, 6] rfl)
  exact loop_6 _ 0 0 cw (Nat.zero_le _) rfl rfl (Nat.lt_succ_self _) _ _ _ hP hS (lv_sub hl [0, 1, 2, 3, 4, 5] rfl)
theorem in_X8_go_b_X8 : ∀ w ∈ wsX80, w ∈ wsX8_go := fun w h => List.mem_cons_of_mem _ (List.mem_append_left _ (List.mem_append_right _ h))
theorem in_X8_go_b_X6 : ∀ w ∈ wsX60, w ∈ wsX8_go := fun w h => List.mem_cons_of_mem _ (List.mem_append_right _ h)
set_option maxHeartbeats 4000000 in
set_option maxRecDepth 100000 in
theorem k_X8_go_b (l : Launch) (dC : Nat → ClassId) (dI : Nat → Nat → Nat) (y : Nat → ClassId) (A : Nat → Prop) (a : Nat → Nat) (hA0 : ad_ok A a 34) (xK : Nat → Nat) (xV : Nat → Nat) (rn : Nat) (n : Nat) (lo : Int32) (kp : Nat) (dy : Int32) (so : Int32) (he : Int32) (kn : Nat) (ak : Nat) (pl : Nat) (im : Bool) (lo2 : Int32) (dy2 : Int32) (so2 : Int32) (he2 : Int32) (kn2 : Nat) (ma : Nat) (kd : Nat → Nat) (len : Nat → Nat) (ord : Nat → Nat) (kh : Nat → Nat) (km : Nat → Nat) (pg : Nat → Nat) (len2 : Nat → Nat) (ord2 : Nat → Nat) (kh2 : Nat → Nat) (km2 : Nat → Nat) (cw : Nat → Nat) (tl : Nat → Nat) (tO : Nat → Nat) (bO : Nat → Nat) (lf : Nat → Nat → Nat) (wo : Nat → Nat) (lx : Int32) (hn : n ≤ 6) (hord : PermOn n ord) (hlen : ∀ j, tl j ≤ 9) (hkd : ∀ j, kd j ≤ 4) (hcw : ∀ j, cw j ≤ 126) : Met l yX8_go wsX8_go ({ frames := 3, cells := 0, slots := 0, locals := 66 } : Room) (c_P (dC, dI) vwCl (TY y) (EV xK xV A) (MW y a rn n lo kp dy so he kn ak pl im lo2 dy2 so2 he2 kn2 ma kd len ord kh km pg len2 ord2 kh2 km2 cw tl tO bO lf wo) [.ref (a 20), .ref (a 22), .ref (a 12), .int (lx)]) (va_Qv (fun (u : (Nat → Nat) × Nat) => CamOk kd tl lx ord n u.1 ∧ u.2 = tmF kd tl lx ord n) (c_B (dC, dI) vwCl (TY y) (fun (u : (Nat → Nat) × Nat) => (MW y a rn n lo kp dy so he kn ak pl im lo2 dy2 so2 he2 kn2 u.2 kd len ord kh km pg len2 ord2 kh2 km2 u.1 tl tO bO lf wo))) A) 0 0 A := by
  refine Met.ofW (cc := cX8_go) (maxL := 7) (ret := none) (by decide) rfl ?_
  intro p e s m args below meth c s₁ BB hml hv
  obtain ⟨rfl, hP, hK, hE⟩ := hv
  have hx := BB.exec
  have hb := BB.bytes
  have hr := BB.returns
  have hts := atoms_spec (ws := wsX8_go) BB.pre
  have hown : s.vm.findClass RX8 = some m.cls := findClass_of_methodNamed BB.named
  have hlocks := BB.notSynchronized
  have hS : va_S A s.heap s.heap [] := va_S.rf
  have hl := lv_entry ([.ref (a 20), .ref (a 22), .ref (a 12), .int (lx)]) (n := 7) (Nat.le_of_ble_eq_true rfl)
  rw [lg_entry_eq]
  generalize (lg_sl ([.ref (a 20), .ref (a 22), .ref (a 12), .int (lx)]) ++ List.replicate (7 - (lg_sl ([.ref (a 20), .ref (a 22), .ref (a 12), .int (lx)])).length) Slot.unset).toArray = ls at hl ⊢
  have hl : lv_has ls 7 [(0, .ref (a 20)), (1, .ref (a 22)), (2, .ref (a 12)), (3, .int (lx))] := hl
  refine lv_iconst (v := nI (0)) hx hb dX8_go_0 (by decide) ?_
  refine lv_istore (lv' := [(4, .int (nI (0))), (0, .ref (a 20)), (1, .ref (a 22)), (2, .ref (a 12)), (3, .int (lx))]) hx hb dX8_go_1 hl (by decide) rfl (fun ls hl => ?_)
  refine lv_iconst (v := nI (0)) hx hb dX8_go_3 (by decide) ?_
  refine lv_istore (lv' := [(5, .int (nI (0))), (4, .int (nI (0))), (0, .ref (a 20)), (1, .ref (a 22)), (2, .ref (a 12)), (3, .int (lx))]) hx hb dX8_go_4 hl (by decide) rfl (fun ls hl => ?_)
  have loop_6 : ∀ (dd_6 : Nat) (k : Nat) (tt : Nat) (f : Nat → Nat) (hk : k ≤ n) (ht : tt = tmF kd tl lx ord k) (hf : f = gof kd tl lx ord cw k), n - k < dd_6 → ∀ (H : Heap) (locs : List Loc) (ls : Array Slot), va_P (dC, dI) vwCl (MW y a rn n lo kp dy so he kn ak pl im lo2 dy2 so2 he2 kn2 ma kd len ord kh km pg len2 ord2 kh2 km2 f tl tO bO lf wo) H → va_S A s.heap H locs → lv_has ls 7 [(5, .int (nI (k))), (4, .int (nI (tt))), (0, .ref (a 20)), (1, .ref (a 22)), (2, .ref (a 12)), (3, .int (lx))] → W p l e (headSpec wsX8_go ({ frames := 3, cells := 0, slots := 0, locals := 66 } : Room)).room s m [.ref (a 20), .ref (a 22), .ref (a 12), .int (lx)].toArray below meth c H locs 0 0 (MQ below (va_Qv (fun (u : (Nat → Nat) × Nat) => CamOk kd tl lx ord n u.1 ∧ u.2 = tmF kd tl lx ord n) (c_B (dC, dI) vwCl (TY y) (fun (u : (Nat → Nat) × Nat) => (MW y a rn n lo kp dy so he kn ak pl im lo2 dy2 so2 he2 kn2 u.2 kd len ord kh km pg len2 ord2 kh2 km2 u.1 tl tO bO lf wo))) A) [.ref (a 20), .ref (a 22), .ref (a 12), .int (lx)].toArray s 0 0 A) (F0 m 6 ls []) := by
    intro dd_6
    induction dd_6 with
    | zero => intro k tt f hk ht hf hd; exact absurd hd (Nat.not_lt_zero _)
    | succ dd_6 ih_6 =>
      intro k tt f hk ht hf hd_6 H locs ls hP hS hl
      refine lv_iload hx hb dX8_go_6 (lv_at hl 0 rfl) ?_
      refine lv_aload_n hx hb dX8_go_8 rfl (lv_at hl 2 rfl) ?_
      refine va_get (D := (dC, dI)) (ci := 8) (C := RX8) (T := TX8) (N := 3) hx hb hts in_X8_go_b_X8 hown hK hP 20 rfl rfl 0 (by decide) (hts (.fieldLink RX8 19 "MilkRound$Walk" "street" "LMilkRound$Street;") (List.mem_of_getElem? (i := 1) rfl)) (fun _ h9 => h9) rfl dX8_go_9 ?_
      refine va_get (D := (dC, dI)) (ci := 6) (C := RX6) (T := TX6) (N := 8) hx hb hts in_X8_go_b_X6 hown hK hP 3 rfl rfl 6 (by decide) (hts (.fieldLink RX8 23 "MilkRound$Street" "size" "I") (List.mem_of_getElem? (i := 2) rfl)) (fun _ h9 => h9) rfl dX8_go_12 ?_
      refine n_icmp_ge (tgt := 72) hx hb dX8_go_15 (by decide) (by omega) (by omega) (fun c_15 => ?_) (fun c_15 => ?_)
      · refine lv_aload_n hx hb dX8_go_72 rfl (lv_at hl 2 rfl) ?_
        refine lv_iload hx hb dX8_go_73 (lv_at hl 1 rfl) ?_
        refine va_put (D := (dC, dI)) (ci := 8) (ty := tyX8 2) (C := RX8) (T := TX8) (N := 3) hx hb hts in_X8_go_b_X8 tyX8 tyX8_ok nmX8 hown hK hP (ad_D hA0 rfl) hS 20 rfl rfl 2 (by decide) (hts (.fieldLink RX8 15 "MilkRound$Walk" "minutesOfAll" "I") (List.mem_of_getElem? (i := 4) rfl)) (fun _ h9 => h9) rfl (tyX8_ok 2 (by decide)) rfl rfl (Nat.le_of_ble_eq_true rfl) dX8_go_75 (fun H locs hP _ hS => ?_)
        have hP : va_P (dC, dI) vwCl (MW y a rn n lo kp dy so he kn ak pl im lo2 dy2 so2 he2 kn2 tt kd len ord kh km pg len2 ord2 kh2 km2 f tl tO bO lf wo) H := hP
        have hkn : k = n := by omega
        subst hkn
        exact c_vret hx hb hr hlocks hK hS (f, tt) hP ⟨by rw [hf]; exact gof_cam hord hn hlen hcw, ht⟩ dX8_go_78
      · have hok := hord.1 k (by omega)
        refine lv_aload_n hx hb dX8_go_18 rfl (lv_at hl 4 rfl) ?_
        refine lv_iload hx hb dX8_go_19 (lv_at hl 0 rfl) ?_
        refine n_iald hx hb hK hP 12 0 rfl rfl (by omega) (by decide) dX8_go_21 ?_
        refine lv_istore (lv' := [(6, .int (nI (ord k))), (5, .int (nI (k))), (4, .int (nI (tt))), (0, .ref (a 20)), (1, .ref (a 22)), (2, .ref (a 12)), (3, .int (lx))]) hx hb dX8_go_22 hl (by decide) rfl (fun ls hl => ?_)
        refine lv_aload_n hx hb dX8_go_24 rfl (lv_at hl 3 rfl) ?_
        refine va_get (D := (dC, dI)) (ci := 8) (C := RX8) (T := TX8) (N := 3) hx hb hts in_X8_go_b_X8 hown hK hP 20 rfl rfl 0 (by decide) (hts (.fieldLink RX8 19 "MilkRound$Walk" "street" "LMilkRound$Street;") (List.mem_of_getElem? (i := 1) rfl)) (fun _ h9 => h9) rfl dX8_go_25 ?_
        refine lv_iload hx hb dX8_go_28 (lv_at hl 0 rfl) ?_
        refine c_calli (va_runV (As := [.int (nI (ord k))]) (rest := []) ⟨hx, hb, hml, hown, hts⟩ (k_X6_has l dC dI y A a hA0 xK xV rn n lo kp dy so he kn ak pl im lo2 dy2 so2 he2 kn2 ma kd len ord kh km pg len2 ord2 kh2 km2 f tl tO bO lf wo (nI (ord k)) ) (cwV 1 hts gX8_go_X6_has rfl rfl rfl (by decide +kernel) ⟨Nat.le_of_ble_eq_true rfl, Nat.le_of_ble_eq_true rfl⟩) (c_preV (evN xK xV A) hK hE hS hP (va_recv hK hP (ci := 6) (q0 := 3) rfl rfl)) rfl rfl hl.1 rfl (lv_room (Nat.le_of_ble_eq_true rfl)) dX8_go_30 ⟨Nat.le_refl _, Nat.le_refl _⟩) hS (fun r_30 u_30 H locs hw_30 hP hS => ?_)
        obtain rfl := hw_30
        refine n_bif_eq (tgt := 66) hx hb dX8_go_33 (by decide) (fun c_33 => ?_) (fun c_33 => ?_)
        · exact absurd c_33 (by rw [isH_nat (by omega) (by omega), decide_eq_true hok]; decide)
        · refine lv_iload hx hb dX8_go_36 (lv_at hl 2 rfl) ?_
          refine lv_iconst (v := nI (1)) hx hb dX8_go_38 (by decide) ?_
          refine lv_aload_n hx hb dX8_go_39 rfl (lv_at hl 3 rfl) ?_
          refine va_get (D := (dC, dI)) (ci := 8) (C := RX8) (T := TX8) (N := 3) hx hb hts in_X8_go_b_X8 hown hK hP 20 rfl rfl 0 (by decide) (hts (.fieldLink RX8 19 "MilkRound$Walk" "street" "LMilkRound$Street;") (List.mem_of_getElem? (i := 1) rfl)) (fun _ h9 => h9) rfl dX8_go_40 ?_
          refine lv_iload hx hb dX8_go_43 (lv_at hl 0 rfl) ?_
          refine lv_aload_n hx hb dX8_go_45 rfl (lv_at hl 4 rfl) ?_
          refine lv_iload hx hb dX8_go_46 (lv_at hl 0 rfl) ?_
          refine n_iald hx hb hK hP 22 0 rfl rfl (by omega) (by decide) dX8_go_48 ?_
          refine lv_iload_n hx hb dX8_go_49 rfl (lv_at hl 6 rfl) ?_
          refine c_calli (va_runV (As := [.int (nI (ord k)), .int (nI (tl (ord k))), .int (lx)]) (rest := [.int (nI (1)), .int (nI (tt))]) ⟨hx, hb, hml, hown, hts⟩ (k_X6_reading l dC dI y A a hA0 xK xV rn n lo kp dy so he kn ak pl im lo2 dy2 so2 he2 kn2 ma kd len ord kh km pg len2 ord2 kh2 km2 f tl tO bO lf wo (ord k) (tl (ord k)) lx (by omega) (hlen _) hkd) (cwV 3 hts gX8_go_X6_reading rfl rfl rfl (by decide +kernel) ⟨Nat.le_of_ble_eq_true rfl, Nat.le_of_ble_eq_true rfl⟩) (c_preV (evN xK xV A) hK hE hS hP (va_recv hK hP (ci := 6) (q0 := 3) rfl rfl)) rfl rfl hl.1 rfl (lv_room (Nat.le_of_ble_eq_true rfl)) dX8_go_50 ⟨Nat.le_refl _, Nat.le_refl _⟩) hS (fun r_50 u_50 H locs hw_50 hP hS => ?_)
          obtain rfl := hw_50
          refine n_iadd hx hb dX8_go_53 ?_
          refine n_iadd hx hb dX8_go_54 ?_
          refine lv_istore (lv' := [(4, .int (nI ((tt) + ((1) + (rdK (kd (ord k)) (tl (ord k)) lx (ord k)))))), (6, .int (nI (ord k))), (5, .int (nI (k))), (0, .ref (a 20)), (1, .ref (a 22)), (2, .ref (a 12)), (3, .int (lx))]) hx hb dX8_go_55 hl (by decide) rfl (fun ls hl => ?_)
          refine lv_aload_n hx hb dX8_go_57 rfl (lv_at hl 3 rfl) ?_
          refine va_get (D := (dC, dI)) (ci := 8) (C := RX8) (T := TX8) (N := 3) hx hb hts in_X8_go_b_X8 hown hK hP 20 rfl rfl 1 (by decide) (hts (.fieldLink RX8 9 "MilkRound$Walk" "came" "[I") (List.mem_of_getElem? (i := 3) rfl)) (fun _ h9 => h9) rfl dX8_go_58 ?_
          refine lv_iload hx hb dX8_go_61 (lv_at hl 1 rfl) ?_
          refine lv_iload hx hb dX8_go_63 (lv_at hl 0 rfl) ?_
          refine n_iast hx hb hK hP (ad_D hA0 rfl) hS 21 0 rfl rfl (by omega) (by decide) dX8_go_65 (fun H locs hP hS => ?_)
          have hP : va_P (dC, dI) vwCl (MW y a rn n lo kp dy so he kn ak pl im lo2 dy2 so2 he2 kn2 ma kd len ord kh km pg len2 ord2 kh2 km2 (va_up f (ord k) ((tt) + ((1) + (rdK (kd (ord k)) (tl (ord k)) lx (ord k))))) tl tO bO lf wo) H := hP
          refine lv_iinc (v := nI (k + 1)) (lv' := [(5, .int (nI (k + 1))), (4, .int (nI ((tt) + ((1) + (rdK (kd (ord k)) (tl (ord k)) lx (ord k)))))), (6, .int (nI (ord k))), (0, .ref (a 20)), (1, .ref (a 22)), (2, .ref (a 12)), (3, .int (lx))]) hx hb dX8_go_66 hl (k := 2) rfl (mr_inc _) (by decide) rfl (fun ls hl => ?_)
          refine lv_goto (tgt := 6) hx hb dX8_go_69 (by decide) ?_
          exact ih_6 (k + 1) (tt + (1 + rdm kd tl lx (ord k))) (va_up f (ord k) (tt + (1 + rdm kd tl lx (ord k)))) (by omega) (by rw [ht]; rfl) (by rw [hf, ht]; rfl) (by omega) _ _ _ hP hS (lv_sub hl [0, 1, 3, 4, 5, 6] rfl)
  exact loop_6 _ 0 0 cw (Nat.zero_le _) rfl rfl (Nat.lt_succ_self _) _ _ _ hP hS (lv_sub hl [0, 1, 2, 3, 4, 5] rfl)
theorem in_X8_go_c_X8 : ∀ w ∈ wsX80, w ∈ wsX8_go := fun w h => List.mem_cons_of_mem _ (List.mem_append_left _ (List.mem_append_right _ h))
theorem in_X8_go_c_X6 : ∀ w ∈ wsX60, w ∈ wsX8_go := fun w h => List.mem_cons_of_mem _ (List.mem_append_right _ h)
set_option maxHeartbeats 4000000 in
set_option maxRecDepth 100000 in
theorem k_X8_go_c (l : Launch) (dC : Nat → ClassId) (dI : Nat → Nat → Nat) (y : Nat → ClassId) (A : Nat → Prop) (a : Nat → Nat) (hA0 : ad_ok A a 34) (xK : Nat → Nat) (xV : Nat → Nat) (rn : Nat) (n : Nat) (lo : Int32) (kp : Nat) (dy : Int32) (so : Int32) (he : Int32) (kn : Nat) (ak : Nat) (pl : Nat) (im : Bool) (lo2 : Int32) (dy2 : Int32) (so2 : Int32) (he2 : Int32) (kn2 : Nat) (ma : Nat) (kd : Nat → Nat) (len : Nat → Nat) (ord : Nat → Nat) (kh : Nat → Nat) (km : Nat → Nat) (pg : Nat → Nat) (len2 : Nat → Nat) (ord2 : Nat → Nat) (kh2 : Nat → Nat) (km2 : Nat → Nat) (cw : Nat → Nat) (tl : Nat → Nat) (tO : Nat → Nat) (bO : Nat → Nat) (lf : Nat → Nat → Nat) (wo : Nat → Nat) (lx : Int32) (hn : n ≤ 6) (hord : PermOn n tO) (hlen : ∀ j, len j ≤ 9) (hkd : ∀ j, kd j ≤ 4) (hcw : ∀ j, cw j ≤ 126) : Met l yX8_go wsX8_go ({ frames := 3, cells := 0, slots := 0, locals := 66 } : Room) (c_P (dC, dI) vwCl (TY y) (EV xK xV A) (MW y a rn n lo kp dy so he kn ak pl im lo2 dy2 so2 he2 kn2 ma kd len ord kh km pg len2 ord2 kh2 km2 cw tl tO bO lf wo) [.ref (a 20), .ref (a 11), .ref (a 23), .int (lx)]) (va_Qv (fun (u : (Nat → Nat) × Nat) => CamOk kd len lx tO n u.1 ∧ u.2 = tmF kd len lx tO n) (c_B (dC, dI) vwCl (TY y) (fun (u : (Nat → Nat) × Nat) => (MW y a rn n lo kp dy so he kn ak pl im lo2 dy2 so2 he2 kn2 u.2 kd len ord kh km pg len2 ord2 kh2 km2 u.1 tl tO bO lf wo))) A) 0 0 A := by
  refine Met.ofW (cc := cX8_go) (maxL := 7) (ret := none) (by decide) rfl ?_
  intro p e s m args below meth c s₁ BB hml hv
  obtain ⟨rfl, hP, hK, hE⟩ := hv
  have hx := BB.exec
  have hb := BB.bytes
  have hr := BB.returns
  have hts := atoms_spec (ws := wsX8_go) BB.pre
  have hown : s.vm.findClass RX8 = some m.cls := findClass_of_methodNamed BB.named
  have hlocks := BB.notSynchronized
  have hS : va_S A s.heap s.heap [] := va_S.rf
  have hl := lv_entry ([.ref (a 20), .ref (a 11), .ref (a 23), .int (lx)]) (n := 7) (Nat.le_of_ble_eq_true rfl)
  rw [lg_entry_eq]
  generalize (lg_sl ([.ref (a 20), .ref (a 11), .ref (a 23), .int (lx)]) ++ List.replicate (7 - (lg_sl ([.ref (a 20), .ref (a 11), .ref (a 23), .int (lx)])).length) Slot.unset).toArray = ls at hl ⊢
  have hl : lv_has ls 7 [(0, .ref (a 20)), (1, .ref (a 11)), (2, .ref (a 23)), (3, .int (lx))] := hl
  refine lv_iconst (v := nI (0)) hx hb dX8_go_0 (by decide) ?_
  refine lv_istore (lv' := [(4, .int (nI (0))), (0, .ref (a 20)), (1, .ref (a 11)), (2, .ref (a 23)), (3, .int (lx))]) hx hb dX8_go_1 hl (by decide) rfl (fun ls hl => ?_)
  refine lv_iconst (v := nI (0)) hx hb dX8_go_3 (by decide) ?_
  refine lv_istore (lv' := [(5, .int (nI (0))), (4, .int (nI (0))), (0, .ref (a 20)), (1, .ref (a 11)), (2, .ref (a 23)), (3, .int (lx))]) hx hb dX8_go_4 hl (by decide) rfl (fun ls hl => ?_)
  have loop_6 : ∀ (dd_6 : Nat) (k : Nat) (tt : Nat) (f : Nat → Nat) (hk : k ≤ n) (ht : tt = tmF kd len lx tO k) (hf : f = gof kd len lx tO cw k), n - k < dd_6 → ∀ (H : Heap) (locs : List Loc) (ls : Array Slot), va_P (dC, dI) vwCl (MW y a rn n lo kp dy so he kn ak pl im lo2 dy2 so2 he2 kn2 ma kd len ord kh km pg len2 ord2 kh2 km2 f tl tO bO lf wo) H → va_S A s.heap H locs → lv_has ls 7 [(5, .int (nI (k))), (4, .int (nI (tt))), (0, .ref (a 20)), (1, .ref (a 11)), (2, .ref (a 23)), (3, .int (lx))] → W p l e (headSpec wsX8_go ({ frames := 3, cells := 0, slots := 0, locals := 66 } : Room)).room s m [.ref (a 20), .ref (a 11), .ref (a 23), .int (lx)].toArray below meth c H locs 0 0 (MQ below (va_Qv (fun (u : (Nat → Nat) × Nat) => CamOk kd len lx tO n u.1 ∧ u.2 = tmF kd len lx tO n) (c_B (dC, dI) vwCl (TY y) (fun (u : (Nat → Nat) × Nat) => (MW y a rn n lo kp dy so he kn ak pl im lo2 dy2 so2 he2 kn2 u.2 kd len ord kh km pg len2 ord2 kh2 km2 u.1 tl tO bO lf wo))) A) [.ref (a 20), .ref (a 11), .ref (a 23), .int (lx)].toArray s 0 0 A) (F0 m 6 ls []) := by
    intro dd_6
    induction dd_6 with
    | zero => intro k tt f hk ht hf hd; exact absurd hd (Nat.not_lt_zero _)
    | succ dd_6 ih_6 =>
      intro k tt f hk ht hf hd_6 H locs ls hP hS hl
      refine lv_iload hx hb dX8_go_6 (lv_at hl 0 rfl) ?_
      refine lv_aload_n hx hb dX8_go_8 rfl (lv_at hl 2 rfl) ?_
      refine va_get (D := (dC, dI)) (ci := 8) (C := RX8) (T := TX8) (N := 3) hx hb hts in_X8_go_c_X8 hown hK hP 20 rfl rfl 0 (by decide) (hts (.fieldLink RX8 19 "MilkRound$Walk" "street" "LMilkRound$Street;") (List.mem_of_getElem? (i := 1) rfl)) (fun _ h9 => h9) rfl dX8_go_9 ?_
      refine va_get (D := (dC, dI)) (ci := 6) (C := RX6) (T := TX6) (N := 8) hx hb hts in_X8_go_c_X6 hown hK hP 3 rfl rfl 6 (by decide) (hts (.fieldLink RX8 23 "MilkRound$Street" "size" "I") (List.mem_of_getElem? (i := 2) rfl)) (fun _ h9 => h9) rfl dX8_go_12 ?_
      refine n_icmp_ge (tgt := 72) hx hb dX8_go_15 (by decide) (by omega) (by omega) (fun c_15 => ?_) (fun c_15 => ?_)
      · refine lv_aload_n hx hb dX8_go_72 rfl (lv_at hl 2 rfl) ?_
        refine lv_iload hx hb dX8_go_73 (lv_at hl 1 rfl) ?_
        refine va_put (D := (dC, dI)) (ci := 8) (ty := tyX8 2) (C := RX8) (T := TX8) (N := 3) hx hb hts in_X8_go_c_X8 tyX8 tyX8_ok nmX8 hown hK hP (ad_D hA0 rfl) hS 20 rfl rfl 2 (by decide) (hts (.fieldLink RX8 15 "MilkRound$Walk" "minutesOfAll" "I") (List.mem_of_getElem? (i := 4) rfl)) (fun _ h9 => h9) rfl (tyX8_ok 2 (by decide)) rfl rfl (Nat.le_of_ble_eq_true rfl) dX8_go_75 (fun H locs hP _ hS => ?_)
        have hP : va_P (dC, dI) vwCl (MW y a rn n lo kp dy so he kn ak pl im lo2 dy2 so2 he2 kn2 tt kd len ord kh km pg len2 ord2 kh2 km2 f tl tO bO lf wo) H := hP
        have hkn : k = n := by omega
        subst hkn
        exact c_vret hx hb hr hlocks hK hS (f, tt) hP ⟨by rw [hf]; exact gof_cam hord hn hlen hcw, ht⟩ dX8_go_78
      · have hok := hord.1 k (by omega)
        refine lv_aload_n hx hb dX8_go_18 rfl (lv_at hl 4 rfl) ?_
        refine lv_iload hx hb dX8_go_19 (lv_at hl 0 rfl) ?_
        refine n_iald hx hb hK hP 23 0 rfl rfl (by omega) (by decide) dX8_go_21 ?_
        refine lv_istore (lv' := [(6, .int (nI (tO k))), (5, .int (nI (k))), (4, .int (nI (tt))), (0, .ref (a 20)), (1, .ref (a 11)), (2, .ref (a 23)), (3, .int (lx))]) hx hb dX8_go_22 hl (by decide) rfl (fun ls hl => ?_)
        refine lv_aload_n hx hb dX8_go_24 rfl (lv_at hl 3 rfl) ?_
        refine va_get (D := (dC, dI)) (ci := 8) (C := RX8) (T := TX8) (N := 3) hx hb hts in_X8_go_c_X8 hown hK hP 20 rfl rfl 0 (by decide) (hts (.fieldLink RX8 19 "MilkRound$Walk" "street" "LMilkRound$Street;") (List.mem_of_getElem? (i := 1) rfl)) (fun _ h9 => h9) rfl dX8_go_25 ?_
        refine lv_iload hx hb dX8_go_28 (lv_at hl 0 rfl) ?_
        refine c_calli (va_runV (As := [.int (nI (tO k))]) (rest := []) ⟨hx, hb, hml, hown, hts⟩ (k_X6_has l dC dI y A a hA0 xK xV rn n lo kp dy so he kn ak pl im lo2 dy2 so2 he2 kn2 ma kd len ord kh km pg len2 ord2 kh2 km2 f tl tO bO lf wo (nI (tO k)) ) (cwV 1 hts gX8_go_X6_has rfl rfl rfl (by decide +kernel) ⟨Nat.le_of_ble_eq_true rfl, Nat.le_of_ble_eq_true rfl⟩) (c_preV (evN xK xV A) hK hE hS hP (va_recv hK hP (ci := 6) (q0 := 3) rfl rfl)) rfl rfl hl.1 rfl (lv_room (Nat.le_of_ble_eq_true rfl)) dX8_go_30 ⟨Nat.le_refl _, Nat.le_refl _⟩) hS (fun r_30 u_30 H locs hw_30 hP hS => ?_)
        obtain rfl := hw_30
        refine n_bif_eq (tgt := 66) hx hb dX8_go_33 (by decide) (fun c_33 => ?_) (fun c_33 => ?_)
        · exact absurd c_33 (by rw [isH_nat (by omega) (by omega), decide_eq_true hok]; decide)
        · refine lv_iload hx hb dX8_go_36 (lv_at hl 2 rfl) ?_
          refine lv_iconst (v := nI (1)) hx hb dX8_go_38 (by decide) ?_
          refine lv_aload_n hx hb dX8_go_39 rfl (lv_at hl 3 rfl) ?_
          refine va_get (D := (dC, dI)) (ci := 8) (C := RX8) (T := TX8) (N := 3) hx hb hts in_X8_go_c_X8 hown hK hP 20 rfl rfl 0 (by decide) (hts (.fieldLink RX8 19 "MilkRound$Walk" "street" "LMilkRound$Street;") (List.mem_of_getElem? (i := 1) rfl)) (fun _ h9 => h9) rfl dX8_go_40 ?_
          refine lv_iload hx hb dX8_go_43 (lv_at hl 0 rfl) ?_
          refine lv_aload_n hx hb dX8_go_45 rfl (lv_at hl 4 rfl) ?_
          refine lv_iload hx hb dX8_go_46 (lv_at hl 0 rfl) ?_
          refine n_iald hx hb hK hP 11 0 rfl rfl (by omega) (by decide) dX8_go_48 ?_
          refine lv_iload_n hx hb dX8_go_49 rfl (lv_at hl 6 rfl) ?_
          refine c_calli (va_runV (As := [.int (nI (tO k)), .int (nI (len (tO k))), .int (lx)]) (rest := [.int (nI (1)), .int (nI (tt))]) ⟨hx, hb, hml, hown, hts⟩ (k_X6_reading l dC dI y A a hA0 xK xV rn n lo kp dy so he kn ak pl im lo2 dy2 so2 he2 kn2 ma kd len ord kh km pg len2 ord2 kh2 km2 f tl tO bO lf wo (tO k) (len (tO k)) lx (by omega) (hlen _) hkd) (cwV 3 hts gX8_go_X6_reading rfl rfl rfl (by decide +kernel) ⟨Nat.le_of_ble_eq_true rfl, Nat.le_of_ble_eq_true rfl⟩) (c_preV (evN xK xV A) hK hE hS hP (va_recv hK hP (ci := 6) (q0 := 3) rfl rfl)) rfl rfl hl.1 rfl (lv_room (Nat.le_of_ble_eq_true rfl)) dX8_go_50 ⟨Nat.le_refl _, Nat.le_refl _⟩) hS (fun r_50 u_50 H locs hw_50 hP hS => ?_)
          obtain rfl := hw_50
          refine n_iadd hx hb dX8_go_53 ?_
          refine n_iadd hx hb dX8_go_54 ?_
          refine lv_istore (lv' := [(4, .int (nI ((tt) + ((1) + (rdK (kd (tO k)) (len (tO k)) lx (tO k)))))), (6, .int (nI (tO k))), (5, .int (nI (k))), (0, .ref (a 20)), (1, .ref (a 11)), (2, .ref (a 23)), (3, .int (lx))]) hx hb dX8_go_55 hl (by decide) rfl (fun ls hl => ?_)
          refine lv_aload_n hx hb dX8_go_57 rfl (lv_at hl 3 rfl) ?_
          refine va_get (D := (dC, dI)) (ci := 8) (C := RX8) (T := TX8) (N := 3) hx hb hts in_X8_go_c_X8 hown hK hP 20 rfl rfl 1 (by decide) (hts (.fieldLink RX8 9 "MilkRound$Walk" "came" "[I") (List.mem_of_getElem? (i := 3) rfl)) (fun _ h9 => h9) rfl dX8_go_58 ?_
          refine lv_iload hx hb dX8_go_61 (lv_at hl 1 rfl) ?_
          refine lv_iload hx hb dX8_go_63 (lv_at hl 0 rfl) ?_
          refine n_iast hx hb hK hP (ad_D hA0 rfl) hS 21 0 rfl rfl (by omega) (by decide) dX8_go_65 (fun H locs hP hS => ?_)
          have hP : va_P (dC, dI) vwCl (MW y a rn n lo kp dy so he kn ak pl im lo2 dy2 so2 he2 kn2 ma kd len ord kh km pg len2 ord2 kh2 km2 (va_up f (tO k) ((tt) + ((1) + (rdK (kd (tO k)) (len (tO k)) lx (tO k))))) tl tO bO lf wo) H := hP
          refine lv_iinc (v := nI (k + 1)) (lv' := [(5, .int (nI (k + 1))), (4, .int (nI ((tt) + ((1) + (rdK (kd (tO k)) (len (tO k)) lx (tO k)))))), (6, .int (nI (tO k))), (0, .ref (a 20)), (1, .ref (a 11)), (2, .ref (a 23)), (3, .int (lx))]) hx hb dX8_go_66 hl (k := 2) rfl (mr_inc _) (by decide) rfl (fun ls hl => ?_)
          refine lv_goto (tgt := 6) hx hb dX8_go_69 (by decide) ?_
          exact ih_6 (k + 1) (tt + (1 + rdm kd len lx (tO k))) (va_up f (tO k) (tt + (1 + rdm kd len lx (tO k)))) (by omega) (by rw [ht]; rfl) (by rw [hf, ht]; rfl) (by omega) _ _ _ hP hS (lv_sub hl [0, 1, 3, 4, 5, 6] rfl)
  exact loop_6 _ 0 0 cw (Nat.zero_le _) rfl rfl (Nat.lt_succ_self _) _ _ _ hP hS (lv_sub hl [0, 1, 2, 3, 4, 5] rfl)
theorem in_X8_isSour_X8 : ∀ w ∈ wsX80, w ∈ wsX8_isSour := fun w h => List.mem_cons_of_mem _ (List.mem_append_left _ (List.mem_append_right _ h))
theorem in_X8_isSour_X6 : ∀ w ∈ wsX60, w ∈ wsX8_isSour := fun w h => List.mem_cons_of_mem _ (List.mem_append_right _ h)
set_option maxHeartbeats 4000000 in
set_option maxRecDepth 100000 in
theorem k_X8_isSour (l : Launch) (dC : Nat → ClassId) (dI : Nat → Nat → Nat) (y : Nat → ClassId) (A : Nat → Prop) (a : Nat → Nat) (hA0 : ad_ok A a 34) (xK : Nat → Nat) (xV : Nat → Nat) (rn : Nat) (n : Nat) (lo : Int32) (kp : Nat) (dy : Int32) (so : Int32) (he : Int32) (kn : Nat) (ak : Nat) (pl : Nat) (im : Bool) (lo2 : Int32) (dy2 : Int32) (so2 : Int32) (he2 : Int32) (kn2 : Nat) (ma : Nat) (kd : Nat → Nat) (len : Nat → Nat) (ord : Nat → Nat) (kh : Nat → Nat) (km : Nat → Nat) (pg : Nat → Nat) (len2 : Nat → Nat) (ord2 : Nat → Nat) (kh2 : Nat → Nat) (km2 : Nat → Nat) (cw : Nat → Nat) (tl : Nat → Nat) (tO : Nat → Nat) (bO : Nat → Nat) (lf : Nat → Nat → Nat) (wo : Nat → Nat) (h : Nat) (hh : h < 6) (hkp : kp ≤ 9) (hcw : ∀ j, cw j ≤ 126) (hkd : ∀ j, kd j ≤ 4) : Met l yX8_isSour wsX8_isSour ({ frames := 1, cells := 0, slots := 0, locals := 20 } : Room) (c_P (dC, dI) vwCl (TY y) (EV xK xV A) (MW y a rn n lo kp dy so he kn ak pl im lo2 dy2 so2 he2 kn2 ma kd len ord kh km pg len2 ord2 kh2 km2 cw tl tO bO lf wo) [.ref (a 20), .int (nI (h))]) (va_Qi (fun (r : Int32) (u : Unit) => r = bI (sourB kd kp cw h)) (c_B (dC, dI) vwCl (TY y) (fun (u : Unit) => (MW y a rn n lo kp dy so he kn ak pl im lo2 dy2 so2 he2 kn2 ma kd len ord kh km pg len2 ord2 kh2 km2 cw tl tO bO lf wo))) A) 0 0 A := by
  refine Met.ofW (cc := cX8_isSour) (maxL := 2) (ret := (some .boolean)) (by decide) rfl ?_
  intro p e s m args below meth c s₁ BB hml hv
  obtain ⟨rfl, hP, hK, hE⟩ := hv
  have hx := BB.exec
  have hb := BB.bytes
  have hr := BB.returns
  have hts := atoms_spec (ws := wsX8_isSour) BB.pre
  have hown : s.vm.findClass RX8 = some m.cls := findClass_of_methodNamed BB.named
  have hlocks := BB.notSynchronized
  have hS : va_S A s.heap s.heap [] := va_S.rf
  have hl := lv_entry ([.ref (a 20), .int (nI (h))]) (n := 2) (Nat.le_of_ble_eq_true rfl)
  rw [lg_entry_eq]
  generalize (lg_sl ([.ref (a 20), .int (nI (h))]) ++ List.replicate (2 - (lg_sl ([.ref (a 20), .int (nI (h))])).length) Slot.unset).toArray = ls at hl ⊢
  have hl : lv_has ls 2 [(0, .ref (a 20)), (1, .int (nI (h)))] := hl
  have hkh := hkd h
  refine lv_aload_n hx hb dX8_isSour_0 rfl (lv_at hl 0 rfl) ?_
  refine va_get (D := (dC, dI)) (ci := 8) (C := RX8) (T := TX8) (N := 3) hx hb hts in_X8_isSour_X8 hown hK hP 20 rfl rfl 1 (by decide) (hts (.fieldLink RX8 9 "MilkRound$Walk" "came" "[I") (List.mem_of_getElem? (i := 1) rfl)) (fun _ h9 => h9) rfl dX8_isSour_1 ?_
  refine lv_iload_n hx hb dX8_isSour_4 rfl (lv_at hl 1 rfl) ?_
  refine n_iald hx hb hK hP 21 0 rfl rfl (by omega) (by decide) dX8_isSour_5 ?_
  have hb_5 := hcw h
  refine lv_aload_n hx hb dX8_isSour_6 rfl (lv_at hl 0 rfl) ?_
  refine va_get (D := (dC, dI)) (ci := 8) (C := RX8) (T := TX8) (N := 3) hx hb hts in_X8_isSour_X8 hown hK hP 20 rfl rfl 0 (by decide) (hts (.fieldLink RX8 19 "MilkRound$Walk" "street" "LMilkRound$Street;") (List.mem_of_getElem? (i := 2) rfl)) (fun _ h9 => h9) rfl dX8_isSour_7 ?_
  refine va_get (D := (dC, dI)) (ci := 6) (C := RX6) (T := TX6) (N := 8) hx hb hts in_X8_isSour_X6 hown hK hP 3 rfl rfl 5 (by decide) (hts (.fieldLink RX8 36 "MilkRound$Street" "houses" "[LMilkRound$House;") (List.mem_of_getElem? (i := 3) rfl)) (fun _ h9 => h9) rfl dX8_isSour_10 ?_
  refine lv_iload_n hx hb dX8_isSour_13 rfl (lv_at hl 1 rfl) ?_
  refine n_aldr hx hb hK hP 9 3 rfl rfl (by omega) (by decide) rfl dX8_isSour_14 ?_
  rcases (show kd h = 0 ∨ kd h = 1 ∨ kd h = 2 ∨ kd h = 3 ∨ kd h = 4 by omega) with ek_15 | ek_15 | ek_15 | ek_15 | ek_15
  · refine n_topr (z := a (4 + 0)) (by rw [ek_15]) ?_
    refine c_calli (va_runV (As := []) (rest := [.int (nI (cw h))]) ⟨hx, hb, hml, hown, hts⟩ (k_X3_timesKeep l dC dI y A (MW y a rn n lo kp dy so he kn ak pl im lo2 dy2 so2 he2 kn2 ma kd len ord kh km pg len2 ord2 kh2 km2 cw tl tO bO lf wo) (EV xK xV A) (a (4 + 0)) ) (cwV 0 hts gX8_isSour_X3_timesKeep rfl rfl rfl (by decide +kernel) ⟨Nat.le_of_ble_eq_true rfl, Nat.le_of_ble_eq_true rfl⟩) (c_preV (evN xK xV A) hK hE hS hP (va_recv hK hP (ci := 3) (q0 := 4) rfl rfl)) rfl rfl hl.1 rfl (lv_room (Nat.le_of_ble_eq_true rfl)) dX8_isSour_15 ⟨Nat.le_refl _, Nat.le_refl _⟩) hS (fun r_15 u_15 H locs hw_15 hP hS => ?_)
    obtain rfl := hw_15
    refine lv_aload_n hx hb dX8_isSour_18 rfl (lv_at hl 0 rfl) ?_
    refine va_get (D := (dC, dI)) (ci := 8) (C := RX8) (T := TX8) (N := 3) hx hb hts in_X8_isSour_X8 hown hK hP 20 rfl rfl 0 (by decide) (hts (.fieldLink RX8 19 "MilkRound$Walk" "street" "LMilkRound$Street;") (List.mem_of_getElem? (i := 2) rfl)) (fun _ h9 => h9) rfl dX8_isSour_19 ?_
    refine va_get (D := (dC, dI)) (ci := 6) (C := RX6) (T := TX6) (N := 8) hx hb hts in_X8_isSour_X6 hown hK hP 3 rfl rfl 7 (by decide) (hts (.fieldLink RX8 46 "MilkRound$Street" "keep" "I") (List.mem_of_getElem? (i := 4) rfl)) (fun _ h9 => h9) rfl dX8_isSour_22 ?_
    refine n_imul hx hb dX8_isSour_25 ?_
    refine n_icmp_le (tgt := 33) hx hb dX8_isSour_26 (by decide) (by omega) (by omega) (fun c_26 => ?_) (fun c_26 => ?_)
    · refine lv_iconst (v := nI (0)) hx hb dX8_isSour_33 (by decide) ?_
      exact c_zret hx hb hr hlocks hK hS () rfl hP (bI_0 (by unfold sourB; rw [show tkF (kd h) = 4 by rw [ek_15]; rfl]; exact decide_eq_false (by omega))) dX8_isSour_34
    · refine lv_iconst (v := nI (1)) hx hb dX8_isSour_29 (by decide) ?_
      refine lv_goto (tgt := 34) hx hb dX8_isSour_30 (by decide) ?_
      exact c_zret hx hb hr hlocks hK hS () rfl hP (bI_1 (by unfold sourB; rw [show tkF (kd h) = 4 by rw [ek_15]; rfl]; exact decide_eq_true (by omega))) dX8_isSour_34
  · refine n_topr (z := a (4 + 1)) (by rw [ek_15]) ?_
    refine c_calli (va_runU (As := []) (rest := [.int (nI (cw h))]) ⟨hx, hb, hml, hown, hts⟩ (k_X3_timesKeep l dC dI y A (MW y a rn n lo kp dy so he kn ak pl im lo2 dy2 so2 he2 kn2 ma kd len ord kh km pg len2 ord2 kh2 km2 cw tl tO bO lf wo) (EV xK xV A) (a (4 + 1)) ) (va_cwU 0 hts gX8_isSour_X3_timesKeep_u40X5 rfl rfl rfl rfl (by decide +kernel) ⟨Nat.le_of_ble_eq_true rfl, Nat.le_of_ble_eq_true rfl⟩) (c_preV (evN xK xV A) hK hE hS hP (va_recv hK hP (ci := 5) (q0 := 5) rfl rfl)) rfl rfl hl.1 rfl (lv_room (Nat.le_of_ble_eq_true rfl)) dX8_isSour_15 ⟨Nat.le_refl _, Nat.le_refl _⟩) hS (fun r_15 u_15 H locs hw_15 hP hS => ?_)
    obtain rfl := hw_15
    refine lv_aload_n hx hb dX8_isSour_18 rfl (lv_at hl 0 rfl) ?_
    refine va_get (D := (dC, dI)) (ci := 8) (C := RX8) (T := TX8) (N := 3) hx hb hts in_X8_isSour_X8 hown hK hP 20 rfl rfl 0 (by decide) (hts (.fieldLink RX8 19 "MilkRound$Walk" "street" "LMilkRound$Street;") (List.mem_of_getElem? (i := 2) rfl)) (fun _ h9 => h9) rfl dX8_isSour_19 ?_
    refine va_get (D := (dC, dI)) (ci := 6) (C := RX6) (T := TX6) (N := 8) hx hb hts in_X8_isSour_X6 hown hK hP 3 rfl rfl 7 (by decide) (hts (.fieldLink RX8 46 "MilkRound$Street" "keep" "I") (List.mem_of_getElem? (i := 4) rfl)) (fun _ h9 => h9) rfl dX8_isSour_22 ?_
    refine n_imul hx hb dX8_isSour_25 ?_
    refine n_icmp_le (tgt := 33) hx hb dX8_isSour_26 (by decide) (by omega) (by omega) (fun c_26 => ?_) (fun c_26 => ?_)
    · refine lv_iconst (v := nI (0)) hx hb dX8_isSour_33 (by decide) ?_
      exact c_zret hx hb hr hlocks hK hS () rfl hP (bI_0 (by unfold sourB; rw [show tkF (kd h) = 4 by rw [ek_15]; rfl]; exact decide_eq_false (by omega))) dX8_isSour_34
    · refine lv_iconst (v := nI (1)) hx hb dX8_isSour_29 (by decide) ?_
      refine lv_goto (tgt := 34) hx hb dX8_isSour_30 (by decide) ?_
      exact c_zret hx hb hr hlocks hK hS () rfl hP (bI_1 (by unfold sourB; rw [show tkF (kd h) = 4 by rw [ek_15]; rfl]; exact decide_eq_true (by omega))) dX8_isSour_34
  · refine n_topr (z := a (4 + 2)) (by rw [ek_15]) ?_
    refine c_calli (va_runU (As := []) (rest := [.int (nI (cw h))]) ⟨hx, hb, hml, hown, hts⟩ (k_X0_timesKeep l dC dI y A (MW y a rn n lo kp dy so he kn ak pl im lo2 dy2 so2 he2 kn2 ma kd len ord kh km pg len2 ord2 kh2 km2 cw tl tO bO lf wo) (EV xK xV A) (a (4 + 2)) ) (va_cwO 0 hts gX8_isSour_X0_timesKeep_u40X0 rfl rfl rfl (List.mem_of_getElem? (i := 12) rfl) (by decide +kernel) ⟨Nat.le_of_ble_eq_true rfl, Nat.le_of_ble_eq_true rfl⟩) (c_preV (evN xK xV A) hK hE hS hP (va_recv hK hP (ci := 0) (q0 := 6) rfl rfl)) rfl rfl hl.1 rfl (lv_room (Nat.le_of_ble_eq_true rfl)) dX8_isSour_15 ⟨Nat.le_refl _, Nat.le_refl _⟩) hS (fun r_15 u_15 H locs hw_15 hP hS => ?_)
    obtain rfl := hw_15
    refine lv_aload_n hx hb dX8_isSour_18 rfl (lv_at hl 0 rfl) ?_
    refine va_get (D := (dC, dI)) (ci := 8) (C := RX8) (T := TX8) (N := 3) hx hb hts in_X8_isSour_X8 hown hK hP 20 rfl rfl 0 (by decide) (hts (.fieldLink RX8 19 "MilkRound$Walk" "street" "LMilkRound$Street;") (List.mem_of_getElem? (i := 2) rfl)) (fun _ h9 => h9) rfl dX8_isSour_19 ?_
    refine va_get (D := (dC, dI)) (ci := 6) (C := RX6) (T := TX6) (N := 8) hx hb hts in_X8_isSour_X6 hown hK hP 3 rfl rfl 7 (by decide) (hts (.fieldLink RX8 46 "MilkRound$Street" "keep" "I") (List.mem_of_getElem? (i := 4) rfl)) (fun _ h9 => h9) rfl dX8_isSour_22 ?_
    refine n_imul hx hb dX8_isSour_25 ?_
    refine n_icmp_le (tgt := 33) hx hb dX8_isSour_26 (by decide) (by omega) (by omega) (fun c_26 => ?_) (fun c_26 => ?_)
    · refine lv_iconst (v := nI (0)) hx hb dX8_isSour_33 (by decide) ?_
      exact c_zret hx hb hr hlocks hK hS () rfl hP (bI_0 (by unfold sourB; rw [show tkF (kd h) = 2 by rw [ek_15]; rfl]; exact decide_eq_false (by omega))) dX8_isSour_34
    · refine lv_iconst (v := nI (1)) hx hb dX8_isSour_29 (by decide) ?_
      refine lv_goto (tgt := 34) hx hb dX8_isSour_30 (by decide) ?_
      exact c_zret hx hb hr hlocks hK hS () rfl hP (bI_1 (by unfold sourB; rw [show tkF (kd h) = 2 by rw [ek_15]; rfl]; exact decide_eq_true (by omega))) dX8_isSour_34
  · refine n_topr (z := a (4 + 3)) (by rw [ek_15]) ?_
    refine c_calli (va_runU (As := []) (rest := [.int (nI (cw h))]) ⟨hx, hb, hml, hown, hts⟩ (k_X3_timesKeep l dC dI y A (MW y a rn n lo kp dy so he kn ak pl im lo2 dy2 so2 he2 kn2 ma kd len ord kh km pg len2 ord2 kh2 km2 cw tl tO bO lf wo) (EV xK xV A) (a (4 + 3)) ) (va_cwU 0 hts gX8_isSour_X3_timesKeep_u40X1 rfl rfl rfl rfl (by decide +kernel) ⟨Nat.le_of_ble_eq_true rfl, Nat.le_of_ble_eq_true rfl⟩) (c_preV (evN xK xV A) hK hE hS hP (va_recv hK hP (ci := 1) (q0 := 7) rfl rfl)) rfl rfl hl.1 rfl (lv_room (Nat.le_of_ble_eq_true rfl)) dX8_isSour_15 ⟨Nat.le_refl _, Nat.le_refl _⟩) hS (fun r_15 u_15 H locs hw_15 hP hS => ?_)
    obtain rfl := hw_15
    refine lv_aload_n hx hb dX8_isSour_18 rfl (lv_at hl 0 rfl) ?_
    refine va_get (D := (dC, dI)) (ci := 8) (C := RX8) (T := TX8) (N := 3) hx hb hts in_X8_isSour_X8 hown hK hP 20 rfl rfl 0 (by decide) (hts (.fieldLink RX8 19 "MilkRound$Walk" "street" "LMilkRound$Street;") (List.mem_of_getElem? (i := 2) rfl)) (fun _ h9 => h9) rfl dX8_isSour_19 ?_
    refine va_get (D := (dC, dI)) (ci := 6) (C := RX6) (T := TX6) (N := 8) hx hb hts in_X8_isSour_X6 hown hK hP 3 rfl rfl 7 (by decide) (hts (.fieldLink RX8 46 "MilkRound$Street" "keep" "I") (List.mem_of_getElem? (i := 4) rfl)) (fun _ h9 => h9) rfl dX8_isSour_22 ?_
    refine n_imul hx hb dX8_isSour_25 ?_
    refine n_icmp_le (tgt := 33) hx hb dX8_isSour_26 (by decide) (by omega) (by omega) (fun c_26 => ?_) (fun c_26 => ?_)
    · refine lv_iconst (v := nI (0)) hx hb dX8_isSour_33 (by decide) ?_
      exact c_zret hx hb hr hlocks hK hS () rfl hP (bI_0 (by unfold sourB; rw [show tkF (kd h) = 4 by rw [ek_15]; rfl]; exact decide_eq_false (by omega))) dX8_isSour_34
    · refine lv_iconst (v := nI (1)) hx hb dX8_isSour_29 (by decide) ?_
      refine lv_goto (tgt := 34) hx hb dX8_isSour_30 (by decide) ?_
      exact c_zret hx hb hr hlocks hK hS () rfl hP (bI_1 (by unfold sourB; rw [show tkF (kd h) = 4 by rw [ek_15]; rfl]; exact decide_eq_true (by omega))) dX8_isSour_34
  · refine n_topr (z := a (4 + 4)) (by rw [ek_15]) ?_
    refine c_calli (va_runU (As := []) (rest := [.int (nI (cw h))]) ⟨hx, hb, hml, hown, hts⟩ (k_X3_timesKeep l dC dI y A (MW y a rn n lo kp dy so he kn ak pl im lo2 dy2 so2 he2 kn2 ma kd len ord kh km pg len2 ord2 kh2 km2 cw tl tO bO lf wo) (EV xK xV A) (a (4 + 4)) ) (va_cwU 0 hts gX8_isSour_X3_timesKeep_u40X9 rfl rfl rfl rfl (by decide +kernel) ⟨Nat.le_of_ble_eq_true rfl, Nat.le_of_ble_eq_true rfl⟩) (c_preV (evN xK xV A) hK hE hS hP (va_recv hK hP (ci := 9) (q0 := 8) rfl rfl)) rfl rfl hl.1 rfl (lv_room (Nat.le_of_ble_eq_true rfl)) dX8_isSour_15 ⟨Nat.le_refl _, Nat.le_refl _⟩) hS (fun r_15 u_15 H locs hw_15 hP hS => ?_)
    obtain rfl := hw_15
    refine lv_aload_n hx hb dX8_isSour_18 rfl (lv_at hl 0 rfl) ?_
    refine va_get (D := (dC, dI)) (ci := 8) (C := RX8) (T := TX8) (N := 3) hx hb hts in_X8_isSour_X8 hown hK hP 20 rfl rfl 0 (by decide) (hts (.fieldLink RX8 19 "MilkRound$Walk" "street" "LMilkRound$Street;") (List.mem_of_getElem? (i := 2) rfl)) (fun _ h9 => h9) rfl dX8_isSour_19 ?_
    refine va_get (D := (dC, dI)) (ci := 6) (C := RX6) (T := TX6) (N := 8) hx hb hts in_X8_isSour_X6 hown hK hP 3 rfl rfl 7 (by decide) (hts (.fieldLink RX8 46 "MilkRound$Street" "keep" "I") (List.mem_of_getElem? (i := 4) rfl)) (fun _ h9 => h9) rfl dX8_isSour_22 ?_
    refine n_imul hx hb dX8_isSour_25 ?_
    refine n_icmp_le (tgt := 33) hx hb dX8_isSour_26 (by decide) (by omega) (by omega) (fun c_26 => ?_) (fun c_26 => ?_)
    · refine lv_iconst (v := nI (0)) hx hb dX8_isSour_33 (by decide) ?_
      exact c_zret hx hb hr hlocks hK hS () rfl hP (bI_0 (by unfold sourB; rw [show tkF (kd h) = 4 by rw [ek_15]; rfl]; exact decide_eq_false (by omega))) dX8_isSour_34
    · refine lv_iconst (v := nI (1)) hx hb dX8_isSour_29 (by decide) ?_
      refine lv_goto (tgt := 34) hx hb dX8_isSour_30 (by decide) ?_
      exact c_zret hx hb hr hlocks hK hS () rfl hP (bI_1 (by unfold sourB; rw [show tkF (kd h) = 4 by rw [ek_15]; rfl]; exact decide_eq_true (by omega))) dX8_isSour_34
theorem in_X8_isAhead_X8 : ∀ w ∈ wsX80, w ∈ wsX8_isAhead := fun w h => List.mem_cons_of_mem _ (List.mem_append_left _ (List.mem_append_right _ h))
theorem in_X8_isAhead_X6 : ∀ w ∈ wsX60, w ∈ wsX8_isAhead := fun w h => List.mem_cons_of_mem _ (List.mem_append_right _ h)
set_option maxHeartbeats 4000000 in
set_option maxRecDepth 100000 in
theorem k_X8_isAhead (l : Launch) (dC : Nat → ClassId) (dI : Nat → Nat → Nat) (y : Nat → ClassId) (A : Nat → Prop) (a : Nat → Nat) (hA0 : ad_ok A a 34) (xK : Nat → Nat) (xV : Nat → Nat) (rn : Nat) (n : Nat) (lo : Int32) (kp : Nat) (dy : Int32) (so : Int32) (he : Int32) (kn : Nat) (ak : Nat) (pl : Nat) (im : Bool) (lo2 : Int32) (dy2 : Int32) (so2 : Int32) (he2 : Int32) (kn2 : Nat) (ma : Nat) (kd : Nat → Nat) (len : Nat → Nat) (ord : Nat → Nat) (kh : Nat → Nat) (km : Nat → Nat) (pg : Nat → Nat) (len2 : Nat → Nat) (ord2 : Nat → Nat) (kh2 : Nat → Nat) (km2 : Nat → Nat) (cw : Nat → Nat) (tl : Nat → Nat) (tO : Nat → Nat) (bO : Nat → Nat) (lf : Nat → Nat → Nat) (wo : Nat → Nat) (o : Int32) (h : Nat) (hh : h < 6) (hn : n ≤ 6) (hcw : ∀ j, cw j ≤ 126) : Met l yX8_isAhead wsX8_isAhead ({ frames := 0, cells := 0, slots := 0, locals := 0 } : Room) (c_P (dC, dI) vwCl (TY y) (EV xK xV A) (MW y a rn n lo kp dy so he kn ak pl im lo2 dy2 so2 he2 kn2 ma kd len ord kh km pg len2 ord2 kh2 km2 cw tl tO bO lf wo) [.ref (a 20), .int (o), .int (nI (h))]) (va_Qi (fun (r : Int32) (u : Unit) => r = bI (ahI n cw o h)) (c_B (dC, dI) vwCl (TY y) (fun (u : Unit) => (MW y a rn n lo kp dy so he kn ak pl im lo2 dy2 so2 he2 kn2 ma kd len ord kh km pg len2 ord2 kh2 km2 cw tl tO bO lf wo))) A) 0 0 A := by
  refine Met.ofW (cc := cX8_isAhead) (maxL := 3) (ret := (some .boolean)) (by decide) rfl ?_
  intro p e s m args below meth c s₁ BB hml hv
  obtain ⟨rfl, hP, hK, hE⟩ := hv
  have hx := BB.exec
  have hb := BB.bytes
  have hr := BB.returns
  have hts := atoms_spec (ws := wsX8_isAhead) BB.pre
  have hown : s.vm.findClass RX8 = some m.cls := findClass_of_methodNamed BB.named
  have hlocks := BB.notSynchronized
  have hS : va_S A s.heap s.heap [] := va_S.rf
  have hl := lv_entry ([.ref (a 20), .int (o), .int (nI (h))]) (n := 3) (Nat.le_of_ble_eq_true rfl)
  rw [lg_entry_eq]
  generalize (lg_sl ([.ref (a 20), .int (o), .int (nI (h))]) ++ List.replicate (3 - (lg_sl ([.ref (a 20), .int (o), .int (nI (h))])).length) Slot.unset).toArray = ls at hl ⊢
  have hl : lv_has ls 3 [(0, .ref (a 20)), (1, .int (o)), (2, .int (nI (h)))] := hl
  refine lv_iload_n hx hb dX8_isAhead_0 rfl (lv_at hl 1 rfl) ?_
  refine lv_if_lt (tgt := 37) hx hb dX8_isAhead_1 (by decide) (fun c_1 => ?_) (fun c_1 => ?_)
  · refine lv_iconst (v := nI (0)) hx hb dX8_isAhead_37 (by decide) ?_
    exact c_zret hx hb hr hlocks hK hS () rfl hP (bI_0 (by unfold ahI; rw [isH_no1 c_1]; rfl)) dX8_isAhead_38
  · refine lv_iload_n hx hb dX8_isAhead_4 rfl (lv_at hl 1 rfl) ?_
    refine lv_aload_n hx hb dX8_isAhead_5 rfl (lv_at hl 0 rfl) ?_
    refine va_get (D := (dC, dI)) (ci := 8) (C := RX8) (T := TX8) (N := 3) hx hb hts in_X8_isAhead_X8 hown hK hP 20 rfl rfl 0 (by decide) (hts (.fieldLink RX8 19 "MilkRound$Walk" "street" "LMilkRound$Street;") (List.mem_of_getElem? (i := 1) rfl)) (fun _ h9 => h9) rfl dX8_isAhead_6 ?_
    refine va_get (D := (dC, dI)) (ci := 6) (C := RX6) (T := TX6) (N := 8) hx hb hts in_X8_isAhead_X6 hown hK hP 3 rfl rfl 6 (by decide) (hts (.fieldLink RX8 23 "MilkRound$Street" "size" "I") (List.mem_of_getElem? (i := 2) rfl)) (fun _ h9 => h9) rfl dX8_isAhead_9 ?_
    refine lv_icmp_ge (tgt := 37) hx hb dX8_isAhead_12 (by decide) (fun c_12 => ?_) (fun c_12 => ?_)
    · refine lv_iconst (v := nI (0)) hx hb dX8_isAhead_37 (by decide) ?_
      exact c_zret hx hb hr hlocks hK hS () rfl hP (bI_0 (by unfold ahI; rw [isH_no2 c_12]; rfl)) dX8_isAhead_38
    · obtain ⟨j, hj, ej⟩ := isH_of (by omega) (isH_mk c_1 c_12)
      rw [ej] at hl
      have hl : lv_has ls 3 [(0, .ref (a 20)), (1, .int (nI (j))), (2, .int (nI (h)))] := hl
      refine lv_aload_n hx hb dX8_isAhead_15 rfl (lv_at hl 0 rfl) ?_
      refine va_get (D := (dC, dI)) (ci := 8) (C := RX8) (T := TX8) (N := 3) hx hb hts in_X8_isAhead_X8 hown hK hP 20 rfl rfl 1 (by decide) (hts (.fieldLink RX8 9 "MilkRound$Walk" "came" "[I") (List.mem_of_getElem? (i := 3) rfl)) (fun _ h9 => h9) rfl dX8_isAhead_16 ?_
      refine lv_iload_n hx hb dX8_isAhead_19 rfl (lv_at hl 2 rfl) ?_
      refine n_iald hx hb hK hP 21 0 rfl rfl (by omega) (by decide) dX8_isAhead_20 ?_
      have hb_20 := hcw h
      refine lv_aload_n hx hb dX8_isAhead_21 rfl (lv_at hl 0 rfl) ?_
      refine va_get (D := (dC, dI)) (ci := 8) (C := RX8) (T := TX8) (N := 3) hx hb hts in_X8_isAhead_X8 hown hK hP 20 rfl rfl 1 (by decide) (hts (.fieldLink RX8 9 "MilkRound$Walk" "came" "[I") (List.mem_of_getElem? (i := 3) rfl)) (fun _ h9 => h9) rfl dX8_isAhead_22 ?_
      refine lv_iload_n hx hb dX8_isAhead_25 rfl (lv_at hl 1 rfl) ?_
      refine n_iald hx hb hK hP 21 0 rfl rfl (by omega) (by decide) dX8_isAhead_26 ?_
      have hb_26 := hcw j
      refine lv_isub hx hb dX8_isAhead_27 ?_
      refine lv_bipush (v := nI (6)) hx hb dX8_isAhead_28 (by decide) ?_
      refine lv_icmp_lt (tgt := 37) hx hb dX8_isAhead_30 (by decide) (fun c_30 => ?_) (fun c_30 => ?_)
      · refine lv_iconst (v := nI (0)) hx hb dX8_isAhead_37 (by decide) ?_
        exact c_zret hx hb hr hlocks hK hS () rfl hP (bI_0 (by rw [ej, ahI_nat (by omega) (by omega)]; exact decide_eq_false (fun q => absurd c_30 ((lt_subI (by omega) (by omega) (by decide)).mpr q.2)))) dX8_isAhead_38
      · refine lv_iconst (v := nI (1)) hx hb dX8_isAhead_33 (by decide) ?_
        refine lv_goto (tgt := 38) hx hb dX8_isAhead_34 (by decide) ?_
        exact c_zret hx hb hr hlocks hK hS () rfl hP (bI_1 (by rw [ej, ahI_nat (by omega) (by omega)]; exact decide_eq_true ⟨hj, (lt_subI (by omega) (by omega) (by decide)).mp c_30⟩)) dX8_isAhead_38
theorem in_X8_hears_X8 : ∀ w ∈ wsX80, w ∈ wsX8_hears := fun w h => List.mem_cons_of_mem _ (List.mem_append_left _ (List.mem_append_right _ h))
theorem in_X8_hears_X6 : ∀ w ∈ wsX60, w ∈ wsX8_hears := fun w h => List.mem_cons_of_mem _ (List.mem_append_right _ h)
set_option maxHeartbeats 4000000 in
set_option maxRecDepth 100000 in
theorem k_X8_hears (l : Launch) (dC : Nat → ClassId) (dI : Nat → Nat → Nat) (y : Nat → ClassId) (A : Nat → Prop) (a : Nat → Nat) (hA0 : ad_ok A a 34) (xK : Nat → Nat) (xV : Nat → Nat) (rn : Nat) (n : Nat) (lo : Int32) (kp : Nat) (dy : Int32) (so : Int32) (he : Int32) (kn : Nat) (ak : Nat) (pl : Nat) (im : Bool) (lo2 : Int32) (dy2 : Int32) (so2 : Int32) (he2 : Int32) (kn2 : Nat) (ma : Nat) (kd : Nat → Nat) (len : Nat → Nat) (ord : Nat → Nat) (kh : Nat → Nat) (km : Nat → Nat) (pg : Nat → Nat) (len2 : Nat → Nat) (ord2 : Nat → Nat) (kh2 : Nat → Nat) (km2 : Nat → Nat) (cw : Nat → Nat) (tl : Nat → Nat) (tO : Nat → Nat) (bO : Nat → Nat) (lf : Nat → Nat → Nat) (wo : Nat → Nat) (h : Nat) (hh : h < 6) (hn : n ≤ 6) (hcw : ∀ j, cw j ≤ 126) (hkd : ∀ j, kd j ≤ 4) : Met l yX8_hears wsX8_hears ({ frames := 1, cells := 0, slots := 0, locals := 22 } : Room) (c_P (dC, dI) vwCl (TY y) (EV xK xV A) (MW y a rn n lo kp dy so he kn ak pl im lo2 dy2 so2 he2 kn2 ma kd len ord kh km pg len2 ord2 kh2 km2 cw tl tO bO lf wo) [.ref (a 20), .int (nI (h))]) (va_Qi (fun (r : Int32) (u : Unit) => r = bI (hearB n kd cw h)) (c_B (dC, dI) vwCl (TY y) (fun (u : Unit) => (MW y a rn n lo kp dy so he kn ak pl im lo2 dy2 so2 he2 kn2 ma kd len ord kh km pg len2 ord2 kh2 km2 cw tl tO bO lf wo))) A) 0 0 A := by
  refine Met.ofW (cc := cX8_hears) (maxL := 2) (ret := (some .boolean)) (by decide) rfl ?_
  intro p e s m args below meth c s₁ BB hml hv
  obtain ⟨rfl, hP, hK, hE⟩ := hv
  have hx := BB.exec
  have hb := BB.bytes
  have hr := BB.returns
  have hts := atoms_spec (ws := wsX8_hears) BB.pre
  have hown : s.vm.findClass RX8 = some m.cls := findClass_of_methodNamed BB.named
  have hlocks := BB.notSynchronized
  have hS : va_S A s.heap s.heap [] := va_S.rf
  have hl := lv_entry ([.ref (a 20), .int (nI (h))]) (n := 2) (Nat.le_of_ble_eq_true rfl)
  rw [lg_entry_eq]
  generalize (lg_sl ([.ref (a 20), .int (nI (h))]) ++ List.replicate (2 - (lg_sl ([.ref (a 20), .int (nI (h))])).length) Slot.unset).toArray = ls at hl ⊢
  have hl : lv_has ls 2 [(0, .ref (a 20)), (1, .int (nI (h)))] := hl
  have hkh := hkd h
  refine lv_aload_n hx hb dX8_hears_0 rfl (lv_at hl 0 rfl) ?_
  refine va_get (D := (dC, dI)) (ci := 8) (C := RX8) (T := TX8) (N := 3) hx hb hts in_X8_hears_X8 hown hK hP 20 rfl rfl 0 (by decide) (hts (.fieldLink RX8 19 "MilkRound$Walk" "street" "LMilkRound$Street;") (List.mem_of_getElem? (i := 1) rfl)) (fun _ h9 => h9) rfl dX8_hears_1 ?_
  refine va_get (D := (dC, dI)) (ci := 6) (C := RX6) (T := TX6) (N := 8) hx hb hts in_X8_hears_X6 hown hK hP 3 rfl rfl 5 (by decide) (hts (.fieldLink RX8 36 "MilkRound$Street" "houses" "[LMilkRound$House;") (List.mem_of_getElem? (i := 2) rfl)) (fun _ h9 => h9) rfl dX8_hears_4 ?_
  refine lv_iload_n hx hb dX8_hears_7 rfl (lv_at hl 1 rfl) ?_
  refine n_aldr hx hb hK hP 9 3 rfl rfl (by omega) (by decide) rfl dX8_hears_8 ?_
  rcases (show kd h = 0 ∨ kd h = 1 ∨ kd h = 2 ∨ kd h = 3 ∨ kd h = 4 by omega) with ek_9 | ek_9 | ek_9 | ek_9 | ek_9
  · refine n_topr (z := a (4 + 0)) (by rw [ek_9]) ?_
    refine c_calli (va_runV (As := []) (rest := []) ⟨hx, hb, hml, hown, hts⟩ (k_X3_listens l dC dI y A (MW y a rn n lo kp dy so he kn ak pl im lo2 dy2 so2 he2 kn2 ma kd len ord kh km pg len2 ord2 kh2 km2 cw tl tO bO lf wo) (EV xK xV A) (a (4 + 0)) ) (cwV 0 hts gX8_hears_X3_listens rfl rfl rfl (by decide +kernel) ⟨Nat.le_of_ble_eq_true rfl, Nat.le_of_ble_eq_true rfl⟩) (c_preV (evN xK xV A) hK hE hS hP (va_recv hK hP (ci := 3) (q0 := 4) rfl rfl)) rfl rfl hl.1 rfl (lv_room (Nat.le_of_ble_eq_true rfl)) dX8_hears_9 ⟨Nat.le_refl _, Nat.le_refl _⟩) hS (fun r_9 u_9 H locs hw_9 hP hS => ?_)
    obtain rfl := hw_9
    refine n_bif_eq (tgt := 41) hx hb dX8_hears_12 (by decide) (fun c_12 => ?_) (fun c_12 => ?_)
    · exact Bool.noConfusion c_12
    · refine lv_aload_n hx hb dX8_hears_15 rfl (lv_at hl 0 rfl) ?_
      refine lv_iload_n hx hb dX8_hears_16 rfl (lv_at hl 1 rfl) ?_
      refine lv_iconst (v := nI (1)) hx hb dX8_hears_17 (by decide) ?_
      refine lv_isub hx hb dX8_hears_18 ?_
      refine lv_iload_n hx hb dX8_hears_19 rfl (lv_at hl 1 rfl) ?_
      refine c_calli (va_runV (As := [.int ((nI (h)) - (nI (1))), .int (nI (h))]) (rest := []) ⟨hx, hb, hml, hown, hts⟩ (k_X8_isAhead l dC dI y A a hA0 xK xV rn n lo kp dy so he kn ak pl im lo2 dy2 so2 he2 kn2 ma kd len ord kh km pg len2 ord2 kh2 km2 cw tl tO bO lf wo ((nI (h)) - (nI (1))) h hh hn hcw) (cwV 2 hts gX8_hears_X8_isAhead rfl rfl rfl (by decide +kernel) ⟨Nat.le_of_ble_eq_true rfl, Nat.le_of_ble_eq_true rfl⟩) (c_preV (evN xK xV A) hK hE hS hP (va_recv hK hP (ci := 8) (q0 := 20) rfl rfl)) rfl rfl hl.1 rfl (lv_room (Nat.le_of_ble_eq_true rfl)) dX8_hears_20 ⟨Nat.le_refl _, Nat.le_refl _⟩) hS (fun r_20 u_20 H locs hw_20 hP hS => ?_)
      obtain rfl := hw_20
      refine n_bif_ne (tgt := 37) hx hb dX8_hears_23 (by decide) (fun c_23 => ?_) (fun c_23 => ?_)
      · rw [ahI_pred (by omega) (by omega)] at c_23
        refine lv_iconst (v := nI (1)) hx hb dX8_hears_37 (by decide) ?_
        refine lv_goto (tgt := 42) hx hb dX8_hears_38 (by decide) ?_
        exact c_zret hx hb hr hlocks hK hS () rfl hP (bI_1 (by unfold hearB; rw [c_23, decide_eq_true (by omega)]; rfl)) dX8_hears_42
      · rw [ahI_pred (by omega) (by omega)] at c_23
        refine lv_aload_n hx hb dX8_hears_26 rfl (lv_at hl 0 rfl) ?_
        refine lv_iload_n hx hb dX8_hears_27 rfl (lv_at hl 1 rfl) ?_
        refine lv_iconst (v := nI (1)) hx hb dX8_hears_28 (by decide) ?_
        refine n_iadd hx hb dX8_hears_29 ?_
        refine lv_iload_n hx hb dX8_hears_30 rfl (lv_at hl 1 rfl) ?_
        refine c_calli (va_runV (As := [.int (nI (h + 1)), .int (nI (h))]) (rest := []) ⟨hx, hb, hml, hown, hts⟩ (k_X8_isAhead l dC dI y A a hA0 xK xV rn n lo kp dy so he kn ak pl im lo2 dy2 so2 he2 kn2 ma kd len ord kh km pg len2 ord2 kh2 km2 cw tl tO bO lf wo (nI (h + 1)) h hh hn hcw) (cwV 2 hts gX8_hears_X8_isAhead rfl rfl rfl (by decide +kernel) ⟨Nat.le_of_ble_eq_true rfl, Nat.le_of_ble_eq_true rfl⟩) (c_preV (evN xK xV A) hK hE hS hP (va_recv hK hP (ci := 8) (q0 := 20) rfl rfl)) rfl rfl hl.1 rfl (lv_room (Nat.le_of_ble_eq_true rfl)) dX8_hears_31 ⟨Nat.le_refl _, Nat.le_refl _⟩) hS (fun r_31 u_31 H locs hw_31 hP hS => ?_)
        obtain rfl := hw_31
        refine n_bif_eq (tgt := 41) hx hb dX8_hears_34 (by decide) (fun c_34 => ?_) (fun c_34 => ?_)
        · rw [ahI_nat (by omega) (by omega)] at c_34
          refine lv_iconst (v := nI (0)) hx hb dX8_hears_41 (by decide) ?_
          exact c_zret hx hb hr hlocks hK hS () rfl hP (bI_0 (by unfold hearB; rw [c_23, c_34, decide_eq_true (by omega)]; rfl)) dX8_hears_42
        · rw [ahI_nat (by omega) (by omega)] at c_34
          refine lv_iconst (v := nI (1)) hx hb dX8_hears_37 (by decide) ?_
          refine lv_goto (tgt := 42) hx hb dX8_hears_38 (by decide) ?_
          exact c_zret hx hb hr hlocks hK hS () rfl hP (bI_1 (by unfold hearB; rw [c_23, c_34, decide_eq_true (by omega)]; rfl)) dX8_hears_42
  · refine n_topr (z := a (4 + 1)) (by rw [ek_9]) ?_
    refine c_calli (va_runU (As := []) (rest := []) ⟨hx, hb, hml, hown, hts⟩ (k_X3_listens l dC dI y A (MW y a rn n lo kp dy so he kn ak pl im lo2 dy2 so2 he2 kn2 ma kd len ord kh km pg len2 ord2 kh2 km2 cw tl tO bO lf wo) (EV xK xV A) (a (4 + 1)) ) (va_cwU 0 hts gX8_hears_X3_listens_u49X5 rfl rfl rfl rfl (by decide +kernel) ⟨Nat.le_of_ble_eq_true rfl, Nat.le_of_ble_eq_true rfl⟩) (c_preV (evN xK xV A) hK hE hS hP (va_recv hK hP (ci := 5) (q0 := 5) rfl rfl)) rfl rfl hl.1 rfl (lv_room (Nat.le_of_ble_eq_true rfl)) dX8_hears_9 ⟨Nat.le_refl _, Nat.le_refl _⟩) hS (fun r_9 u_9 H locs hw_9 hP hS => ?_)
    obtain rfl := hw_9
    refine n_bif_eq (tgt := 41) hx hb dX8_hears_12 (by decide) (fun c_12 => ?_) (fun c_12 => ?_)
    · exact Bool.noConfusion c_12
    · refine lv_aload_n hx hb dX8_hears_15 rfl (lv_at hl 0 rfl) ?_
      refine lv_iload_n hx hb dX8_hears_16 rfl (lv_at hl 1 rfl) ?_
      refine lv_iconst (v := nI (1)) hx hb dX8_hears_17 (by decide) ?_
      refine lv_isub hx hb dX8_hears_18 ?_
      refine lv_iload_n hx hb dX8_hears_19 rfl (lv_at hl 1 rfl) ?_
      refine c_calli (va_runV (As := [.int ((nI (h)) - (nI (1))), .int (nI (h))]) (rest := []) ⟨hx, hb, hml, hown, hts⟩ (k_X8_isAhead l dC dI y A a hA0 xK xV rn n lo kp dy so he kn ak pl im lo2 dy2 so2 he2 kn2 ma kd len ord kh km pg len2 ord2 kh2 km2 cw tl tO bO lf wo ((nI (h)) - (nI (1))) h hh hn hcw) (cwV 2 hts gX8_hears_X8_isAhead rfl rfl rfl (by decide +kernel) ⟨Nat.le_of_ble_eq_true rfl, Nat.le_of_ble_eq_true rfl⟩) (c_preV (evN xK xV A) hK hE hS hP (va_recv hK hP (ci := 8) (q0 := 20) rfl rfl)) rfl rfl hl.1 rfl (lv_room (Nat.le_of_ble_eq_true rfl)) dX8_hears_20 ⟨Nat.le_refl _, Nat.le_refl _⟩) hS (fun r_20 u_20 H locs hw_20 hP hS => ?_)
      obtain rfl := hw_20
      refine n_bif_ne (tgt := 37) hx hb dX8_hears_23 (by decide) (fun c_23 => ?_) (fun c_23 => ?_)
      · rw [ahI_pred (by omega) (by omega)] at c_23
        refine lv_iconst (v := nI (1)) hx hb dX8_hears_37 (by decide) ?_
        refine lv_goto (tgt := 42) hx hb dX8_hears_38 (by decide) ?_
        exact c_zret hx hb hr hlocks hK hS () rfl hP (bI_1 (by unfold hearB; rw [c_23, decide_eq_true (by omega)]; rfl)) dX8_hears_42
      · rw [ahI_pred (by omega) (by omega)] at c_23
        refine lv_aload_n hx hb dX8_hears_26 rfl (lv_at hl 0 rfl) ?_
        refine lv_iload_n hx hb dX8_hears_27 rfl (lv_at hl 1 rfl) ?_
        refine lv_iconst (v := nI (1)) hx hb dX8_hears_28 (by decide) ?_
        refine n_iadd hx hb dX8_hears_29 ?_
        refine lv_iload_n hx hb dX8_hears_30 rfl (lv_at hl 1 rfl) ?_
        refine c_calli (va_runV (As := [.int (nI (h + 1)), .int (nI (h))]) (rest := []) ⟨hx, hb, hml, hown, hts⟩ (k_X8_isAhead l dC dI y A a hA0 xK xV rn n lo kp dy so he kn ak pl im lo2 dy2 so2 he2 kn2 ma kd len ord kh km pg len2 ord2 kh2 km2 cw tl tO bO lf wo (nI (h + 1)) h hh hn hcw) (cwV 2 hts gX8_hears_X8_isAhead rfl rfl rfl (by decide +kernel) ⟨Nat.le_of_ble_eq_true rfl, Nat.le_of_ble_eq_true rfl⟩) (c_preV (evN xK xV A) hK hE hS hP (va_recv hK hP (ci := 8) (q0 := 20) rfl rfl)) rfl rfl hl.1 rfl (lv_room (Nat.le_of_ble_eq_true rfl)) dX8_hears_31 ⟨Nat.le_refl _, Nat.le_refl _⟩) hS (fun r_31 u_31 H locs hw_31 hP hS => ?_)
        obtain rfl := hw_31
        refine n_bif_eq (tgt := 41) hx hb dX8_hears_34 (by decide) (fun c_34 => ?_) (fun c_34 => ?_)
        · rw [ahI_nat (by omega) (by omega)] at c_34
          refine lv_iconst (v := nI (0)) hx hb dX8_hears_41 (by decide) ?_
          exact c_zret hx hb hr hlocks hK hS () rfl hP (bI_0 (by unfold hearB; rw [c_23, c_34, decide_eq_true (by omega)]; rfl)) dX8_hears_42
        · rw [ahI_nat (by omega) (by omega)] at c_34
          refine lv_iconst (v := nI (1)) hx hb dX8_hears_37 (by decide) ?_
          refine lv_goto (tgt := 42) hx hb dX8_hears_38 (by decide) ?_
          exact c_zret hx hb hr hlocks hK hS () rfl hP (bI_1 (by unfold hearB; rw [c_23, c_34, decide_eq_true (by omega)]; rfl)) dX8_hears_42
  · refine n_topr (z := a (4 + 2)) (by rw [ek_9]) ?_
    refine c_calli (va_runU (As := []) (rest := []) ⟨hx, hb, hml, hown, hts⟩ (k_X0_listens l dC dI y A (MW y a rn n lo kp dy so he kn ak pl im lo2 dy2 so2 he2 kn2 ma kd len ord kh km pg len2 ord2 kh2 km2 cw tl tO bO lf wo) (EV xK xV A) (a (4 + 2)) ) (va_cwO 0 hts gX8_hears_X0_listens_u49X0 rfl rfl rfl (List.mem_of_getElem? (i := 10) rfl) (by decide +kernel) ⟨Nat.le_of_ble_eq_true rfl, Nat.le_of_ble_eq_true rfl⟩) (c_preV (evN xK xV A) hK hE hS hP (va_recv hK hP (ci := 0) (q0 := 6) rfl rfl)) rfl rfl hl.1 rfl (lv_room (Nat.le_of_ble_eq_true rfl)) dX8_hears_9 ⟨Nat.le_refl _, Nat.le_refl _⟩) hS (fun r_9 u_9 H locs hw_9 hP hS => ?_)
    obtain rfl := hw_9
    refine n_bif_eq (tgt := 41) hx hb dX8_hears_12 (by decide) (fun c_12 => ?_) (fun c_12 => ?_)
    · refine lv_iconst (v := nI (0)) hx hb dX8_hears_41 (by decide) ?_
      exact c_zret hx hb hr hlocks hK hS () rfl hP (bI_0 (by unfold hearB; rw [decide_eq_false (by omega)]; rfl)) dX8_hears_42
    · exact Bool.noConfusion c_12
  · refine n_topr (z := a (4 + 3)) (by rw [ek_9]) ?_
    refine c_calli (va_runU (As := []) (rest := []) ⟨hx, hb, hml, hown, hts⟩ (k_X3_listens l dC dI y A (MW y a rn n lo kp dy so he kn ak pl im lo2 dy2 so2 he2 kn2 ma kd len ord kh km pg len2 ord2 kh2 km2 cw tl tO bO lf wo) (EV xK xV A) (a (4 + 3)) ) (va_cwU 0 hts gX8_hears_X3_listens_u49X1 rfl rfl rfl rfl (by decide +kernel) ⟨Nat.le_of_ble_eq_true rfl, Nat.le_of_ble_eq_true rfl⟩) (c_preV (evN xK xV A) hK hE hS hP (va_recv hK hP (ci := 1) (q0 := 7) rfl rfl)) rfl rfl hl.1 rfl (lv_room (Nat.le_of_ble_eq_true rfl)) dX8_hears_9 ⟨Nat.le_refl _, Nat.le_refl _⟩) hS (fun r_9 u_9 H locs hw_9 hP hS => ?_)
    obtain rfl := hw_9
    refine n_bif_eq (tgt := 41) hx hb dX8_hears_12 (by decide) (fun c_12 => ?_) (fun c_12 => ?_)
    · exact Bool.noConfusion c_12
    · refine lv_aload_n hx hb dX8_hears_15 rfl (lv_at hl 0 rfl) ?_
      refine lv_iload_n hx hb dX8_hears_16 rfl (lv_at hl 1 rfl) ?_
      refine lv_iconst (v := nI (1)) hx hb dX8_hears_17 (by decide) ?_
      refine lv_isub hx hb dX8_hears_18 ?_
      refine lv_iload_n hx hb dX8_hears_19 rfl (lv_at hl 1 rfl) ?_
      refine c_calli (va_runV (As := [.int ((nI (h)) - (nI (1))), .int (nI (h))]) (rest := []) ⟨hx, hb, hml, hown, hts⟩ (k_X8_isAhead l dC dI y A a hA0 xK xV rn n lo kp dy so he kn ak pl im lo2 dy2 so2 he2 kn2 ma kd len ord kh km pg len2 ord2 kh2 km2 cw tl tO bO lf wo ((nI (h)) - (nI (1))) h hh hn hcw) (cwV 2 hts gX8_hears_X8_isAhead rfl rfl rfl (by decide +kernel) ⟨Nat.le_of_ble_eq_true rfl, Nat.le_of_ble_eq_true rfl⟩) (c_preV (evN xK xV A) hK hE hS hP (va_recv hK hP (ci := 8) (q0 := 20) rfl rfl)) rfl rfl hl.1 rfl (lv_room (Nat.le_of_ble_eq_true rfl)) dX8_hears_20 ⟨Nat.le_refl _, Nat.le_refl _⟩) hS (fun r_20 u_20 H locs hw_20 hP hS => ?_)
      obtain rfl := hw_20
      refine n_bif_ne (tgt := 37) hx hb dX8_hears_23 (by decide) (fun c_23 => ?_) (fun c_23 => ?_)
      · rw [ahI_pred (by omega) (by omega)] at c_23
        refine lv_iconst (v := nI (1)) hx hb dX8_hears_37 (by decide) ?_
        refine lv_goto (tgt := 42) hx hb dX8_hears_38 (by decide) ?_
        exact c_zret hx hb hr hlocks hK hS () rfl hP (bI_1 (by unfold hearB; rw [c_23, decide_eq_true (by omega)]; rfl)) dX8_hears_42
      · rw [ahI_pred (by omega) (by omega)] at c_23
        refine lv_aload_n hx hb dX8_hears_26 rfl (lv_at hl 0 rfl) ?_
        refine lv_iload_n hx hb dX8_hears_27 rfl (lv_at hl 1 rfl) ?_
        refine lv_iconst (v := nI (1)) hx hb dX8_hears_28 (by decide) ?_
        refine n_iadd hx hb dX8_hears_29 ?_
        refine lv_iload_n hx hb dX8_hears_30 rfl (lv_at hl 1 rfl) ?_
        refine c_calli (va_runV (As := [.int (nI (h + 1)), .int (nI (h))]) (rest := []) ⟨hx, hb, hml, hown, hts⟩ (k_X8_isAhead l dC dI y A a hA0 xK xV rn n lo kp dy so he kn ak pl im lo2 dy2 so2 he2 kn2 ma kd len ord kh km pg len2 ord2 kh2 km2 cw tl tO bO lf wo (nI (h + 1)) h hh hn hcw) (cwV 2 hts gX8_hears_X8_isAhead rfl rfl rfl (by decide +kernel) ⟨Nat.le_of_ble_eq_true rfl, Nat.le_of_ble_eq_true rfl⟩) (c_preV (evN xK xV A) hK hE hS hP (va_recv hK hP (ci := 8) (q0 := 20) rfl rfl)) rfl rfl hl.1 rfl (lv_room (Nat.le_of_ble_eq_true rfl)) dX8_hears_31 ⟨Nat.le_refl _, Nat.le_refl _⟩) hS (fun r_31 u_31 H locs hw_31 hP hS => ?_)
        obtain rfl := hw_31
        refine n_bif_eq (tgt := 41) hx hb dX8_hears_34 (by decide) (fun c_34 => ?_) (fun c_34 => ?_)
        · rw [ahI_nat (by omega) (by omega)] at c_34
          refine lv_iconst (v := nI (0)) hx hb dX8_hears_41 (by decide) ?_
          exact c_zret hx hb hr hlocks hK hS () rfl hP (bI_0 (by unfold hearB; rw [c_23, c_34, decide_eq_true (by omega)]; rfl)) dX8_hears_42
        · rw [ahI_nat (by omega) (by omega)] at c_34
          refine lv_iconst (v := nI (1)) hx hb dX8_hears_37 (by decide) ?_
          refine lv_goto (tgt := 42) hx hb dX8_hears_38 (by decide) ?_
          exact c_zret hx hb hr hlocks hK hS () rfl hP (bI_1 (by unfold hearB; rw [c_23, c_34, decide_eq_true (by omega)]; rfl)) dX8_hears_42
  · refine n_topr (z := a (4 + 4)) (by rw [ek_9]) ?_
    refine c_calli (va_runU (As := []) (rest := []) ⟨hx, hb, hml, hown, hts⟩ (k_X3_listens l dC dI y A (MW y a rn n lo kp dy so he kn ak pl im lo2 dy2 so2 he2 kn2 ma kd len ord kh km pg len2 ord2 kh2 km2 cw tl tO bO lf wo) (EV xK xV A) (a (4 + 4)) ) (va_cwU 0 hts gX8_hears_X3_listens_u49X9 rfl rfl rfl rfl (by decide +kernel) ⟨Nat.le_of_ble_eq_true rfl, Nat.le_of_ble_eq_true rfl⟩) (c_preV (evN xK xV A) hK hE hS hP (va_recv hK hP (ci := 9) (q0 := 8) rfl rfl)) rfl rfl hl.1 rfl (lv_room (Nat.le_of_ble_eq_true rfl)) dX8_hears_9 ⟨Nat.le_refl _, Nat.le_refl _⟩) hS (fun r_9 u_9 H locs hw_9 hP hS => ?_)
    obtain rfl := hw_9
    refine n_bif_eq (tgt := 41) hx hb dX8_hears_12 (by decide) (fun c_12 => ?_) (fun c_12 => ?_)
    · exact Bool.noConfusion c_12
    · refine lv_aload_n hx hb dX8_hears_15 rfl (lv_at hl 0 rfl) ?_
      refine lv_iload_n hx hb dX8_hears_16 rfl (lv_at hl 1 rfl) ?_
      refine lv_iconst (v := nI (1)) hx hb dX8_hears_17 (by decide) ?_
      refine lv_isub hx hb dX8_hears_18 ?_
      refine lv_iload_n hx hb dX8_hears_19 rfl (lv_at hl 1 rfl) ?_
      refine c_calli (va_runV (As := [.int ((nI (h)) - (nI (1))), .int (nI (h))]) (rest := []) ⟨hx, hb, hml, hown, hts⟩ (k_X8_isAhead l dC dI y A a hA0 xK xV rn n lo kp dy so he kn ak pl im lo2 dy2 so2 he2 kn2 ma kd len ord kh km pg len2 ord2 kh2 km2 cw tl tO bO lf wo ((nI (h)) - (nI (1))) h hh hn hcw) (cwV 2 hts gX8_hears_X8_isAhead rfl rfl rfl (by decide +kernel) ⟨Nat.le_of_ble_eq_true rfl, Nat.le_of_ble_eq_true rfl⟩) (c_preV (evN xK xV A) hK hE hS hP (va_recv hK hP (ci := 8) (q0 := 20) rfl rfl)) rfl rfl hl.1 rfl (lv_room (Nat.le_of_ble_eq_true rfl)) dX8_hears_20 ⟨Nat.le_refl _, Nat.le_refl _⟩) hS (fun r_20 u_20 H locs hw_20 hP hS => ?_)
      obtain rfl := hw_20
      refine n_bif_ne (tgt := 37) hx hb dX8_hears_23 (by decide) (fun c_23 => ?_) (fun c_23 => ?_)
      · rw [ahI_pred (by omega) (by omega)] at c_23
        refine lv_iconst (v := nI (1)) hx hb dX8_hears_37 (by decide) ?_
        refine lv_goto (tgt := 42) hx hb dX8_hears_38 (by decide) ?_
        exact c_zret hx hb hr hlocks hK hS () rfl hP (bI_1 (by unfold hearB; rw [c_23, decide_eq_true (by omega)]; rfl)) dX8_hears_42
      · rw [ahI_pred (by omega) (by omega)] at c_23
        refine lv_aload_n hx hb dX8_hears_26 rfl (lv_at hl 0 rfl) ?_
        refine lv_iload_n hx hb dX8_hears_27 rfl (lv_at hl 1 rfl) ?_
        refine lv_iconst (v := nI (1)) hx hb dX8_hears_28 (by decide) ?_
        refine n_iadd hx hb dX8_hears_29 ?_
        refine lv_iload_n hx hb dX8_hears_30 rfl (lv_at hl 1 rfl) ?_
        refine c_calli (va_runV (As := [.int (nI (h + 1)), .int (nI (h))]) (rest := []) ⟨hx, hb, hml, hown, hts⟩ (k_X8_isAhead l dC dI y A a hA0 xK xV rn n lo kp dy so he kn ak pl im lo2 dy2 so2 he2 kn2 ma kd len ord kh km pg len2 ord2 kh2 km2 cw tl tO bO lf wo (nI (h + 1)) h hh hn hcw) (cwV 2 hts gX8_hears_X8_isAhead rfl rfl rfl (by decide +kernel) ⟨Nat.le_of_ble_eq_true rfl, Nat.le_of_ble_eq_true rfl⟩) (c_preV (evN xK xV A) hK hE hS hP (va_recv hK hP (ci := 8) (q0 := 20) rfl rfl)) rfl rfl hl.1 rfl (lv_room (Nat.le_of_ble_eq_true rfl)) dX8_hears_31 ⟨Nat.le_refl _, Nat.le_refl _⟩) hS (fun r_31 u_31 H locs hw_31 hP hS => ?_)
        obtain rfl := hw_31
        refine n_bif_eq (tgt := 41) hx hb dX8_hears_34 (by decide) (fun c_34 => ?_) (fun c_34 => ?_)
        · rw [ahI_nat (by omega) (by omega)] at c_34
          refine lv_iconst (v := nI (0)) hx hb dX8_hears_41 (by decide) ?_
          exact c_zret hx hb hr hlocks hK hS () rfl hP (bI_0 (by unfold hearB; rw [c_23, c_34, decide_eq_true (by omega)]; rfl)) dX8_hears_42
        · rw [ahI_nat (by omega) (by omega)] at c_34
          refine lv_iconst (v := nI (1)) hx hb dX8_hears_37 (by decide) ?_
          refine lv_goto (tgt := 42) hx hb dX8_hears_38 (by decide) ?_
          exact c_zret hx hb hr hlocks hK hS () rfl hP (bI_1 (by unfold hearB; rw [c_23, c_34, decide_eq_true (by omega)]; rfl)) dX8_hears_42
theorem in_X8_sourHouses_X8 : ∀ w ∈ wsX80, w ∈ wsX8_sourHouses := fun w h => List.mem_cons_of_mem _ (List.mem_append_left _ (List.mem_append_right _ h))
theorem in_X8_sourHouses_X6 : ∀ w ∈ wsX60, w ∈ wsX8_sourHouses := fun w h => List.mem_cons_of_mem _ (List.mem_append_right _ h)
set_option maxHeartbeats 4000000 in
set_option maxRecDepth 100000 in
theorem k_X8_sourHouses (l : Launch) (dC : Nat → ClassId) (dI : Nat → Nat → Nat) (y : Nat → ClassId) (A : Nat → Prop) (a : Nat → Nat) (hA0 : ad_ok A a 34) (xK : Nat → Nat) (xV : Nat → Nat) (rn : Nat) (n : Nat) (lo : Int32) (kp : Nat) (dy : Int32) (so : Int32) (he : Int32) (kn : Nat) (ak : Nat) (pl : Nat) (im : Bool) (lo2 : Int32) (dy2 : Int32) (so2 : Int32) (he2 : Int32) (kn2 : Nat) (ma : Nat) (kd : Nat → Nat) (len : Nat → Nat) (ord : Nat → Nat) (kh : Nat → Nat) (km : Nat → Nat) (pg : Nat → Nat) (len2 : Nat → Nat) (ord2 : Nat → Nat) (kh2 : Nat → Nat) (km2 : Nat → Nat) (cw : Nat → Nat) (tl : Nat → Nat) (tO : Nat → Nat) (bO : Nat → Nat) (lf : Nat → Nat → Nat) (wo : Nat → Nat) (hn : n ≤ 6) (hkp : kp ≤ 9) (hcw : ∀ j, cw j ≤ 126) (hkd : ∀ j, kd j ≤ 4) : Met l yX8_sourHouses wsX8_sourHouses ({ frames := 2, cells := 0, slots := 0, locals := 41 } : Room) (c_P (dC, dI) vwCl (TY y) (EV xK xV A) (MW y a rn n lo kp dy so he kn ak pl im lo2 dy2 so2 he2 kn2 ma kd len ord kh km pg len2 ord2 kh2 km2 cw tl tO bO lf wo) [.ref (a 20)]) (va_Qi (fun (r : Int32) (u : Unit) => r = nI (ctB (sourB kd kp cw) n)) (c_B (dC, dI) vwCl (TY y) (fun (u : Unit) => (MW y a rn n lo kp dy so he kn ak pl im lo2 dy2 so2 he2 kn2 ma kd len ord kh km pg len2 ord2 kh2 km2 cw tl tO bO lf wo))) A) 0 0 A := by
  refine Met.ofW (cc := cX8_sourHouses) (maxL := 3) (ret := (some .int)) (by decide) rfl ?_
  intro p e s m args below meth c s₁ BB hml hv
  obtain ⟨rfl, hP, hK, hE⟩ := hv
  have hx := BB.exec
  have hb := BB.bytes
  have hr := BB.returns
  have hts := atoms_spec (ws := wsX8_sourHouses) BB.pre
  have hown : s.vm.findClass RX8 = some m.cls := findClass_of_methodNamed BB.named
  have hlocks := BB.notSynchronized
  have hS : va_S A s.heap s.heap [] := va_S.rf
  have hl := lv_entry ([.ref (a 20)]) (n := 3) (Nat.le_of_ble_eq_true rfl)
  rw [lg_entry_eq]
  generalize (lg_sl ([.ref (a 20)]) ++ List.replicate (3 - (lg_sl ([.ref (a 20)])).length) Slot.unset).toArray = ls at hl ⊢
  have hl : lv_has ls 3 [(0, .ref (a 20))] := hl
  refine lv_iconst (v := nI (0)) hx hb dX8_sourHouses_0 (by decide) ?_
  refine lv_istore_n (lv' := [(1, .int (nI (0))), (0, .ref (a 20))]) hx hb dX8_sourHouses_1 rfl hl (by decide) rfl (fun ls hl => ?_)
  refine lv_iconst (v := nI (0)) hx hb dX8_sourHouses_2 (by decide) ?_
  refine lv_istore_n (lv' := [(2, .int (nI (0))), (1, .int (nI (0))), (0, .ref (a 20))]) hx hb dX8_sourHouses_3 rfl hl (by decide) rfl (fun ls hl => ?_)
  have loop_4 : ∀ (dd_4 : Nat) (k : Nat) (mm : Nat) (hk : k ≤ n) (hm : mm = ctB (sourB kd kp cw) k), n - k < dd_4 → ∀ (H : Heap) (locs : List Loc) (ls : Array Slot), va_P (dC, dI) vwCl (MW y a rn n lo kp dy so he kn ak pl im lo2 dy2 so2 he2 kn2 ma kd len ord kh km pg len2 ord2 kh2 km2 cw tl tO bO lf wo) H → va_S A s.heap H locs → lv_has ls 3 [(2, .int (nI (k))), (1, .int (nI (mm))), (0, .ref (a 20))] → W p l e (headSpec wsX8_sourHouses ({ frames := 2, cells := 0, slots := 0, locals := 41 } : Room)).room s m [.ref (a 20)].toArray below meth c H locs 0 0 (MQ below (va_Qi (fun (r : Int32) (u : Unit) => r = nI (ctB (sourB kd kp cw) n)) (c_B (dC, dI) vwCl (TY y) (fun (u : Unit) => (MW y a rn n lo kp dy so he kn ak pl im lo2 dy2 so2 he2 kn2 ma kd len ord kh km pg len2 ord2 kh2 km2 cw tl tO bO lf wo))) A) [.ref (a 20)].toArray s 0 0 A) (F0 m 4 ls []) := by
    intro dd_4
    induction dd_4 with
    | zero => intro k mm hk hm hd; exact absurd hd (Nat.not_lt_zero _)
    | succ dd_4 ih_4 =>
      intro k mm hk hm hd_4 H locs ls hP hS hl
      refine lv_iload_n hx hb dX8_sourHouses_4 rfl (lv_at hl 0 rfl) ?_
      refine lv_aload_n hx hb dX8_sourHouses_5 rfl (lv_at hl 2 rfl) ?_
      refine va_get (D := (dC, dI)) (ci := 8) (C := RX8) (T := TX8) (N := 3) hx hb hts in_X8_sourHouses_X8 hown hK hP 20 rfl rfl 0 (by decide) (hts (.fieldLink RX8 19 "MilkRound$Walk" "street" "LMilkRound$Street;") (List.mem_of_getElem? (i := 1) rfl)) (fun _ h9 => h9) rfl dX8_sourHouses_6 ?_
      refine va_get (D := (dC, dI)) (ci := 6) (C := RX6) (T := TX6) (N := 8) hx hb hts in_X8_sourHouses_X6 hown hK hP 3 rfl rfl 6 (by decide) (hts (.fieldLink RX8 23 "MilkRound$Street" "size" "I") (List.mem_of_getElem? (i := 2) rfl)) (fun _ h9 => h9) rfl dX8_sourHouses_9 ?_
      refine n_icmp_ge (tgt := 32) hx hb dX8_sourHouses_12 (by decide) (by omega) (by omega) (fun c_12 => ?_) (fun c_12 => ?_)
      · refine lv_iload_n hx hb dX8_sourHouses_32 rfl (lv_at hl 1 rfl) ?_
        have hkn : k = n := by omega
        exact c_iret hx hb hr hlocks hK hS () hP (by rw [hm, hkn]) dX8_sourHouses_33
      · refine lv_aload_n hx hb dX8_sourHouses_15 rfl (lv_at hl 2 rfl) ?_
        refine lv_iload_n hx hb dX8_sourHouses_16 rfl (lv_at hl 0 rfl) ?_
        refine c_calli (va_runV (As := [.int (nI (k))]) (rest := []) ⟨hx, hb, hml, hown, hts⟩ (k_X8_isSour l dC dI y A a hA0 xK xV rn n lo kp dy so he kn ak pl im lo2 dy2 so2 he2 kn2 ma kd len ord kh km pg len2 ord2 kh2 km2 cw tl tO bO lf wo k (by omega) hkp hcw hkd) (cwV 1 hts gX8_sourHouses_X8_isSour rfl rfl rfl (by decide +kernel) ⟨Nat.le_of_ble_eq_true rfl, Nat.le_of_ble_eq_true rfl⟩) (c_preV (evN xK xV A) hK hE hS hP (va_recv hK hP (ci := 8) (q0 := 20) rfl rfl)) rfl rfl hl.1 rfl (lv_room (Nat.le_of_ble_eq_true rfl)) dX8_sourHouses_17 ⟨Nat.le_refl _, Nat.le_refl _⟩) hS (fun r_17 u_17 H locs hw_17 hP hS => ?_)
        obtain rfl := hw_17
        refine n_bif_eq (tgt := 26) hx hb dX8_sourHouses_20 (by decide) (fun c_20 => ?_) (fun c_20 => ?_)
        · refine lv_iinc (v := nI (k + 1)) (lv' := [(2, .int (nI (k + 1))), (1, .int (nI (mm))), (0, .ref (a 20))]) hx hb dX8_sourHouses_26 hl (k := 0) rfl (mr_inc _) (by decide) rfl (fun ls hl => ?_)
          refine lv_goto (tgt := 4) hx hb dX8_sourHouses_29 (by decide) ?_
          exact ih_4 (k + 1) mm (by omega) (by rw [hm, ctB_f c_20]) (by omega) _ _ _ hP hS (lv_sub hl [0, 1, 2] rfl)
        · refine lv_iinc (v := nI (mm + 1)) (lv' := [(1, .int (nI (mm + 1))), (2, .int (nI (k))), (0, .ref (a 20))]) hx hb dX8_sourHouses_23 hl (k := 1) rfl (mr_inc _) (by decide) rfl (fun ls hl => ?_)
          refine lv_iinc (v := nI (k + 1)) (lv' := [(2, .int (nI (k + 1))), (1, .int (nI (mm + 1))), (0, .ref (a 20))]) hx hb dX8_sourHouses_26 hl (k := 1) rfl (mr_inc _) (by decide) rfl (fun ls hl => ?_)
          refine lv_goto (tgt := 4) hx hb dX8_sourHouses_29 (by decide) ?_
          exact ih_4 (k + 1) (mm + 1) (by omega) (by rw [hm, ctB_t c_20]) (by omega) _ _ _ hP hS (lv_sub hl [0, 1, 2] rfl)
  exact loop_4 _ 0 0 (Nat.zero_le _) rfl (Nat.lt_succ_self _) _ _ _ hP hS (lv_sub hl [0, 1, 2] rfl)
theorem in_X8_hearingHouses_X8 : ∀ w ∈ wsX80, w ∈ wsX8_hearingHouses := fun w h => List.mem_cons_of_mem _ (List.mem_append_left _ (List.mem_append_right _ h))
theorem in_X8_hearingHouses_X6 : ∀ w ∈ wsX60, w ∈ wsX8_hearingHouses := fun w h => List.mem_cons_of_mem _ (List.mem_append_right _ h)
set_option maxHeartbeats 4000000 in
set_option maxRecDepth 100000 in
theorem k_X8_hearingHouses (l : Launch) (dC : Nat → ClassId) (dI : Nat → Nat → Nat) (y : Nat → ClassId) (A : Nat → Prop) (a : Nat → Nat) (hA0 : ad_ok A a 34) (xK : Nat → Nat) (xV : Nat → Nat) (rn : Nat) (n : Nat) (lo : Int32) (kp : Nat) (dy : Int32) (so : Int32) (he : Int32) (kn : Nat) (ak : Nat) (pl : Nat) (im : Bool) (lo2 : Int32) (dy2 : Int32) (so2 : Int32) (he2 : Int32) (kn2 : Nat) (ma : Nat) (kd : Nat → Nat) (len : Nat → Nat) (ord : Nat → Nat) (kh : Nat → Nat) (km : Nat → Nat) (pg : Nat → Nat) (len2 : Nat → Nat) (ord2 : Nat → Nat) (kh2 : Nat → Nat) (km2 : Nat → Nat) (cw : Nat → Nat) (tl : Nat → Nat) (tO : Nat → Nat) (bO : Nat → Nat) (lf : Nat → Nat → Nat) (wo : Nat → Nat) (hn : n ≤ 6) (hkp : kp ≤ 9) (hcw : ∀ j, cw j ≤ 126) (hkd : ∀ j, kd j ≤ 4) : Met l yX8_hearingHouses wsX8_hearingHouses ({ frames := 2, cells := 0, slots := 0, locals := 43 } : Room) (c_P (dC, dI) vwCl (TY y) (EV xK xV A) (MW y a rn n lo kp dy so he kn ak pl im lo2 dy2 so2 he2 kn2 ma kd len ord kh km pg len2 ord2 kh2 km2 cw tl tO bO lf wo) [.ref (a 20)]) (va_Qi (fun (r : Int32) (u : Unit) => r = nI (ctB (hearB n kd cw) n)) (c_B (dC, dI) vwCl (TY y) (fun (u : Unit) => (MW y a rn n lo kp dy so he kn ak pl im lo2 dy2 so2 he2 kn2 ma kd len ord kh km pg len2 ord2 kh2 km2 cw tl tO bO lf wo))) A) 0 0 A := by
  refine Met.ofW (cc := cX8_hearingHouses) (maxL := 3) (ret := (some .int)) (by decide) rfl ?_
  intro p e s m args below meth c s₁ BB hml hv
  obtain ⟨rfl, hP, hK, hE⟩ := hv
  have hx := BB.exec
  have hb := BB.bytes
  have hr := BB.returns
  have hts := atoms_spec (ws := wsX8_hearingHouses) BB.pre
  have hown : s.vm.findClass RX8 = some m.cls := findClass_of_methodNamed BB.named
  have hlocks := BB.notSynchronized
  have hS : va_S A s.heap s.heap [] := va_S.rf
  have hl := lv_entry ([.ref (a 20)]) (n := 3) (Nat.le_of_ble_eq_true rfl)
  rw [lg_entry_eq]
  generalize (lg_sl ([.ref (a 20)]) ++ List.replicate (3 - (lg_sl ([.ref (a 20)])).length) Slot.unset).toArray = ls at hl ⊢
  have hl : lv_has ls 3 [(0, .ref (a 20))] := hl
  refine lv_iconst (v := nI (0)) hx hb dX8_hearingHouses_0 (by decide) ?_
  refine lv_istore_n (lv' := [(1, .int (nI (0))), (0, .ref (a 20))]) hx hb dX8_hearingHouses_1 rfl hl (by decide) rfl (fun ls hl => ?_)
  refine lv_iconst (v := nI (0)) hx hb dX8_hearingHouses_2 (by decide) ?_
  refine lv_istore_n (lv' := [(2, .int (nI (0))), (1, .int (nI (0))), (0, .ref (a 20))]) hx hb dX8_hearingHouses_3 rfl hl (by decide) rfl (fun ls hl => ?_)
  have loop_4 : ∀ (dd_4 : Nat) (k : Nat) (mm : Nat) (hk : k ≤ n) (hm : mm = ctB (hearB n kd cw) k), n - k < dd_4 → ∀ (H : Heap) (locs : List Loc) (ls : Array Slot), va_P (dC, dI) vwCl (MW y a rn n lo kp dy so he kn ak pl im lo2 dy2 so2 he2 kn2 ma kd len ord kh km pg len2 ord2 kh2 km2 cw tl tO bO lf wo) H → va_S A s.heap H locs → lv_has ls 3 [(2, .int (nI (k))), (1, .int (nI (mm))), (0, .ref (a 20))] → W p l e (headSpec wsX8_hearingHouses ({ frames := 2, cells := 0, slots := 0, locals := 43 } : Room)).room s m [.ref (a 20)].toArray below meth c H locs 0 0 (MQ below (va_Qi (fun (r : Int32) (u : Unit) => r = nI (ctB (hearB n kd cw) n)) (c_B (dC, dI) vwCl (TY y) (fun (u : Unit) => (MW y a rn n lo kp dy so he kn ak pl im lo2 dy2 so2 he2 kn2 ma kd len ord kh km pg len2 ord2 kh2 km2 cw tl tO bO lf wo))) A) [.ref (a 20)].toArray s 0 0 A) (F0 m 4 ls []) := by
    intro dd_4
    induction dd_4 with
    | zero => intro k mm hk hm hd; exact absurd hd (Nat.not_lt_zero _)
    | succ dd_4 ih_4 =>
      intro k mm hk hm hd_4 H locs ls hP hS hl
      refine lv_iload_n hx hb dX8_hearingHouses_4 rfl (lv_at hl 0 rfl) ?_
      refine lv_aload_n hx hb dX8_hearingHouses_5 rfl (lv_at hl 2 rfl) ?_
      refine va_get (D := (dC, dI)) (ci := 8) (C := RX8) (T := TX8) (N := 3) hx hb hts in_X8_hearingHouses_X8 hown hK hP 20 rfl rfl 0 (by decide) (hts (.fieldLink RX8 19 "MilkRound$Walk" "street" "LMilkRound$Street;") (List.mem_of_getElem? (i := 1) rfl)) (fun _ h9 => h9) rfl dX8_hearingHouses_6 ?_
      refine va_get (D := (dC, dI)) (ci := 6) (C := RX6) (T := TX6) (N := 8) hx hb hts in_X8_hearingHouses_X6 hown hK hP 3 rfl rfl 6 (by decide) (hts (.fieldLink RX8 23 "MilkRound$Street" "size" "I") (List.mem_of_getElem? (i := 2) rfl)) (fun _ h9 => h9) rfl dX8_hearingHouses_9 ?_
      refine n_icmp_ge (tgt := 32) hx hb dX8_hearingHouses_12 (by decide) (by omega) (by omega) (fun c_12 => ?_) (fun c_12 => ?_)
      · refine lv_iload_n hx hb dX8_hearingHouses_32 rfl (lv_at hl 1 rfl) ?_
        have hkn : k = n := by omega
        exact c_iret hx hb hr hlocks hK hS () hP (by rw [hm, hkn]) dX8_hearingHouses_33
      · refine lv_aload_n hx hb dX8_hearingHouses_15 rfl (lv_at hl 2 rfl) ?_
        refine lv_iload_n hx hb dX8_hearingHouses_16 rfl (lv_at hl 0 rfl) ?_
        refine c_calli (va_runV (As := [.int (nI (k))]) (rest := []) ⟨hx, hb, hml, hown, hts⟩ (k_X8_hears l dC dI y A a hA0 xK xV rn n lo kp dy so he kn ak pl im lo2 dy2 so2 he2 kn2 ma kd len ord kh km pg len2 ord2 kh2 km2 cw tl tO bO lf wo k (by omega) hn hcw hkd) (cwV 1 hts gX8_hearingHouses_X8_hears rfl rfl rfl (by decide +kernel) ⟨Nat.le_of_ble_eq_true rfl, Nat.le_of_ble_eq_true rfl⟩) (c_preV (evN xK xV A) hK hE hS hP (va_recv hK hP (ci := 8) (q0 := 20) rfl rfl)) rfl rfl hl.1 rfl (lv_room (Nat.le_of_ble_eq_true rfl)) dX8_hearingHouses_17 ⟨Nat.le_refl _, Nat.le_refl _⟩) hS (fun r_17 u_17 H locs hw_17 hP hS => ?_)
        obtain rfl := hw_17
        refine n_bif_eq (tgt := 26) hx hb dX8_hearingHouses_20 (by decide) (fun c_20 => ?_) (fun c_20 => ?_)
        · refine lv_iinc (v := nI (k + 1)) (lv' := [(2, .int (nI (k + 1))), (1, .int (nI (mm))), (0, .ref (a 20))]) hx hb dX8_hearingHouses_26 hl (k := 0) rfl (mr_inc _) (by decide) rfl (fun ls hl => ?_)
          refine lv_goto (tgt := 4) hx hb dX8_hearingHouses_29 (by decide) ?_
          exact ih_4 (k + 1) mm (by omega) (by rw [hm, ctB_f c_20]) (by omega) _ _ _ hP hS (lv_sub hl [0, 1, 2] rfl)
        · refine lv_iinc (v := nI (mm + 1)) (lv' := [(1, .int (nI (mm + 1))), (2, .int (nI (k))), (0, .ref (a 20))]) hx hb dX8_hearingHouses_23 hl (k := 1) rfl (mr_inc _) (by decide) rfl (fun ls hl => ?_)
          refine lv_iinc (v := nI (k + 1)) (lv' := [(2, .int (nI (k + 1))), (1, .int (nI (mm + 1))), (0, .ref (a 20))]) hx hb dX8_hearingHouses_26 hl (k := 1) rfl (mr_inc _) (by decide) rfl (fun ls hl => ?_)
          refine lv_goto (tgt := 4) hx hb dX8_hearingHouses_29 (by decide) ?_
          exact ih_4 (k + 1) (mm + 1) (by omega) (by rw [hm, ctB_t c_20]) (by omega) _ _ _ hP hS (lv_sub hl [0, 1, 2] rfl)
  exact loop_4 _ 0 0 (Nat.zero_le _) rfl (Nat.lt_succ_self _) _ _ _ hP hS (lv_sub hl [0, 1, 2] rfl)
set_option maxHeartbeats 4000000 in
set_option maxRecDepth 100000 in
theorem k_X8_wrongs (l : Launch) (dC : Nat → ClassId) (dI : Nat → Nat → Nat) (y : Nat → ClassId) (A : Nat → Prop) (a : Nat → Nat) (hA0 : ad_ok A a 34) (xK : Nat → Nat) (xV : Nat → Nat) (rn : Nat) (n : Nat) (lo : Int32) (kp : Nat) (dy : Int32) (so : Int32) (he : Int32) (kn : Nat) (ak : Nat) (pl : Nat) (im : Bool) (lo2 : Int32) (dy2 : Int32) (so2 : Int32) (he2 : Int32) (kn2 : Nat) (ma : Nat) (kd : Nat → Nat) (len : Nat → Nat) (ord : Nat → Nat) (kh : Nat → Nat) (km : Nat → Nat) (pg : Nat → Nat) (len2 : Nat → Nat) (ord2 : Nat → Nat) (kh2 : Nat → Nat) (km2 : Nat → Nat) (cw : Nat → Nat) (tl : Nat → Nat) (tO : Nat → Nat) (bO : Nat → Nat) (lf : Nat → Nat → Nat) (wo : Nat → Nat) (hn : n ≤ 6) (hkp : kp ≤ 9) (hcw : ∀ j, cw j ≤ 126) (hkd : ∀ j, kd j ≤ 4) : Met l yX8_wrongs wsX8_wrongs ({ frames := 3, cells := 0, slots := 0, locals := 65 } : Room) (c_P (dC, dI) vwCl (TY y) (EV xK xV A) (MW y a rn n lo kp dy so he kn ak pl im lo2 dy2 so2 he2 kn2 ma kd len ord kh km pg len2 ord2 kh2 km2 cw tl tO bO lf wo) [.ref (a 20)]) (va_Qi (fun (r : Int32) (u : Unit) => r = nI (ctB (sourB kd kp cw) n + ctB (hearB n kd cw) n)) (c_B (dC, dI) vwCl (TY y) (fun (u : Unit) => (MW y a rn n lo kp dy so he kn ak pl im lo2 dy2 so2 he2 kn2 ma kd len ord kh km pg len2 ord2 kh2 km2 cw tl tO bO lf wo))) A) 0 0 A := by
  refine Met.ofW (cc := cX8_wrongs) (maxL := 1) (ret := (some .int)) (by decide) rfl ?_
  intro p e s m args below meth c s₁ BB hml hv
  obtain ⟨rfl, hP, hK, hE⟩ := hv
  have hx := BB.exec
  have hb := BB.bytes
  have hr := BB.returns
  have hts := atoms_spec (ws := wsX8_wrongs) BB.pre
  have hown : s.vm.findClass RX8 = some m.cls := findClass_of_methodNamed BB.named
  have hlocks := BB.notSynchronized
  have hS : va_S A s.heap s.heap [] := va_S.rf
  have hl := lv_entry ([.ref (a 20)]) (n := 1) (Nat.le_of_ble_eq_true rfl)
  rw [lg_entry_eq]
  generalize (lg_sl ([.ref (a 20)]) ++ List.replicate (1 - (lg_sl ([.ref (a 20)])).length) Slot.unset).toArray = ls at hl ⊢
  have hl : lv_has ls 1 [(0, .ref (a 20))] := hl
  refine lv_aload_n hx hb dX8_wrongs_0 rfl (lv_at hl 0 rfl) ?_
  refine c_calli (va_runV (As := []) (rest := []) ⟨hx, hb, hml, hown, hts⟩ (k_X8_sourHouses l dC dI y A a hA0 xK xV rn n lo kp dy so he kn ak pl im lo2 dy2 so2 he2 kn2 ma kd len ord kh km pg len2 ord2 kh2 km2 cw tl tO bO lf wo  hn hkp hcw hkd) (cwV 0 hts gX8_wrongs_X8_sourHouses rfl rfl rfl (by decide +kernel) ⟨Nat.le_of_ble_eq_true rfl, Nat.le_of_ble_eq_true rfl⟩) (c_preV (evN xK xV A) hK hE hS hP (va_recv hK hP (ci := 8) (q0 := 20) rfl rfl)) rfl rfl hl.1 rfl (lv_room (Nat.le_of_ble_eq_true rfl)) dX8_wrongs_1 ⟨Nat.le_refl _, Nat.le_refl _⟩) hS (fun r_1 u_1 H locs hw_1 hP hS => ?_)
  obtain rfl := hw_1
  refine lv_aload_n hx hb dX8_wrongs_4 rfl (lv_at hl 0 rfl) ?_
  refine c_calli (va_runV (As := []) (rest := [.int (nI (ctB (sourB kd kp cw) n))]) ⟨hx, hb, hml, hown, hts⟩ (k_X8_hearingHouses l dC dI y A a hA0 xK xV rn n lo kp dy so he kn ak pl im lo2 dy2 so2 he2 kn2 ma kd len ord kh km pg len2 ord2 kh2 km2 cw tl tO bO lf wo  hn hkp hcw hkd) (cwV 0 hts gX8_wrongs_X8_hearingHouses rfl rfl rfl (by decide +kernel) ⟨Nat.le_of_ble_eq_true rfl, Nat.le_of_ble_eq_true rfl⟩) (c_preV (evN xK xV A) hK hE hS hP (va_recv hK hP (ci := 8) (q0 := 20) rfl rfl)) rfl rfl hl.1 rfl (lv_room (Nat.le_of_ble_eq_true rfl)) dX8_wrongs_5 ⟨Nat.le_refl _, Nat.le_refl _⟩) hS (fun r_5 u_5 H locs hw_5 hP hS => ?_)
  obtain rfl := hw_5
  refine n_iadd hx hb dX8_wrongs_8 ?_
  exact c_iret hx hb hr hlocks hK hS () hP rfl dX8_wrongs_9
theorem in_X2_placeOf_X2 : ∀ w ∈ wsX20, w ∈ wsX2_placeOf := fun w h => List.mem_cons_of_mem _ (List.mem_append_right _ h)
set_option maxHeartbeats 4000000 in
set_option maxRecDepth 100000 in
theorem k_X2_placeOf (l : Launch) (dC : Nat → ClassId) (dI : Nat → Nat → Nat) (y : Nat → ClassId) (A : Nat → Prop) (a : Nat → Nat) (hA0 : ad_ok A a 34) (xK : Nat → Nat) (xV : Nat → Nat) (rn : Nat) (n : Nat) (lo : Int32) (kp : Nat) (dy : Int32) (so : Int32) (he : Int32) (kn : Nat) (ak : Nat) (pl : Nat) (im : Bool) (lo2 : Int32) (dy2 : Int32) (so2 : Int32) (he2 : Int32) (kn2 : Nat) (ma : Nat) (kd : Nat → Nat) (len : Nat → Nat) (ord : Nat → Nat) (kh : Nat → Nat) (km : Nat → Nat) (pg : Nat → Nat) (len2 : Nat → Nat) (ord2 : Nat → Nat) (kh2 : Nat → Nat) (km2 : Nat → Nat) (cw : Nat → Nat) (tl : Nat → Nat) (tO : Nat → Nat) (bO : Nat → Nat) (lf : Nat → Nat → Nat) (wo : Nat → Nat) (h : Nat) (kk : Nat) (hn : n ≤ 6) (hord : PermOn n ord) (hkk : kk < n) (hh : ord kk = h) : Met l yX2_placeOf wsX2_placeOf ({ frames := 0, cells := 0, slots := 0, locals := 0 } : Room) (c_P (dC, dI) vwCl (TY y) (EV xK xV A) (MW y a rn n lo kp dy so he kn ak pl im lo2 dy2 so2 he2 kn2 ma kd len ord kh km pg len2 ord2 kh2 km2 cw tl tO bO lf wo) [.ref (a 10), .int (nI (h))]) (va_Qi (fun (r : Int32) (u : Unit) => r = nI kk) (c_B (dC, dI) vwCl (TY y) (fun (u : Unit) => (MW y a rn n lo kp dy so he kn ak pl im lo2 dy2 so2 he2 kn2 ma kd len ord kh km pg len2 ord2 kh2 km2 cw tl tO bO lf wo))) A) 0 0 A := by
  refine Met.ofW (cc := cX2_placeOf) (maxL := 3) (ret := (some .int)) (by decide) rfl ?_
  intro p e s m args below meth c s₁ BB hml hv
  obtain ⟨rfl, hP, hK, hE⟩ := hv
  have hx := BB.exec
  have hb := BB.bytes
  have hr := BB.returns
  have hts := atoms_spec (ws := wsX2_placeOf) BB.pre
  have hown : s.vm.findClass RX2 = some m.cls := findClass_of_methodNamed BB.named
  have hlocks := BB.notSynchronized
  have hS : va_S A s.heap s.heap [] := va_S.rf
  have hl := lv_entry ([.ref (a 10), .int (nI (h))]) (n := 3) (Nat.le_of_ble_eq_true rfl)
  rw [lg_entry_eq]
  generalize (lg_sl ([.ref (a 10), .int (nI (h))]) ++ List.replicate (3 - (lg_sl ([.ref (a 10), .int (nI (h))])).length) Slot.unset).toArray = ls at hl ⊢
  have hl : lv_has ls 3 [(0, .ref (a 10)), (1, .int (nI (h)))] := hl
  refine lv_iconst (v := nI (0)) hx hb dX2_placeOf_0 (by decide) ?_
  refine lv_istore_n (lv' := [(2, .int (nI (0))), (0, .ref (a 10)), (1, .int (nI (h)))]) hx hb dX2_placeOf_1 rfl hl (by decide) rfl (fun ls hl => ?_)
  have loop_2 : ∀ (dd_2 : Nat) (k : Nat) (hk : k ≤ kk), 6 - k < dd_2 → ∀ (H : Heap) (locs : List Loc) (ls : Array Slot), va_P (dC, dI) vwCl (MW y a rn n lo kp dy so he kn ak pl im lo2 dy2 so2 he2 kn2 ma kd len ord kh km pg len2 ord2 kh2 km2 cw tl tO bO lf wo) H → va_S A s.heap H locs → lv_has ls 3 [(2, .int (nI (k))), (0, .ref (a 10)), (1, .int (nI (h)))] → W p l e (headSpec wsX2_placeOf ({ frames := 0, cells := 0, slots := 0, locals := 0 } : Room)).room s m [.ref (a 10), .int (nI (h))].toArray below meth c H locs 0 0 (MQ below (va_Qi (fun (r : Int32) (u : Unit) => r = nI kk) (c_B (dC, dI) vwCl (TY y) (fun (u : Unit) => (MW y a rn n lo kp dy so he kn ak pl im lo2 dy2 so2 he2 kn2 ma kd len ord kh km pg len2 ord2 kh2 km2 cw tl tO bO lf wo))) A) [.ref (a 10), .int (nI (h))].toArray s 0 0 A) (F0 m 2 ls []) := by
    intro dd_2
    induction dd_2 with
    | zero => intro k hk hd; exact absurd hd (Nat.not_lt_zero _)
    | succ dd_2 ih_2 =>
      intro k hk hd_2 H locs ls hP hS hl
      refine lv_iload_n hx hb dX2_placeOf_2 rfl (lv_at hl 0 rfl) ?_
      refine lv_iconst (v := nI (5)) hx hb dX2_placeOf_3 (by decide) ?_
      refine n_icmp_ge (tgt := 23) hx hb dX2_placeOf_4 (by decide) (by omega) (by omega) (fun c_4 => ?_) (fun c_4 => ?_)
      · refine lv_iload_n hx hb dX2_placeOf_23 rfl (lv_at hl 0 rfl) ?_
        exact c_iret hx hb hr hlocks hK hS () hP (by rw [show k = kk by omega]) dX2_placeOf_24
      · have hok := hord.1 k (by omega)
        have hok2 := hord.1 kk hkk
        refine lv_aload_n hx hb dX2_placeOf_7 rfl (lv_at hl 1 rfl) ?_
        refine va_get (D := (dC, dI)) (ci := 2) (C := RX2) (T := TX2) (N := 9) hx hb hts in_X2_placeOf_X2 hown hK hP 10 rfl rfl 1 (by decide) (hts (.fieldLink RX2 15 "MilkRound$Course" "order" "[I") (List.mem_of_getElem? (i := 1) rfl)) (fun _ h9 => h9) rfl dX2_placeOf_8 ?_
        refine lv_iload_n hx hb dX2_placeOf_11 rfl (lv_at hl 0 rfl) ?_
        refine n_iald hx hb hK hP 12 0 rfl rfl (by omega) (by decide) dX2_placeOf_12 ?_
        refine lv_iload_n hx hb dX2_placeOf_13 rfl (lv_at hl 2 rfl) ?_
        refine n_icmp_eq (tgt := 23) hx hb dX2_placeOf_14 (by decide) (by omega) (by omega) (fun c_14 => ?_) (fun c_14 => ?_)
        · refine lv_iload_n hx hb dX2_placeOf_23 rfl (lv_at hl 0 rfl) ?_
          exact c_iret hx hb hr hlocks hK hS () hP (by rw [hord.2 k kk (by omega) hkk (by omega)]) dX2_placeOf_24
        · refine lv_iinc (v := nI (k + 1)) (lv' := [(2, .int (nI (k + 1))), (0, .ref (a 10)), (1, .int (nI (h)))]) hx hb dX2_placeOf_17 hl (k := 0) rfl (mr_inc _) (by decide) rfl (fun ls hl => ?_)
          refine lv_goto (tgt := 2) hx hb dX2_placeOf_20 (by decide) ?_
          have hne : k ≠ kk := fun q => c_14 (by rw [q]; exact hh)
          exact ih_2 (k + 1) (by omega) (by omega) _ _ _ hP hS (lv_sub hl [0, 1, 2] rfl)
  exact loop_2 _ 0 (Nat.zero_le _) (Nat.lt_succ_self _) _ _ _ hP hS (lv_sub hl [0, 1, 2] rfl)
set_option maxHeartbeats 4000000 in
set_option maxRecDepth 100000 in
theorem k_X10_exchange_o (l : Launch) (dC : Nat → ClassId) (dI : Nat → Nat → Nat) (y : Nat → ClassId) (A : Nat → Prop) (a : Nat → Nat) (hA0 : ad_ok A a 34) (xK : Nat → Nat) (xV : Nat → Nat) (rn : Nat) (n : Nat) (lo : Int32) (kp : Nat) (dy : Int32) (so : Int32) (he : Int32) (kn : Nat) (ak : Nat) (pl : Nat) (im : Bool) (lo2 : Int32) (dy2 : Int32) (so2 : Int32) (he2 : Int32) (kn2 : Nat) (ma : Nat) (kd : Nat → Nat) (len : Nat → Nat) (ord : Nat → Nat) (kh : Nat → Nat) (km : Nat → Nat) (pg : Nat → Nat) (len2 : Nat → Nat) (ord2 : Nat → Nat) (kh2 : Nat → Nat) (km2 : Nat → Nat) (cw : Nat → Nat) (tl : Nat → Nat) (tO : Nat → Nat) (bO : Nat → Nat) (lf : Nat → Nat → Nat) (wo : Nat → Nat) (i : Nat) (j : Nat) (hi : i < 6) (hj : j < 6) : Met l yX10_exchange wsX10_exchange ({ frames := 0, cells := 0, slots := 0, locals := 0 } : Room) (c_P (dC, dI) vwCl (TY y) (EV xK xV A) (MW y a rn n lo kp dy so he kn ak pl im lo2 dy2 so2 he2 kn2 ma kd len ord kh km pg len2 ord2 kh2 km2 cw tl tO bO lf wo) [.ref (a 12), .int (nI (i)), .int (nI (j))]) (va_Qv (fun (u : Unit) => True) (c_B (dC, dI) vwCl (TY y) (fun (u : Unit) => (MW y a rn n lo kp dy so he kn ak pl im lo2 dy2 so2 he2 kn2 ma kd len (swF ord i j) kh km pg len2 ord2 kh2 km2 cw tl tO bO lf wo))) A) 0 0 A := by
  refine Met.ofW (cc := cX10_exchange) (maxL := 4) (ret := none) (by decide) rfl ?_
  intro p e s m args below meth c s₁ BB hml hv
  obtain ⟨rfl, hP, hK, hE⟩ := hv
  have hx := BB.exec
  have hb := BB.bytes
  have hr := BB.returns
  have hts := atoms_spec (ws := wsX10_exchange) BB.pre
  have hown : s.vm.findClass RX10 = some m.cls := findClass_of_methodNamed BB.named
  have hlocks := BB.notSynchronized
  have hS : va_S A s.heap s.heap [] := va_S.rf
  have hl := lv_entry ([.ref (a 12), .int (nI (i)), .int (nI (j))]) (n := 4) (Nat.le_of_ble_eq_true rfl)
  rw [lg_entry_eq]
  generalize (lg_sl ([.ref (a 12), .int (nI (i)), .int (nI (j))]) ++ List.replicate (4 - (lg_sl ([.ref (a 12), .int (nI (i)), .int (nI (j))])).length) Slot.unset).toArray = ls at hl ⊢
  have hl : lv_has ls 4 [(0, .ref (a 12)), (1, .int (nI (i))), (2, .int (nI (j)))] := hl
  refine lv_aload_n hx hb dX10_exchange_0 rfl (lv_at hl 0 rfl) ?_
  refine lv_iload_n hx hb dX10_exchange_1 rfl (lv_at hl 1 rfl) ?_
  refine n_iald hx hb hK hP 12 0 rfl rfl (by omega) (by decide) dX10_exchange_2 ?_
  refine lv_istore_n (lv' := [(3, .int (nI (ord i))), (0, .ref (a 12)), (1, .int (nI (i))), (2, .int (nI (j)))]) hx hb dX10_exchange_3 rfl hl (by decide) rfl (fun ls hl => ?_)
  refine lv_aload_n hx hb dX10_exchange_4 rfl (lv_at hl 1 rfl) ?_
  refine lv_iload_n hx hb dX10_exchange_5 rfl (lv_at hl 2 rfl) ?_
  refine lv_aload_n hx hb dX10_exchange_6 rfl (lv_at hl 1 rfl) ?_
  refine lv_iload_n hx hb dX10_exchange_7 rfl (lv_at hl 3 rfl) ?_
  refine n_iald hx hb hK hP 12 0 rfl rfl (by omega) (by decide) dX10_exchange_8 ?_
  refine n_iast hx hb hK hP (ad_D hA0 rfl) hS 12 0 rfl rfl (by omega) (by decide) dX10_exchange_9 (fun H locs hP hS => ?_)
  have hP : va_P (dC, dI) vwCl (MW y a rn n lo kp dy so he kn ak pl im lo2 dy2 so2 he2 kn2 ma kd len (va_up ord i (ord j)) kh km pg len2 ord2 kh2 km2 cw tl tO bO lf wo) H := hP
  refine lv_aload_n hx hb dX10_exchange_10 rfl (lv_at hl 1 rfl) ?_
  refine lv_iload_n hx hb dX10_exchange_11 rfl (lv_at hl 3 rfl) ?_
  refine lv_iload_n hx hb dX10_exchange_12 rfl (lv_at hl 0 rfl) ?_
  refine n_iast hx hb hK hP (ad_D hA0 rfl) hS 12 0 rfl rfl (by omega) (by decide) dX10_exchange_13 (fun H locs hP hS => ?_)
  have hP : va_P (dC, dI) vwCl (MW y a rn n lo kp dy so he kn ak pl im lo2 dy2 so2 he2 kn2 ma kd len (va_up (va_up ord i (ord j)) j (ord i)) kh km pg len2 ord2 kh2 km2 cw tl tO bO lf wo) H := hP
  exact c_vret hx hb hr hlocks hK hS () hP trivial dX10_exchange_14
set_option maxHeartbeats 4000000 in
set_option maxRecDepth 100000 in
theorem k_X10_exchange_t (l : Launch) (dC : Nat → ClassId) (dI : Nat → Nat → Nat) (y : Nat → ClassId) (A : Nat → Prop) (a : Nat → Nat) (hA0 : ad_ok A a 34) (xK : Nat → Nat) (xV : Nat → Nat) (rn : Nat) (n : Nat) (lo : Int32) (kp : Nat) (dy : Int32) (so : Int32) (he : Int32) (kn : Nat) (ak : Nat) (pl : Nat) (im : Bool) (lo2 : Int32) (dy2 : Int32) (so2 : Int32) (he2 : Int32) (kn2 : Nat) (ma : Nat) (kd : Nat → Nat) (len : Nat → Nat) (ord : Nat → Nat) (kh : Nat → Nat) (km : Nat → Nat) (pg : Nat → Nat) (len2 : Nat → Nat) (ord2 : Nat → Nat) (kh2 : Nat → Nat) (km2 : Nat → Nat) (cw : Nat → Nat) (tl : Nat → Nat) (tO : Nat → Nat) (bO : Nat → Nat) (lf : Nat → Nat → Nat) (wo : Nat → Nat) (i : Nat) (j : Nat) (hi : i < 6) (hj : j < 6) : Met l yX10_exchange wsX10_exchange ({ frames := 0, cells := 0, slots := 0, locals := 0 } : Room) (c_P (dC, dI) vwCl (TY y) (EV xK xV A) (MW y a rn n lo kp dy so he kn ak pl im lo2 dy2 so2 he2 kn2 ma kd len ord kh km pg len2 ord2 kh2 km2 cw tl tO bO lf wo) [.ref (a 23), .int (nI (i)), .int (nI (j))]) (va_Qv (fun (u : Unit) => True) (c_B (dC, dI) vwCl (TY y) (fun (u : Unit) => (MW y a rn n lo kp dy so he kn ak pl im lo2 dy2 so2 he2 kn2 ma kd len ord kh km pg len2 ord2 kh2 km2 cw tl (swF tO i j) bO lf wo))) A) 0 0 A := by
  refine Met.ofW (cc := cX10_exchange) (maxL := 4) (ret := none) (by decide) rfl ?_
  intro p e s m args below meth c s₁ BB hml hv
  obtain ⟨rfl, hP, hK, hE⟩ := hv
  have hx := BB.exec
  have hb := BB.bytes
  have hr := BB.returns
  have hts := atoms_spec (ws := wsX10_exchange) BB.pre
  have hown : s.vm.findClass RX10 = some m.cls := findClass_of_methodNamed BB.named
  have hlocks := BB.notSynchronized
  have hS : va_S A s.heap s.heap [] := va_S.rf
  have hl := lv_entry ([.ref (a 23), .int (nI (i)), .int (nI (j))]) (n := 4) (Nat.le_of_ble_eq_true rfl)
  rw [lg_entry_eq]
  generalize (lg_sl ([.ref (a 23), .int (nI (i)), .int (nI (j))]) ++ List.replicate (4 - (lg_sl ([.ref (a 23), .int (nI (i)), .int (nI (j))])).length) Slot.unset).toArray = ls at hl ⊢
  have hl : lv_has ls 4 [(0, .ref (a 23)), (1, .int (nI (i))), (2, .int (nI (j)))] := hl
  refine lv_aload_n hx hb dX10_exchange_0 rfl (lv_at hl 0 rfl) ?_
  refine lv_iload_n hx hb dX10_exchange_1 rfl (lv_at hl 1 rfl) ?_
  refine n_iald hx hb hK hP 23 0 rfl rfl (by omega) (by decide) dX10_exchange_2 ?_
  refine lv_istore_n (lv' := [(3, .int (nI (tO i))), (0, .ref (a 23)), (1, .int (nI (i))), (2, .int (nI (j)))]) hx hb dX10_exchange_3 rfl hl (by decide) rfl (fun ls hl => ?_)
  refine lv_aload_n hx hb dX10_exchange_4 rfl (lv_at hl 1 rfl) ?_
  refine lv_iload_n hx hb dX10_exchange_5 rfl (lv_at hl 2 rfl) ?_
  refine lv_aload_n hx hb dX10_exchange_6 rfl (lv_at hl 1 rfl) ?_
  refine lv_iload_n hx hb dX10_exchange_7 rfl (lv_at hl 3 rfl) ?_
  refine n_iald hx hb hK hP 23 0 rfl rfl (by omega) (by decide) dX10_exchange_8 ?_
  refine n_iast hx hb hK hP (ad_D hA0 rfl) hS 23 0 rfl rfl (by omega) (by decide) dX10_exchange_9 (fun H locs hP hS => ?_)
  have hP : va_P (dC, dI) vwCl (MW y a rn n lo kp dy so he kn ak pl im lo2 dy2 so2 he2 kn2 ma kd len ord kh km pg len2 ord2 kh2 km2 cw tl (va_up tO i (tO j)) bO lf wo) H := hP
  refine lv_aload_n hx hb dX10_exchange_10 rfl (lv_at hl 1 rfl) ?_
  refine lv_iload_n hx hb dX10_exchange_11 rfl (lv_at hl 3 rfl) ?_
  refine lv_iload_n hx hb dX10_exchange_12 rfl (lv_at hl 0 rfl) ?_
  refine n_iast hx hb hK hP (ad_D hA0 rfl) hS 23 0 rfl rfl (by omega) (by decide) dX10_exchange_13 (fun H locs hP hS => ?_)
  have hP : va_P (dC, dI) vwCl (MW y a rn n lo kp dy so he kn ak pl im lo2 dy2 so2 he2 kn2 ma kd len ord kh km pg len2 ord2 kh2 km2 cw tl (va_up (va_up tO i (tO j)) j (tO i)) bO lf wo) H := hP
  exact c_vret hx hb hr hlocks hK hS () hP trivial dX10_exchange_14
theorem in_X2_learn_X2 : ∀ w ∈ wsX20, w ∈ wsX2_learn := fun w h => List.mem_cons_of_mem _ (List.mem_append_right _ h)
set_option maxHeartbeats 4000000 in
set_option maxRecDepth 100000 in
theorem k_X2_learn (l : Launch) (dC : Nat → ClassId) (dI : Nat → Nat → Nat) (y : Nat → ClassId) (A : Nat → Prop) (a : Nat → Nat) (hA0 : ad_ok A a 34) (xK : Nat → Nat) (xV : Nat → Nat) (rn : Nat) (n : Nat) (lo : Int32) (kp : Nat) (dy : Int32) (so : Int32) (he : Int32) (kn : Nat) (ak : Nat) (pl : Nat) (im : Bool) (lo2 : Int32) (dy2 : Int32) (so2 : Int32) (he2 : Int32) (kn2 : Nat) (ma : Nat) (kd : Nat → Nat) (len : Nat → Nat) (ord : Nat → Nat) (kh : Nat → Nat) (km : Nat → Nat) (pg : Nat → Nat) (len2 : Nat → Nat) (ord2 : Nat → Nat) (kh2 : Nat → Nat) (km2 : Nat → Nat) (cw : Nat → Nat) (tl : Nat → Nat) (tO : Nat → Nat) (bO : Nat → Nat) (lf : Nat → Nat → Nat) (wo : Nat → Nat) (h : Nat) (w : Nat) (hkn : kn ≤ 6) : Met l yX2_learn wsX2_learn ({ frames := 0, cells := 0, slots := 0, locals := 0 } : Room) (c_P (dC, dI) vwCl (TY y) (EV xK xV A) (MW y a rn n lo kp dy so he kn ak pl im lo2 dy2 so2 he2 kn2 ma kd len ord kh km pg len2 ord2 kh2 km2 cw tl tO bO lf wo) [.ref (a 10), .int (nI (h)), .int (nI (w))]) (va_Qi (fun (r : Int32) (u : Unit) => r = bI (decide (¬ kn = 6))) (c_B (dC, dI) vwCl (TY y) (fun (u : Unit) => (MW y a rn n lo kp dy so he (if kn = 6 then kn else kn + 1) ak pl im lo2 dy2 so2 he2 kn2 ma kd len ord (if kn = 6 then kh else va_up kh kn h) (if kn = 6 then km else va_up km kn w) pg len2 ord2 kh2 km2 cw tl tO bO lf wo))) A) 0 0 A := by
  refine Met.ofW (cc := cX2_learn) (maxL := 3) (ret := (some .boolean)) (by decide) rfl ?_
  intro p e s m args below meth c s₁ BB hml hv
  obtain ⟨rfl, hP, hK, hE⟩ := hv
  have hx := BB.exec
  have hb := BB.bytes
  have hr := BB.returns
  have hts := atoms_spec (ws := wsX2_learn) BB.pre
  have hown : s.vm.findClass RX2 = some m.cls := findClass_of_methodNamed BB.named
  have hlocks := BB.notSynchronized
  have hS : va_S A s.heap s.heap [] := va_S.rf
  have hl := lv_entry ([.ref (a 10), .int (nI (h)), .int (nI (w))]) (n := 3) (Nat.le_of_ble_eq_true rfl)
  rw [lg_entry_eq]
  generalize (lg_sl ([.ref (a 10), .int (nI (h)), .int (nI (w))]) ++ List.replicate (3 - (lg_sl ([.ref (a 10), .int (nI (h)), .int (nI (w))])).length) Slot.unset).toArray = ls at hl ⊢
  have hl : lv_has ls 3 [(0, .ref (a 10)), (1, .int (nI (h))), (2, .int (nI (w)))] := hl
  refine lv_aload_n hx hb dX2_learn_0 rfl (lv_at hl 0 rfl) ?_
  refine va_get (D := (dC, dI)) (ci := 2) (C := RX2) (T := TX2) (N := 9) hx hb hts in_X2_learn_X2 hown hK hP 10 rfl rfl 4 (by decide) (hts (.fieldLink RX2 24 "MilkRound$Course" "knownSize" "I") (List.mem_of_getElem? (i := 1) rfl)) (fun _ h9 => h9) rfl dX2_learn_1 ?_
  refine lv_bipush (v := nI (6)) hx hb dX2_learn_4 (by decide) ?_
  refine n_icmp_lt (tgt := 11) hx hb dX2_learn_6 (by decide) (by omega) (by omega) (fun c_6 => ?_) (fun c_6 => ?_)
  · refine lv_aload_n hx hb dX2_learn_11 rfl (lv_at hl 0 rfl) ?_
    refine va_get (D := (dC, dI)) (ci := 2) (C := RX2) (T := TX2) (N := 9) hx hb hts in_X2_learn_X2 hown hK hP 10 rfl rfl 2 (by decide) (hts (.fieldLink RX2 18 "MilkRound$Course" "knownHouses" "[I") (List.mem_of_getElem? (i := 2) rfl)) (fun _ h9 => h9) rfl dX2_learn_12 ?_
    refine lv_aload_n hx hb dX2_learn_15 rfl (lv_at hl 0 rfl) ?_
    refine va_get (D := (dC, dI)) (ci := 2) (C := RX2) (T := TX2) (N := 9) hx hb hts in_X2_learn_X2 hown hK hP 10 rfl rfl 4 (by decide) (hts (.fieldLink RX2 24 "MilkRound$Course" "knownSize" "I") (List.mem_of_getElem? (i := 1) rfl)) (fun _ h9 => h9) rfl dX2_learn_16 ?_
    refine lv_iload_n hx hb dX2_learn_19 rfl (lv_at hl 1 rfl) ?_
    refine n_iast hx hb hK hP (ad_D hA0 rfl) hS 13 0 rfl rfl (by omega) (by decide) dX2_learn_20 (fun H locs hP hS => ?_)
    have hP : va_P (dC, dI) vwCl (MW y a rn n lo kp dy so he kn ak pl im lo2 dy2 so2 he2 kn2 ma kd len ord (va_up kh kn h) km pg len2 ord2 kh2 km2 cw tl tO bO lf wo) H := hP
    refine lv_aload_n hx hb dX2_learn_21 rfl (lv_at hl 0 rfl) ?_
    refine va_get (D := (dC, dI)) (ci := 2) (C := RX2) (T := TX2) (N := 9) hx hb hts in_X2_learn_X2 hown hK hP 10 rfl rfl 3 (by decide) (hts (.fieldLink RX2 21 "MilkRound$Course" "knownMinutes" "[I") (List.mem_of_getElem? (i := 3) rfl)) (fun _ h9 => h9) rfl dX2_learn_22 ?_
    refine lv_aload_n hx hb dX2_learn_25 rfl (lv_at hl 0 rfl) ?_
    refine va_get (D := (dC, dI)) (ci := 2) (C := RX2) (T := TX2) (N := 9) hx hb hts in_X2_learn_X2 hown hK hP 10 rfl rfl 4 (by decide) (hts (.fieldLink RX2 24 "MilkRound$Course" "knownSize" "I") (List.mem_of_getElem? (i := 1) rfl)) (fun _ h9 => h9) rfl dX2_learn_26 ?_
    refine lv_iload_n hx hb dX2_learn_29 rfl (lv_at hl 2 rfl) ?_
    refine n_iast hx hb hK hP (ad_D hA0 rfl) hS 14 0 rfl rfl (by omega) (by decide) dX2_learn_30 (fun H locs hP hS => ?_)
    have hP : va_P (dC, dI) vwCl (MW y a rn n lo kp dy so he kn ak pl im lo2 dy2 so2 he2 kn2 ma kd len ord (va_up kh kn h) (va_up km kn w) pg len2 ord2 kh2 km2 cw tl tO bO lf wo) H := hP
    refine lv_aload_n hx hb dX2_learn_31 rfl (lv_at hl 0 rfl) ?_
    refine lv_dup hx hb dX2_learn_32 rfl ?_
    refine va_get (D := (dC, dI)) (ci := 2) (C := RX2) (T := TX2) (N := 9) hx hb hts in_X2_learn_X2 hown hK hP 10 rfl rfl 4 (by decide) (hts (.fieldLink RX2 24 "MilkRound$Course" "knownSize" "I") (List.mem_of_getElem? (i := 1) rfl)) (fun _ h9 => h9) rfl dX2_learn_33 ?_
    refine lv_iconst (v := nI (1)) hx hb dX2_learn_36 (by decide) ?_
    refine n_iadd hx hb dX2_learn_37 ?_
    refine va_put (D := (dC, dI)) (ci := 2) (ty := tyX2 4) (C := RX2) (T := TX2) (N := 9) hx hb hts in_X2_learn_X2 tyX2 tyX2_ok nmX2 hown hK hP (ad_D hA0 rfl) hS 10 rfl rfl 4 (by decide) (hts (.fieldLink RX2 24 "MilkRound$Course" "knownSize" "I") (List.mem_of_getElem? (i := 1) rfl)) (fun _ h9 => h9) rfl (tyX2_ok 4 (by decide)) rfl rfl (Nat.le_of_ble_eq_true rfl) dX2_learn_38 (fun H locs hP _ hS => ?_)
    have hP : va_P (dC, dI) vwCl (MW y a rn n lo kp dy so he (kn + 1) ak pl im lo2 dy2 so2 he2 kn2 ma kd len ord (va_up kh kn h) (va_up km kn w) pg len2 ord2 kh2 km2 cw tl tO bO lf wo) H := hP
    refine lv_iconst (v := nI (1)) hx hb dX2_learn_41 (by decide) ?_
    have hP : va_P (dC, dI) vwCl (MW y a rn n lo kp dy so he (if kn = 6 then kn else kn + 1) ak pl im lo2 dy2 so2 he2 kn2 ma kd len ord (if kn = 6 then kh else va_up kh kn h) (if kn = 6 then km else va_up km kn w) pg len2 ord2 kh2 km2 cw tl tO bO lf wo) H := by
      rw [if_neg (by omega), if_neg (by omega), if_neg (by omega)]
      exact hP
    exact c_zret hx hb hr hlocks hK hS () rfl hP (bI_1 (decide_eq_true (by omega))) dX2_learn_42
  · refine lv_iconst (v := nI (0)) hx hb dX2_learn_9 (by decide) ?_
    have hP : va_P (dC, dI) vwCl (MW y a rn n lo kp dy so he (if kn = 6 then kn else kn + 1) ak pl im lo2 dy2 so2 he2 kn2 ma kd len ord (if kn = 6 then kh else va_up kh kn h) (if kn = 6 then km else va_up km kn w) pg len2 ord2 kh2 km2 cw tl tO bO lf wo) s.heap := by
      rw [if_pos (by omega), if_pos (by omega), if_pos (by omega)]
      exact hP
    exact c_zret hx hb hr hlocks hK hS () rfl hP (bI_0 (decide_eq_false (by omega))) dX2_learn_10
theorem in_X2_copyFrom_k_X2 : ∀ w ∈ wsX20, w ∈ wsX2_copyFrom := fun w h => List.mem_cons_of_mem _ (List.mem_append_right _ h)
set_option maxHeartbeats 4000000 in
set_option maxRecDepth 100000 in
theorem k_X2_copyFrom_k (l : Launch) (dC : Nat → ClassId) (dI : Nat → Nat → Nat) (y : Nat → ClassId) (A : Nat → Prop) (a : Nat → Nat) (hA0 : ad_ok A a 34) (xK : Nat → Nat) (xV : Nat → Nat) (rn : Nat) (n : Nat) (lo : Int32) (kp : Nat) (dy : Int32) (so : Int32) (he : Int32) (kn : Nat) (ak : Nat) (pl : Nat) (im : Bool) (lo2 : Int32) (dy2 : Int32) (so2 : Int32) (he2 : Int32) (kn2 : Nat) (ma : Nat) (kd : Nat → Nat) (len : Nat → Nat) (ord : Nat → Nat) (kh : Nat → Nat) (km : Nat → Nat) (pg : Nat → Nat) (len2 : Nat → Nat) (ord2 : Nat → Nat) (kh2 : Nat → Nat) (km2 : Nat → Nat) (cw : Nat → Nat) (tl : Nat → Nat) (tO : Nat → Nat) (bO : Nat → Nat) (lf : Nat → Nat → Nat) (wo : Nat → Nat) : Met l yX2_copyFrom wsX2_copyFrom ({ frames := 1, cells := 0, slots := 0, locals := 18 } : Room) (c_P (dC, dI) vwCl (TY y) (EV xK xV A) (MW y a rn n lo kp dy so he kn ak pl im lo2 dy2 so2 he2 kn2 ma kd len ord kh km pg len2 ord2 kh2 km2 cw tl tO bO lf wo) [.ref (a 15), .ref (a 10)]) (va_Qv (fun (u : Unit) => True) (c_B (dC, dI) vwCl (TY y) (fun (u : Unit) => (MW y a rn n lo kp dy so he kn ak pl im lo dy so he kn ma kd len ord kh km pg (mixF 6 len len2) (mixF 6 ord ord2) (mixF 6 kh kh2) (mixF 6 km km2) cw tl tO bO lf wo))) A) 0 0 A := by
  refine Met.ofW (cc := cX2_copyFrom) (maxL := 2) (ret := none) (by decide) rfl ?_
  intro p e s m args below meth c s₁ BB hml hv
  obtain ⟨rfl, hP, hK, hE⟩ := hv
  have hx := BB.exec
  have hb := BB.bytes
  have hr := BB.returns
  have hts := atoms_spec (ws := wsX2_copyFrom) BB.pre
  have hown : s.vm.findClass RX2 = some m.cls := findClass_of_methodNamed BB.named
  have hlocks := BB.notSynchronized
  have hS : va_S A s.heap s.heap [] := va_S.rf
  have hl := lv_entry ([.ref (a 15), .ref (a 10)]) (n := 2) (Nat.le_of_ble_eq_true rfl)
  rw [lg_entry_eq]
  generalize (lg_sl ([.ref (a 15), .ref (a 10)]) ++ List.replicate (2 - (lg_sl ([.ref (a 15), .ref (a 10)])).length) Slot.unset).toArray = ls at hl ⊢
  have hl : lv_has ls 2 [(0, .ref (a 15)), (1, .ref (a 10))] := hl
  refine lv_aload_n hx hb dX2_copyFrom_0 rfl (lv_at hl 1 rfl) ?_
  refine va_get (D := (dC, dI)) (ci := 2) (C := RX2) (T := TX2) (N := 9) hx hb hts in_X2_copyFrom_k_X2 hown hK hP 10 rfl rfl 0 (by decide) (hts (.fieldLink RX2 9 "MilkRound$Course" "lengths" "[I") (List.mem_of_getElem? (i := 1) rfl)) (fun _ h9 => h9) rfl dX2_copyFrom_1 ?_
  refine lv_iconst (v := nI (0)) hx hb dX2_copyFrom_4 (by decide) ?_
  refine lv_aload_n hx hb dX2_copyFrom_5 rfl (lv_at hl 0 rfl) ?_
  refine va_get (D := (dC, dI)) (ci := 2) (C := RX2) (T := TX2) (N := 9) hx hb hts in_X2_copyFrom_k_X2 hown hK hP 15 rfl rfl 0 (by decide) (hts (.fieldLink RX2 9 "MilkRound$Course" "lengths" "[I") (List.mem_of_getElem? (i := 1) rfl)) (fun _ h9 => h9) rfl dX2_copyFrom_6 ?_
  refine lv_iconst (v := nI (0)) hx hb dX2_copyFrom_9 (by decide) ?_
  refine lv_bipush (v := nI (6)) hx hb dX2_copyFrom_10 (by decide) ?_
  refine n_cpy6 hx hb (hml.trans hl.1.symm) hown (hts (.methodLink RX2 46 arraycopyName) (List.mem_of_getElem? (i := 2) rfl)) (hts (.native arraycopyName) (List.mem_of_getElem? (i := 3) rfl)) (hts (.static arraycopyName) (List.mem_of_getElem? (i := 4) rfl)) (hts (.initialized "java/lang/System") (List.mem_of_getElem? (i := 5) rfl)) hK hP (ad_D hA0 rfl) hS 11 16 0 0 rfl rfl rfl rfl (Nat.le_of_ble_eq_true rfl) (Nat.le_of_ble_eq_true rfl) dX2_copyFrom_12 (fun H locs hP hS => ?_)
  have hP : va_P (dC, dI) vwCl (MW y a rn n lo kp dy so he kn ak pl im lo2 dy2 so2 he2 kn2 ma kd len ord kh km pg (mixF 6 len len2) ord2 kh2 km2 cw tl tO bO lf wo) H := hP
  refine lv_aload_n hx hb dX2_copyFrom_15 rfl (lv_at hl 1 rfl) ?_
  refine va_get (D := (dC, dI)) (ci := 2) (C := RX2) (T := TX2) (N := 9) hx hb hts in_X2_copyFrom_k_X2 hown hK hP 10 rfl rfl 1 (by decide) (hts (.fieldLink RX2 15 "MilkRound$Course" "order" "[I") (List.mem_of_getElem? (i := 6) rfl)) (fun _ h9 => h9) rfl dX2_copyFrom_16 ?_
  refine lv_iconst (v := nI (0)) hx hb dX2_copyFrom_19 (by decide) ?_
  refine lv_aload_n hx hb dX2_copyFrom_20 rfl (lv_at hl 0 rfl) ?_
  refine va_get (D := (dC, dI)) (ci := 2) (C := RX2) (T := TX2) (N := 9) hx hb hts in_X2_copyFrom_k_X2 hown hK hP 15 rfl rfl 1 (by decide) (hts (.fieldLink RX2 15 "MilkRound$Course" "order" "[I") (List.mem_of_getElem? (i := 6) rfl)) (fun _ h9 => h9) rfl dX2_copyFrom_21 ?_
  refine lv_iconst (v := nI (0)) hx hb dX2_copyFrom_24 (by decide) ?_
  refine lv_bipush (v := nI (6)) hx hb dX2_copyFrom_25 (by decide) ?_
  refine n_cpy6 hx hb (hml.trans hl.1.symm) hown (hts (.methodLink RX2 46 arraycopyName) (List.mem_of_getElem? (i := 2) rfl)) (hts (.native arraycopyName) (List.mem_of_getElem? (i := 3) rfl)) (hts (.static arraycopyName) (List.mem_of_getElem? (i := 4) rfl)) (hts (.initialized "java/lang/System") (List.mem_of_getElem? (i := 5) rfl)) hK hP (ad_D hA0 rfl) hS 12 17 0 0 rfl rfl rfl rfl (Nat.le_of_ble_eq_true rfl) (Nat.le_of_ble_eq_true rfl) dX2_copyFrom_27 (fun H locs hP hS => ?_)
  have hP : va_P (dC, dI) vwCl (MW y a rn n lo kp dy so he kn ak pl im lo2 dy2 so2 he2 kn2 ma kd len ord kh km pg (mixF 6 len len2) (mixF 6 ord ord2) kh2 km2 cw tl tO bO lf wo) H := hP
  refine lv_aload_n hx hb dX2_copyFrom_30 rfl (lv_at hl 1 rfl) ?_
  refine va_get (D := (dC, dI)) (ci := 2) (C := RX2) (T := TX2) (N := 9) hx hb hts in_X2_copyFrom_k_X2 hown hK hP 10 rfl rfl 2 (by decide) (hts (.fieldLink RX2 18 "MilkRound$Course" "knownHouses" "[I") (List.mem_of_getElem? (i := 7) rfl)) (fun _ h9 => h9) rfl dX2_copyFrom_31 ?_
  refine lv_iconst (v := nI (0)) hx hb dX2_copyFrom_34 (by decide) ?_
  refine lv_aload_n hx hb dX2_copyFrom_35 rfl (lv_at hl 0 rfl) ?_
  refine va_get (D := (dC, dI)) (ci := 2) (C := RX2) (T := TX2) (N := 9) hx hb hts in_X2_copyFrom_k_X2 hown hK hP 15 rfl rfl 2 (by decide) (hts (.fieldLink RX2 18 "MilkRound$Course" "knownHouses" "[I") (List.mem_of_getElem? (i := 7) rfl)) (fun _ h9 => h9) rfl dX2_copyFrom_36 ?_
  refine lv_iconst (v := nI (0)) hx hb dX2_copyFrom_39 (by decide) ?_
  refine lv_bipush (v := nI (6)) hx hb dX2_copyFrom_40 (by decide) ?_
  refine n_cpy6 hx hb (hml.trans hl.1.symm) hown (hts (.methodLink RX2 46 arraycopyName) (List.mem_of_getElem? (i := 2) rfl)) (hts (.native arraycopyName) (List.mem_of_getElem? (i := 3) rfl)) (hts (.static arraycopyName) (List.mem_of_getElem? (i := 4) rfl)) (hts (.initialized "java/lang/System") (List.mem_of_getElem? (i := 5) rfl)) hK hP (ad_D hA0 rfl) hS 13 18 0 0 rfl rfl rfl rfl (Nat.le_of_ble_eq_true rfl) (Nat.le_of_ble_eq_true rfl) dX2_copyFrom_42 (fun H locs hP hS => ?_)
  have hP : va_P (dC, dI) vwCl (MW y a rn n lo kp dy so he kn ak pl im lo2 dy2 so2 he2 kn2 ma kd len ord kh km pg (mixF 6 len len2) (mixF 6 ord ord2) (mixF 6 kh kh2) km2 cw tl tO bO lf wo) H := hP
  refine lv_aload_n hx hb dX2_copyFrom_45 rfl (lv_at hl 1 rfl) ?_
  refine va_get (D := (dC, dI)) (ci := 2) (C := RX2) (T := TX2) (N := 9) hx hb hts in_X2_copyFrom_k_X2 hown hK hP 10 rfl rfl 3 (by decide) (hts (.fieldLink RX2 21 "MilkRound$Course" "knownMinutes" "[I") (List.mem_of_getElem? (i := 8) rfl)) (fun _ h9 => h9) rfl dX2_copyFrom_46 ?_
  refine lv_iconst (v := nI (0)) hx hb dX2_copyFrom_49 (by decide) ?_
  refine lv_aload_n hx hb dX2_copyFrom_50 rfl (lv_at hl 0 rfl) ?_
  refine va_get (D := (dC, dI)) (ci := 2) (C := RX2) (T := TX2) (N := 9) hx hb hts in_X2_copyFrom_k_X2 hown hK hP 15 rfl rfl 3 (by decide) (hts (.fieldLink RX2 21 "MilkRound$Course" "knownMinutes" "[I") (List.mem_of_getElem? (i := 8) rfl)) (fun _ h9 => h9) rfl dX2_copyFrom_51 ?_
  refine lv_iconst (v := nI (0)) hx hb dX2_copyFrom_54 (by decide) ?_
  refine lv_bipush (v := nI (6)) hx hb dX2_copyFrom_55 (by decide) ?_
  refine n_cpy6 hx hb (hml.trans hl.1.symm) hown (hts (.methodLink RX2 46 arraycopyName) (List.mem_of_getElem? (i := 2) rfl)) (hts (.native arraycopyName) (List.mem_of_getElem? (i := 3) rfl)) (hts (.static arraycopyName) (List.mem_of_getElem? (i := 4) rfl)) (hts (.initialized "java/lang/System") (List.mem_of_getElem? (i := 5) rfl)) hK hP (ad_D hA0 rfl) hS 14 19 0 0 rfl rfl rfl rfl (Nat.le_of_ble_eq_true rfl) (Nat.le_of_ble_eq_true rfl) dX2_copyFrom_57 (fun H locs hP hS => ?_)
  have hP : va_P (dC, dI) vwCl (MW y a rn n lo kp dy so he kn ak pl im lo2 dy2 so2 he2 kn2 ma kd len ord kh km pg (mixF 6 len len2) (mixF 6 ord ord2) (mixF 6 kh kh2) (mixF 6 km km2) cw tl tO bO lf wo) H := hP
  refine lv_aload_n hx hb dX2_copyFrom_60 rfl (lv_at hl 0 rfl) ?_
  refine lv_aload_n hx hb dX2_copyFrom_61 rfl (lv_at hl 1 rfl) ?_
  refine va_get (D := (dC, dI)) (ci := 2) (C := RX2) (T := TX2) (N := 9) hx hb hts in_X2_copyFrom_k_X2 hown hK hP 10 rfl rfl 4 (by decide) (hts (.fieldLink RX2 24 "MilkRound$Course" "knownSize" "I") (List.mem_of_getElem? (i := 9) rfl)) (fun _ h9 => h9) rfl dX2_copyFrom_62 ?_
  refine va_put (D := (dC, dI)) (ci := 2) (ty := tyX2 4) (C := RX2) (T := TX2) (N := 9) hx hb hts in_X2_copyFrom_k_X2 tyX2 tyX2_ok nmX2 hown hK hP (ad_D hA0 rfl) hS 15 rfl rfl 4 (by decide) (hts (.fieldLink RX2 24 "MilkRound$Course" "knownSize" "I") (List.mem_of_getElem? (i := 9) rfl)) (fun _ h9 => h9) rfl (tyX2_ok 4 (by decide)) rfl rfl (Nat.le_of_ble_eq_true rfl) dX2_copyFrom_65 (fun H locs hP _ hS => ?_)
  have hP : va_P (dC, dI) vwCl (MW y a rn n lo kp dy so he kn ak pl im lo2 dy2 so2 he2 kn ma kd len ord kh km pg (mixF 6 len len2) (mixF 6 ord ord2) (mixF 6 kh kh2) (mixF 6 km km2) cw tl tO bO lf wo) H := hP
  refine lv_aload_n hx hb dX2_copyFrom_68 rfl (lv_at hl 0 rfl) ?_
  refine lv_aload_n hx hb dX2_copyFrom_69 rfl (lv_at hl 1 rfl) ?_
  refine va_get (D := (dC, dI)) (ci := 2) (C := RX2) (T := TX2) (N := 9) hx hb hts in_X2_copyFrom_k_X2 hown hK hP 10 rfl rfl 5 (by decide) (hts (.fieldLink RX2 28 "MilkRound$Course" "leftOut" "I") (List.mem_of_getElem? (i := 10) rfl)) (fun _ h9 => h9) rfl dX2_copyFrom_70 ?_
  refine va_put (D := (dC, dI)) (ci := 2) (ty := tyX2 5) (C := RX2) (T := TX2) (N := 9) hx hb hts in_X2_copyFrom_k_X2 tyX2 tyX2_ok nmX2 hown hK hP (ad_D hA0 rfl) hS 15 rfl rfl 5 (by decide) (hts (.fieldLink RX2 28 "MilkRound$Course" "leftOut" "I") (List.mem_of_getElem? (i := 10) rfl)) (fun _ h9 => h9) rfl (tyX2_ok 5 (by decide)) rfl rfl (Nat.le_of_ble_eq_true rfl) dX2_copyFrom_73 (fun H locs hP _ hS => ?_)
  have hP : va_P (dC, dI) vwCl (MW y a rn n lo kp dy so he kn ak pl im lo dy2 so2 he2 kn ma kd len ord kh km pg (mixF 6 len len2) (mixF 6 ord ord2) (mixF 6 kh kh2) (mixF 6 km km2) cw tl tO bO lf wo) H := hP
  refine lv_aload_n hx hb dX2_copyFrom_76 rfl (lv_at hl 0 rfl) ?_
  refine lv_aload_n hx hb dX2_copyFrom_77 rfl (lv_at hl 1 rfl) ?_
  refine va_get (D := (dC, dI)) (ci := 2) (C := RX2) (T := TX2) (N := 9) hx hb hts in_X2_copyFrom_k_X2 hown hK hP 10 rfl rfl 6 (by decide) (hts (.fieldLink RX2 31 "MilkRound$Course" "days" "I") (List.mem_of_getElem? (i := 11) rfl)) (fun _ h9 => h9) rfl dX2_copyFrom_78 ?_
  refine va_put (D := (dC, dI)) (ci := 2) (ty := tyX2 6) (C := RX2) (T := TX2) (N := 9) hx hb hts in_X2_copyFrom_k_X2 tyX2 tyX2_ok nmX2 hown hK hP (ad_D hA0 rfl) hS 15 rfl rfl 6 (by decide) (hts (.fieldLink RX2 31 "MilkRound$Course" "days" "I") (List.mem_of_getElem? (i := 11) rfl)) (fun _ h9 => h9) rfl (tyX2_ok 6 (by decide)) rfl rfl (Nat.le_of_ble_eq_true rfl) dX2_copyFrom_81 (fun H locs hP _ hS => ?_)
  have hP : va_P (dC, dI) vwCl (MW y a rn n lo kp dy so he kn ak pl im lo dy so2 he2 kn ma kd len ord kh km pg (mixF 6 len len2) (mixF 6 ord ord2) (mixF 6 kh kh2) (mixF 6 km km2) cw tl tO bO lf wo) H := hP
  refine lv_aload_n hx hb dX2_copyFrom_84 rfl (lv_at hl 0 rfl) ?_
  refine lv_aload_n hx hb dX2_copyFrom_85 rfl (lv_at hl 1 rfl) ?_
  refine va_get (D := (dC, dI)) (ci := 2) (C := RX2) (T := TX2) (N := 9) hx hb hts in_X2_copyFrom_k_X2 hown hK hP 10 rfl rfl 7 (by decide) (hts (.fieldLink RX2 34 "MilkRound$Course" "soured" "I") (List.mem_of_getElem? (i := 12) rfl)) (fun _ h9 => h9) rfl dX2_copyFrom_86 ?_
  refine va_put (D := (dC, dI)) (ci := 2) (ty := tyX2 7) (C := RX2) (T := TX2) (N := 9) hx hb hts in_X2_copyFrom_k_X2 tyX2 tyX2_ok nmX2 hown hK hP (ad_D hA0 rfl) hS 15 rfl rfl 7 (by decide) (hts (.fieldLink RX2 34 "MilkRound$Course" "soured" "I") (List.mem_of_getElem? (i := 12) rfl)) (fun _ h9 => h9) rfl (tyX2_ok 7 (by decide)) rfl rfl (Nat.le_of_ble_eq_true rfl) dX2_copyFrom_89 (fun H locs hP _ hS => ?_)
  have hP : va_P (dC, dI) vwCl (MW y a rn n lo kp dy so he kn ak pl im lo dy so he2 kn ma kd len ord kh km pg (mixF 6 len len2) (mixF 6 ord ord2) (mixF 6 kh kh2) (mixF 6 km km2) cw tl tO bO lf wo) H := hP
  refine lv_aload_n hx hb dX2_copyFrom_92 rfl (lv_at hl 0 rfl) ?_
  refine lv_aload_n hx hb dX2_copyFrom_93 rfl (lv_at hl 1 rfl) ?_
  refine va_get (D := (dC, dI)) (ci := 2) (C := RX2) (T := TX2) (N := 9) hx hb hts in_X2_copyFrom_k_X2 hown hK hP 10 rfl rfl 8 (by decide) (hts (.fieldLink RX2 37 "MilkRound$Course" "heard" "I") (List.mem_of_getElem? (i := 13) rfl)) (fun _ h9 => h9) rfl dX2_copyFrom_94 ?_
  refine va_put (D := (dC, dI)) (ci := 2) (ty := tyX2 8) (C := RX2) (T := TX2) (N := 9) hx hb hts in_X2_copyFrom_k_X2 tyX2 tyX2_ok nmX2 hown hK hP (ad_D hA0 rfl) hS 15 rfl rfl 8 (by decide) (hts (.fieldLink RX2 37 "MilkRound$Course" "heard" "I") (List.mem_of_getElem? (i := 13) rfl)) (fun _ h9 => h9) rfl (tyX2_ok 8 (by decide)) rfl rfl (Nat.le_of_ble_eq_true rfl) dX2_copyFrom_97 (fun H locs hP _ hS => ?_)
  have hP : va_P (dC, dI) vwCl (MW y a rn n lo kp dy so he kn ak pl im lo dy so he kn ma kd len ord kh km pg (mixF 6 len len2) (mixF 6 ord ord2) (mixF 6 kh kh2) (mixF 6 km km2) cw tl tO bO lf wo) H := hP
  exact c_vret hx hb hr hlocks hK hS () hP trivial dX2_copyFrom_100
theorem in_X2_copyFrom_n_X2 : ∀ w ∈ wsX20, w ∈ wsX2_copyFrom := fun w h => List.mem_cons_of_mem _ (List.mem_append_right _ h)
set_option maxHeartbeats 4000000 in
set_option maxRecDepth 100000 in
theorem k_X2_copyFrom_n (l : Launch) (dC : Nat → ClassId) (dI : Nat → Nat → Nat) (y : Nat → ClassId) (A : Nat → Prop) (a : Nat → Nat) (hA0 : ad_ok A a 34) (xK : Nat → Nat) (xV : Nat → Nat) (rn : Nat) (n : Nat) (lo : Int32) (kp : Nat) (dy : Int32) (so : Int32) (he : Int32) (kn : Nat) (ak : Nat) (pl : Nat) (im : Bool) (lo2 : Int32) (dy2 : Int32) (so2 : Int32) (he2 : Int32) (kn2 : Nat) (ma : Nat) (kd : Nat → Nat) (len : Nat → Nat) (ord : Nat → Nat) (kh : Nat → Nat) (km : Nat → Nat) (pg : Nat → Nat) (len2 : Nat → Nat) (ord2 : Nat → Nat) (kh2 : Nat → Nat) (km2 : Nat → Nat) (cw : Nat → Nat) (tl : Nat → Nat) (tO : Nat → Nat) (bO : Nat → Nat) (lf : Nat → Nat → Nat) (wo : Nat → Nat) : Met l yX2_copyFrom wsX2_copyFrom ({ frames := 1, cells := 0, slots := 0, locals := 18 } : Room) (c_P (dC, dI) vwCl (TY y) (EV xK xV A) (MW y a rn n lo kp dy so he kn ak pl im lo2 dy2 so2 he2 kn2 ma kd len ord kh km pg len2 ord2 kh2 km2 cw tl tO bO lf wo) [.ref (a 10), .ref (a 15)]) (va_Qv (fun (u : Unit) => True) (c_B (dC, dI) vwCl (TY y) (fun (u : Unit) => (MW y a rn n lo2 kp dy2 so2 he2 kn2 ak pl im lo2 dy2 so2 he2 kn2 ma kd (mixF 6 len2 len) (mixF 6 ord2 ord) (mixF 6 kh2 kh) (mixF 6 km2 km) pg len2 ord2 kh2 km2 cw tl tO bO lf wo))) A) 0 0 A := by
  refine Met.ofW (cc := cX2_copyFrom) (maxL := 2) (ret := none) (by decide) rfl ?_
  intro p e s m args below meth c s₁ BB hml hv
  obtain ⟨rfl, hP, hK, hE⟩ := hv
  have hx := BB.exec
  have hb := BB.bytes
  have hr := BB.returns
  have hts := atoms_spec (ws := wsX2_copyFrom) BB.pre
  have hown : s.vm.findClass RX2 = some m.cls := findClass_of_methodNamed BB.named
  have hlocks := BB.notSynchronized
  have hS : va_S A s.heap s.heap [] := va_S.rf
  have hl := lv_entry ([.ref (a 10), .ref (a 15)]) (n := 2) (Nat.le_of_ble_eq_true rfl)
  rw [lg_entry_eq]
  generalize (lg_sl ([.ref (a 10), .ref (a 15)]) ++ List.replicate (2 - (lg_sl ([.ref (a 10), .ref (a 15)])).length) Slot.unset).toArray = ls at hl ⊢
  have hl : lv_has ls 2 [(0, .ref (a 10)), (1, .ref (a 15))] := hl
  refine lv_aload_n hx hb dX2_copyFrom_0 rfl (lv_at hl 1 rfl) ?_
  refine va_get (D := (dC, dI)) (ci := 2) (C := RX2) (T := TX2) (N := 9) hx hb hts in_X2_copyFrom_n_X2 hown hK hP 15 rfl rfl 0 (by decide) (hts (.fieldLink RX2 9 "MilkRound$Course" "lengths" "[I") (List.mem_of_getElem? (i := 1) rfl)) (fun _ h9 => h9) rfl dX2_copyFrom_1 ?_
  refine lv_iconst (v := nI (0)) hx hb dX2_copyFrom_4 (by decide) ?_
  refine lv_aload_n hx hb dX2_copyFrom_5 rfl (lv_at hl 0 rfl) ?_
  refine va_get (D := (dC, dI)) (ci := 2) (C := RX2) (T := TX2) (N := 9) hx hb hts in_X2_copyFrom_n_X2 hown hK hP 10 rfl rfl 0 (by decide) (hts (.fieldLink RX2 9 "MilkRound$Course" "lengths" "[I") (List.mem_of_getElem? (i := 1) rfl)) (fun _ h9 => h9) rfl dX2_copyFrom_6 ?_
  refine lv_iconst (v := nI (0)) hx hb dX2_copyFrom_9 (by decide) ?_
  refine lv_bipush (v := nI (6)) hx hb dX2_copyFrom_10 (by decide) ?_
  refine n_cpy6 hx hb (hml.trans hl.1.symm) hown (hts (.methodLink RX2 46 arraycopyName) (List.mem_of_getElem? (i := 2) rfl)) (hts (.native arraycopyName) (List.mem_of_getElem? (i := 3) rfl)) (hts (.static arraycopyName) (List.mem_of_getElem? (i := 4) rfl)) (hts (.initialized "java/lang/System") (List.mem_of_getElem? (i := 5) rfl)) hK hP (ad_D hA0 rfl) hS 16 11 0 0 rfl rfl rfl rfl (Nat.le_of_ble_eq_true rfl) (Nat.le_of_ble_eq_true rfl) dX2_copyFrom_12 (fun H locs hP hS => ?_)
  have hP : va_P (dC, dI) vwCl (MW y a rn n lo kp dy so he kn ak pl im lo2 dy2 so2 he2 kn2 ma kd (mixF 6 len2 len) ord kh km pg len2 ord2 kh2 km2 cw tl tO bO lf wo) H := hP
  refine lv_aload_n hx hb dX2_copyFrom_15 rfl (lv_at hl 1 rfl) ?_
  refine va_get (D := (dC, dI)) (ci := 2) (C := RX2) (T := TX2) (N := 9) hx hb hts in_X2_copyFrom_n_X2 hown hK hP 15 rfl rfl 1 (by decide) (hts (.fieldLink RX2 15 "MilkRound$Course" "order" "[I") (List.mem_of_getElem? (i := 6) rfl)) (fun _ h9 => h9) rfl dX2_copyFrom_16 ?_
  refine lv_iconst (v := nI (0)) hx hb dX2_copyFrom_19 (by decide) ?_
  refine lv_aload_n hx hb dX2_copyFrom_20 rfl (lv_at hl 0 rfl) ?_
  refine va_get (D := (dC, dI)) (ci := 2) (C := RX2) (T := TX2) (N := 9) hx hb hts in_X2_copyFrom_n_X2 hown hK hP 10 rfl rfl 1 (by decide) (hts (.fieldLink RX2 15 "MilkRound$Course" "order" "[I") (List.mem_of_getElem? (i := 6) rfl)) (fun _ h9 => h9) rfl dX2_copyFrom_21 ?_
  refine lv_iconst (v := nI (0)) hx hb dX2_copyFrom_24 (by decide) ?_
  refine lv_bipush (v := nI (6)) hx hb dX2_copyFrom_25 (by decide) ?_
  refine n_cpy6 hx hb (hml.trans hl.1.symm) hown (hts (.methodLink RX2 46 arraycopyName) (List.mem_of_getElem? (i := 2) rfl)) (hts (.native arraycopyName) (List.mem_of_getElem? (i := 3) rfl)) (hts (.static arraycopyName) (List.mem_of_getElem? (i := 4) rfl)) (hts (.initialized "java/lang/System") (List.mem_of_getElem? (i := 5) rfl)) hK hP (ad_D hA0 rfl) hS 17 12 0 0 rfl rfl rfl rfl (Nat.le_of_ble_eq_true rfl) (Nat.le_of_ble_eq_true rfl) dX2_copyFrom_27 (fun H locs hP hS => ?_)
  have hP : va_P (dC, dI) vwCl (MW y a rn n lo kp dy so he kn ak pl im lo2 dy2 so2 he2 kn2 ma kd (mixF 6 len2 len) (mixF 6 ord2 ord) kh km pg len2 ord2 kh2 km2 cw tl tO bO lf wo) H := hP
  refine lv_aload_n hx hb dX2_copyFrom_30 rfl (lv_at hl 1 rfl) ?_
  refine va_get (D := (dC, dI)) (ci := 2) (C := RX2) (T := TX2) (N := 9) hx hb hts in_X2_copyFrom_n_X2 hown hK hP 15 rfl rfl 2 (by decide) (hts (.fieldLink RX2 18 "MilkRound$Course" "knownHouses" "[I") (List.mem_of_getElem? (i := 7) rfl)) (fun _ h9 => h9) rfl dX2_copyFrom_31 ?_
  refine lv_iconst (v := nI (0)) hx hb dX2_copyFrom_34 (by decide) ?_
  refine lv_aload_n hx hb dX2_copyFrom_35 rfl (lv_at hl 0 rfl) ?_
  refine va_get (D := (dC, dI)) (ci := 2) (C := RX2) (T := TX2) (N := 9) hx hb hts in_X2_copyFrom_n_X2 hown hK hP 10 rfl rfl 2 (by decide) (hts (.fieldLink RX2 18 "MilkRound$Course" "knownHouses" "[I") (List.mem_of_getElem? (i := 7) rfl)) (fun _ h9 => h9) rfl dX2_copyFrom_36 ?_
  refine lv_iconst (v := nI (0)) hx hb dX2_copyFrom_39 (by decide) ?_
  refine lv_bipush (v := nI (6)) hx hb dX2_copyFrom_40 (by decide) ?_
  refine n_cpy6 hx hb (hml.trans hl.1.symm) hown (hts (.methodLink RX2 46 arraycopyName) (List.mem_of_getElem? (i := 2) rfl)) (hts (.native arraycopyName) (List.mem_of_getElem? (i := 3) rfl)) (hts (.static arraycopyName) (List.mem_of_getElem? (i := 4) rfl)) (hts (.initialized "java/lang/System") (List.mem_of_getElem? (i := 5) rfl)) hK hP (ad_D hA0 rfl) hS 18 13 0 0 rfl rfl rfl rfl (Nat.le_of_ble_eq_true rfl) (Nat.le_of_ble_eq_true rfl) dX2_copyFrom_42 (fun H locs hP hS => ?_)
  have hP : va_P (dC, dI) vwCl (MW y a rn n lo kp dy so he kn ak pl im lo2 dy2 so2 he2 kn2 ma kd (mixF 6 len2 len) (mixF 6 ord2 ord) (mixF 6 kh2 kh) km pg len2 ord2 kh2 km2 cw tl tO bO lf wo) H := hP
  refine lv_aload_n hx hb dX2_copyFrom_45 rfl (lv_at hl 1 rfl) ?_
  refine va_get (D := (dC, dI)) (ci := 2) (C := RX2) (T := TX2) (N := 9) hx hb hts in_X2_copyFrom_n_X2 hown hK hP 15 rfl rfl 3 (by decide) (hts (.fieldLink RX2 21 "MilkRound$Course" "knownMinutes" "[I") (List.mem_of_getElem? (i := 8) rfl)) (fun _ h9 => h9) rfl dX2_copyFrom_46 ?_
  refine lv_iconst (v := nI (0)) hx hb dX2_copyFrom_49 (by decide) ?_
  refine lv_aload_n hx hb dX2_copyFrom_50 rfl (lv_at hl 0 rfl) ?_
  refine va_get (D := (dC, dI)) (ci := 2) (C := RX2) (T := TX2) (N := 9) hx hb hts in_X2_copyFrom_n_X2 hown hK hP 10 rfl rfl 3 (by decide) (hts (.fieldLink RX2 21 "MilkRound$Course" "knownMinutes" "[I") (List.mem_of_getElem? (i := 8) rfl)) (fun _ h9 => h9) rfl dX2_copyFrom_51 ?_
  refine lv_iconst (v := nI (0)) hx hb dX2_copyFrom_54 (by decide) ?_
  refine lv_bipush (v := nI (6)) hx hb dX2_copyFrom_55 (by decide) ?_
  refine n_cpy6 hx hb (hml.trans hl.1.symm) hown (hts (.methodLink RX2 46 arraycopyName) (List.mem_of_getElem? (i := 2) rfl)) (hts (.native arraycopyName) (List.mem_of_getElem? (i := 3) rfl)) (hts (.static arraycopyName) (List.mem_of_getElem? (i := 4) rfl)) (hts (.initialized "java/lang/System") (List.mem_of_getElem? (i := 5) rfl)) hK hP (ad_D hA0 rfl) hS 19 14 0 0 rfl rfl rfl rfl (Nat.le_of_ble_eq_true rfl) (Nat.le_of_ble_eq_true rfl) dX2_copyFrom_57 (fun H locs hP hS => ?_)
  have hP : va_P (dC, dI) vwCl (MW y a rn n lo kp dy so he kn ak pl im lo2 dy2 so2 he2 kn2 ma kd (mixF 6 len2 len) (mixF 6 ord2 ord) (mixF 6 kh2 kh) (mixF 6 km2 km) pg len2 ord2 kh2 km2 cw tl tO bO lf wo) H := hP
  refine lv_aload_n hx hb dX2_copyFrom_60 rfl (lv_at hl 0 rfl) ?_
  refine lv_aload_n hx hb dX2_copyFrom_61 rfl (lv_at hl 1 rfl) ?_
  refine va_get (D := (dC, dI)) (ci := 2) (C := RX2) (T := TX2) (N := 9) hx hb hts in_X2_copyFrom_n_X2 hown hK hP 15 rfl rfl 4 (by decide) (hts (.fieldLink RX2 24 "MilkRound$Course" "knownSize" "I") (List.mem_of_getElem? (i := 9) rfl)) (fun _ h9 => h9) rfl dX2_copyFrom_62 ?_
  refine va_put (D := (dC, dI)) (ci := 2) (ty := tyX2 4) (C := RX2) (T := TX2) (N := 9) hx hb hts in_X2_copyFrom_n_X2 tyX2 tyX2_ok nmX2 hown hK hP (ad_D hA0 rfl) hS 10 rfl rfl 4 (by decide) (hts (.fieldLink RX2 24 "MilkRound$Course" "knownSize" "I") (List.mem_of_getElem? (i := 9) rfl)) (fun _ h9 => h9) rfl (tyX2_ok 4 (by decide)) rfl rfl (Nat.le_of_ble_eq_true rfl) dX2_copyFrom_65 (fun H locs hP _ hS => ?_)
  have hP : va_P (dC, dI) vwCl (MW y a rn n lo kp dy so he kn2 ak pl im lo2 dy2 so2 he2 kn2 ma kd (mixF 6 len2 len) (mixF 6 ord2 ord) (mixF 6 kh2 kh) (mixF 6 km2 km) pg len2 ord2 kh2 km2 cw tl tO bO lf wo) H := hP
  refine lv_aload_n hx hb dX2_copyFrom_68 rfl (lv_at hl 0 rfl) ?_
  refine lv_aload_n hx hb dX2_copyFrom_69 rfl (lv_at hl 1 rfl) ?_
  refine va_get (D := (dC, dI)) (ci := 2) (C := RX2) (T := TX2) (N := 9) hx hb hts in_X2_copyFrom_n_X2 hown hK hP 15 rfl rfl 5 (by decide) (hts (.fieldLink RX2 28 "MilkRound$Course" "leftOut" "I") (List.mem_of_getElem? (i := 10) rfl)) (fun _ h9 => h9) rfl dX2_copyFrom_70 ?_
  refine va_put (D := (dC, dI)) (ci := 2) (ty := tyX2 5) (C := RX2) (T := TX2) (N := 9) hx hb hts in_X2_copyFrom_n_X2 tyX2 tyX2_ok nmX2 hown hK hP (ad_D hA0 rfl) hS 10 rfl rfl 5 (by decide) (hts (.fieldLink RX2 28 "MilkRound$Course" "leftOut" "I") (List.mem_of_getElem? (i := 10) rfl)) (fun _ h9 => h9) rfl (tyX2_ok 5 (by decide)) rfl rfl (Nat.le_of_ble_eq_true rfl) dX2_copyFrom_73 (fun H locs hP _ hS => ?_)
  have hP : va_P (dC, dI) vwCl (MW y a rn n lo2 kp dy so he kn2 ak pl im lo2 dy2 so2 he2 kn2 ma kd (mixF 6 len2 len) (mixF 6 ord2 ord) (mixF 6 kh2 kh) (mixF 6 km2 km) pg len2 ord2 kh2 km2 cw tl tO bO lf wo) H := hP
  refine lv_aload_n hx hb dX2_copyFrom_76 rfl (lv_at hl 0 rfl) ?_
  refine lv_aload_n hx hb dX2_copyFrom_77 rfl (lv_at hl 1 rfl) ?_
  refine va_get (D := (dC, dI)) (ci := 2) (C := RX2) (T := TX2) (N := 9) hx hb hts in_X2_copyFrom_n_X2 hown hK hP 15 rfl rfl 6 (by decide) (hts (.fieldLink RX2 31 "MilkRound$Course" "days" "I") (List.mem_of_getElem? (i := 11) rfl)) (fun _ h9 => h9) rfl dX2_copyFrom_78 ?_
  refine va_put (D := (dC, dI)) (ci := 2) (ty := tyX2 6) (C := RX2) (T := TX2) (N := 9) hx hb hts in_X2_copyFrom_n_X2 tyX2 tyX2_ok nmX2 hown hK hP (ad_D hA0 rfl) hS 10 rfl rfl 6 (by decide) (hts (.fieldLink RX2 31 "MilkRound$Course" "days" "I") (List.mem_of_getElem? (i := 11) rfl)) (fun _ h9 => h9) rfl (tyX2_ok 6 (by decide)) rfl rfl (Nat.le_of_ble_eq_true rfl) dX2_copyFrom_81 (fun H locs hP _ hS => ?_)
  have hP : va_P (dC, dI) vwCl (MW y a rn n lo2 kp dy2 so he kn2 ak pl im lo2 dy2 so2 he2 kn2 ma kd (mixF 6 len2 len) (mixF 6 ord2 ord) (mixF 6 kh2 kh) (mixF 6 km2 km) pg len2 ord2 kh2 km2 cw tl tO bO lf wo) H := hP
  refine lv_aload_n hx hb dX2_copyFrom_84 rfl (lv_at hl 0 rfl) ?_
  refine lv_aload_n hx hb dX2_copyFrom_85 rfl (lv_at hl 1 rfl) ?_
  refine va_get (D := (dC, dI)) (ci := 2) (C := RX2) (T := TX2) (N := 9) hx hb hts in_X2_copyFrom_n_X2 hown hK hP 15 rfl rfl 7 (by decide) (hts (.fieldLink RX2 34 "MilkRound$Course" "soured" "I") (List.mem_of_getElem? (i := 12) rfl)) (fun _ h9 => h9) rfl dX2_copyFrom_86 ?_
  refine va_put (D := (dC, dI)) (ci := 2) (ty := tyX2 7) (C := RX2) (T := TX2) (N := 9) hx hb hts in_X2_copyFrom_n_X2 tyX2 tyX2_ok nmX2 hown hK hP (ad_D hA0 rfl) hS 10 rfl rfl 7 (by decide) (hts (.fieldLink RX2 34 "MilkRound$Course" "soured" "I") (List.mem_of_getElem? (i := 12) rfl)) (fun _ h9 => h9) rfl (tyX2_ok 7 (by decide)) rfl rfl (Nat.le_of_ble_eq_true rfl) dX2_copyFrom_89 (fun H locs hP _ hS => ?_)
  have hP : va_P (dC, dI) vwCl (MW y a rn n lo2 kp dy2 so2 he kn2 ak pl im lo2 dy2 so2 he2 kn2 ma kd (mixF 6 len2 len) (mixF 6 ord2 ord) (mixF 6 kh2 kh) (mixF 6 km2 km) pg len2 ord2 kh2 km2 cw tl tO bO lf wo) H := hP
  refine lv_aload_n hx hb dX2_copyFrom_92 rfl (lv_at hl 0 rfl) ?_
  refine lv_aload_n hx hb dX2_copyFrom_93 rfl (lv_at hl 1 rfl) ?_
  refine va_get (D := (dC, dI)) (ci := 2) (C := RX2) (T := TX2) (N := 9) hx hb hts in_X2_copyFrom_n_X2 hown hK hP 15 rfl rfl 8 (by decide) (hts (.fieldLink RX2 37 "MilkRound$Course" "heard" "I") (List.mem_of_getElem? (i := 13) rfl)) (fun _ h9 => h9) rfl dX2_copyFrom_94 ?_
  refine va_put (D := (dC, dI)) (ci := 2) (ty := tyX2 8) (C := RX2) (T := TX2) (N := 9) hx hb hts in_X2_copyFrom_n_X2 tyX2 tyX2_ok nmX2 hown hK hP (ad_D hA0 rfl) hS 10 rfl rfl 8 (by decide) (hts (.fieldLink RX2 37 "MilkRound$Course" "heard" "I") (List.mem_of_getElem? (i := 13) rfl)) (fun _ h9 => h9) rfl (tyX2_ok 8 (by decide)) rfl rfl (Nat.le_of_ble_eq_true rfl) dX2_copyFrom_97 (fun H locs hP _ hS => ?_)
  have hP : va_P (dC, dI) vwCl (MW y a rn n lo2 kp dy2 so2 he2 kn2 ak pl im lo2 dy2 so2 he2 kn2 ma kd (mixF 6 len2 len) (mixF 6 ord2 ord) (mixF 6 kh2 kh) (mixF 6 km2 km) pg len2 ord2 kh2 km2 cw tl tO bO lf wo) H := hP
  exact c_vret hx hb hr hlocks hK hS () hP trivial dX2_copyFrom_100
theorem in_X10_hasNoRound_X10 : ∀ w ∈ wsX100, w ∈ wsX10_hasNoRound := fun w h => List.mem_cons_of_mem _ (List.mem_append_left _ (List.mem_append_right _ h))
theorem in_X10_hasNoRound_X6 : ∀ w ∈ wsX60, w ∈ wsX10_hasNoRound := fun w h => List.mem_cons_of_mem _ (List.mem_append_right _ h)
set_option maxHeartbeats 4000000 in
set_option maxRecDepth 100000 in
theorem k_X10_hasNoRound (l : Launch) (dC : Nat → ClassId) (dI : Nat → Nat → Nat) (y : Nat → ClassId) (A : Nat → Prop) (a : Nat → Nat) (hA0 : ad_ok A a 34) (xK : Nat → Nat) (xV : Nat → Nat) (rn : Nat) (n : Nat) (lo : Int32) (kp : Nat) (dy : Int32) (so : Int32) (he : Int32) (kn : Nat) (ak : Nat) (pl : Nat) (im : Bool) (lo2 : Int32) (dy2 : Int32) (so2 : Int32) (he2 : Int32) (kn2 : Nat) (ma : Nat) (kd : Nat → Nat) (len : Nat → Nat) (ord : Nat → Nat) (kh : Nat → Nat) (km : Nat → Nat) (pg : Nat → Nat) (len2 : Nat → Nat) (ord2 : Nat → Nat) (kh2 : Nat → Nat) (km2 : Nat → Nat) (cw : Nat → Nat) (tl : Nat → Nat) (tO : Nat → Nat) (bO : Nat → Nat) (lf : Nat → Nat → Nat) (wo : Nat → Nat) (hn : n ≤ 6) : Met l yX10_hasNoRound wsX10_hasNoRound ({ frames := 0, cells := 0, slots := 0, locals := 0 } : Room) (c_P (dC, dI) vwCl (TY y) (EV xK xV A) (MW y a rn n lo kp dy so he kn ak pl im lo2 dy2 so2 he2 kn2 ma kd len ord kh km pg len2 ord2 kh2 km2 cw tl tO bO lf wo) [.ref (a 0)]) (va_Qi (fun (r : Int32) (u : Unit) => r = bI (decide (n = 0))) (c_B (dC, dI) vwCl (TY y) (fun (u : Unit) => (MW y a rn n lo kp dy so he kn ak pl im lo2 dy2 so2 he2 kn2 ma kd len ord kh km pg len2 ord2 kh2 km2 cw tl tO bO lf wo))) A) 0 0 A := by
  refine Met.ofW (cc := cX10_hasNoRound) (maxL := 1) (ret := (some .boolean)) (by decide) rfl ?_
  intro p e s m args below meth c s₁ BB hml hv
  obtain ⟨rfl, hP, hK, hE⟩ := hv
  have hx := BB.exec
  have hb := BB.bytes
  have hr := BB.returns
  have hts := atoms_spec (ws := wsX10_hasNoRound) BB.pre
  have hown : s.vm.findClass RX10 = some m.cls := findClass_of_methodNamed BB.named
  have hlocks := BB.notSynchronized
  have hS : va_S A s.heap s.heap [] := va_S.rf
  have hl := lv_entry ([.ref (a 0)]) (n := 1) (Nat.le_of_ble_eq_true rfl)
  rw [lg_entry_eq]
  generalize (lg_sl ([.ref (a 0)]) ++ List.replicate (1 - (lg_sl ([.ref (a 0)])).length) Slot.unset).toArray = ls at hl ⊢
  have hl : lv_has ls 1 [(0, .ref (a 0))] := hl
  refine lv_aload_n hx hb dX10_hasNoRound_0 rfl (lv_at hl 0 rfl) ?_
  refine va_get (D := (dC, dI)) (ci := 10) (C := RX10) (T := TX10) (N := 12) hx hb hts in_X10_hasNoRound_X10 hown hK hP 0 rfl rfl 1 (by decide) (hts (.fieldLink RX10 19 "MilkRound" "street" "LMilkRound$Street;") (List.mem_of_getElem? (i := 1) rfl)) (fun _ h9 => h9) rfl dX10_hasNoRound_1 ?_
  refine va_get (D := (dC, dI)) (ci := 6) (C := RX6) (T := TX6) (N := 8) hx hb hts in_X10_hasNoRound_X6 hown hK hP 3 rfl rfl 6 (by decide) (hts (.fieldLink RX10 89 "MilkRound$Street" "size" "I") (List.mem_of_getElem? (i := 2) rfl)) (fun _ h9 => h9) rfl dX10_hasNoRound_4 ?_
  refine n_if_ne (tgt := 14) hx hb dX10_hasNoRound_7 (by decide) (by omega) (fun c_7 => ?_) (fun c_7 => ?_)
  · refine lv_iconst (v := nI (0)) hx hb dX10_hasNoRound_14 (by decide) ?_
    exact c_zret hx hb hr hlocks hK hS () rfl hP (bI_0 (decide_eq_false c_7)) dX10_hasNoRound_15
  · refine lv_iconst (v := nI (1)) hx hb dX10_hasNoRound_10 (by decide) ?_
    refine lv_goto (tgt := 15) hx hb dX10_hasNoRound_11 (by decide) ?_
    exact c_zret hx hb hr hlocks hK hS () rfl hP (bI_1 (decide_eq_true c_7)) dX10_hasNoRound_15
theorem in_X10_walkAsItIs_X10 : ∀ w ∈ wsX100, w ∈ wsX10_walkAsItIs := fun w h => List.mem_cons_of_mem _ (List.mem_append_left _ (List.mem_append_left _ (List.mem_append_left _ (List.mem_append_right _ h))))
theorem in_X10_walkAsItIs_X2 : ∀ w ∈ wsX20, w ∈ wsX10_walkAsItIs := fun w h => List.mem_cons_of_mem _ (List.mem_append_left _ (List.mem_append_left _ (List.mem_append_right _ h)))
set_option maxHeartbeats 4000000 in
set_option maxRecDepth 100000 in
theorem k_X10_walkAsItIs (l : Launch) (dC : Nat → ClassId) (dI : Nat → Nat → Nat) (y : Nat → ClassId) (A : Nat → Prop) (a : Nat → Nat) (hA0 : ad_ok A a 34) (xK : Nat → Nat) (xV : Nat → Nat) (rn : Nat) (n : Nat) (lo : Int32) (kp : Nat) (dy : Int32) (so : Int32) (he : Int32) (kn : Nat) (ak : Nat) (pl : Nat) (im : Bool) (lo2 : Int32) (dy2 : Int32) (so2 : Int32) (he2 : Int32) (kn2 : Nat) (ma : Nat) (kd : Nat → Nat) (len : Nat → Nat) (ord : Nat → Nat) (kh : Nat → Nat) (km : Nat → Nat) (pg : Nat → Nat) (len2 : Nat → Nat) (ord2 : Nat → Nat) (kh2 : Nat → Nat) (km2 : Nat → Nat) (cw : Nat → Nat) (tl : Nat → Nat) (tO : Nat → Nat) (bO : Nat → Nat) (lf : Nat → Nat → Nat) (wo : Nat → Nat) (hn : n ≤ 6) (hord : PermOn n ord) (hlen : ∀ j, len j ≤ 9) (hkd : ∀ j, kd j ≤ 4) (hcw : ∀ j, cw j ≤ 126) : Met l yX10_walkAsItIs wsX10_walkAsItIs ({ frames := 4, cells := 0, slots := 0, locals := 92 } : Room) (c_P (dC, dI) vwCl (TY y) (EV xK xV A) (MW y a rn n lo kp dy so he kn ak pl im lo2 dy2 so2 he2 kn2 ma kd len ord kh km pg len2 ord2 kh2 km2 cw tl tO bO lf wo) [.ref (a 0)]) (va_Qv (fun (u : (Nat → Nat) × Nat) => CamOk kd len lo ord n u.1 ∧ u.2 = tmF kd len lo ord n) (c_B (dC, dI) vwCl (TY y) (fun (u : (Nat → Nat) × Nat) => (MW y a rn n lo kp dy so he kn ak pl im lo2 dy2 so2 he2 kn2 u.2 kd len ord kh km pg len2 ord2 kh2 km2 u.1 tl tO bO lf wo))) A) 0 0 A := by
  refine Met.ofW (cc := cX10_walkAsItIs) (maxL := 1) (ret := none) (by decide) rfl ?_
  intro p e s m args below meth c s₁ BB hml hv
  obtain ⟨rfl, hP, hK, hE⟩ := hv
  have hx := BB.exec
  have hb := BB.bytes
  have hr := BB.returns
  have hts := atoms_spec (ws := wsX10_walkAsItIs) BB.pre
  have hown : s.vm.findClass RX10 = some m.cls := findClass_of_methodNamed BB.named
  have hlocks := BB.notSynchronized
  have hS : va_S A s.heap s.heap [] := va_S.rf
  have hl := lv_entry ([.ref (a 0)]) (n := 1) (Nat.le_of_ble_eq_true rfl)
  rw [lg_entry_eq]
  generalize (lg_sl ([.ref (a 0)]) ++ List.replicate (1 - (lg_sl ([.ref (a 0)])).length) Slot.unset).toArray = ls at hl ⊢
  have hl : lv_has ls 1 [(0, .ref (a 0))] := hl
  refine lv_aload_n hx hb dX10_walkAsItIs_0 rfl (lv_at hl 0 rfl) ?_
  refine va_get (D := (dC, dI)) (ci := 10) (C := RX10) (T := TX10) (N := 12) hx hb hts in_X10_walkAsItIs_X10 hown hK hP 0 rfl rfl 4 (by decide) (hts (.fieldLink RX10 38 "MilkRound" "walk" "LMilkRound$Walk;") (List.mem_of_getElem? (i := 1) rfl)) (fun _ h9 => h9) rfl dX10_walkAsItIs_1 ?_
  refine lv_aload_n hx hb dX10_walkAsItIs_4 rfl (lv_at hl 0 rfl) ?_
  refine va_get (D := (dC, dI)) (ci := 10) (C := RX10) (T := TX10) (N := 12) hx hb hts in_X10_walkAsItIs_X10 hown hK hP 0 rfl rfl 2 (by decide) (hts (.fieldLink RX10 26 "MilkRound" "now" "LMilkRound$Course;") (List.mem_of_getElem? (i := 2) rfl)) (fun _ h9 => h9) rfl dX10_walkAsItIs_5 ?_
  refine va_get (D := (dC, dI)) (ci := 2) (C := RX2) (T := TX2) (N := 9) hx hb hts in_X10_walkAsItIs_X2 hown hK hP 10 rfl rfl 0 (by decide) (hts (.fieldLink RX10 110 "MilkRound$Course" "lengths" "[I") (List.mem_of_getElem? (i := 3) rfl)) (fun _ h9 => h9) rfl dX10_walkAsItIs_8 ?_
  refine lv_aload_n hx hb dX10_walkAsItIs_11 rfl (lv_at hl 0 rfl) ?_
  refine va_get (D := (dC, dI)) (ci := 10) (C := RX10) (T := TX10) (N := 12) hx hb hts in_X10_walkAsItIs_X10 hown hK hP 0 rfl rfl 2 (by decide) (hts (.fieldLink RX10 26 "MilkRound" "now" "LMilkRound$Course;") (List.mem_of_getElem? (i := 2) rfl)) (fun _ h9 => h9) rfl dX10_walkAsItIs_12 ?_
  refine va_get (D := (dC, dI)) (ci := 2) (C := RX2) (T := TX2) (N := 9) hx hb hts in_X10_walkAsItIs_X2 hown hK hP 10 rfl rfl 1 (by decide) (hts (.fieldLink RX10 123 "MilkRound$Course" "order" "[I") (List.mem_of_getElem? (i := 4) rfl)) (fun _ h9 => h9) rfl dX10_walkAsItIs_15 ?_
  refine lv_aload_n hx hb dX10_walkAsItIs_18 rfl (lv_at hl 0 rfl) ?_
  refine va_get (D := (dC, dI)) (ci := 10) (C := RX10) (T := TX10) (N := 12) hx hb hts in_X10_walkAsItIs_X10 hown hK hP 0 rfl rfl 2 (by decide) (hts (.fieldLink RX10 26 "MilkRound" "now" "LMilkRound$Course;") (List.mem_of_getElem? (i := 2) rfl)) (fun _ h9 => h9) rfl dX10_walkAsItIs_19 ?_
  refine va_get (D := (dC, dI)) (ci := 2) (C := RX2) (T := TX2) (N := 9) hx hb hts in_X10_walkAsItIs_X2 hown hK hP 10 rfl rfl 5 (by decide) (hts (.fieldLink RX10 113 "MilkRound$Course" "leftOut" "I") (List.mem_of_getElem? (i := 5) rfl)) (fun _ h9 => h9) rfl dX10_walkAsItIs_22 ?_
  refine c_callv (va_runV (As := [.ref (a 11), .ref (a 12), .int (lo)]) (rest := []) ⟨hx, hb, hml, hown, hts⟩ (k_X8_go_a l dC dI y A a hA0 xK xV rn n lo kp dy so he kn ak pl im lo2 dy2 so2 he2 kn2 ma kd len ord kh km pg len2 ord2 kh2 km2 cw tl tO bO lf wo lo hn hord hlen hkd hcw) (cwV 3 hts gX10_walkAsItIs_X8_go rfl rfl rfl (by decide +kernel) ⟨Nat.le_of_ble_eq_true rfl, Nat.le_of_ble_eq_true rfl⟩) (c_preV (evN xK xV A) hK hE hS hP (va_recv hK hP (ci := 8) (q0 := 20) rfl rfl)) rfl rfl hl.1 rfl (lv_room (Nat.le_of_ble_eq_true rfl)) dX10_walkAsItIs_25 ⟨Nat.le_refl _, Nat.le_refl _⟩) hS (fun u_25 H locs hw_25 hP hS => ?_)
  have hP : va_P (dC, dI) vwCl (MW y a rn n lo kp dy so he kn ak pl im lo2 dy2 so2 he2 kn2 u_25.2 kd len ord kh km pg len2 ord2 kh2 km2 u_25.1 tl tO bO lf wo) H := hP
  exact c_vret hx hb hr hlocks hK hS u_25 hP hw_25 dX10_walkAsItIs_28
