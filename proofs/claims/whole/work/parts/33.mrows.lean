theorem mr_upH (a kd : Nat → Nat) (i k : Nat) : va_up (fun j => some (a (4 + kd j))) i (some (a (4 + k))) = fun j => some (a (4 + va_up kd i k j)) := by
  funext j
  unfold va_up
  split <;> rfl
theorem mr_cpy6 (f g : Nat → Nat) : va_cpy (fun j => nI (f j)) (fun j => nI (g j)) 0 0 6 = fun j => nI (mixF 6 f g j) := by
  funext j
  unfold va_cpy mixF
  by_cases h : j < 6
  · rw [if_pos ⟨Nat.zero_le _, by omega⟩, if_pos h, Nat.zero_add, Nat.sub_zero]
  · rw [if_neg (by omega), if_neg h]
section MRD
variable {p : Program} {l : Launch} {e : Env} {R : Room} {s : State} {m : MethodId} {args : Array Value} {below : List Frame} {meth : Method} {c : Code} {H : Heap} {locs : List Loc} {cells slots : Nat} {Q : State → Prop}
variable {cc : ByteArray} {pc : Nat} {ls : Array Slot} {rest : List Value} {D : va_G} {cl : List vw_C} {A : Nat → Prop} {b0 : Nat} {tys : List (ClassId × FieldType)} {ws : va_W} {H0 : Heap}
theorem n_topr {x z : Nat} (h : x = z) (k : W p l e R s m args below meth c H locs cells slots Q (F0 m pc ls (.ref z :: rest))) : W p l e R s m args below meth c H locs cells slots Q (F0 m pc ls (.ref x :: rest)) := by rw [h]; exact k
theorem n_aldr (hx : p.tables.exec = Jvm.exec) (hb : c.code = cc) (hK : va_K D cl tys s) (hP : va_P D cl ws H) (q0 t0 : Nat) {cA : ClassId} {C : String} {N r : Nat} {g : Nat → Option Nat} (ha : ws[q0]? = some (b0, .inl (cA, N, .inr (.inr (.inr (.inr g)))))) (ht : tys[t0]? = some (cA, .object C)) {i : Nat} (hi : i < N) (hN : N < 2 ^ 31) (hg : g i = some r) (hdg : decode cc pc = .ok (.aaload, 1)) (k : W p l e R s m args below meth c H locs cells slots Q (F0 m (pc + 1) ls (.ref r :: rest))) : W p l e R s m args below meth c H locs cells slots Q (F0 m pc ls (.int (nI i) :: .ref b0 :: rest)) := va_aldq hx hb hK hP q0 t0 ha ht (vp_in_nI hi hN) hdg (by rw [nI_clamp (Nat.lt_trans hi hN), hg]; exact k)
theorem n_aldg (hx : p.tables.exec = Jvm.exec) (hb : c.code = cc) (hK : va_K D cl tys s) (hP : va_P D cl ws H) (q0 t0 : Nat) {cA : ClassId} {ty : FieldType} {N r : Nat} {g : Nat → Option Nat} (ha : ws[q0]? = some (b0, .inl (cA, N, .inr (.inr (.inr (.inr g)))))) (ht : tys[t0]? = some (cA, .array ty)) {i : Nat} (hi : i < N) (hN : N < 2 ^ 31) (hg : g i = some r) (hdg : decode cc pc = .ok (.aaload, 1)) (k : W p l e R s m args below meth c H locs cells slots Q (F0 m (pc + 1) ls (.ref r :: rest))) : W p l e R s m args below meth c H locs cells slots Q (F0 m pc ls (.int (nI i) :: .ref b0 :: rest)) := by
  have hlt : (nI i).toNatClampNeg < N := by rw [nI_clamp (Nat.lt_trans hi hN)]; exact hi
  refine W.aald (v := va_rf (g (nI i).toNatClampNeg)) (ty := .array ty) hx hb (hP q0 _ ha) ((hK.2 t0 _ ht).1 N (fun j => va_rf (g j))) rfl (fun q => by cases q) (by show ¬ (_ < 0 ∨ (arrV _ _ _).slots.size ≤ _); rw [arrV_size]; exact vp_in_nI hi hN) (by show (arrV _ _ _).slots[_]? = _; rw [arrV_read _ _ hlt]) rfl rfl hdg ?_
  rw [nI_clamp (Nat.lt_trans hi hN), hg]
  exact k
theorem n_astO (hx : p.tables.exec = Jvm.exec) (hb : c.code = cc) (hK : va_K D cl tys s) (hP : va_P D cl ws H) (hD : va_D A ws) (hS : va_S A H0 H locs) (q0 t0 qk ci : Nat) {E : String} {cA : ClassId} {r : vw_C} {N v : Nat} {vs : List Value} {g : Nat → Option Nat} (ha : ws[q0]? = some (b0, .inl (cA, N, .inr (.inr (.inr (.inr g)))))) (ht : tys[t0]? = some (cA, .object E)) (hca : va_Nw (.castable r.1 E) s) (hv : ws[qk]? = some (v, .inr (ci, vs))) (hc : cl[ci]? = some r) {i : Nat} (hi : i < N) (hN : N < 2 ^ 31) (hdg : decode cc pc = .ok (.aastore, 1)) (k : ∀ (H1 : Heap) (locs1 : List Loc), va_P D cl (ws.set q0 (b0, .inl (cA, N, .inr (.inr (.inr (.inr (va_up g i (some v)))))))) H1 → va_S A H0 H1 locs1 → W p l e R s m args below meth c H1 locs1 cells slots Q (F0 m (pc + 1) ls rest)) : W p l e R s m args below meth c H locs cells slots Q (F0 m pc ls (.ref v :: .int (nI i) :: .ref b0 :: rest)) := va_astqO hx hb hK hP hD hS q0 t0 qk ci ha ht hca hv hc (vp_in_nI hi hN) hdg (fun H1 locs1 h1 _ h3 => by rw [nI_clamp (Nat.lt_trans hi hN)] at h1; exact k H1 locs1 h1 h3)
theorem n_astq (hx : p.tables.exec = Jvm.exec) (hb : c.code = cc) (hK : va_K D cl tys s) (hP : va_P D cl ws H) (hD : va_D A ws) (hS : va_S A H0 H locs) (q0 t0 qk ci : Nat) {cA : ClassId} {r : vw_C} {N v : Nat} {vs : List Value} {g : Nat → Option Nat} (ha : ws[q0]? = some (b0, .inl (cA, N, .inr (.inr (.inr (.inr g)))))) (ht : tys[t0]? = some (cA, .object r.1)) (hv : ws[qk]? = some (v, .inr (ci, vs))) (hc : cl[ci]? = some r) {i : Nat} (hi : i < N) (hN : N < 2 ^ 31) (hdg : decode cc pc = .ok (.aastore, 1)) (k : ∀ (H1 : Heap) (locs1 : List Loc), va_P D cl (ws.set q0 (b0, .inl (cA, N, .inr (.inr (.inr (.inr (va_up g i (some v)))))))) H1 → va_S A H0 H1 locs1 → W p l e R s m args below meth c H1 locs1 cells slots Q (F0 m (pc + 1) ls rest)) : W p l e R s m args below meth c H locs cells slots Q (F0 m pc ls (.ref v :: .int (nI i) :: .ref b0 :: rest)) := va_astq hx hb hK hP hD hS q0 t0 qk ci ha ht hv hc (vp_in_nI hi hN) hdg (fun H1 locs1 h1 _ h3 => by rw [nI_clamp (Nat.lt_trans hi hN)] at h1; exact k H1 locs1 h1 h3)
theorem n_cpy6 (hx : p.tables.exec = Jvm.exec) (hb : c.code = cc) (hml : c.maxLocals = ls.size) {own : String} {index : Nat} (hown : s.vm.findClass own = some m.cls) (hlink : (Cond.methodLink own index arraycopyName).before args s = true) (hnat : (Cond.native arraycopyName).before args s = true) (hstat : (Cond.static arraycopyName).before args s = true) (hini : (Cond.initialized "java/lang/System").before args s = true) (hK : va_K D cl tys s) (hP : va_P D cl ws H) (hD : va_D A ws) (hS : va_S A H0 H locs) (q0 q1 t0 t1 : Nat) {a0 : Nat} {c0 c1 : ClassId} {f g : Nat → Nat} (ha0 : ws[q0]? = some (a0, .inl (c0, 6, .inl (fun j => nI (f j))))) (ha1 : ws[q1]? = some (b0, .inl (c1, 6, .inl (fun j => nI (g j))))) (ht0 : tys[t0]? = some (c0, .int)) (ht1 : tys[t1]? = some (c1, .int)) (hframes : 1 ≤ R.frames) (hlocals : (rest.map fun v => v.category).sum + (nativeFrameWords "java/lang/System" "arraycopy" 5 + 11) ≤ R.locals) (hdg : decode cc pc = .ok (.invokestatic index, 3)) (k : ∀ (H1 : Heap) (locs1 : List Loc), va_P D cl (ws.set q1 (b0, .inl (c1, 6, .inl (fun j => nI (mixF 6 f g j))))) H1 → va_S A H0 H1 locs1 → W p l e R s m args below meth c H1 locs1 cells slots Q (F0 m (pc + 3) ls rest)) : W p l e R s m args below meth c H locs cells slots Q (F0 m pc ls (.int (nI 6) :: .int (nI 0) :: .ref b0 :: .int (nI 0) :: .ref a0 :: rest)) := va_copyi hx hb hml hown hlink hnat hstat hini hK hP hD hS q0 q1 t0 t1 ha0 ha1 ht0 ht1 rfl (by decide) (by decide) (by decide) (by decide) (by decide) (fun _ _ => rfl) hframes hlocals hdg (fun H1 locs1 h1 _ h3 => k H1 locs1 (by rw [← mr_cpy6]; exact h1) h3)
theorem c_callr {S : Type} {wf : S → va_W} {st0 : List Value} {av : Array Value} {ra0 : Nat} {post : S → Prop} (hr : va_Run p l e R s m args below meth c H locs cells slots 0 0 (F0 m pc ls st0) rest (va_Qr post (fun u ra t => ra = ra0 ∧ va_P D cl (wf u) t.heap ∧ va_K D cl tys t) A av) A) (hS : va_S A H0 H locs) (k : ∀ (u : S) (H1 : Heap) (locs1 : List Loc), post u → va_P D cl (wf u) H1 → va_S A H0 H1 locs1 → W p l e R s m args below meth c H1 locs1 cells slots Q (F0 m (pc + 3) ls (.ref ra0 :: rest))) : W p l e R s m args below meth c H locs cells slots Q (F0 m pc ls st0) := va_callr hr hS (fun _ _ h => h) (fun _ h => h) (fun u ra t H1 locs1 ht _ hp hB _ _ hS1 => by have e := hB.1; subst e; exact k u H1 locs1 hp (ht ▸ hB.2.1) hS1)
theorem c_aret {S : Type} {wf : S → va_W} {post : S → Prop} {ra0 : Nat} {C : String} (hx : p.tables.exec = Jvm.exec) (hb : c.code = cc) (hr : meth.sig.returnType = some (.object C)) (hlocks : meth.locks = false) (hK : va_K D cl tys s) (hS : va_S A s.heap H locs) (u : S) (hP : va_P D cl (wf u) H) (hp : post u) {ra : Nat} (he : ra = ra0) (hdg : decode cc pc = .ok (.areturn, 1)) : W p l e R s m args below meth c H locs cells slots (MQ below (va_Qr post (fun u ra t => ra = ra0 ∧ va_P D cl (wf u) t.heap ∧ va_K D cl tys t) A) args s cells slots A) (F0 m pc ls [.ref ra]) := W.aret hx hb hr (Or.inl ⟨_, rfl⟩) (Or.inr ⟨_, rfl⟩) (fun t ht hW => ⟨⟨u, ra, rfl, hp, he, by rw [ht]; exact hP, va_K.moved hW.alike hK⟩, hS.F ht⟩) hS.2.2 hdg
end MRD
/-- what the class rests on beside its cells: a link of its nest, kinds among kinds, one text -/
def EVc (U : State) : Prop := va_Nw (.castable RX5 RX3) U ∧ va_Nw (.castable RX0 RX3) U ∧ va_Nw (.castable RX1 RX3) U ∧ va_Nw (.castable RX9 RX3) U ∧ va_Nw (.castable RX9 RX5) U
def EVn (U : State) : Prop := va_Nc RX3 RX5 U ∧ va_Nc RX3 RX0 U ∧ va_Nc RX3 RX1 U ∧ va_Nc RX3 RX9 U ∧ va_Nc RX5 RX0 U ∧ va_Nc RX5 RX1 U ∧ va_Nc RX5 RX9 U ∧ va_Nc RX0 RX5 U ∧ va_Nc RX0 RX1 U ∧ va_Nc RX0 RX9 U ∧ va_Nc RX1 RX5 U ∧ va_Nc RX1 RX0 U ∧ va_Nc RX1 RX9 U ∧ va_Nc RX9 RX0 U ∧ va_Nc RX9 RX1 U
def EVs (xK xV : Nat → Nat) (A : Nat → Prop) (U : State) : Prop := vk_R RX4 27 "hsabw" (xK 0) U ∧ vk_S 1 [5] [[104, 115, 97, 98, 119]] xK xV A U U.heap ∧ va_Z "java/lang/String" "COMPACT_STRINGS" "Z" (.int 1) A U U.heap
def EV (xK xV : Nat → Nat) (A : Nat → Prop) (U : State) : Prop := va_Nw (.methodLinkNest RX6 71 yX10_bitOf "MilkRound") U ∧ EVc U ∧ EVn U ∧ EVs xK xV A U
theorem EVc.same {u U : State} (h : u.vm = U.vm) (q : EVc u) : EVc U := ⟨va_Nw.same rfl h (q.1), va_Nw.same rfl h (q.2.1), va_Nw.same rfl h (q.2.2.1), va_Nw.same rfl h (q.2.2.2.1), va_Nw.same rfl h (q.2.2.2.2)⟩
theorem EVc.warm {u U : State} (h : u.WarmedH U.vm) (q : EVc u) : EVc U := ⟨va_Nw.warmC h (q.1), va_Nw.warmC h (q.2.1), va_Nw.warmC h (q.2.2.1), va_Nw.warmC h (q.2.2.2.1), va_Nw.warmC h (q.2.2.2.2)⟩
theorem EVn.moved {u U : State} (h : u.vm.Alike U.vm) (q : EVn u) : EVn U := ⟨va_Nc.moved h (q.1), va_Nc.moved h (q.2.1), va_Nc.moved h (q.2.2.1), va_Nc.moved h (q.2.2.2.1), va_Nc.moved h (q.2.2.2.2.1), va_Nc.moved h (q.2.2.2.2.2.1), va_Nc.moved h (q.2.2.2.2.2.2.1), va_Nc.moved h (q.2.2.2.2.2.2.2.1), va_Nc.moved h (q.2.2.2.2.2.2.2.2.1), va_Nc.moved h (q.2.2.2.2.2.2.2.2.2.1), va_Nc.moved h (q.2.2.2.2.2.2.2.2.2.2.1), va_Nc.moved h (q.2.2.2.2.2.2.2.2.2.2.2.1), va_Nc.moved h (q.2.2.2.2.2.2.2.2.2.2.2.2.1), va_Nc.moved h (q.2.2.2.2.2.2.2.2.2.2.2.2.2.1), va_Nc.moved h (q.2.2.2.2.2.2.2.2.2.2.2.2.2.2)⟩
theorem evN (xK xV : Nat → Nat) (A : Nat → Prop) : c_N A (EV xK xV A) := by
  refine ⟨fun U g mk a h => ?_, fun u U H locs hU hW hS h => ?_⟩
  · obtain ⟨h1, h2, h3, h4, h5, h6⟩ := h
    exact ⟨va_Nw.same (u := U) rfl rfl h1, EVc.same (u := U) rfl h2, EVn.moved (u := U) (Vm.Alike.refl U.vm) h3, vk_R.same (u := U) rfl h4, vk_S.moved (u := U) (Vm.Alike.refl U.vm) h5, va_Z.moved (u := U) (Vm.Alike.refl U.vm) h6⟩
  · obtain ⟨h1, h2, h3, h4, h5, h6⟩ := h
    exact ⟨va_Nw.warmM hW h1, EVc.warm hW h2, EVn.moved hW.alike h3, vk_R.warm hW h4, by rw [hU]; exact vk_S.moved hW.alike (vk_S.kept h5 hS.2.1), by rw [hU]; exact va_Z.moved hW.alike (va_Z.kept h6 hS.2.1)⟩
def MW (y : Nat → ClassId) (a : Nat → Nat) (rn : Nat) (n : Nat) (lo : Int32) (kp : Nat) (dy : Int32) (so : Int32) (he : Int32) (kn : Nat) (ak : Nat) (pl : Nat) (im : Bool) (lo2 : Int32) (dy2 : Int32) (so2 : Int32) (he2 : Int32) (kn2 : Nat) (ma : Nat) (kd : Nat → Nat) (len : Nat → Nat) (ord : Nat → Nat) (kh : Nat → Nat) (km : Nat → Nat) (pg : Nat → Nat) (len2 : Nat → Nat) (ord2 : Nat → Nat) (kh2 : Nat → Nat) (km2 : Nat → Nat) (cw : Nat → Nat) (tl : Nat → Nat) (tO : Nat → Nat) (bO : Nat → Nat) (lf : Nat → Nat → Nat) (wo : Nat → Nat) : va_W := [(a 0, .inr (10, [.ref (a 1), .ref (a 3), .ref (a 10), .ref (a 15), .ref (a 20), .ref (a 22), .ref (a 23), .ref (a 24), .ref (a 25), .int (bI (im)), .int (nI (rn)), .int (nI (ak))])),
  (a 1, .inr (4, [.ref (a 2), .int (nI (pl))])),
  (a 2, .inl (y 2, 21, .inl (fun j => nI (pg j)))),
  (a 3, .inr (6, [.ref (a 4), .ref (a 5), .ref (a 6), .ref (a 7), .ref (a 8), .ref (a 9), .int (nI (n)), .int (nI (kp))])),
  (a 4, .inr (3, [])),
  (a 5, .inr (5, [])),
  (a 6, .inr (0, [])),
  (a 7, .inr (1, [])),
  (a 8, .inr (9, [])),
  (a 9, .inl (y 3, 6, .inr (.inr (.inr (.inr (fun j => some (a (4 + kd j)))))))),
  (a 10, .inr (2, [.ref (a 11), .ref (a 12), .ref (a 13), .ref (a 14), .int (nI (kn)), .int (lo), .int (dy), .int (so), .int (he)])),
  (a 11, .inl (y 0, 6, .inl (fun j => nI (len j)))),
  (a 12, .inl (y 0, 6, .inl (fun j => nI (ord j)))),
  (a 13, .inl (y 0, 6, .inl (fun j => nI (kh j)))),
  (a 14, .inl (y 0, 6, .inl (fun j => nI (km j)))),
  (a 15, .inr (2, [.ref (a 16), .ref (a 17), .ref (a 18), .ref (a 19), .int (nI (kn2)), .int (lo2), .int (dy2), .int (so2), .int (he2)])),
  (a 16, .inl (y 0, 6, .inl (fun j => nI (len2 j)))),
  (a 17, .inl (y 0, 6, .inl (fun j => nI (ord2 j)))),
  (a 18, .inl (y 0, 6, .inl (fun j => nI (kh2 j)))),
  (a 19, .inl (y 0, 6, .inl (fun j => nI (km2 j)))),
  (a 20, .inr (8, [.ref (a 3), .ref (a 21), .int (nI (ma))])),
  (a 21, .inl (y 0, 6, .inl (fun j => nI (cw j)))),
  (a 22, .inl (y 0, 6, .inl (fun j => nI (tl j)))),
  (a 23, .inl (y 0, 6, .inl (fun j => nI (tO j)))),
  (a 24, .inl (y 0, 6, .inl (fun j => nI (bO j)))),
  (a 25, .inr (7, [.ref (a 26), .ref (a 33)])),
  (a 26, .inl (y 4, 6, .inr (.inr (.inr (.inr (fun j => if j < 6 then some (a (27 + j)) else none)))))),
  (a 27, .inl (y 0, 151, .inl (fun j => nI (lf 0 j)))),
  (a 28, .inl (y 0, 151, .inl (fun j => nI (lf 1 j)))),
  (a 29, .inl (y 0, 151, .inl (fun j => nI (lf 2 j)))),
  (a 30, .inl (y 0, 151, .inl (fun j => nI (lf 3 j)))),
  (a 31, .inl (y 0, 151, .inl (fun j => nI (lf 4 j)))),
  (a 32, .inl (y 0, 151, .inl (fun j => nI (lf 5 j)))),
  (a 33, .inl (y 0, 6, .inl (fun j => nI (wo j))))]
