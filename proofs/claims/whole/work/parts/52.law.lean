section LWR
variable {p : Program} {l : Launch} {e : Env} {R : Room} {s : State} {m : MethodId} {args : Array Value} {below : List Frame} {meth : Method} {c : Code} {H : Heap} {locs : List Loc} {cells slots : Nat} {Q : State → Prop}
variable {cc : ByteArray} {pc : Nat} {ls : Array Slot} {rest : List Value} {D : va_G} {cl : List vw_C} {A0 A1 : Nat → Prop} {tys : List (ClassId × FieldType)} {H0 : Heap}
theorem l_calli {S : Type} {post : Int32 → S → Prop} {wf : S → va_W} {wm : va_W} {st0 : List Value} {av : Array Value} {tysc : List (ClassId × FieldType)} (hr : va_Run p l e R s m args below meth c H locs cells slots 0 0 (F0 m pc ls st0) rest (va_Qi post (c_B D cl tysc wf) A1 av) A1) (hS : va_S A0 H0 H locs) (hA : ∀ q, A1 q → A0 q) (hPm : va_P D cl wm H) (hm : ∀ (k : Nat) (q : Nat × va_E), wm[k]? = some q → ¬ A1 q.1) (k : ∀ (r : Int32) (u : S) (H1 : Heap) (locs1 : List Loc), post r u → va_P D cl (wf u) H1 → va_P D cl wm H1 → va_S A0 H0 H1 locs1 → W p l e R s m args below meth c H1 locs1 cells slots Q (F0 m (pc + 3) ls (.int r :: rest))) : W p l e R s m args below meth c H locs cells slots Q (F0 m pc ls st0) := va_calli hr hS (fun q _ h => hA q h) hA (fun r u t H1 locs1 ht _ hp hB _ hk hS1 => k r u H1 locs1 hp (ht ▸ hB.1) (hPm.kept (fun j q hj => hk q.1 ((hPm j q hj).lt) (hm j q hj))) hS1)
theorem l_calll {S : Type} {post : Int64 → S → Prop} {wf : S → va_W} {wm : va_W} {st0 : List Value} {av : Array Value} {tysc : List (ClassId × FieldType)} (hr : va_Run p l e R s m args below meth c H locs cells slots 0 0 (F0 m pc ls st0) rest (va_Ql post (c_B D cl tysc wf) A1 av) A1) (hS : va_S A0 H0 H locs) (hA : ∀ q, A1 q → A0 q) (hPm : va_P D cl wm H) (hm : ∀ (k : Nat) (q : Nat × va_E), wm[k]? = some q → ¬ A1 q.1) (k : ∀ (r : Int64) (u : S) (H1 : Heap) (locs1 : List Loc), post r u → va_P D cl (wf u) H1 → va_P D cl wm H1 → va_S A0 H0 H1 locs1 → W p l e R s m args below meth c H1 locs1 cells slots Q (F0 m (pc + 3) ls (.long r :: rest))) : W p l e R s m args below meth c H locs cells slots Q (F0 m pc ls st0) := va_calll hr hS (fun q _ h => hA q h) hA (fun r u t H1 locs1 ht _ hp hB _ hk hS1 => k r u H1 locs1 hp (ht ▸ hB.1) (hPm.kept (fun j q hj => hk q.1 ((hPm j q hj).lt) (hm j q hj))) hS1)
theorem l_preX {xK xV : Nat → Nat} {C : String} {b : Addr} {As : List Value} {ws : va_W} (hAB : ∀ q, A1 q → A0 q) (hK : va_K D cl tys s) (hV : EV xK xV A0 s) (hS : va_S A0 s.heap H locs) (hP : va_P D cl ws H) (hr : ∃ cellB : Cell, H[b]? = some cellB ∧ cellB.vm.isStatics = false ∧ s.vm.findClass C = some cellB.cls) : PreV s H C b (c_P D cl tys (EV xK xV A1) ws (.ref b :: As)) As := ⟨fun _ U g mk q => ⟨q.1, q.2.1, va_K.moved (u := U) (U := U.calling g mk _) (Vm.Alike.refl U.vm) q.2.2.1, (evN xK xV A1).1 _ _ _ _ q.2.2.2⟩, hr, fun U hU hW => ⟨rfl, by rw [hU]; exact hP, va_K.moved hW.alike hK, ((evN xK xV A0).2 s U H locs hU hW hS hV).narrow hAB⟩⟩
theorem l_sld (hx : p.tables.exec = Jvm.exec) (hb : c.code = cc) {b L : Nat} {xs : Nat → Int32} (hX : va_X b L xs s H0) (hbl : b < H0.size) (hbA : ¬ A0 b) (hS : va_S A0 H0 H locs) {i : Nat} (hi : i < L) (hL : L ≤ 256) (hdg : decode cc pc = .ok (.iaload, 1)) (kk : W p l e R s m args below meth c H locs cells slots Q (F0 m (pc + 1) ls (.int (xs i) :: rest))) : W p l e R s m args below meth c H locs cells slots Q (F0 m pc ls (.int (nI i) :: .ref b :: rest)) := va_sld hx hb hX hbl hbA hS (vp_in_nI hi (by omega)) hdg (by rw [nI_clamp (by omega)]; exact kk)
end LWR
theorem lg_cmp_self (x : Int64) : lg_cmp x x = 0 := by simp [lg_cmp]
def LI (dC : Nat → ClassId) (dI : Nat → Nat → Nat) (y : Nat → ClassId) (a b : Nat → Nat) (i : Nat) (H : Heap) : Prop := ∃ (rn : Nat) (n : Nat) (lo : Int32) (kp : Nat) (dy : Int32) (so : Int32) (he : Int32) (kn : Nat) (ak : Nat) (pl : Nat) (lo2 : Int32) (dy2 : Int32) (so2 : Int32) (he2 : Int32) (kn2 : Nat) (kd : Nat → Nat) (len : Nat → Nat) (ord : Nat → Nat) (kh : Nat → Nat) (km : Nat → Nat) (pg : Nat → Nat) (len2 : Nat → Nat) (ord2 : Nat → Nat) (kh2 : Nat → Nat) (km2 : Nat → Nat) (im : Bool) (ma : Nat) (cw : Nat → Nat) (tl : Nat → Nat) (tO : Nat → Nat) (bO : Nat → Nat) (lf : Nat → Nat → Nat) (wo : Nat → Nat) (iw : Bool) (nm : Nat) (sd : Int64) (ik : Bool) (kr : Nat) (dgv : Int64) (cm : Nat → Nat) (sav : Nat → Nat) (bo : Nat → Nat) (cb : Nat → Nat) (sl : Nat → Nat), GI i rn n kp kn ak pl im ik kr kn2 kd len ord kh km pg len2 ord2 kh2 km2 ∧ (∀ j, cw j ≤ 126) ∧ (∀ j, tl j ≤ 9) ∧ (∀ j, cm j ≤ 126) ∧ va_P (dC, dI) vwCl (MW y a rn n lo kp dy so he kn ak pl im lo2 dy2 so2 he2 kn2 ma kd len ord kh km pg len2 ord2 kh2 km2 cw tl tO bO lf wo) H ∧ va_P (dC, dI) vwCl (DW y b rn n lo kp dy so he kn ak pl iw nm sd ik kr lo2 dy2 so2 he2 kn2 dgv kd len ord kh km pg cm sav bo cb sl len2 ord2 kh2 km2) H
def LF (s : State) (xK xV : Nat → Nat) (dC : Nat → ClassId) (dI : Nat → Nat → Nat) (y : Nat → ClassId) (a b : Nat → Nat) : Prop := va_K (dC, dI) vwCl (TY y) s ∧ EV xK xV (lA s) s ∧ ad_ok (sA a 34) a 34 ∧ ad_ok (sA b 16) b 16 ∧ (∀ q, sA a 34 q → lA s q) ∧ (∀ q, sA b 16 q → lA s q) ∧ ∀ i j, i < 34 → j < 16 → ¬ a i = b j
set_option maxHeartbeats 4000000 in
set_option maxRecDepth 100000 in
theorem law_letter (l : Launch) {p : Program} {e : Env} {s : State} {m : MethodId} {args : Array Value} {below : List Frame} {meth : Method} {c : Code} {H : Heap} {locs : List Loc} {Q : State → Prop} {ls : Array Slot} {bs L i : Nat} {xs : Nat → Int32} {xK xV : Nat → Nat} {dC : Nat → ClassId} {dI : Nat → Nat → Nat} {y : Nat → ClassId} {a b : Nat → Nat} (hx : p.tables.exec = Jvm.exec) (hb : c.code = cL_law) (hml : c.maxLocals = 4) (hown : s.vm.findClass RL = some m.cls) (hts : ∀ w ∈ wsL_law, w.before args s = true) (hX : va_X bs L xs s s.heap) (hbl : bs < s.heap.size) (hF : LF s xK xV dC dI y a b) (hL : L ≤ 256) (hi : i + 4 ≤ L) (hS : va_S (lA s) s.heap H locs) (hl : lv_has ls 4 [(3, .int (nI i)), (2, .ref (b 0)), (1, .ref (a 0)), (0, .ref bs)]) (hI : LI dC dI y a b i H) (k : ∀ (H1 : Heap) (locs1 : List Loc), LI dC dI y a b (i + 4) H1 → va_S (lA s) s.heap H1 locs1 → W p l e room_1 s m args below meth c H1 locs1 50 1348 Q (F0 m 595 ls [])) : W p l e room_1 s m args below meth c H locs 50 1348 Q (F0 m 128 ls []) := by
  obtain ⟨hK, hV, hAa, hAb, hla, hlb, hdis⟩ := hF
  have hbA : ¬ lA s bs := fun q => absurd hbl (Nat.not_lt.mpr q)
  obtain ⟨rn, n, lo, kp, dy, so, he, kn, ak, pl, lo2, dy2, so2, he2, kn2, kd, len, ord, kh, km, pg, len2, ord2, kh2, km2, im, ma, cw, tl, tO, bO, lf, wo, iw, nm, sd, ik, kr, dgv, cm, sav, bo, cb, sl, hG, hcw, htl, hcm, hPx, hPm⟩ := hI
  have hG0 := hG
  obtain ⟨hn, hn2, hord, hlen, hkd, hkp, hkn, hkh, hkm, hpl, hpg, hak, hrn, hkr, him, hlen2, hkm2, hkn2, hord2⟩ := hG
  have nmx : ∀ (k : Nat) (q : Nat × va_E), (DW y b rn n lo kp dy so he kn ak pl iw nm sd ik kr lo2 dy2 so2 he2 kn2 dgv kd len ord kh km pg cm sav bo cb sl len2 ord2 kh2 km2)[k]? = some q → ¬ sA a 34 q.1 := fun k q hk z => by obtain ⟨hk1, hk2⟩ := ad_at (b := b) (N := 16) rfl hk; obtain ⟨j, hj, ej⟩ := z; exact hdis j k hj hk1 (ej.symm.trans hk2)
  refine lv_aload_n hx hb dL_law_128 rfl (lv_at hl 2 rfl) ?_
  refine lv_aload_n hx hb dL_law_129 rfl (lv_at hl 3 rfl) ?_
  refine lv_iload_n hx hb dL_law_130 rfl (lv_at hl 0 rfl) ?_
  refine lv_iconst (v := nI 1) hx hb dL_law_131 (by decide) ?_
  refine n_iadd hx hb dL_law_132 ?_
  refine l_sld hx hb hX hbl hbA hS (by omega) hL dL_law_133 ?_
  refine l_calli (va_runV (As := [.int (xs (i + 1))]) (rest := []) ⟨hx, hb, hml, hown, hts⟩ (k_X10_letter l dC dI y (sA a 34) a hAa xK xV rn n lo kp dy so he kn ak pl im lo2 dy2 so2 he2 kn2 ma kd len ord kh km pg len2 ord2 kh2 km2 cw tl tO bO lf wo (xs (i + 1)) hpl) (cwV 1 hts gL_law_X10_letter rfl rfl rfl (by decide +kernel) ⟨Nat.le_of_ble_eq_true rfl, Nat.le_of_ble_eq_true rfl⟩) (l_preX hla hK hV hS hPx (va_recv hK hPx (ci := 10) (q0 := 0) rfl rfl)) rfl rfl hl.1 rfl (lv_room (Nat.le_of_ble_eq_true rfl)) dL_law_134 ⟨Nat.le_of_ble_eq_true rfl, Nat.le_of_ble_eq_true rfl⟩) hS hla hPm nmx (fun r1 u1 H locs hw1 hPx hPm hS => ?_)
  have hPx : va_P (dC, dI) vwCl (MW y a rn n lo kp dy so he kn ak (plLetter pl (xs (i + 1))) im lo2 dy2 so2 he2 kn2 ma kd len ord kh km (pgLetter pl pg (xs (i + 1))) len2 ord2 kh2 km2 cw tl tO bO lf wo) H := hPx
  have nmy : ∀ (k : Nat) (q : Nat × va_E), (MW y a rn n lo kp dy so he kn ak (plLetter pl (xs (i + 1))) im lo2 dy2 so2 he2 kn2 ma kd len ord kh km (pgLetter pl pg (xs (i + 1))) len2 ord2 kh2 km2 cw tl tO bO lf wo)[k]? = some q → ¬ sA b 16 q.1 := fun k q hk z => by obtain ⟨hk1, hk2⟩ := ad_at (b := a) (N := 34) rfl hk; obtain ⟨j, hj, ej⟩ := z; exact hdis k j hk1 hj (hk2.symm.trans ej)
  refine lv_aload_n hx hb dL_law_137 rfl (lv_at hl 1 rfl) ?_
  refine lv_aload_n hx hb dL_law_138 rfl (lv_at hl 3 rfl) ?_
  refine lv_iload_n hx hb dL_law_139 rfl (lv_at hl 0 rfl) ?_
  refine lv_iconst (v := nI 1) hx hb dL_law_140 (by decide) ?_
  refine n_iadd hx hb dL_law_141 ?_
  refine l_sld hx hb hX hbl hbA hS (by omega) hL dL_law_142 ?_
  refine l_calli (va_runV (As := [.int (xs (i + 1))]) (rest := [.int (r1)]) ⟨hx, hb, hml, hown, hts⟩ (k_X11_letter l dC dI y (sA b 16) b hAb rn n lo kp dy so he kn ak pl iw nm sd ik kr lo2 dy2 so2 he2 kn2 dgv kd len ord kh km pg cm sav bo cb sl len2 ord2 kh2 km2 (xs (i + 1)) hpl) (cwV 1 hts gL_law_X11_letter rfl rfl rfl (by decide +kernel) ⟨Nat.le_of_ble_eq_true rfl, Nat.le_of_ble_eq_true rfl⟩) (c_preV (c_N0 (lA s)) hK trivial hS hPm (va_recv hK hPm (ci := 11) (q0 := 0) rfl rfl)) rfl rfl hl.1 rfl (lv_room (Nat.le_of_ble_eq_true rfl)) dL_law_143 ⟨Nat.le_of_ble_eq_true rfl, Nat.le_of_ble_eq_true rfl⟩) hS hlb hPx nmy (fun r2 u2 H locs hw2 hPm hPx hS => ?_)
  have hPm : va_P (dC, dI) vwCl (DW y b rn n lo kp dy so he kn ak (plLetter pl (xs (i + 1))) iw nm sd ik kr lo2 dy2 so2 he2 kn2 dgv kd len ord kh km (pgLetter pl pg (xs (i + 1))) cm sav bo cb sl len2 ord2 kh2 km2) H := hPm
  have hre : r1 = r2 := (hw1).trans (hw2).symm
  refine lv_icmp_eq hx hb dL_law_146 rfl (fun _ => ?_) (fun hne => absurd hre hne)
  exact k H locs ⟨rn, n, lo, kp, dy, so, he, kn, ak, plLetter pl (xs (i + 1)), lo2, dy2, so2, he2, kn2, kd, len, ord, kh, km, pgLetter pl pg (xs (i + 1)), len2, ord2, kh2, km2, im, ma, cw, tl, tO, bO, lf, wo, iw, nm, sd, ik, kr, dgv, cm, sav, bo, cb, sl, gi_letter (xs (i + 1)) hG0, hcw, htl, hcm, hPx, hPm⟩ hS
set_option maxHeartbeats 4000000 in
set_option maxRecDepth 100000 in
theorem law_blank (l : Launch) {p : Program} {e : Env} {s : State} {m : MethodId} {args : Array Value} {below : List Frame} {meth : Method} {c : Code} {H : Heap} {locs : List Loc} {Q : State → Prop} {ls : Array Slot} {bs L i : Nat} {xs : Nat → Int32} {xK xV : Nat → Nat} {dC : Nat → ClassId} {dI : Nat → Nat → Nat} {y : Nat → ClassId} {a b : Nat → Nat} (hx : p.tables.exec = Jvm.exec) (hb : c.code = cL_law) (hml : c.maxLocals = 4) (hown : s.vm.findClass RL = some m.cls) (hts : ∀ w ∈ wsL_law, w.before args s = true) (hX : va_X bs L xs s s.heap) (hbl : bs < s.heap.size) (hF : LF s xK xV dC dI y a b) (hL : L ≤ 256) (hi : i + 4 ≤ L) (hS : va_S (lA s) s.heap H locs) (hl : lv_has ls 4 [(3, .int (nI i)), (2, .ref (b 0)), (1, .ref (a 0)), (0, .ref bs)]) (hI : LI dC dI y a b i H) (k : ∀ (H1 : Heap) (locs1 : List Loc), LI dC dI y a b (i + 4) H1 → va_S (lA s) s.heap H1 locs1 → W p l e room_1 s m args below meth c H1 locs1 50 1348 Q (F0 m 595 ls [])) : W p l e room_1 s m args below meth c H locs 50 1348 Q (F0 m 151 ls []) := by
  obtain ⟨hK, hV, hAa, hAb, hla, hlb, hdis⟩ := hF
  have hbA : ¬ lA s bs := fun q => absurd hbl (Nat.not_lt.mpr q)
  obtain ⟨rn, n, lo, kp, dy, so, he, kn, ak, pl, lo2, dy2, so2, he2, kn2, kd, len, ord, kh, km, pg, len2, ord2, kh2, km2, im, ma, cw, tl, tO, bO, lf, wo, iw, nm, sd, ik, kr, dgv, cm, sav, bo, cb, sl, hG, hcw, htl, hcm, hPx, hPm⟩ := hI
  have hG0 := hG
  obtain ⟨hn, hn2, hord, hlen, hkd, hkp, hkn, hkh, hkm, hpl, hpg, hak, hrn, hkr, him, hlen2, hkm2, hkn2, hord2⟩ := hG
  have nmx : ∀ (k : Nat) (q : Nat × va_E), (DW y b rn n lo kp dy so he kn ak pl iw nm sd ik kr lo2 dy2 so2 he2 kn2 dgv kd len ord kh km pg cm sav bo cb sl len2 ord2 kh2 km2)[k]? = some q → ¬ sA a 34 q.1 := fun k q hk z => by obtain ⟨hk1, hk2⟩ := ad_at (b := b) (N := 16) rfl hk; obtain ⟨j, hj, ej⟩ := z; exact hdis j k hj hk1 (ej.symm.trans hk2)
  refine lv_aload_n hx hb dL_law_151 rfl (lv_at hl 2 rfl) ?_
  refine l_calli (va_runV (As := []) (rest := []) ⟨hx, hb, hml, hown, hts⟩ (k_X10_blank l dC dI y (sA a 34) a hAa xK xV rn n lo kp dy so he kn ak pl im lo2 dy2 so2 he2 kn2 ma kd len ord kh km pg len2 ord2 kh2 km2 cw tl tO bO lf wo  ) (cwV 0 hts gL_law_X10_blank rfl rfl rfl (by decide +kernel) ⟨Nat.le_of_ble_eq_true rfl, Nat.le_of_ble_eq_true rfl⟩) (l_preX hla hK hV hS hPx (va_recv hK hPx (ci := 10) (q0 := 0) rfl rfl)) rfl rfl hl.1 rfl (lv_room (Nat.le_of_ble_eq_true rfl)) dL_law_152 ⟨Nat.le_of_ble_eq_true rfl, Nat.le_of_ble_eq_true rfl⟩) hS hla hPm nmx (fun r1 u1 H locs hw1 hPx hPm hS => ?_)
  have hPx : va_P (dC, dI) vwCl (MW y a rn n lo kp dy so he kn ak 0 im lo2 dy2 so2 he2 kn2 ma kd len ord kh km pg len2 ord2 kh2 km2 cw tl tO bO lf wo) H := hPx
  have nmy : ∀ (k : Nat) (q : Nat × va_E), (MW y a rn n lo kp dy so he kn ak 0 im lo2 dy2 so2 he2 kn2 ma kd len ord kh km pg len2 ord2 kh2 km2 cw tl tO bO lf wo)[k]? = some q → ¬ sA b 16 q.1 := fun k q hk z => by obtain ⟨hk1, hk2⟩ := ad_at (b := a) (N := 34) rfl hk; obtain ⟨j, hj, ej⟩ := z; exact hdis k j hk1 hj (hk2.symm.trans ej)
  refine lv_aload_n hx hb dL_law_155 rfl (lv_at hl 1 rfl) ?_
  refine l_calli (va_runV (As := []) (rest := [.int (r1)]) ⟨hx, hb, hml, hown, hts⟩ (k_X11_blank l dC dI y (sA b 16) b hAb rn n lo kp dy so he kn ak pl iw nm sd ik kr lo2 dy2 so2 he2 kn2 dgv kd len ord kh km pg cm sav bo cb sl len2 ord2 kh2 km2  ) (cwV 0 hts gL_law_X11_blank rfl rfl rfl (by decide +kernel) ⟨Nat.le_of_ble_eq_true rfl, Nat.le_of_ble_eq_true rfl⟩) (c_preV (c_N0 (lA s)) hK trivial hS hPm (va_recv hK hPm (ci := 11) (q0 := 0) rfl rfl)) rfl rfl hl.1 rfl (lv_room (Nat.le_of_ble_eq_true rfl)) dL_law_156 ⟨Nat.le_of_ble_eq_true rfl, Nat.le_of_ble_eq_true rfl⟩) hS hlb hPx nmy (fun r2 u2 H locs hw2 hPm hPx hS => ?_)
  have hPm : va_P (dC, dI) vwCl (DW y b rn n lo kp dy so he kn ak 0 iw nm sd ik kr lo2 dy2 so2 he2 kn2 dgv kd len ord kh km pg cm sav bo cb sl len2 ord2 kh2 km2) H := hPm
  have hre : r1 = r2 := (hw1).trans (hw2).symm
  refine lv_icmp_eq hx hb dL_law_159 rfl (fun _ => ?_) (fun hne => absurd hre hne)
  exact k H locs ⟨rn, n, lo, kp, dy, so, he, kn, ak, 0, lo2, dy2, so2, he2, kn2, kd, len, ord, kh, km, pg, len2, ord2, kh2, km2, im, ma, cw, tl, tO, bO, lf, wo, iw, nm, sd, ik, kr, dgv, cm, sav, bo, cb, sl, gi_blank hG0, hcw, htl, hcm, hPx, hPm⟩ hS
set_option maxHeartbeats 4000000 in
set_option maxRecDepth 100000 in
theorem law_fault (l : Launch) {p : Program} {e : Env} {s : State} {m : MethodId} {args : Array Value} {below : List Frame} {meth : Method} {c : Code} {H : Heap} {locs : List Loc} {Q : State → Prop} {ls : Array Slot} {bs L i : Nat} {xs : Nat → Int32} {xK xV : Nat → Nat} {dC : Nat → ClassId} {dI : Nat → Nat → Nat} {y : Nat → ClassId} {a b : Nat → Nat} (hx : p.tables.exec = Jvm.exec) (hb : c.code = cL_law) (hml : c.maxLocals = 4) (hown : s.vm.findClass RL = some m.cls) (hts : ∀ w ∈ wsL_law, w.before args s = true) (hX : va_X bs L xs s s.heap) (hbl : bs < s.heap.size) (hF : LF s xK xV dC dI y a b) (hL : L ≤ 256) (hi : i + 4 ≤ L) (hS : va_S (lA s) s.heap H locs) (hl : lv_has ls 4 [(3, .int (nI i)), (2, .ref (b 0)), (1, .ref (a 0)), (0, .ref bs)]) (hI : LI dC dI y a b i H) (k : ∀ (H1 : Heap) (locs1 : List Loc), LI dC dI y a b (i + 4) H1 → va_S (lA s) s.heap H1 locs1 → W p l e room_1 s m args below meth c H1 locs1 50 1348 Q (F0 m 595 ls [])) : W p l e room_1 s m args below meth c H locs 50 1348 Q (F0 m 164 ls []) := by
  obtain ⟨hK, hV, hAa, hAb, hla, hlb, hdis⟩ := hF
  have hbA : ¬ lA s bs := fun q => absurd hbl (Nat.not_lt.mpr q)
  obtain ⟨rn, n, lo, kp, dy, so, he, kn, ak, pl, lo2, dy2, so2, he2, kn2, kd, len, ord, kh, km, pg, len2, ord2, kh2, km2, im, ma, cw, tl, tO, bO, lf, wo, iw, nm, sd, ik, kr, dgv, cm, sav, bo, cb, sl, hG, hcw, htl, hcm, hPx, hPm⟩ := hI
  have hG0 := hG
  obtain ⟨hn, hn2, hord, hlen, hkd, hkp, hkn, hkh, hkm, hpl, hpg, hak, hrn, hkr, him, hlen2, hkm2, hkn2, hord2⟩ := hG
  have nmx : ∀ (k : Nat) (q : Nat × va_E), (DW y b rn n lo kp dy so he kn ak pl iw nm sd ik kr lo2 dy2 so2 he2 kn2 dgv kd len ord kh km pg cm sav bo cb sl len2 ord2 kh2 km2)[k]? = some q → ¬ sA a 34 q.1 := fun k q hk z => by obtain ⟨hk1, hk2⟩ := ad_at (b := b) (N := 16) rfl hk; obtain ⟨j, hj, ej⟩ := z; exact hdis j k hj hk1 (ej.symm.trans hk2)
  refine lv_aload_n hx hb dL_law_164 rfl (lv_at hl 2 rfl) ?_
  refine l_calli (va_runV (As := []) (rest := []) ⟨hx, hb, hml, hown, hts⟩ (k_X10_fault l dC dI y (sA a 34) a hAa xK xV rn n lo kp dy so he kn ak pl im lo2 dy2 so2 he2 kn2 ma kd len ord kh km pg len2 ord2 kh2 km2 cw tl tO bO lf wo  hpl hpg) (cwV 0 hts gL_law_X10_fault rfl rfl rfl (by decide +kernel) ⟨Nat.le_of_ble_eq_true rfl, Nat.le_of_ble_eq_true rfl⟩) (l_preX hla hK hV hS hPx (va_recv hK hPx (ci := 10) (q0 := 0) rfl rfl)) rfl rfl hl.1 rfl (lv_room (Nat.le_of_ble_eq_true rfl)) dL_law_165 ⟨Nat.le_of_ble_eq_true rfl, Nat.le_of_ble_eq_true rfl⟩) hS hla hPm nmx (fun r1 u1 H locs hw1 hPx hPm hS => ?_)
  have hPx : va_P (dC, dI) vwCl (MW y a rn n lo kp dy so he kn ak pl im lo2 dy2 so2 he2 kn2 ma kd len ord kh km pg len2 ord2 kh2 km2 cw tl tO bO lf wo) H := hPx
  have nmy : ∀ (k : Nat) (q : Nat × va_E), (MW y a rn n lo kp dy so he kn ak pl im lo2 dy2 so2 he2 kn2 ma kd len ord kh km pg len2 ord2 kh2 km2 cw tl tO bO lf wo)[k]? = some q → ¬ sA b 16 q.1 := fun k q hk z => by obtain ⟨hk1, hk2⟩ := ad_at (b := a) (N := 34) rfl hk; obtain ⟨j, hj, ej⟩ := z; exact hdis k j hk1 hj (hk2.symm.trans ej)
  refine lv_aload_n hx hb dL_law_168 rfl (lv_at hl 1 rfl) ?_
  refine l_calli (va_runV (As := []) (rest := [.int (r1)]) ⟨hx, hb, hml, hown, hts⟩ (k_X11_fault l dC dI y (sA b 16) b hAb rn n lo kp dy so he kn ak pl iw nm sd ik kr lo2 dy2 so2 he2 kn2 dgv kd len ord kh km pg cm sav bo cb sl len2 ord2 kh2 km2  hpl hpg) (cwV 0 hts gL_law_X11_fault rfl rfl rfl (by decide +kernel) ⟨Nat.le_of_ble_eq_true rfl, Nat.le_of_ble_eq_true rfl⟩) (c_preV (c_N0 (lA s)) hK trivial hS hPm (va_recv hK hPm (ci := 11) (q0 := 0) rfl rfl)) rfl rfl hl.1 rfl (lv_room (Nat.le_of_ble_eq_true rfl)) dL_law_169 ⟨Nat.le_of_ble_eq_true rfl, Nat.le_of_ble_eq_true rfl⟩) hS hlb hPx nmy (fun r2 u2 H locs hw2 hPm hPx hS => ?_)
  have hPm : va_P (dC, dI) vwCl (DW y b rn n lo kp dy so he kn ak pl u2.1 u2.2 sd ik kr lo2 dy2 so2 he2 kn2 dgv kd len ord kh km pg cm sav bo cb sl len2 ord2 kh2 km2) H := hPm
  have hre : r1 = r2 := (hw1).trans (hw2).symm
  refine lv_icmp_eq hx hb dL_law_172 rfl (fun _ => ?_) (fun hne => absurd hre hne)
  exact k H locs ⟨rn, n, lo, kp, dy, so, he, kn, ak, pl, lo2, dy2, so2, he2, kn2, kd, len, ord, kh, km, pg, len2, ord2, kh2, km2, im, ma, cw, tl, tO, bO, lf, wo, u2.1, u2.2, sd, ik, kr, dgv, cm, sav, bo, cb, sl, gi_next hG0, hcw, htl, hcm, hPx, hPm⟩ hS
set_option maxHeartbeats 4000000 in
set_option maxRecDepth 100000 in
theorem law_round (l : Launch) {p : Program} {e : Env} {s : State} {m : MethodId} {args : Array Value} {below : List Frame} {meth : Method} {c : Code} {H : Heap} {locs : List Loc} {Q : State → Prop} {ls : Array Slot} {bs L i : Nat} {xs : Nat → Int32} {xK xV : Nat → Nat} {dC : Nat → ClassId} {dI : Nat → Nat → Nat} {y : Nat → ClassId} {a b : Nat → Nat} (hx : p.tables.exec = Jvm.exec) (hb : c.code = cL_law) (hml : c.maxLocals = 4) (hown : s.vm.findClass RL = some m.cls) (hts : ∀ w ∈ wsL_law, w.before args s = true) (hX : va_X bs L xs s s.heap) (hbl : bs < s.heap.size) (hF : LF s xK xV dC dI y a b) (hL : L ≤ 256) (hi : i + 4 ≤ L) (hS : va_S (lA s) s.heap H locs) (hl : lv_has ls 4 [(3, .int (nI i)), (2, .ref (b 0)), (1, .ref (a 0)), (0, .ref bs)]) (hI : LI dC dI y a b i H) (k : ∀ (H1 : Heap) (locs1 : List Loc), LI dC dI y a b (i + 4) H1 → va_S (lA s) s.heap H1 locs1 → W p l e room_1 s m args below meth c H1 locs1 50 1348 Q (F0 m 595 ls [])) : W p l e room_1 s m args below meth c H locs 50 1348 Q (F0 m 177 ls []) := by
  obtain ⟨hK, hV, hAa, hAb, hla, hlb, hdis⟩ := hF
  have hbA : ¬ lA s bs := fun q => absurd hbl (Nat.not_lt.mpr q)
  obtain ⟨rn, n, lo, kp, dy, so, he, kn, ak, pl, lo2, dy2, so2, he2, kn2, kd, len, ord, kh, km, pg, len2, ord2, kh2, km2, im, ma, cw, tl, tO, bO, lf, wo, iw, nm, sd, ik, kr, dgv, cm, sav, bo, cb, sl, hG, hcw, htl, hcm, hPx, hPm⟩ := hI
  have hG0 := hG
  obtain ⟨hn, hn2, hord, hlen, hkd, hkp, hkn, hkh, hkm, hpl, hpg, hak, hrn, hkr, him, hlen2, hkm2, hkn2, hord2⟩ := hG
  have nmx : ∀ (k : Nat) (q : Nat × va_E), (DW y b rn n lo kp dy so he kn ak pl iw nm sd ik kr lo2 dy2 so2 he2 kn2 dgv kd len ord kh km pg cm sav bo cb sl len2 ord2 kh2 km2)[k]? = some q → ¬ sA a 34 q.1 := fun k q hk z => by obtain ⟨hk1, hk2⟩ := ad_at (b := b) (N := 16) rfl hk; obtain ⟨j, hj, ej⟩ := z; exact hdis j k hj hk1 (ej.symm.trans hk2)
  refine lv_aload_n hx hb dL_law_177 rfl (lv_at hl 2 rfl) ?_
  refine l_calli (va_runV (As := []) (rest := []) ⟨hx, hb, hml, hown, hts⟩ (k_X10_round l dC dI y (sA a 34) a hAa xK xV rn n lo kp dy so he kn ak pl im lo2 dy2 so2 he2 kn2 ma kd len ord kh km pg len2 ord2 kh2 km2 cw tl tO bO lf wo  hpl hpg) (cwV 0 hts gL_law_X10_round rfl rfl rfl (by decide +kernel) ⟨Nat.le_of_ble_eq_true rfl, Nat.le_of_ble_eq_true rfl⟩) (l_preX hla hK hV hS hPx (va_recv hK hPx (ci := 10) (q0 := 0) rfl rfl)) rfl rfl hl.1 rfl (lv_room (Nat.le_of_ble_eq_true rfl)) dL_law_178 ⟨Nat.le_of_ble_eq_true rfl, Nat.le_of_ble_eq_true rfl⟩) hS hla hPm nmx (fun r1 u1 H locs hw1 hPx hPm hS => ?_)
  have hPx : va_P (dC, dI) vwCl (MW y a (bif whlB pg pl then rn + 1 else rn) (bif whlB pg pl then pl / 3 else n) (bif whlB pg pl then nI 0 else lo) (bif whlB pg pl then pg (pl - 1) - 48 else kp) (bif whlB pg pl then nI 0 else dy) (bif whlB pg pl then nI 0 else so) (bif whlB pg pl then nI 0 else he) (bif whlB pg pl then 0 else kn) ak (bif whlB pg pl then 0 else pl) (bif whlB pg pl then false else im) lo2 dy2 so2 he2 kn2 ma (bif whlB pg pl then mixF (pl / 3) (kdG pg) kd else kd) (bif whlB pg pl then mixF (pl / 3) (lnG pg) len else len) (bif whlB pg pl then mixF (pl / 3) (fun j => j) ord else ord) kh km pg len2 ord2 kh2 km2 cw tl tO bO lf wo) H := hPx
  have nmy : ∀ (k : Nat) (q : Nat × va_E), (MW y a (bif whlB pg pl then rn + 1 else rn) (bif whlB pg pl then pl / 3 else n) (bif whlB pg pl then nI 0 else lo) (bif whlB pg pl then pg (pl - 1) - 48 else kp) (bif whlB pg pl then nI 0 else dy) (bif whlB pg pl then nI 0 else so) (bif whlB pg pl then nI 0 else he) (bif whlB pg pl then 0 else kn) ak (bif whlB pg pl then 0 else pl) (bif whlB pg pl then false else im) lo2 dy2 so2 he2 kn2 ma (bif whlB pg pl then mixF (pl / 3) (kdG pg) kd else kd) (bif whlB pg pl then mixF (pl / 3) (lnG pg) len else len) (bif whlB pg pl then mixF (pl / 3) (fun j => j) ord else ord) kh km pg len2 ord2 kh2 km2 cw tl tO bO lf wo)[k]? = some q → ¬ sA b 16 q.1 := fun k q hk z => by obtain ⟨hk1, hk2⟩ := ad_at (b := a) (N := 34) rfl hk; obtain ⟨j, hj, ej⟩ := z; exact hdis k j hk1 hj (hk2.symm.trans ej)
  refine lv_aload_n hx hb dL_law_181 rfl (lv_at hl 1 rfl) ?_
  refine l_calli (va_runV (As := []) (rest := [.int (r1)]) ⟨hx, hb, hml, hown, hts⟩ (k_X11_round l dC dI y (sA b 16) b hAb rn n lo kp dy so he kn ak pl iw nm sd ik kr lo2 dy2 so2 he2 kn2 dgv kd len ord kh km pg cm sav bo cb sl len2 ord2 kh2 km2  hpl hpg) (cwV 0 hts gL_law_X11_round rfl rfl rfl (by decide +kernel) ⟨Nat.le_of_ble_eq_true rfl, Nat.le_of_ble_eq_true rfl⟩) (c_preV (c_N0 (lA s)) hK trivial hS hPm (va_recv hK hPm (ci := 11) (q0 := 0) rfl rfl)) rfl rfl hl.1 rfl (lv_room (Nat.le_of_ble_eq_true rfl)) dL_law_182 ⟨Nat.le_of_ble_eq_true rfl, Nat.le_of_ble_eq_true rfl⟩) hS hlb hPx nmy (fun r2 u2 H locs hw2 hPm hPx hS => ?_)
  have hPm : va_P (dC, dI) vwCl (DW y b (bif whlB pg pl then rn + 1 else rn) (bif whlB pg pl then pl / 3 else n) (bif whlB pg pl then nI 0 else lo) (bif whlB pg pl then pg (pl - 1) - 48 else kp) (bif whlB pg pl then nI 0 else dy) (bif whlB pg pl then nI 0 else so) (bif whlB pg pl then nI 0 else he) (bif whlB pg pl then 0 else kn) ak (bif whlB pg pl then 0 else pl) u2.1 u2.2 sd ik kr lo2 dy2 so2 he2 kn2 dgv (bif whlB pg pl then mixF (pl / 3) (kdG pg) kd else kd) (bif whlB pg pl then mixF (pl / 3) (lnG pg) len else len) (bif whlB pg pl then mixF (pl / 3) (fun j => j) ord else ord) kh km pg cm sav bo cb sl len2 ord2 kh2 km2) H := hPm
  have hre : r1 = r2 := (hw1).trans (hw2).symm
  refine lv_icmp_eq hx hb dL_law_185 rfl (fun _ => ?_) (fun hne => absurd hre hne)
  exact k H locs ⟨bif whlB pg pl then rn + 1 else rn, bif whlB pg pl then pl / 3 else n, bif whlB pg pl then nI 0 else lo, bif whlB pg pl then pg (pl - 1) - 48 else kp, bif whlB pg pl then nI 0 else dy, bif whlB pg pl then nI 0 else so, bif whlB pg pl then nI 0 else he, bif whlB pg pl then 0 else kn, ak, bif whlB pg pl then 0 else pl, lo2, dy2, so2, he2, kn2, bif whlB pg pl then mixF (pl / 3) (kdG pg) kd else kd, bif whlB pg pl then mixF (pl / 3) (lnG pg) len else len, bif whlB pg pl then mixF (pl / 3) (fun j => j) ord else ord, kh, km, pg, len2, ord2, kh2, km2, bif whlB pg pl then false else im, ma, cw, tl, tO, bO, lf, wo, u2.1, u2.2, sd, ik, kr, dgv, cm, sav, bo, cb, sl, gi_round hG0, hcw, htl, hcm, hPx, hPm⟩ hS
set_option maxHeartbeats 4000000 in
set_option maxRecDepth 100000 in
theorem law_about (l : Launch) {p : Program} {e : Env} {s : State} {m : MethodId} {args : Array Value} {below : List Frame} {meth : Method} {c : Code} {H : Heap} {locs : List Loc} {Q : State → Prop} {ls : Array Slot} {bs L i : Nat} {xs : Nat → Int32} {xK xV : Nat → Nat} {dC : Nat → ClassId} {dI : Nat → Nat → Nat} {y : Nat → ClassId} {a b : Nat → Nat} (hx : p.tables.exec = Jvm.exec) (hb : c.code = cL_law) (hml : c.maxLocals = 4) (hown : s.vm.findClass RL = some m.cls) (hts : ∀ w ∈ wsL_law, w.before args s = true) (hX : va_X bs L xs s s.heap) (hbl : bs < s.heap.size) (hF : LF s xK xV dC dI y a b) (hL : L ≤ 256) (hi : i + 4 ≤ L) (hS : va_S (lA s) s.heap H locs) (hl : lv_has ls 4 [(3, .int (nI i)), (2, .ref (b 0)), (1, .ref (a 0)), (0, .ref bs)]) (hI : LI dC dI y a b i H) (k : ∀ (H1 : Heap) (locs1 : List Loc), LI dC dI y a b (i + 4) H1 → va_S (lA s) s.heap H1 locs1 → W p l e room_1 s m args below meth c H1 locs1 50 1348 Q (F0 m 595 ls [])) : W p l e room_1 s m args below meth c H locs 50 1348 Q (F0 m 190 ls []) := by
  obtain ⟨hK, hV, hAa, hAb, hla, hlb, hdis⟩ := hF
  have hbA : ¬ lA s bs := fun q => absurd hbl (Nat.not_lt.mpr q)
  obtain ⟨rn, n, lo, kp, dy, so, he, kn, ak, pl, lo2, dy2, so2, he2, kn2, kd, len, ord, kh, km, pg, len2, ord2, kh2, km2, im, ma, cw, tl, tO, bO, lf, wo, iw, nm, sd, ik, kr, dgv, cm, sav, bo, cb, sl, hG, hcw, htl, hcm, hPx, hPm⟩ := hI
  have hG0 := hG
  obtain ⟨hn, hn2, hord, hlen, hkd, hkp, hkn, hkh, hkm, hpl, hpg, hak, hrn, hkr, him, hlen2, hkm2, hkn2, hord2⟩ := hG
  have nmx : ∀ (k : Nat) (q : Nat × va_E), (DW y b rn n lo kp dy so he kn ak pl iw nm sd ik kr lo2 dy2 so2 he2 kn2 dgv kd len ord kh km pg cm sav bo cb sl len2 ord2 kh2 km2)[k]? = some q → ¬ sA a 34 q.1 := fun k q hk z => by obtain ⟨hk1, hk2⟩ := ad_at (b := b) (N := 16) rfl hk; obtain ⟨j, hj, ej⟩ := z; exact hdis j k hj hk1 (ej.symm.trans hk2)
  refine lv_aload_n hx hb dL_law_190 rfl (lv_at hl 2 rfl) ?_
  refine lv_aload_n hx hb dL_law_191 rfl (lv_at hl 3 rfl) ?_
  refine lv_iload_n hx hb dL_law_192 rfl (lv_at hl 0 rfl) ?_
  refine lv_iconst (v := nI 1) hx hb dL_law_193 (by decide) ?_
  refine n_iadd hx hb dL_law_194 ?_
  refine l_sld hx hb hX hbl hbA hS (by omega) hL dL_law_195 ?_
  refine lv_aload_n hx hb dL_law_196 rfl (lv_at hl 3 rfl) ?_
  refine lv_iload_n hx hb dL_law_197 rfl (lv_at hl 0 rfl) ?_
  refine lv_iconst (v := nI 2) hx hb dL_law_198 (by decide) ?_
  refine n_iadd hx hb dL_law_199 ?_
  refine l_sld hx hb hX hbl hbA hS (by omega) hL dL_law_200 ?_
  refine l_calli (va_runV (As := [.int (xs (i + 1)), .int (xs (i + 2))]) (rest := []) ⟨hx, hb, hml, hown, hts⟩ (k_X10_about l dC dI y (sA a 34) a hAa xK xV rn n lo kp dy so he kn ak pl im lo2 dy2 so2 he2 kn2 ma kd len ord kh km pg len2 ord2 kh2 km2 cw tl tO bO lf wo (xs (i + 1)) (xs (i + 2)) hn hord hlen hkd hcw hkp htl) (cwV 2 hts gL_law_X10_about rfl rfl rfl (by decide +kernel) ⟨Nat.le_of_ble_eq_true rfl, Nat.le_of_ble_eq_true rfl⟩) (l_preX hla hK hV hS hPx (va_recv hK hPx (ci := 10) (q0 := 0) rfl rfl)) rfl rfl hl.1 rfl (lv_room (Nat.le_of_ble_eq_true rfl)) dL_law_201 ⟨Nat.le_of_ble_eq_true rfl, Nat.le_of_ble_eq_true rfl⟩) hS hla hPm nmx (fun r1 u1 H locs hw1 hPx hPm hS => ?_)
  have hPx : va_P (dC, dI) vwCl (MW y a rn n lo kp dy so he kn ak pl im lo2 dy2 so2 he2 kn2 u1.2.1 kd len ord kh km pg len2 ord2 kh2 km2 u1.1 u1.2.2 tO bO lf wo) H := hPx
  have nmy : ∀ (k : Nat) (q : Nat × va_E), (MW y a rn n lo kp dy so he kn ak pl im lo2 dy2 so2 he2 kn2 u1.2.1 kd len ord kh km pg len2 ord2 kh2 km2 u1.1 u1.2.2 tO bO lf wo)[k]? = some q → ¬ sA b 16 q.1 := fun k q hk z => by obtain ⟨hk1, hk2⟩ := ad_at (b := a) (N := 34) rfl hk; obtain ⟨j, hj, ej⟩ := z; exact hdis k j hk1 hj (hk2.symm.trans ej)
  refine lv_aload_n hx hb dL_law_204 rfl (lv_at hl 1 rfl) ?_
  refine lv_aload_n hx hb dL_law_205 rfl (lv_at hl 3 rfl) ?_
  refine lv_iload_n hx hb dL_law_206 rfl (lv_at hl 0 rfl) ?_
  refine lv_iconst (v := nI 1) hx hb dL_law_207 (by decide) ?_
  refine n_iadd hx hb dL_law_208 ?_
  refine l_sld hx hb hX hbl hbA hS (by omega) hL dL_law_209 ?_
  refine lv_aload_n hx hb dL_law_210 rfl (lv_at hl 3 rfl) ?_
  refine lv_iload_n hx hb dL_law_211 rfl (lv_at hl 0 rfl) ?_
  refine lv_iconst (v := nI 2) hx hb dL_law_212 (by decide) ?_
  refine n_iadd hx hb dL_law_213 ?_
  refine l_sld hx hb hX hbl hbA hS (by omega) hL dL_law_214 ?_
  refine l_calli (va_runV (As := [.int (xs (i + 1)), .int (xs (i + 2))]) (rest := [.int (r1)]) ⟨hx, hb, hml, hown, hts⟩ (k_X11_about l dC dI y (sA b 16) b hAb rn n lo kp dy so he kn ak pl iw nm sd ik kr lo2 dy2 so2 he2 kn2 dgv kd len ord kh km pg cm sav bo cb sl len2 ord2 kh2 km2 (xs (i + 1)) (xs (i + 2)) hn hord hlen hkd hcm hkp) (cwV 2 hts gL_law_X11_about rfl rfl rfl (by decide +kernel) ⟨Nat.le_of_ble_eq_true rfl, Nat.le_of_ble_eq_true rfl⟩) (c_preV (c_N0 (lA s)) hK trivial hS hPm (va_recv hK hPm (ci := 11) (q0 := 0) rfl rfl)) rfl rfl hl.1 rfl (lv_room (Nat.le_of_ble_eq_true rfl)) dL_law_215 ⟨Nat.le_of_ble_eq_true rfl, Nat.le_of_ble_eq_true rfl⟩) hS hlb hPx nmy (fun r2 u2 H locs hw2 hPm hPx hS => ?_)
  have hPm : va_P (dC, dI) vwCl (DW y b rn n lo kp dy so he kn ak pl iw nm sd ik kr lo2 dy2 so2 he2 kn2 dgv kd len ord kh km pg u2 sav bo cb sl len2 ord2 kh2 km2) H := hPm
  have hre : r1 = r2 := (hw1.1).trans (hw2.1).symm
  refine lv_icmp_eq hx hb dL_law_218 rfl (fun _ => ?_) (fun hne => absurd hre hne)
  exact k H locs ⟨rn, n, lo, kp, dy, so, he, kn, ak, pl, lo2, dy2, so2, he2, kn2, kd, len, ord, kh, km, pg, len2, ord2, kh2, km2, im, u1.2.1, u1.1, u1.2.2, tO, bO, lf, wo, iw, nm, sd, ik, kr, dgv, u2, sav, bo, cb, sl, gi_next hG0, hw1.2.1, hw1.2.2, hw2.2, hPx, hPm⟩ hS
set_option maxHeartbeats 4000000 in
set_option maxRecDepth 100000 in
theorem law_as (l : Launch) {p : Program} {e : Env} {s : State} {m : MethodId} {args : Array Value} {below : List Frame} {meth : Method} {c : Code} {H : Heap} {locs : List Loc} {Q : State → Prop} {ls : Array Slot} {bs L i : Nat} {xs : Nat → Int32} {xK xV : Nat → Nat} {dC : Nat → ClassId} {dI : Nat → Nat → Nat} {y : Nat → ClassId} {a b : Nat → Nat} (hx : p.tables.exec = Jvm.exec) (hb : c.code = cL_law) (hml : c.maxLocals = 4) (hown : s.vm.findClass RL = some m.cls) (hts : ∀ w ∈ wsL_law, w.before args s = true) (hX : va_X bs L xs s s.heap) (hbl : bs < s.heap.size) (hF : LF s xK xV dC dI y a b) (hL : L ≤ 256) (hi : i + 4 ≤ L) (hS : va_S (lA s) s.heap H locs) (hl : lv_has ls 4 [(3, .int (nI i)), (2, .ref (b 0)), (1, .ref (a 0)), (0, .ref bs)]) (hI : LI dC dI y a b i H) (k : ∀ (H1 : Heap) (locs1 : List Loc), LI dC dI y a b (i + 4) H1 → va_S (lA s) s.heap H1 locs1 → W p l e room_1 s m args below meth c H1 locs1 50 1348 Q (F0 m 595 ls [])) : W p l e room_1 s m args below meth c H locs 50 1348 Q (F0 m 223 ls []) := by
  obtain ⟨hK, hV, hAa, hAb, hla, hlb, hdis⟩ := hF
  have hbA : ¬ lA s bs := fun q => absurd hbl (Nat.not_lt.mpr q)
  obtain ⟨rn, n, lo, kp, dy, so, he, kn, ak, pl, lo2, dy2, so2, he2, kn2, kd, len, ord, kh, km, pg, len2, ord2, kh2, km2, im, ma, cw, tl, tO, bO, lf, wo, iw, nm, sd, ik, kr, dgv, cm, sav, bo, cb, sl, hG, hcw, htl, hcm, hPx, hPm⟩ := hI
  have hG0 := hG
  obtain ⟨hn, hn2, hord, hlen, hkd, hkp, hkn, hkh, hkm, hpl, hpg, hak, hrn, hkr, him, hlen2, hkm2, hkn2, hord2⟩ := hG
  have nmx : ∀ (k : Nat) (q : Nat × va_E), (DW y b rn n lo kp dy so he kn ak pl iw nm sd ik kr lo2 dy2 so2 he2 kn2 dgv kd len ord kh km pg cm sav bo cb sl len2 ord2 kh2 km2)[k]? = some q → ¬ sA a 34 q.1 := fun k q hk z => by obtain ⟨hk1, hk2⟩ := ad_at (b := b) (N := 16) rfl hk; obtain ⟨j, hj, ej⟩ := z; exact hdis j k hj hk1 (ej.symm.trans hk2)
  refine lv_aload_n hx hb dL_law_223 rfl (lv_at hl 2 rfl) ?_
  refine lv_aload_n hx hb dL_law_224 rfl (lv_at hl 3 rfl) ?_
  refine lv_iload_n hx hb dL_law_225 rfl (lv_at hl 0 rfl) ?_
  refine lv_iconst (v := nI 1) hx hb dL_law_226 (by decide) ?_
  refine n_iadd hx hb dL_law_227 ?_
  refine l_sld hx hb hX hbl hbA hS (by omega) hL dL_law_228 ?_
  refine lv_aload_n hx hb dL_law_229 rfl (lv_at hl 3 rfl) ?_
  refine lv_iload_n hx hb dL_law_230 rfl (lv_at hl 0 rfl) ?_
  refine lv_iconst (v := nI 2) hx hb dL_law_231 (by decide) ?_
  refine n_iadd hx hb dL_law_232 ?_
  refine l_sld hx hb hX hbl hbA hS (by omega) hL dL_law_233 ?_
  refine l_calli (va_runV (As := [.int (xs (i + 1)), .int (xs (i + 2))]) (rest := []) ⟨hx, hb, hml, hown, hts⟩ (k_X10_as l dC dI y (sA a 34) a hAa xK xV rn n lo kp dy so he kn ak pl im lo2 dy2 so2 he2 kn2 ma kd len ord kh km pg len2 ord2 kh2 km2 cw tl tO bO lf wo (xs (i + 1)) (xs (i + 2)) hn hkd) (cwV 2 hts gL_law_X10_as rfl rfl rfl (by decide +kernel) ⟨Nat.le_of_ble_eq_true rfl, Nat.le_of_ble_eq_true rfl⟩) (l_preX hla hK hV hS hPx (va_recv hK hPx (ci := 10) (q0 := 0) rfl rfl)) rfl rfl hl.1 rfl (lv_room (Nat.le_of_ble_eq_true rfl)) dL_law_234 ⟨Nat.le_of_ble_eq_true rfl, Nat.le_of_ble_eq_true rfl⟩) hS hla hPm nmx (fun r1 u1 H locs hw1 hPx hPm hS => ?_)
  have hPx : va_P (dC, dI) vwCl (MW y a rn n lo kp dy so he kn ak pl im lo2 dy2 so2 he2 kn2 ma kd len ord kh km pg len2 ord2 kh2 km2 cw tl tO bO lf wo) H := hPx
  have nmy : ∀ (k : Nat) (q : Nat × va_E), (MW y a rn n lo kp dy so he kn ak pl im lo2 dy2 so2 he2 kn2 ma kd len ord kh km pg len2 ord2 kh2 km2 cw tl tO bO lf wo)[k]? = some q → ¬ sA b 16 q.1 := fun k q hk z => by obtain ⟨hk1, hk2⟩ := ad_at (b := a) (N := 34) rfl hk; obtain ⟨j, hj, ej⟩ := z; exact hdis k j hk1 hj (hk2.symm.trans ej)
  refine lv_aload_n hx hb dL_law_237 rfl (lv_at hl 1 rfl) ?_
  refine lv_aload_n hx hb dL_law_238 rfl (lv_at hl 3 rfl) ?_
  refine lv_iload_n hx hb dL_law_239 rfl (lv_at hl 0 rfl) ?_
  refine lv_iconst (v := nI 1) hx hb dL_law_240 (by decide) ?_
  refine n_iadd hx hb dL_law_241 ?_
  refine l_sld hx hb hX hbl hbA hS (by omega) hL dL_law_242 ?_
  refine lv_aload_n hx hb dL_law_243 rfl (lv_at hl 3 rfl) ?_
  refine lv_iload_n hx hb dL_law_244 rfl (lv_at hl 0 rfl) ?_
  refine lv_iconst (v := nI 2) hx hb dL_law_245 (by decide) ?_
  refine n_iadd hx hb dL_law_246 ?_
  refine l_sld hx hb hX hbl hbA hS (by omega) hL dL_law_247 ?_
  refine l_calli (va_runV (As := [.int (xs (i + 1)), .int (xs (i + 2))]) (rest := [.int (r1)]) ⟨hx, hb, hml, hown, hts⟩ (k_X11_as l dC dI y (sA b 16) b hAb rn n lo kp dy so he kn ak pl iw nm sd ik kr lo2 dy2 so2 he2 kn2 dgv kd len ord kh km pg cm sav bo cb sl len2 ord2 kh2 km2 (xs (i + 1)) (xs (i + 2)) hn hkd) (cwV 2 hts gL_law_X11_as rfl rfl rfl (by decide +kernel) ⟨Nat.le_of_ble_eq_true rfl, Nat.le_of_ble_eq_true rfl⟩) (c_preV (c_N0 (lA s)) hK trivial hS hPm (va_recv hK hPm (ci := 11) (q0 := 0) rfl rfl)) rfl rfl hl.1 rfl (lv_room (Nat.le_of_ble_eq_true rfl)) dL_law_248 ⟨Nat.le_of_ble_eq_true rfl, Nat.le_of_ble_eq_true rfl⟩) hS hlb hPx nmy (fun r2 u2 H locs hw2 hPm hPx hS => ?_)
  have hPm : va_P (dC, dI) vwCl (DW y b rn n lo kp dy so he kn ak pl iw nm sd ik kr lo2 dy2 so2 he2 kn2 dgv kd len ord kh km pg cm sav bo cb sl len2 ord2 kh2 km2) H := hPm
  have hre : r1 = r2 := (hw1).trans (hw2).symm
  refine lv_icmp_eq hx hb dL_law_251 rfl (fun _ => ?_) (fun hne => absurd hre hne)
  exact k H locs ⟨rn, n, lo, kp, dy, so, he, kn, ak, pl, lo2, dy2, so2, he2, kn2, kd, len, ord, kh, km, pg, len2, ord2, kh2, km2, im, ma, cw, tl, tO, bO, lf, wo, iw, nm, sd, ik, kr, dgv, cm, sav, bo, cb, sl, gi_next hG0, hcw, htl, hcm, hPx, hPm⟩ hS
set_option maxHeartbeats 4000000 in
set_option maxRecDepth 100000 in
theorem law_letters (l : Launch) {p : Program} {e : Env} {s : State} {m : MethodId} {args : Array Value} {below : List Frame} {meth : Method} {c : Code} {H : Heap} {locs : List Loc} {Q : State → Prop} {ls : Array Slot} {bs L i : Nat} {xs : Nat → Int32} {xK xV : Nat → Nat} {dC : Nat → ClassId} {dI : Nat → Nat → Nat} {y : Nat → ClassId} {a b : Nat → Nat} (hx : p.tables.exec = Jvm.exec) (hb : c.code = cL_law) (hml : c.maxLocals = 4) (hown : s.vm.findClass RL = some m.cls) (hts : ∀ w ∈ wsL_law, w.before args s = true) (hX : va_X bs L xs s s.heap) (hbl : bs < s.heap.size) (hF : LF s xK xV dC dI y a b) (hL : L ≤ 256) (hi : i + 4 ≤ L) (hS : va_S (lA s) s.heap H locs) (hl : lv_has ls 4 [(3, .int (nI i)), (2, .ref (b 0)), (1, .ref (a 0)), (0, .ref bs)]) (hI : LI dC dI y a b i H) (k : ∀ (H1 : Heap) (locs1 : List Loc), LI dC dI y a b (i + 4) H1 → va_S (lA s) s.heap H1 locs1 → W p l e room_1 s m args below meth c H1 locs1 50 1348 Q (F0 m 595 ls [])) : W p l e room_1 s m args below meth c H locs 50 1348 Q (F0 m 256 ls []) := by
  obtain ⟨hK, hV, hAa, hAb, hla, hlb, hdis⟩ := hF
  have hbA : ¬ lA s bs := fun q => absurd hbl (Nat.not_lt.mpr q)
  obtain ⟨rn, n, lo, kp, dy, so, he, kn, ak, pl, lo2, dy2, so2, he2, kn2, kd, len, ord, kh, km, pg, len2, ord2, kh2, km2, im, ma, cw, tl, tO, bO, lf, wo, iw, nm, sd, ik, kr, dgv, cm, sav, bo, cb, sl, hG, hcw, htl, hcm, hPx, hPm⟩ := hI
  have hG0 := hG
  obtain ⟨hn, hn2, hord, hlen, hkd, hkp, hkn, hkh, hkm, hpl, hpg, hak, hrn, hkr, him, hlen2, hkm2, hkn2, hord2⟩ := hG
  have nmx : ∀ (k : Nat) (q : Nat × va_E), (DW y b rn n lo kp dy so he kn ak pl iw nm sd ik kr lo2 dy2 so2 he2 kn2 dgv kd len ord kh km pg cm sav bo cb sl len2 ord2 kh2 km2)[k]? = some q → ¬ sA a 34 q.1 := fun k q hk z => by obtain ⟨hk1, hk2⟩ := ad_at (b := b) (N := 16) rfl hk; obtain ⟨j, hj, ej⟩ := z; exact hdis j k hj hk1 (ej.symm.trans hk2)
  refine lv_aload_n hx hb dL_law_256 rfl (lv_at hl 2 rfl) ?_
  refine lv_aload_n hx hb dL_law_257 rfl (lv_at hl 3 rfl) ?_
  refine lv_iload_n hx hb dL_law_258 rfl (lv_at hl 0 rfl) ?_
  refine lv_iconst (v := nI 1) hx hb dL_law_259 (by decide) ?_
  refine n_iadd hx hb dL_law_260 ?_
  refine l_sld hx hb hX hbl hbA hS (by omega) hL dL_law_261 ?_
  refine lv_aload_n hx hb dL_law_262 rfl (lv_at hl 3 rfl) ?_
  refine lv_iload_n hx hb dL_law_263 rfl (lv_at hl 0 rfl) ?_
  refine lv_iconst (v := nI 2) hx hb dL_law_264 (by decide) ?_
  refine n_iadd hx hb dL_law_265 ?_
  refine l_sld hx hb hX hbl hbA hS (by omega) hL dL_law_266 ?_
  refine l_calli (va_runV (As := [.int (xs (i + 1)), .int (xs (i + 2))]) (rest := []) ⟨hx, hb, hml, hown, hts⟩ (k_X10_letters l dC dI y (sA a 34) a hAa xK xV rn n lo kp dy so he kn ak pl im lo2 dy2 so2 he2 kn2 ma kd len ord kh km pg len2 ord2 kh2 km2 cw tl tO bO lf wo (xs (i + 1)) (xs (i + 2)) hn) (cwV 2 hts gL_law_X10_letters rfl rfl rfl (by decide +kernel) ⟨Nat.le_of_ble_eq_true rfl, Nat.le_of_ble_eq_true rfl⟩) (l_preX hla hK hV hS hPx (va_recv hK hPx (ci := 10) (q0 := 0) rfl rfl)) rfl rfl hl.1 rfl (lv_room (Nat.le_of_ble_eq_true rfl)) dL_law_267 ⟨Nat.le_of_ble_eq_true rfl, Nat.le_of_ble_eq_true rfl⟩) hS hla hPm nmx (fun r1 u1 H locs hw1 hPx hPm hS => ?_)
  have hPx : va_P (dC, dI) vwCl (MW y a rn n lo kp dy so he kn ak pl im lo2 dy2 so2 he2 kn2 ma kd (sLetters n len (xs (i + 1)) (xs (i + 2))) ord kh km pg len2 ord2 kh2 km2 cw tl tO bO lf wo) H := hPx
  have nmy : ∀ (k : Nat) (q : Nat × va_E), (MW y a rn n lo kp dy so he kn ak pl im lo2 dy2 so2 he2 kn2 ma kd (sLetters n len (xs (i + 1)) (xs (i + 2))) ord kh km pg len2 ord2 kh2 km2 cw tl tO bO lf wo)[k]? = some q → ¬ sA b 16 q.1 := fun k q hk z => by obtain ⟨hk1, hk2⟩ := ad_at (b := a) (N := 34) rfl hk; obtain ⟨j, hj, ej⟩ := z; exact hdis k j hk1 hj (hk2.symm.trans ej)
  refine lv_aload_n hx hb dL_law_270 rfl (lv_at hl 1 rfl) ?_
  refine lv_aload_n hx hb dL_law_271 rfl (lv_at hl 3 rfl) ?_
  refine lv_iload_n hx hb dL_law_272 rfl (lv_at hl 0 rfl) ?_
  refine lv_iconst (v := nI 1) hx hb dL_law_273 (by decide) ?_
  refine n_iadd hx hb dL_law_274 ?_
  refine l_sld hx hb hX hbl hbA hS (by omega) hL dL_law_275 ?_
  refine lv_aload_n hx hb dL_law_276 rfl (lv_at hl 3 rfl) ?_
  refine lv_iload_n hx hb dL_law_277 rfl (lv_at hl 0 rfl) ?_
  refine lv_iconst (v := nI 2) hx hb dL_law_278 (by decide) ?_
  refine n_iadd hx hb dL_law_279 ?_
  refine l_sld hx hb hX hbl hbA hS (by omega) hL dL_law_280 ?_
  refine l_calli (va_runV (As := [.int (xs (i + 1)), .int (xs (i + 2))]) (rest := [.int (r1)]) ⟨hx, hb, hml, hown, hts⟩ (k_X11_letters l dC dI y (sA b 16) b hAb rn n lo kp dy so he kn ak pl iw nm sd ik kr lo2 dy2 so2 he2 kn2 dgv kd len ord kh km pg cm sav bo cb sl len2 ord2 kh2 km2 (xs (i + 1)) (xs (i + 2)) hn) (cwV 2 hts gL_law_X11_letters rfl rfl rfl (by decide +kernel) ⟨Nat.le_of_ble_eq_true rfl, Nat.le_of_ble_eq_true rfl⟩) (c_preV (c_N0 (lA s)) hK trivial hS hPm (va_recv hK hPm (ci := 11) (q0 := 0) rfl rfl)) rfl rfl hl.1 rfl (lv_room (Nat.le_of_ble_eq_true rfl)) dL_law_281 ⟨Nat.le_of_ble_eq_true rfl, Nat.le_of_ble_eq_true rfl⟩) hS hlb hPx nmy (fun r2 u2 H locs hw2 hPm hPx hS => ?_)
  have hPm : va_P (dC, dI) vwCl (DW y b rn n lo kp dy so he kn ak pl iw nm sd ik kr lo2 dy2 so2 he2 kn2 dgv kd (sLetters n len (xs (i + 1)) (xs (i + 2))) ord kh km pg cm sav bo cb sl len2 ord2 kh2 km2) H := hPm
  have hre : r1 = r2 := (hw1).trans (hw2).symm
  refine lv_icmp_eq hx hb dL_law_284 rfl (fun _ => ?_) (fun hne => absurd hre hne)
  exact k H locs ⟨rn, n, lo, kp, dy, so, he, kn, ak, pl, lo2, dy2, so2, he2, kn2, kd, sLetters n len (xs (i + 1)) (xs (i + 2)), ord, kh, km, pg, len2, ord2, kh2, km2, im, ma, cw, tl, tO, bO, lf, wo, iw, nm, sd, ik, kr, dgv, cm, sav, bo, cb, sl, gi_letters (xs (i + 1)) (xs (i + 2)) hG0, hcw, htl, hcm, hPx, hPm⟩ hS
set_option maxHeartbeats 4000000 in
set_option maxRecDepth 100000 in
theorem law_leave (l : Launch) {p : Program} {e : Env} {s : State} {m : MethodId} {args : Array Value} {below : List Frame} {meth : Method} {c : Code} {H : Heap} {locs : List Loc} {Q : State → Prop} {ls : Array Slot} {bs L i : Nat} {xs : Nat → Int32} {xK xV : Nat → Nat} {dC : Nat → ClassId} {dI : Nat → Nat → Nat} {y : Nat → ClassId} {a b : Nat → Nat} (hx : p.tables.exec = Jvm.exec) (hb : c.code = cL_law) (hml : c.maxLocals = 4) (hown : s.vm.findClass RL = some m.cls) (hts : ∀ w ∈ wsL_law, w.before args s = true) (hX : va_X bs L xs s s.heap) (hbl : bs < s.heap.size) (hF : LF s xK xV dC dI y a b) (hL : L ≤ 256) (hi : i + 4 ≤ L) (hS : va_S (lA s) s.heap H locs) (hl : lv_has ls 4 [(3, .int (nI i)), (2, .ref (b 0)), (1, .ref (a 0)), (0, .ref bs)]) (hI : LI dC dI y a b i H) (k : ∀ (H1 : Heap) (locs1 : List Loc), LI dC dI y a b (i + 4) H1 → va_S (lA s) s.heap H1 locs1 → W p l e room_1 s m args below meth c H1 locs1 50 1348 Q (F0 m 595 ls [])) : W p l e room_1 s m args below meth c H locs 50 1348 Q (F0 m 289 ls []) := by
  obtain ⟨hK, hV, hAa, hAb, hla, hlb, hdis⟩ := hF
  have hbA : ¬ lA s bs := fun q => absurd hbl (Nat.not_lt.mpr q)
  obtain ⟨rn, n, lo, kp, dy, so, he, kn, ak, pl, lo2, dy2, so2, he2, kn2, kd, len, ord, kh, km, pg, len2, ord2, kh2, km2, im, ma, cw, tl, tO, bO, lf, wo, iw, nm, sd, ik, kr, dgv, cm, sav, bo, cb, sl, hG, hcw, htl, hcm, hPx, hPm⟩ := hI
  have hG0 := hG
  obtain ⟨hn, hn2, hord, hlen, hkd, hkp, hkn, hkh, hkm, hpl, hpg, hak, hrn, hkr, him, hlen2, hkm2, hkn2, hord2⟩ := hG
  have nmx : ∀ (k : Nat) (q : Nat × va_E), (DW y b rn n lo kp dy so he kn ak pl iw nm sd ik kr lo2 dy2 so2 he2 kn2 dgv kd len ord kh km pg cm sav bo cb sl len2 ord2 kh2 km2)[k]? = some q → ¬ sA a 34 q.1 := fun k q hk z => by obtain ⟨hk1, hk2⟩ := ad_at (b := b) (N := 16) rfl hk; obtain ⟨j, hj, ej⟩ := z; exact hdis j k hj hk1 (ej.symm.trans hk2)
  rcases Decidable.em (xs (i + 2) = 0) with hz | hz
  · refine lv_aload_n hx hb dL_law_289 rfl (lv_at hl 2 rfl) ?_
    refine lv_aload_n hx hb dL_law_290 rfl (lv_at hl 3 rfl) ?_
    refine lv_iload_n hx hb dL_law_291 rfl (lv_at hl 0 rfl) ?_
    refine lv_iconst (v := nI 1) hx hb dL_law_292 (by decide) ?_
    refine n_iadd hx hb dL_law_293 ?_
    refine l_sld hx hb hX hbl hbA hS (by omega) hL dL_law_294 ?_
    refine lv_aload_n hx hb dL_law_295 rfl (lv_at hl 3 rfl) ?_
    refine lv_iload_n hx hb dL_law_296 rfl (lv_at hl 0 rfl) ?_
    refine lv_iconst (v := nI 2) hx hb dL_law_297 (by decide) ?_
    refine n_iadd hx hb dL_law_298 ?_
    refine l_sld hx hb hX hbl hbA hS (by omega) hL dL_law_299 ?_
    refine lv_if_eq hx hb dL_law_300 rfl (fun _ => ?_) (fun hz2 => absurd hz hz2)
    refine lv_iconst (v := nI 0) hx hb dL_law_307 (by decide) ?_
    refine n_top (y := bI false) (bI_0 rfl) ?_
    refine l_calli (va_runV (As := [.int (xs (i + 1)), .int (bI false)]) (rest := []) ⟨hx, hb, hml, hown, hts⟩ (k_X10_leave l dC dI y (sA a 34) a hAa xK xV rn n lo kp dy so he kn ak pl im lo2 dy2 so2 he2 kn2 ma kd len ord kh km pg len2 ord2 kh2 km2 cw tl tO bO lf wo (xs (i + 1)) false hn) (cwV 2 hts gL_law_X10_leave rfl rfl rfl (by decide +kernel) ⟨Nat.le_of_ble_eq_true rfl, Nat.le_of_ble_eq_true rfl⟩) (l_preX hla hK hV hS hPx (va_recv hK hPx (ci := 10) (q0 := 0) rfl rfl)) rfl rfl hl.1 rfl (lv_room (Nat.le_of_ble_eq_true rfl)) dL_law_308 ⟨Nat.le_of_ble_eq_true rfl, Nat.le_of_ble_eq_true rfl⟩) hS hla hPm nmx (fun r1 u1 H locs hw1 hPx hPm hS => ?_)
    have hPx : va_P (dC, dI) vwCl (MW y a rn n (sLeave n lo (xs (i + 1)) false) kp dy so he kn ak pl im lo2 dy2 so2 he2 kn2 ma kd len ord kh km pg len2 ord2 kh2 km2 cw tl tO bO lf wo) H := hPx
    have nmy : ∀ (k : Nat) (q : Nat × va_E), (MW y a rn n (sLeave n lo (xs (i + 1)) false) kp dy so he kn ak pl im lo2 dy2 so2 he2 kn2 ma kd len ord kh km pg len2 ord2 kh2 km2 cw tl tO bO lf wo)[k]? = some q → ¬ sA b 16 q.1 := fun k q hk z => by obtain ⟨hk1, hk2⟩ := ad_at (b := a) (N := 34) rfl hk; obtain ⟨j, hj, ej⟩ := z; exact hdis k j hk1 hj (hk2.symm.trans ej)
    refine lv_aload_n hx hb dL_law_311 rfl (lv_at hl 1 rfl) ?_
    refine lv_aload_n hx hb dL_law_312 rfl (lv_at hl 3 rfl) ?_
    refine lv_iload_n hx hb dL_law_313 rfl (lv_at hl 0 rfl) ?_
    refine lv_iconst (v := nI 1) hx hb dL_law_314 (by decide) ?_
    refine n_iadd hx hb dL_law_315 ?_
    refine l_sld hx hb hX hbl hbA hS (by omega) hL dL_law_316 ?_
    refine lv_aload_n hx hb dL_law_317 rfl (lv_at hl 3 rfl) ?_
    refine lv_iload_n hx hb dL_law_318 rfl (lv_at hl 0 rfl) ?_
    refine lv_iconst (v := nI 2) hx hb dL_law_319 (by decide) ?_
    refine n_iadd hx hb dL_law_320 ?_
    refine l_sld hx hb hX hbl hbA hS (by omega) hL dL_law_321 ?_
    refine lv_if_eq hx hb dL_law_322 rfl (fun _ => ?_) (fun hz2 => absurd hz hz2)
    refine lv_iconst (v := nI 0) hx hb dL_law_329 (by decide) ?_
    refine n_top (y := bI false) (bI_0 rfl) ?_
    refine l_calli (va_runV (As := [.int (xs (i + 1)), .int (bI false)]) (rest := [.int (r1)]) ⟨hx, hb, hml, hown, hts⟩ (k_X11_leave l dC dI y (sA b 16) b hAb rn n lo kp dy so he kn ak pl iw nm sd ik kr lo2 dy2 so2 he2 kn2 dgv kd len ord kh km pg cm sav bo cb sl len2 ord2 kh2 km2 (xs (i + 1)) false hn) (cwV 2 hts gL_law_X11_leave rfl rfl rfl (by decide +kernel) ⟨Nat.le_of_ble_eq_true rfl, Nat.le_of_ble_eq_true rfl⟩) (c_preV (c_N0 (lA s)) hK trivial hS hPm (va_recv hK hPm (ci := 11) (q0 := 0) rfl rfl)) rfl rfl hl.1 rfl (lv_room (Nat.le_of_ble_eq_true rfl)) dL_law_330 ⟨Nat.le_of_ble_eq_true rfl, Nat.le_of_ble_eq_true rfl⟩) hS hlb hPx nmy (fun r2 u2 H locs hw2 hPm hPx hS => ?_)
    have hPm : va_P (dC, dI) vwCl (DW y b rn n (sLeave n lo (xs (i + 1)) false) kp dy so he kn ak pl iw nm sd ik kr lo2 dy2 so2 he2 kn2 dgv kd len ord kh km pg cm sav bo cb sl len2 ord2 kh2 km2) H := hPm
    have hre : r1 = r2 := (hw1).trans (hw2).symm
    refine lv_icmp_eq hx hb dL_law_333 rfl (fun _ => ?_) (fun hne => absurd hre hne)
    exact k H locs ⟨rn, n, sLeave n lo (xs (i + 1)) false, kp, dy, so, he, kn, ak, pl, lo2, dy2, so2, he2, kn2, kd, len, ord, kh, km, pg, len2, ord2, kh2, km2, im, ma, cw, tl, tO, bO, lf, wo, iw, nm, sd, ik, kr, dgv, cm, sav, bo, cb, sl, gi_next hG0, hcw, htl, hcm, hPx, hPm⟩ hS
  · refine lv_aload_n hx hb dL_law_289 rfl (lv_at hl 2 rfl) ?_
    refine lv_aload_n hx hb dL_law_290 rfl (lv_at hl 3 rfl) ?_
    refine lv_iload_n hx hb dL_law_291 rfl (lv_at hl 0 rfl) ?_
    refine lv_iconst (v := nI 1) hx hb dL_law_292 (by decide) ?_
    refine n_iadd hx hb dL_law_293 ?_
    refine l_sld hx hb hX hbl hbA hS (by omega) hL dL_law_294 ?_
    refine lv_aload_n hx hb dL_law_295 rfl (lv_at hl 3 rfl) ?_
    refine lv_iload_n hx hb dL_law_296 rfl (lv_at hl 0 rfl) ?_
    refine lv_iconst (v := nI 2) hx hb dL_law_297 (by decide) ?_
    refine n_iadd hx hb dL_law_298 ?_
    refine l_sld hx hb hX hbl hbA hS (by omega) hL dL_law_299 ?_
    refine lv_if_eq hx hb dL_law_300 rfl (fun hz2 => absurd hz2 hz) (fun _ => ?_)
    refine lv_iconst (v := nI 1) hx hb dL_law_303 (by decide) ?_
    refine n_top (y := bI true) (bI_1 rfl) ?_
    refine lv_goto hx hb dL_law_304 rfl ?_
    refine l_calli (va_runV (As := [.int (xs (i + 1)), .int (bI true)]) (rest := []) ⟨hx, hb, hml, hown, hts⟩ (k_X10_leave l dC dI y (sA a 34) a hAa xK xV rn n lo kp dy so he kn ak pl im lo2 dy2 so2 he2 kn2 ma kd len ord kh km pg len2 ord2 kh2 km2 cw tl tO bO lf wo (xs (i + 1)) true hn) (cwV 2 hts gL_law_X10_leave rfl rfl rfl (by decide +kernel) ⟨Nat.le_of_ble_eq_true rfl, Nat.le_of_ble_eq_true rfl⟩) (l_preX hla hK hV hS hPx (va_recv hK hPx (ci := 10) (q0 := 0) rfl rfl)) rfl rfl hl.1 rfl (lv_room (Nat.le_of_ble_eq_true rfl)) dL_law_308 ⟨Nat.le_of_ble_eq_true rfl, Nat.le_of_ble_eq_true rfl⟩) hS hla hPm nmx (fun r1 u1 H locs hw1 hPx hPm hS => ?_)
    have hPx : va_P (dC, dI) vwCl (MW y a rn n (sLeave n lo (xs (i + 1)) true) kp dy so he kn ak pl im lo2 dy2 so2 he2 kn2 ma kd len ord kh km pg len2 ord2 kh2 km2 cw tl tO bO lf wo) H := hPx
    have nmy : ∀ (k : Nat) (q : Nat × va_E), (MW y a rn n (sLeave n lo (xs (i + 1)) true) kp dy so he kn ak pl im lo2 dy2 so2 he2 kn2 ma kd len ord kh km pg len2 ord2 kh2 km2 cw tl tO bO lf wo)[k]? = some q → ¬ sA b 16 q.1 := fun k q hk z => by obtain ⟨hk1, hk2⟩ := ad_at (b := a) (N := 34) rfl hk; obtain ⟨j, hj, ej⟩ := z; exact hdis k j hk1 hj (hk2.symm.trans ej)
    refine lv_aload_n hx hb dL_law_311 rfl (lv_at hl 1 rfl) ?_
    refine lv_aload_n hx hb dL_law_312 rfl (lv_at hl 3 rfl) ?_
    refine lv_iload_n hx hb dL_law_313 rfl (lv_at hl 0 rfl) ?_
    refine lv_iconst (v := nI 1) hx hb dL_law_314 (by decide) ?_
    refine n_iadd hx hb dL_law_315 ?_
    refine l_sld hx hb hX hbl hbA hS (by omega) hL dL_law_316 ?_
    refine lv_aload_n hx hb dL_law_317 rfl (lv_at hl 3 rfl) ?_
    refine lv_iload_n hx hb dL_law_318 rfl (lv_at hl 0 rfl) ?_
    refine lv_iconst (v := nI 2) hx hb dL_law_319 (by decide) ?_
    refine n_iadd hx hb dL_law_320 ?_
    refine l_sld hx hb hX hbl hbA hS (by omega) hL dL_law_321 ?_
    refine lv_if_eq hx hb dL_law_322 rfl (fun hz2 => absurd hz2 hz) (fun _ => ?_)
    refine lv_iconst (v := nI 1) hx hb dL_law_325 (by decide) ?_
    refine n_top (y := bI true) (bI_1 rfl) ?_
    refine lv_goto hx hb dL_law_326 rfl ?_
    refine l_calli (va_runV (As := [.int (xs (i + 1)), .int (bI true)]) (rest := [.int (r1)]) ⟨hx, hb, hml, hown, hts⟩ (k_X11_leave l dC dI y (sA b 16) b hAb rn n lo kp dy so he kn ak pl iw nm sd ik kr lo2 dy2 so2 he2 kn2 dgv kd len ord kh km pg cm sav bo cb sl len2 ord2 kh2 km2 (xs (i + 1)) true hn) (cwV 2 hts gL_law_X11_leave rfl rfl rfl (by decide +kernel) ⟨Nat.le_of_ble_eq_true rfl, Nat.le_of_ble_eq_true rfl⟩) (c_preV (c_N0 (lA s)) hK trivial hS hPm (va_recv hK hPm (ci := 11) (q0 := 0) rfl rfl)) rfl rfl hl.1 rfl (lv_room (Nat.le_of_ble_eq_true rfl)) dL_law_330 ⟨Nat.le_of_ble_eq_true rfl, Nat.le_of_ble_eq_true rfl⟩) hS hlb hPx nmy (fun r2 u2 H locs hw2 hPm hPx hS => ?_)
    have hPm : va_P (dC, dI) vwCl (DW y b rn n (sLeave n lo (xs (i + 1)) true) kp dy so he kn ak pl iw nm sd ik kr lo2 dy2 so2 he2 kn2 dgv kd len ord kh km pg cm sav bo cb sl len2 ord2 kh2 km2) H := hPm
    have hre : r1 = r2 := (hw1).trans (hw2).symm
    refine lv_icmp_eq hx hb dL_law_333 rfl (fun _ => ?_) (fun hne => absurd hre hne)
    exact k H locs ⟨rn, n, sLeave n lo (xs (i + 1)) true, kp, dy, so, he, kn, ak, pl, lo2, dy2, so2, he2, kn2, kd, len, ord, kh, km, pg, len2, ord2, kh2, km2, im, ma, cw, tl, tO, bO, lf, wo, iw, nm, sd, ik, kr, dgv, cm, sav, bo, cb, sl, gi_next hG0, hcw, htl, hcm, hPx, hPm⟩ hS
set_option maxHeartbeats 4000000 in
set_option maxRecDepth 100000 in
theorem law_swap (l : Launch) {p : Program} {e : Env} {s : State} {m : MethodId} {args : Array Value} {below : List Frame} {meth : Method} {c : Code} {H : Heap} {locs : List Loc} {Q : State → Prop} {ls : Array Slot} {bs L i : Nat} {xs : Nat → Int32} {xK xV : Nat → Nat} {dC : Nat → ClassId} {dI : Nat → Nat → Nat} {y : Nat → ClassId} {a b : Nat → Nat} (hx : p.tables.exec = Jvm.exec) (hb : c.code = cL_law) (hml : c.maxLocals = 4) (hown : s.vm.findClass RL = some m.cls) (hts : ∀ w ∈ wsL_law, w.before args s = true) (hX : va_X bs L xs s s.heap) (hbl : bs < s.heap.size) (hF : LF s xK xV dC dI y a b) (hL : L ≤ 256) (hi : i + 4 ≤ L) (hS : va_S (lA s) s.heap H locs) (hl : lv_has ls 4 [(3, .int (nI i)), (2, .ref (b 0)), (1, .ref (a 0)), (0, .ref bs)]) (hI : LI dC dI y a b i H) (k : ∀ (H1 : Heap) (locs1 : List Loc), LI dC dI y a b (i + 4) H1 → va_S (lA s) s.heap H1 locs1 → W p l e room_1 s m args below meth c H1 locs1 50 1348 Q (F0 m 595 ls [])) : W p l e room_1 s m args below meth c H locs 50 1348 Q (F0 m 338 ls []) := by
  obtain ⟨hK, hV, hAa, hAb, hla, hlb, hdis⟩ := hF
  have hbA : ¬ lA s bs := fun q => absurd hbl (Nat.not_lt.mpr q)
  obtain ⟨rn, n, lo, kp, dy, so, he, kn, ak, pl, lo2, dy2, so2, he2, kn2, kd, len, ord, kh, km, pg, len2, ord2, kh2, km2, im, ma, cw, tl, tO, bO, lf, wo, iw, nm, sd, ik, kr, dgv, cm, sav, bo, cb, sl, hG, hcw, htl, hcm, hPx, hPm⟩ := hI
  have hG0 := hG
  obtain ⟨hn, hn2, hord, hlen, hkd, hkp, hkn, hkh, hkm, hpl, hpg, hak, hrn, hkr, him, hlen2, hkm2, hkn2, hord2⟩ := hG
  have nmx : ∀ (k : Nat) (q : Nat × va_E), (DW y b rn n lo kp dy so he kn ak pl iw nm sd ik kr lo2 dy2 so2 he2 kn2 dgv kd len ord kh km pg cm sav bo cb sl len2 ord2 kh2 km2)[k]? = some q → ¬ sA a 34 q.1 := fun k q hk z => by obtain ⟨hk1, hk2⟩ := ad_at (b := b) (N := 16) rfl hk; obtain ⟨j, hj, ej⟩ := z; exact hdis j k hj hk1 (ej.symm.trans hk2)
  refine lv_aload_n hx hb dL_law_338 rfl (lv_at hl 2 rfl) ?_
  refine lv_aload_n hx hb dL_law_339 rfl (lv_at hl 3 rfl) ?_
  refine lv_iload_n hx hb dL_law_340 rfl (lv_at hl 0 rfl) ?_
  refine lv_iconst (v := nI 1) hx hb dL_law_341 (by decide) ?_
  refine n_iadd hx hb dL_law_342 ?_
  refine l_sld hx hb hX hbl hbA hS (by omega) hL dL_law_343 ?_
  refine lv_aload_n hx hb dL_law_344 rfl (lv_at hl 3 rfl) ?_
  refine lv_iload_n hx hb dL_law_345 rfl (lv_at hl 0 rfl) ?_
  refine lv_iconst (v := nI 2) hx hb dL_law_346 (by decide) ?_
  refine n_iadd hx hb dL_law_347 ?_
  refine l_sld hx hb hX hbl hbA hS (by omega) hL dL_law_348 ?_
  refine l_calli (va_runV (As := [.int (xs (i + 1)), .int (xs (i + 2))]) (rest := []) ⟨hx, hb, hml, hown, hts⟩ (k_X10_swap l dC dI y (sA a 34) a hAa xK xV rn n lo kp dy so he kn ak pl im lo2 dy2 so2 he2 kn2 ma kd len ord kh km pg len2 ord2 kh2 km2 cw tl tO bO lf wo (xs (i + 1)) (xs (i + 2)) hn hord) (cwV 2 hts gL_law_X10_swap rfl rfl rfl (by decide +kernel) ⟨Nat.le_of_ble_eq_true rfl, Nat.le_of_ble_eq_true rfl⟩) (l_preX hla hK hV hS hPx (va_recv hK hPx (ci := 10) (q0 := 0) rfl rfl)) rfl rfl hl.1 rfl (lv_room (Nat.le_of_ble_eq_true rfl)) dL_law_349 ⟨Nat.le_of_ble_eq_true rfl, Nat.le_of_ble_eq_true rfl⟩) hS hla hPm nmx (fun r1 u1 H locs hw1 hPx hPm hS => ?_)
  have hPx : va_P (dC, dI) vwCl (MW y a rn n lo kp dy so he kn ak pl im lo2 dy2 so2 he2 kn2 ma kd len (sSwap n ord (xs (i + 1)) (xs (i + 2))) kh km pg len2 ord2 kh2 km2 cw tl tO bO lf wo) H := hPx
  have nmy : ∀ (k : Nat) (q : Nat × va_E), (MW y a rn n lo kp dy so he kn ak pl im lo2 dy2 so2 he2 kn2 ma kd len (sSwap n ord (xs (i + 1)) (xs (i + 2))) kh km pg len2 ord2 kh2 km2 cw tl tO bO lf wo)[k]? = some q → ¬ sA b 16 q.1 := fun k q hk z => by obtain ⟨hk1, hk2⟩ := ad_at (b := a) (N := 34) rfl hk; obtain ⟨j, hj, ej⟩ := z; exact hdis k j hk1 hj (hk2.symm.trans ej)
  refine lv_aload_n hx hb dL_law_352 rfl (lv_at hl 1 rfl) ?_
  refine lv_aload_n hx hb dL_law_353 rfl (lv_at hl 3 rfl) ?_
  refine lv_iload_n hx hb dL_law_354 rfl (lv_at hl 0 rfl) ?_
  refine lv_iconst (v := nI 1) hx hb dL_law_355 (by decide) ?_
  refine n_iadd hx hb dL_law_356 ?_
  refine l_sld hx hb hX hbl hbA hS (by omega) hL dL_law_357 ?_
  refine lv_aload_n hx hb dL_law_358 rfl (lv_at hl 3 rfl) ?_
  refine lv_iload_n hx hb dL_law_359 rfl (lv_at hl 0 rfl) ?_
  refine lv_iconst (v := nI 2) hx hb dL_law_360 (by decide) ?_
  refine n_iadd hx hb dL_law_361 ?_
  refine l_sld hx hb hX hbl hbA hS (by omega) hL dL_law_362 ?_
  refine l_calli (va_runV (As := [.int (xs (i + 1)), .int (xs (i + 2))]) (rest := [.int (r1)]) ⟨hx, hb, hml, hown, hts⟩ (k_X11_swap l dC dI y (sA b 16) b hAb rn n lo kp dy so he kn ak pl iw nm sd ik kr lo2 dy2 so2 he2 kn2 dgv kd len ord kh km pg cm sav bo cb sl len2 ord2 kh2 km2 (xs (i + 1)) (xs (i + 2)) hn hord) (cwV 2 hts gL_law_X11_swap rfl rfl rfl (by decide +kernel) ⟨Nat.le_of_ble_eq_true rfl, Nat.le_of_ble_eq_true rfl⟩) (c_preV (c_N0 (lA s)) hK trivial hS hPm (va_recv hK hPm (ci := 11) (q0 := 0) rfl rfl)) rfl rfl hl.1 rfl (lv_room (Nat.le_of_ble_eq_true rfl)) dL_law_363 ⟨Nat.le_of_ble_eq_true rfl, Nat.le_of_ble_eq_true rfl⟩) hS hlb hPx nmy (fun r2 u2 H locs hw2 hPm hPx hS => ?_)
  have hPm : va_P (dC, dI) vwCl (DW y b rn n lo kp dy so he kn ak pl iw nm sd ik kr lo2 dy2 so2 he2 kn2 dgv kd len (sSwap n ord (xs (i + 1)) (xs (i + 2))) kh km pg cm sav bo cb sl len2 ord2 kh2 km2) H := hPm
  have hre : r1 = r2 := (hw1).trans (hw2).symm
  refine lv_icmp_eq hx hb dL_law_366 rfl (fun _ => ?_) (fun hne => absurd hre hne)
  exact k H locs ⟨rn, n, lo, kp, dy, so, he, kn, ak, pl, lo2, dy2, so2, he2, kn2, kd, len, sSwap n ord (xs (i + 1)) (xs (i + 2)), kh, km, pg, len2, ord2, kh2, km2, im, ma, cw, tl, tO, bO, lf, wo, iw, nm, sd, ik, kr, dgv, cm, sav, bo, cb, sl, gi_swap (xs (i + 1)) (xs (i + 2)) hG0, hcw, htl, hcm, hPx, hPm⟩ hS
set_option maxHeartbeats 4000000 in
set_option maxRecDepth 100000 in
theorem law_day (l : Launch) {p : Program} {e : Env} {s : State} {m : MethodId} {args : Array Value} {below : List Frame} {meth : Method} {c : Code} {H : Heap} {locs : List Loc} {Q : State → Prop} {ls : Array Slot} {bs L i : Nat} {xs : Nat → Int32} {xK xV : Nat → Nat} {dC : Nat → ClassId} {dI : Nat → Nat → Nat} {y : Nat → ClassId} {a b : Nat → Nat} (hx : p.tables.exec = Jvm.exec) (hb : c.code = cL_law) (hml : c.maxLocals = 4) (hown : s.vm.findClass RL = some m.cls) (hts : ∀ w ∈ wsL_law, w.before args s = true) (hX : va_X bs L xs s s.heap) (hbl : bs < s.heap.size) (hF : LF s xK xV dC dI y a b) (hL : L ≤ 256) (hi : i + 4 ≤ L) (hS : va_S (lA s) s.heap H locs) (hl : lv_has ls 4 [(3, .int (nI i)), (2, .ref (b 0)), (1, .ref (a 0)), (0, .ref bs)]) (hI : LI dC dI y a b i H) (k : ∀ (H1 : Heap) (locs1 : List Loc), LI dC dI y a b (i + 4) H1 → va_S (lA s) s.heap H1 locs1 → W p l e room_1 s m args below meth c H1 locs1 50 1348 Q (F0 m 595 ls [])) : W p l e room_1 s m args below meth c H locs 50 1348 Q (F0 m 371 ls []) := by
  obtain ⟨hK, hV, hAa, hAb, hla, hlb, hdis⟩ := hF
  have hbA : ¬ lA s bs := fun q => absurd hbl (Nat.not_lt.mpr q)
  obtain ⟨rn, n, lo, kp, dy, so, he, kn, ak, pl, lo2, dy2, so2, he2, kn2, kd, len, ord, kh, km, pg, len2, ord2, kh2, km2, im, ma, cw, tl, tO, bO, lf, wo, iw, nm, sd, ik, kr, dgv, cm, sav, bo, cb, sl, hG, hcw, htl, hcm, hPx, hPm⟩ := hI
  have hG0 := hG
  obtain ⟨hn, hn2, hord, hlen, hkd, hkp, hkn, hkh, hkm, hpl, hpg, hak, hrn, hkr, him, hlen2, hkm2, hkn2, hord2⟩ := hG
  have nmx : ∀ (k : Nat) (q : Nat × va_E), (DW y b rn n lo kp dy so he kn ak pl iw nm sd ik kr lo2 dy2 so2 he2 kn2 dgv kd len ord kh km pg cm sav bo cb sl len2 ord2 kh2 km2)[k]? = some q → ¬ sA a 34 q.1 := fun k q hk z => by obtain ⟨hk1, hk2⟩ := ad_at (b := b) (N := 16) rfl hk; obtain ⟨j, hj, ej⟩ := z; exact hdis j k hj hk1 (ej.symm.trans hk2)
  refine lv_aload_n hx hb dL_law_371 rfl (lv_at hl 2 rfl) ?_
  refine l_calli (va_runV (As := []) (rest := []) ⟨hx, hb, hml, hown, hts⟩ (k_X10_day l dC dI y (sA a 34) a hAa xK xV rn n lo kp dy so he kn ak pl im lo2 dy2 so2 he2 kn2 ma kd len ord kh km pg len2 ord2 kh2 km2 cw tl tO bO lf wo  hn hord hlen hkd hcw hkp) (cwV 0 hts gL_law_X10_day rfl rfl rfl (by decide +kernel) ⟨Nat.le_of_ble_eq_true rfl, Nat.le_of_ble_eq_true rfl⟩) (l_preX hla hK hV hS hPx (va_recv hK hPx (ci := 10) (q0 := 0) rfl rfl)) rfl rfl hl.1 rfl (lv_room (Nat.le_of_ble_eq_true rfl)) dL_law_372 ⟨Nat.le_of_ble_eq_true rfl, Nat.le_of_ble_eq_true rfl⟩) hS hla hPm nmx (fun r1 u1 H locs hw1 hPx hPm hS => ?_)
  have hPx : va_P (dC, dI) vwCl (MW y a rn n lo kp (bif decide (n = 0) then dy else dy + nI 1) (bif decide (n = 0) then so else so + nI (scF n kp kd len lo ord)) (bif decide (n = 0) then he else he + nI (hcF n kd len lo ord)) kn ak pl im lo2 dy2 so2 he2 kn2 u1.2 kd (bif decide (n = 0) then len else dayL n kd len) ord kh km pg len2 ord2 kh2 km2 u1.1 tl tO bO lf wo) H := hPx
  have nmy : ∀ (k : Nat) (q : Nat × va_E), (MW y a rn n lo kp (bif decide (n = 0) then dy else dy + nI 1) (bif decide (n = 0) then so else so + nI (scF n kp kd len lo ord)) (bif decide (n = 0) then he else he + nI (hcF n kd len lo ord)) kn ak pl im lo2 dy2 so2 he2 kn2 u1.2 kd (bif decide (n = 0) then len else dayL n kd len) ord kh km pg len2 ord2 kh2 km2 u1.1 tl tO bO lf wo)[k]? = some q → ¬ sA b 16 q.1 := fun k q hk z => by obtain ⟨hk1, hk2⟩ := ad_at (b := a) (N := 34) rfl hk; obtain ⟨j, hj, ej⟩ := z; exact hdis k j hk1 hj (hk2.symm.trans ej)
  refine lv_aload_n hx hb dL_law_375 rfl (lv_at hl 1 rfl) ?_
  refine l_calli (va_runV (As := []) (rest := [.int (r1)]) ⟨hx, hb, hml, hown, hts⟩ (k_X11_day l dC dI y (sA b 16) b hAb rn n lo kp dy so he kn ak pl iw nm sd ik kr lo2 dy2 so2 he2 kn2 dgv kd len ord kh km pg cm sav bo cb sl len2 ord2 kh2 km2  hn hord hlen hkd hcm hkp) (cwV 0 hts gL_law_X11_day rfl rfl rfl (by decide +kernel) ⟨Nat.le_of_ble_eq_true rfl, Nat.le_of_ble_eq_true rfl⟩) (c_preV (c_N0 (lA s)) hK trivial hS hPm (va_recv hK hPm (ci := 11) (q0 := 0) rfl rfl)) rfl rfl hl.1 rfl (lv_room (Nat.le_of_ble_eq_true rfl)) dL_law_376 ⟨Nat.le_of_ble_eq_true rfl, Nat.le_of_ble_eq_true rfl⟩) hS hlb hPx nmy (fun r2 u2 H locs hw2 hPm hPx hS => ?_)
  have hPm : va_P (dC, dI) vwCl (DW y b rn n lo kp (bif decide (n = 0) then dy else dy + nI 1) (bif decide (n = 0) then so else so + nI (scF n kp kd len lo ord)) (bif decide (n = 0) then he else he + nI (hcF n kd len lo ord)) kn ak pl iw nm sd ik kr lo2 dy2 so2 he2 kn2 dgv kd (bif decide (n = 0) then len else dayL n kd len) ord kh km pg u2 sav bo cb sl len2 ord2 kh2 km2) H := hPm
  have hre : r1 = r2 := (hw1.1).trans (hw2.1).symm
  refine lv_icmp_eq hx hb dL_law_379 rfl (fun _ => ?_) (fun hne => absurd hre hne)
  exact k H locs ⟨rn, n, lo, kp, bif decide (n = 0) then dy else dy + nI 1, bif decide (n = 0) then so else so + nI (scF n kp kd len lo ord), bif decide (n = 0) then he else he + nI (hcF n kd len lo ord), kn, ak, pl, lo2, dy2, so2, he2, kn2, kd, bif decide (n = 0) then len else dayL n kd len, ord, kh, km, pg, len2, ord2, kh2, km2, im, u1.2, u1.1, tl, tO, bO, lf, wo, iw, nm, sd, ik, kr, dgv, u2, sav, bo, cb, sl, gi_day hG0, hw1.2, htl, hw2.2, hPx, hPm⟩ hS
set_option maxHeartbeats 4000000 in
set_option maxRecDepth 100000 in
theorem law_best (l : Launch) {p : Program} {e : Env} {s : State} {m : MethodId} {args : Array Value} {below : List Frame} {meth : Method} {c : Code} {H : Heap} {locs : List Loc} {Q : State → Prop} {ls : Array Slot} {bs L i : Nat} {xs : Nat → Int32} {xK xV : Nat → Nat} {dC : Nat → ClassId} {dI : Nat → Nat → Nat} {y : Nat → ClassId} {a b : Nat → Nat} (hx : p.tables.exec = Jvm.exec) (hb : c.code = cL_law) (hml : c.maxLocals = 4) (hown : s.vm.findClass RL = some m.cls) (hts : ∀ w ∈ wsL_law, w.before args s = true) (hX : va_X bs L xs s s.heap) (hbl : bs < s.heap.size) (hF : LF s xK xV dC dI y a b) (hL : L ≤ 256) (hi : i + 4 ≤ L) (hS : va_S (lA s) s.heap H locs) (hl : lv_has ls 4 [(3, .int (nI i)), (2, .ref (b 0)), (1, .ref (a 0)), (0, .ref bs)]) (hI : LI dC dI y a b i H) (k : ∀ (H1 : Heap) (locs1 : List Loc), LI dC dI y a b (i + 4) H1 → va_S (lA s) s.heap H1 locs1 → W p l e room_1 s m args below meth c H1 locs1 50 1348 Q (F0 m 595 ls [])) : W p l e room_1 s m args below meth c H locs 50 1348 Q (F0 m 384 ls []) := by
  obtain ⟨hK, hV, hAa, hAb, hla, hlb, hdis⟩ := hF
  have hbA : ¬ lA s bs := fun q => absurd hbl (Nat.not_lt.mpr q)
  obtain ⟨rn, n, lo, kp, dy, so, he, kn, ak, pl, lo2, dy2, so2, he2, kn2, kd, len, ord, kh, km, pg, len2, ord2, kh2, km2, im, ma, cw, tl, tO, bO, lf, wo, iw, nm, sd, ik, kr, dgv, cm, sav, bo, cb, sl, hG, hcw, htl, hcm, hPx, hPm⟩ := hI
  have hG0 := hG
  obtain ⟨hn, hn2, hord, hlen, hkd, hkp, hkn, hkh, hkm, hpl, hpg, hak, hrn, hkr, him, hlen2, hkm2, hkn2, hord2⟩ := hG
  have nmx : ∀ (k : Nat) (q : Nat × va_E), (DW y b rn n lo kp dy so he kn ak pl iw nm sd ik kr lo2 dy2 so2 he2 kn2 dgv kd len ord kh km pg cm sav bo cb sl len2 ord2 kh2 km2)[k]? = some q → ¬ sA a 34 q.1 := fun k q hk z => by obtain ⟨hk1, hk2⟩ := ad_at (b := b) (N := 16) rfl hk; obtain ⟨j, hj, ej⟩ := z; exact hdis j k hj hk1 (ej.symm.trans hk2)
  refine lv_aload_n hx hb dL_law_384 rfl (lv_at hl 2 rfl) ?_
  refine lv_aload_n hx hb dL_law_385 rfl (lv_at hl 3 rfl) ?_
  refine lv_iload_n hx hb dL_law_386 rfl (lv_at hl 0 rfl) ?_
  refine lv_iconst (v := nI 1) hx hb dL_law_387 (by decide) ?_
  refine n_iadd hx hb dL_law_388 ?_
  refine l_sld hx hb hX hbl hbA hS (by omega) hL dL_law_389 ?_
  refine l_calli (va_runV (As := [.int (xs (i + 1))]) (rest := []) ⟨hx, hb, hml, hown, hts⟩ (k_X10_best l dC dI y (sA a 34) a hAa xK xV rn n lo kp dy so he kn ak pl im lo2 dy2 so2 he2 kn2 ma kd len ord kh km pg len2 ord2 kh2 km2 cw tl tO bO lf wo (xs (i + 1)) hn2 hn hlen hkd hcw hkp hak) (cwV 1 hts gL_law_X10_best rfl rfl rfl (by decide +kernel) ⟨Nat.le_of_ble_eq_true rfl, Nat.le_of_ble_eq_true rfl⟩) (l_preX hla hK hV hS hPx (va_recv hK hPx (ci := 10) (q0 := 0) rfl rfl)) rfl rfl hl.1 rfl (lv_room (Nat.le_of_ble_eq_true rfl)) dL_law_390 ⟨Nat.le_of_ble_eq_true rfl, Nat.le_of_ble_eq_true rfl⟩) hS hla hPm nmx (fun r1 u1 H locs hw1 hPx hPm hS => ?_)
  have hPx : va_P (dC, dI) vwCl (MW y a rn n lo kp dy so he kn (sBest n ak (xs (i + 1))) pl im lo2 dy2 so2 he2 kn2 u1.2.1 kd len ord kh km pg len2 ord2 kh2 km2 u1.1 tl u1.2.2.1 u1.2.2.2 lf wo) H := hPx
  have nmy : ∀ (k : Nat) (q : Nat × va_E), (MW y a rn n lo kp dy so he kn (sBest n ak (xs (i + 1))) pl im lo2 dy2 so2 he2 kn2 u1.2.1 kd len ord kh km pg len2 ord2 kh2 km2 u1.1 tl u1.2.2.1 u1.2.2.2 lf wo)[k]? = some q → ¬ sA b 16 q.1 := fun k q hk z => by obtain ⟨hk1, hk2⟩ := ad_at (b := a) (N := 34) rfl hk; obtain ⟨j, hj, ej⟩ := z; exact hdis k j hk1 hj (hk2.symm.trans ej)
  refine lv_aload_n hx hb dL_law_393 rfl (lv_at hl 1 rfl) ?_
  refine lv_aload_n hx hb dL_law_394 rfl (lv_at hl 3 rfl) ?_
  refine lv_iload_n hx hb dL_law_395 rfl (lv_at hl 0 rfl) ?_
  refine lv_iconst (v := nI 1) hx hb dL_law_396 (by decide) ?_
  refine n_iadd hx hb dL_law_397 ?_
  refine l_sld hx hb hX hbl hbA hS (by omega) hL dL_law_398 ?_
  refine l_calli (va_runV (As := [.int (xs (i + 1))]) (rest := [.int (r1)]) ⟨hx, hb, hml, hown, hts⟩ (k_X11_best l dC dI y (sA b 16) b hAb rn n lo kp dy so he kn ak pl iw nm sd ik kr lo2 dy2 so2 he2 kn2 dgv kd len ord kh km pg cm sav bo cb sl len2 ord2 kh2 km2 (xs (i + 1)) hn2 hn hord hlen hkd hcm hkp hak) (cwV 1 hts gL_law_X11_best rfl rfl rfl (by decide +kernel) ⟨Nat.le_of_ble_eq_true rfl, Nat.le_of_ble_eq_true rfl⟩) (c_preV (c_N0 (lA s)) hK trivial hS hPm (va_recv hK hPm (ci := 11) (q0 := 0) rfl rfl)) rfl rfl hl.1 rfl (lv_room (Nat.le_of_ble_eq_true rfl)) dL_law_399 ⟨Nat.le_of_ble_eq_true rfl, Nat.le_of_ble_eq_true rfl⟩) hS hlb hPx nmy (fun r2 u2 H locs hw2 hPm hPx hS => ?_)
  have hPm : va_P (dC, dI) vwCl (DW y b rn n lo kp dy so he kn (sBest n ak (xs (i + 1))) pl iw nm sd ik kr lo2 dy2 so2 he2 kn2 dgv kd len ord kh km pg u2.1 u2.2.1 u2.2.2 cb sl len2 ord2 kh2 km2) H := hPm
  have hre : r1 = r2 := (hw1.1).trans (hw2.1).symm
  refine lv_icmp_eq hx hb dL_law_402 rfl (fun _ => ?_) (fun hne => absurd hre hne)
  exact k H locs ⟨rn, n, lo, kp, dy, so, he, kn, sBest n ak (xs (i + 1)), pl, lo2, dy2, so2, he2, kn2, kd, len, ord, kh, km, pg, len2, ord2, kh2, km2, im, u1.2.1, u1.1, tl, u1.2.2.1, u1.2.2.2, lf, wo, iw, nm, sd, ik, kr, dgv, u2.1, u2.2.1, u2.2.2, cb, sl, gi_best (xs (i + 1)) hG0, hw1.2, htl, hw2.2, hPx, hPm⟩ hS
set_option maxHeartbeats 4000000 in
set_option maxRecDepth 100000 in
theorem law_known (l : Launch) {p : Program} {e : Env} {s : State} {m : MethodId} {args : Array Value} {below : List Frame} {meth : Method} {c : Code} {H : Heap} {locs : List Loc} {Q : State → Prop} {ls : Array Slot} {bs L i : Nat} {xs : Nat → Int32} {xK xV : Nat → Nat} {dC : Nat → ClassId} {dI : Nat → Nat → Nat} {y : Nat → ClassId} {a b : Nat → Nat} (hx : p.tables.exec = Jvm.exec) (hb : c.code = cL_law) (hml : c.maxLocals = 4) (hown : s.vm.findClass RL = some m.cls) (hts : ∀ w ∈ wsL_law, w.before args s = true) (hX : va_X bs L xs s s.heap) (hbl : bs < s.heap.size) (hF : LF s xK xV dC dI y a b) (hL : L ≤ 256) (hi : i + 4 ≤ L) (hS : va_S (lA s) s.heap H locs) (hl : lv_has ls 4 [(3, .int (nI i)), (2, .ref (b 0)), (1, .ref (a 0)), (0, .ref bs)]) (hI : LI dC dI y a b i H) (k : ∀ (H1 : Heap) (locs1 : List Loc), LI dC dI y a b (i + 4) H1 → va_S (lA s) s.heap H1 locs1 → W p l e room_1 s m args below meth c H1 locs1 50 1348 Q (F0 m 595 ls [])) : W p l e room_1 s m args below meth c H locs 50 1348 Q (F0 m 407 ls []) := by
  obtain ⟨hK, hV, hAa, hAb, hla, hlb, hdis⟩ := hF
  have hbA : ¬ lA s bs := fun q => absurd hbl (Nat.not_lt.mpr q)
  obtain ⟨rn, n, lo, kp, dy, so, he, kn, ak, pl, lo2, dy2, so2, he2, kn2, kd, len, ord, kh, km, pg, len2, ord2, kh2, km2, im, ma, cw, tl, tO, bO, lf, wo, iw, nm, sd, ik, kr, dgv, cm, sav, bo, cb, sl, hG, hcw, htl, hcm, hPx, hPm⟩ := hI
  have hG0 := hG
  obtain ⟨hn, hn2, hord, hlen, hkd, hkp, hkn, hkh, hkm, hpl, hpg, hak, hrn, hkr, him, hlen2, hkm2, hkn2, hord2⟩ := hG
  have nmx : ∀ (k : Nat) (q : Nat × va_E), (DW y b rn n lo kp dy so he kn ak pl iw nm sd ik kr lo2 dy2 so2 he2 kn2 dgv kd len ord kh km pg cm sav bo cb sl len2 ord2 kh2 km2)[k]? = some q → ¬ sA a 34 q.1 := fun k q hk z => by obtain ⟨hk1, hk2⟩ := ad_at (b := b) (N := 16) rfl hk; obtain ⟨j, hj, ej⟩ := z; exact hdis j k hj hk1 (ej.symm.trans hk2)
  refine lv_aload_n hx hb dL_law_407 rfl (lv_at hl 2 rfl) ?_
  refine lv_aload_n hx hb dL_law_408 rfl (lv_at hl 3 rfl) ?_
  refine lv_iload_n hx hb dL_law_409 rfl (lv_at hl 0 rfl) ?_
  refine lv_iconst (v := nI 1) hx hb dL_law_410 (by decide) ?_
  refine n_iadd hx hb dL_law_411 ?_
  refine l_sld hx hb hX hbl hbA hS (by omega) hL dL_law_412 ?_
  refine lv_aload_n hx hb dL_law_413 rfl (lv_at hl 3 rfl) ?_
  refine lv_iload_n hx hb dL_law_414 rfl (lv_at hl 0 rfl) ?_
  refine lv_iconst (v := nI 2) hx hb dL_law_415 (by decide) ?_
  refine n_iadd hx hb dL_law_416 ?_
  refine l_sld hx hb hX hbl hbA hS (by omega) hL dL_law_417 ?_
  refine l_calli (va_runV (As := [.int (xs (i + 1)), .int (xs (i + 2))]) (rest := []) ⟨hx, hb, hml, hown, hts⟩ (k_X10_known l dC dI y (sA a 34) a hAa xK xV rn n lo kp dy so he kn ak pl im lo2 dy2 so2 he2 kn2 ma kd len ord kh km pg len2 ord2 kh2 km2 cw tl tO bO lf wo (xs (i + 1)) (xs (i + 2)) hn hkn) (cwV 2 hts gL_law_X10_known rfl rfl rfl (by decide +kernel) ⟨Nat.le_of_ble_eq_true rfl, Nat.le_of_ble_eq_true rfl⟩) (l_preX hla hK hV hS hPx (va_recv hK hPx (ci := 10) (q0 := 0) rfl rfl)) rfl rfl hl.1 rfl (lv_room (Nat.le_of_ble_eq_true rfl)) dL_law_418 ⟨Nat.le_of_ble_eq_true rfl, Nat.le_of_ble_eq_true rfl⟩) hS hla hPm nmx (fun r1 u1 H locs hw1 hPx hPm hS => ?_)
  have hPx : va_P (dC, dI) vwCl (MW y a rn n lo kp dy so he (sKn n kn (xs (i + 1)) (xs (i + 2))) ak pl im lo2 dy2 so2 he2 kn2 ma kd len ord (sKh n kn kh (xs (i + 1)) (xs (i + 2))) (sKm n kn km (xs (i + 1)) (xs (i + 2))) pg len2 ord2 kh2 km2 cw tl tO bO lf wo) H := hPx
  have nmy : ∀ (k : Nat) (q : Nat × va_E), (MW y a rn n lo kp dy so he (sKn n kn (xs (i + 1)) (xs (i + 2))) ak pl im lo2 dy2 so2 he2 kn2 ma kd len ord (sKh n kn kh (xs (i + 1)) (xs (i + 2))) (sKm n kn km (xs (i + 1)) (xs (i + 2))) pg len2 ord2 kh2 km2 cw tl tO bO lf wo)[k]? = some q → ¬ sA b 16 q.1 := fun k q hk z => by obtain ⟨hk1, hk2⟩ := ad_at (b := a) (N := 34) rfl hk; obtain ⟨j, hj, ej⟩ := z; exact hdis k j hk1 hj (hk2.symm.trans ej)
  refine lv_aload_n hx hb dL_law_421 rfl (lv_at hl 1 rfl) ?_
  refine lv_aload_n hx hb dL_law_422 rfl (lv_at hl 3 rfl) ?_
  refine lv_iload_n hx hb dL_law_423 rfl (lv_at hl 0 rfl) ?_
  refine lv_iconst (v := nI 1) hx hb dL_law_424 (by decide) ?_
  refine n_iadd hx hb dL_law_425 ?_
  refine l_sld hx hb hX hbl hbA hS (by omega) hL dL_law_426 ?_
  refine lv_aload_n hx hb dL_law_427 rfl (lv_at hl 3 rfl) ?_
  refine lv_iload_n hx hb dL_law_428 rfl (lv_at hl 0 rfl) ?_
  refine lv_iconst (v := nI 2) hx hb dL_law_429 (by decide) ?_
  refine n_iadd hx hb dL_law_430 ?_
  refine l_sld hx hb hX hbl hbA hS (by omega) hL dL_law_431 ?_
  refine l_calli (va_runV (As := [.int (xs (i + 1)), .int (xs (i + 2))]) (rest := [.int (r1)]) ⟨hx, hb, hml, hown, hts⟩ (k_X11_known l dC dI y (sA b 16) b hAb rn n lo kp dy so he kn ak pl iw nm sd ik kr lo2 dy2 so2 he2 kn2 dgv kd len ord kh km pg cm sav bo cb sl len2 ord2 kh2 km2 (xs (i + 1)) (xs (i + 2)) hn hkn) (cwV 2 hts gL_law_X11_known rfl rfl rfl (by decide +kernel) ⟨Nat.le_of_ble_eq_true rfl, Nat.le_of_ble_eq_true rfl⟩) (c_preV (c_N0 (lA s)) hK trivial hS hPm (va_recv hK hPm (ci := 11) (q0 := 0) rfl rfl)) rfl rfl hl.1 rfl (lv_room (Nat.le_of_ble_eq_true rfl)) dL_law_432 ⟨Nat.le_of_ble_eq_true rfl, Nat.le_of_ble_eq_true rfl⟩) hS hlb hPx nmy (fun r2 u2 H locs hw2 hPm hPx hS => ?_)
  have hPm : va_P (dC, dI) vwCl (DW y b rn n lo kp dy so he (sKn n kn (xs (i + 1)) (xs (i + 2))) ak pl iw nm sd ik kr lo2 dy2 so2 he2 kn2 dgv kd len ord (sKh n kn kh (xs (i + 1)) (xs (i + 2))) (sKm n kn km (xs (i + 1)) (xs (i + 2))) pg cm sav bo cb sl len2 ord2 kh2 km2) H := hPm
  have hre : r1 = r2 := (hw1).trans (hw2).symm
  refine lv_icmp_eq hx hb dL_law_435 rfl (fun _ => ?_) (fun hne => absurd hre hne)
  exact k H locs ⟨rn, n, lo, kp, dy, so, he, sKn n kn (xs (i + 1)) (xs (i + 2)), ak, pl, lo2, dy2, so2, he2, kn2, kd, len, ord, sKh n kn kh (xs (i + 1)) (xs (i + 2)), sKm n kn km (xs (i + 1)) (xs (i + 2)), pg, len2, ord2, kh2, km2, im, ma, cw, tl, tO, bO, lf, wo, iw, nm, sd, ik, kr, dgv, cm, sav, bo, cb, sl, gi_known (xs (i + 1)) (xs (i + 2)) hG0, hcw, htl, hcm, hPx, hPm⟩ hS
set_option maxHeartbeats 4000000 in
set_option maxRecDepth 100000 in
theorem law_forget (l : Launch) {p : Program} {e : Env} {s : State} {m : MethodId} {args : Array Value} {below : List Frame} {meth : Method} {c : Code} {H : Heap} {locs : List Loc} {Q : State → Prop} {ls : Array Slot} {bs L i : Nat} {xs : Nat → Int32} {xK xV : Nat → Nat} {dC : Nat → ClassId} {dI : Nat → Nat → Nat} {y : Nat → ClassId} {a b : Nat → Nat} (hx : p.tables.exec = Jvm.exec) (hb : c.code = cL_law) (hml : c.maxLocals = 4) (hown : s.vm.findClass RL = some m.cls) (hts : ∀ w ∈ wsL_law, w.before args s = true) (hX : va_X bs L xs s s.heap) (hbl : bs < s.heap.size) (hF : LF s xK xV dC dI y a b) (hL : L ≤ 256) (hi : i + 4 ≤ L) (hS : va_S (lA s) s.heap H locs) (hl : lv_has ls 4 [(3, .int (nI i)), (2, .ref (b 0)), (1, .ref (a 0)), (0, .ref bs)]) (hI : LI dC dI y a b i H) (k : ∀ (H1 : Heap) (locs1 : List Loc), LI dC dI y a b (i + 4) H1 → va_S (lA s) s.heap H1 locs1 → W p l e room_1 s m args below meth c H1 locs1 50 1348 Q (F0 m 595 ls [])) : W p l e room_1 s m args below meth c H locs 50 1348 Q (F0 m 440 ls []) := by
  obtain ⟨hK, hV, hAa, hAb, hla, hlb, hdis⟩ := hF
  have hbA : ¬ lA s bs := fun q => absurd hbl (Nat.not_lt.mpr q)
  obtain ⟨rn, n, lo, kp, dy, so, he, kn, ak, pl, lo2, dy2, so2, he2, kn2, kd, len, ord, kh, km, pg, len2, ord2, kh2, km2, im, ma, cw, tl, tO, bO, lf, wo, iw, nm, sd, ik, kr, dgv, cm, sav, bo, cb, sl, hG, hcw, htl, hcm, hPx, hPm⟩ := hI
  have hG0 := hG
  obtain ⟨hn, hn2, hord, hlen, hkd, hkp, hkn, hkh, hkm, hpl, hpg, hak, hrn, hkr, him, hlen2, hkm2, hkn2, hord2⟩ := hG
  have nmx : ∀ (k : Nat) (q : Nat × va_E), (DW y b rn n lo kp dy so he kn ak pl iw nm sd ik kr lo2 dy2 so2 he2 kn2 dgv kd len ord kh km pg cm sav bo cb sl len2 ord2 kh2 km2)[k]? = some q → ¬ sA a 34 q.1 := fun k q hk z => by obtain ⟨hk1, hk2⟩ := ad_at (b := b) (N := 16) rfl hk; obtain ⟨j, hj, ej⟩ := z; exact hdis j k hj hk1 (ej.symm.trans hk2)
  refine lv_aload_n hx hb dL_law_440 rfl (lv_at hl 2 rfl) ?_
  refine l_calli (va_runV (As := []) (rest := []) ⟨hx, hb, hml, hown, hts⟩ (k_X10_forget l dC dI y (sA a 34) a hAa xK xV rn n lo kp dy so he kn ak pl im lo2 dy2 so2 he2 kn2 ma kd len ord kh km pg len2 ord2 kh2 km2 cw tl tO bO lf wo  ) (cwV 0 hts gL_law_X10_forget rfl rfl rfl (by decide +kernel) ⟨Nat.le_of_ble_eq_true rfl, Nat.le_of_ble_eq_true rfl⟩) (l_preX hla hK hV hS hPx (va_recv hK hPx (ci := 10) (q0 := 0) rfl rfl)) rfl rfl hl.1 rfl (lv_room (Nat.le_of_ble_eq_true rfl)) dL_law_441 ⟨Nat.le_of_ble_eq_true rfl, Nat.le_of_ble_eq_true rfl⟩) hS hla hPm nmx (fun r1 u1 H locs hw1 hPx hPm hS => ?_)
  have hPx : va_P (dC, dI) vwCl (MW y a rn n lo kp dy so he 0 ak pl im lo2 dy2 so2 he2 kn2 ma kd len ord kh km pg len2 ord2 kh2 km2 cw tl tO bO lf wo) H := hPx
  have nmy : ∀ (k : Nat) (q : Nat × va_E), (MW y a rn n lo kp dy so he 0 ak pl im lo2 dy2 so2 he2 kn2 ma kd len ord kh km pg len2 ord2 kh2 km2 cw tl tO bO lf wo)[k]? = some q → ¬ sA b 16 q.1 := fun k q hk z => by obtain ⟨hk1, hk2⟩ := ad_at (b := a) (N := 34) rfl hk; obtain ⟨j, hj, ej⟩ := z; exact hdis k j hk1 hj (hk2.symm.trans ej)
  refine lv_aload_n hx hb dL_law_444 rfl (lv_at hl 1 rfl) ?_
  refine l_calli (va_runV (As := []) (rest := [.int (r1)]) ⟨hx, hb, hml, hown, hts⟩ (k_X11_forget l dC dI y (sA b 16) b hAb rn n lo kp dy so he kn ak pl iw nm sd ik kr lo2 dy2 so2 he2 kn2 dgv kd len ord kh km pg cm sav bo cb sl len2 ord2 kh2 km2  ) (cwV 0 hts gL_law_X11_forget rfl rfl rfl (by decide +kernel) ⟨Nat.le_of_ble_eq_true rfl, Nat.le_of_ble_eq_true rfl⟩) (c_preV (c_N0 (lA s)) hK trivial hS hPm (va_recv hK hPm (ci := 11) (q0 := 0) rfl rfl)) rfl rfl hl.1 rfl (lv_room (Nat.le_of_ble_eq_true rfl)) dL_law_445 ⟨Nat.le_of_ble_eq_true rfl, Nat.le_of_ble_eq_true rfl⟩) hS hlb hPx nmy (fun r2 u2 H locs hw2 hPm hPx hS => ?_)
  have hPm : va_P (dC, dI) vwCl (DW y b rn n lo kp dy so he 0 ak pl iw nm sd ik kr lo2 dy2 so2 he2 kn2 dgv kd len ord kh km pg cm sav bo cb sl len2 ord2 kh2 km2) H := hPm
  have hre : r1 = r2 := (hw1).trans (hw2).symm
  refine lv_icmp_eq hx hb dL_law_448 rfl (fun _ => ?_) (fun hne => absurd hre hne)
  exact k H locs ⟨rn, n, lo, kp, dy, so, he, 0, ak, pl, lo2, dy2, so2, he2, kn2, kd, len, ord, kh, km, pg, len2, ord2, kh2, km2, im, ma, cw, tl, tO, bO, lf, wo, iw, nm, sd, ik, kr, dgv, cm, sav, bo, cb, sl, gi_forget hG0, hcw, htl, hcm, hPx, hPm⟩ hS
set_option maxHeartbeats 4000000 in
set_option maxRecDepth 100000 in
theorem law_sets (l : Launch) {p : Program} {e : Env} {s : State} {m : MethodId} {args : Array Value} {below : List Frame} {meth : Method} {c : Code} {H : Heap} {locs : List Loc} {Q : State → Prop} {ls : Array Slot} {bs L i : Nat} {xs : Nat → Int32} {xK xV : Nat → Nat} {dC : Nat → ClassId} {dI : Nat → Nat → Nat} {y : Nat → ClassId} {a b : Nat → Nat} (hx : p.tables.exec = Jvm.exec) (hb : c.code = cL_law) (hml : c.maxLocals = 4) (hown : s.vm.findClass RL = some m.cls) (hts : ∀ w ∈ wsL_law, w.before args s = true) (hX : va_X bs L xs s s.heap) (hbl : bs < s.heap.size) (hF : LF s xK xV dC dI y a b) (hL : L ≤ 256) (hi : i + 4 ≤ L) (hS : va_S (lA s) s.heap H locs) (hl : lv_has ls 4 [(3, .int (nI i)), (2, .ref (b 0)), (1, .ref (a 0)), (0, .ref bs)]) (hI : LI dC dI y a b i H) (k : ∀ (H1 : Heap) (locs1 : List Loc), LI dC dI y a b (i + 4) H1 → va_S (lA s) s.heap H1 locs1 → W p l e room_1 s m args below meth c H1 locs1 50 1348 Q (F0 m 595 ls [])) : W p l e room_1 s m args below meth c H locs 50 1348 Q (F0 m 453 ls []) := by
  obtain ⟨hK, hV, hAa, hAb, hla, hlb, hdis⟩ := hF
  have hbA : ¬ lA s bs := fun q => absurd hbl (Nat.not_lt.mpr q)
  obtain ⟨rn, n, lo, kp, dy, so, he, kn, ak, pl, lo2, dy2, so2, he2, kn2, kd, len, ord, kh, km, pg, len2, ord2, kh2, km2, im, ma, cw, tl, tO, bO, lf, wo, iw, nm, sd, ik, kr, dgv, cm, sav, bo, cb, sl, hG, hcw, htl, hcm, hPx, hPm⟩ := hI
  have hG0 := hG
  obtain ⟨hn, hn2, hord, hlen, hkd, hkp, hkn, hkh, hkm, hpl, hpg, hak, hrn, hkr, him, hlen2, hkm2, hkn2, hord2⟩ := hG
  have nmx : ∀ (k : Nat) (q : Nat × va_E), (DW y b rn n lo kp dy so he kn ak pl iw nm sd ik kr lo2 dy2 so2 he2 kn2 dgv kd len ord kh km pg cm sav bo cb sl len2 ord2 kh2 km2)[k]? = some q → ¬ sA a 34 q.1 := fun k q hk z => by obtain ⟨hk1, hk2⟩ := ad_at (b := b) (N := 16) rfl hk; obtain ⟨j, hj, ej⟩ := z; exact hdis j k hj hk1 (ej.symm.trans hk2)
  refine lv_aload_n hx hb dL_law_453 rfl (lv_at hl 2 rfl) ?_
  refine lv_aload_n hx hb dL_law_454 rfl (lv_at hl 3 rfl) ?_
  refine lv_iload_n hx hb dL_law_455 rfl (lv_at hl 0 rfl) ?_
  refine lv_iconst (v := nI 1) hx hb dL_law_456 (by decide) ?_
  refine n_iadd hx hb dL_law_457 ?_
  refine l_sld hx hb hX hbl hbA hS (by omega) hL dL_law_458 ?_
  refine l_calli (va_runV (As := [.int (xs (i + 1))]) (rest := []) ⟨hx, hb, hml, hown, hts⟩ (k_X10_sets l dC dI y (sA a 34) a hAa xK xV rn n lo kp dy so he kn ak pl im lo2 dy2 so2 he2 kn2 ma kd len ord kh km pg len2 ord2 kh2 km2 cw tl tO bO lf wo (xs (i + 1)) hn hord hlen hkd hcw hkn hkh hkm) (cwV 1 hts gL_law_X10_sets rfl rfl rfl (by decide +kernel) ⟨Nat.le_of_ble_eq_true rfl, Nat.le_of_ble_eq_true rfl⟩) (l_preX hla hK hV hS hPx (va_recv hK hPx (ci := 10) (q0 := 0) rfl rfl)) rfl rfl hl.1 rfl (lv_room (Nat.le_of_ble_eq_true rfl)) dL_law_459 ⟨Nat.le_of_ble_eq_true rfl, Nat.le_of_ble_eq_true rfl⟩) hS hla hPm nmx (fun r1 u1 H locs hw1 hPx hPm hS => ?_)
  have hPx : va_P (dC, dI) vwCl (MW y a rn n lo kp dy so he kn ak pl im lo2 dy2 so2 he2 kn2 u1.2 kd len ord kh km pg len2 ord2 kh2 km2 u1.1 tl tO bO lf wo) H := hPx
  have nmy : ∀ (k : Nat) (q : Nat × va_E), (MW y a rn n lo kp dy so he kn ak pl im lo2 dy2 so2 he2 kn2 u1.2 kd len ord kh km pg len2 ord2 kh2 km2 u1.1 tl tO bO lf wo)[k]? = some q → ¬ sA b 16 q.1 := fun k q hk z => by obtain ⟨hk1, hk2⟩ := ad_at (b := a) (N := 34) rfl hk; obtain ⟨j, hj, ej⟩ := z; exact hdis k j hk1 hj (hk2.symm.trans ej)
  refine lv_aload_n hx hb dL_law_462 rfl (lv_at hl 1 rfl) ?_
  refine lv_aload_n hx hb dL_law_463 rfl (lv_at hl 3 rfl) ?_
  refine lv_iload_n hx hb dL_law_464 rfl (lv_at hl 0 rfl) ?_
  refine lv_iconst (v := nI 1) hx hb dL_law_465 (by decide) ?_
  refine n_iadd hx hb dL_law_466 ?_
  refine l_sld hx hb hX hbl hbA hS (by omega) hL dL_law_467 ?_
  refine l_calli (va_runV (As := [.int (xs (i + 1))]) (rest := [.int (r1)]) ⟨hx, hb, hml, hown, hts⟩ (k_X11_sets l dC dI y (sA b 16) b hAb rn n lo kp dy so he kn ak pl iw nm sd ik kr lo2 dy2 so2 he2 kn2 dgv kd len ord kh km pg cm sav bo cb sl len2 ord2 kh2 km2 (xs (i + 1)) hn hord hlen hkd hcm hkn hkh hkm) (cwV 1 hts gL_law_X11_sets rfl rfl rfl (by decide +kernel) ⟨Nat.le_of_ble_eq_true rfl, Nat.le_of_ble_eq_true rfl⟩) (c_preV (c_N0 (lA s)) hK trivial hS hPm (va_recv hK hPm (ci := 11) (q0 := 0) rfl rfl)) rfl rfl hl.1 rfl (lv_room (Nat.le_of_ble_eq_true rfl)) dL_law_468 ⟨Nat.le_of_ble_eq_true rfl, Nat.le_of_ble_eq_true rfl⟩) hS hlb hPx nmy (fun r2 u2 H locs hw2 hPm hPx hS => ?_)
  have hPm : va_P (dC, dI) vwCl (DW y b rn n lo kp dy so he kn ak pl iw nm sd ik kr lo2 dy2 so2 he2 kn2 dgv kd len ord kh km pg u2 sav bo cb sl len2 ord2 kh2 km2) H := hPm
  have hre : r1 = r2 := (hw1.1).trans (hw2.1).symm
  refine lv_icmp_eq hx hb dL_law_471 rfl (fun _ => ?_) (fun hne => absurd hre hne)
  exact k H locs ⟨rn, n, lo, kp, dy, so, he, kn, ak, pl, lo2, dy2, so2, he2, kn2, kd, len, ord, kh, km, pg, len2, ord2, kh2, km2, im, u1.2, u1.1, tl, tO, bO, lf, wo, iw, nm, sd, ik, kr, dgv, u2, sav, bo, cb, sl, gi_next hG0, hw1.2, htl, hw2.2, hPx, hPm⟩ hS
set_option maxHeartbeats 4000000 in
set_option maxRecDepth 100000 in
theorem law_ask (l : Launch) {p : Program} {e : Env} {s : State} {m : MethodId} {args : Array Value} {below : List Frame} {meth : Method} {c : Code} {H : Heap} {locs : List Loc} {Q : State → Prop} {ls : Array Slot} {bs L i : Nat} {xs : Nat → Int32} {xK xV : Nat → Nat} {dC : Nat → ClassId} {dI : Nat → Nat → Nat} {y : Nat → ClassId} {a b : Nat → Nat} (hx : p.tables.exec = Jvm.exec) (hb : c.code = cL_law) (hml : c.maxLocals = 4) (hown : s.vm.findClass RL = some m.cls) (hts : ∀ w ∈ wsL_law, w.before args s = true) (hX : va_X bs L xs s s.heap) (hbl : bs < s.heap.size) (hF : LF s xK xV dC dI y a b) (hL : L ≤ 256) (hi : i + 4 ≤ L) (hS : va_S (lA s) s.heap H locs) (hl : lv_has ls 4 [(3, .int (nI i)), (2, .ref (b 0)), (1, .ref (a 0)), (0, .ref bs)]) (hI : LI dC dI y a b i H) (k : ∀ (H1 : Heap) (locs1 : List Loc), LI dC dI y a b (i + 4) H1 → va_S (lA s) s.heap H1 locs1 → W p l e room_1 s m args below meth c H1 locs1 50 1348 Q (F0 m 595 ls [])) : W p l e room_1 s m args below meth c H locs 50 1348 Q (F0 m 476 ls []) := by
  obtain ⟨hK, hV, hAa, hAb, hla, hlb, hdis⟩ := hF
  have hbA : ¬ lA s bs := fun q => absurd hbl (Nat.not_lt.mpr q)
  obtain ⟨rn, n, lo, kp, dy, so, he, kn, ak, pl, lo2, dy2, so2, he2, kn2, kd, len, ord, kh, km, pg, len2, ord2, kh2, km2, im, ma, cw, tl, tO, bO, lf, wo, iw, nm, sd, ik, kr, dgv, cm, sav, bo, cb, sl, hG, hcw, htl, hcm, hPx, hPm⟩ := hI
  have hG0 := hG
  obtain ⟨hn, hn2, hord, hlen, hkd, hkp, hkn, hkh, hkm, hpl, hpg, hak, hrn, hkr, him, hlen2, hkm2, hkn2, hord2⟩ := hG
  have nmx : ∀ (k : Nat) (q : Nat × va_E), (DW y b rn n lo kp dy so he kn ak pl iw nm sd ik kr lo2 dy2 so2 he2 kn2 dgv kd len ord kh km pg cm sav bo cb sl len2 ord2 kh2 km2)[k]? = some q → ¬ sA a 34 q.1 := fun k q hk z => by obtain ⟨hk1, hk2⟩ := ad_at (b := b) (N := 16) rfl hk; obtain ⟨j, hj, ej⟩ := z; exact hdis j k hj hk1 (ej.symm.trans hk2)
  refine lv_aload_n hx hb dL_law_476 rfl (lv_at hl 2 rfl) ?_
  refine l_calli (va_runV (As := []) (rest := []) ⟨hx, hb, hml, hown, hts⟩ (k_X10_ask l dC dI y (sA a 34) a hAa xK xV rn n lo kp dy so he kn ak pl im lo2 dy2 so2 he2 kn2 ma kd len ord kh km pg len2 ord2 kh2 km2 cw tl tO bO lf wo  hn hord hlen hkd hcw hkn hkh hkm) (cwV 0 hts gL_law_X10_ask rfl rfl rfl (by decide +kernel) ⟨Nat.le_of_ble_eq_true rfl, Nat.le_of_ble_eq_true rfl⟩) (l_preX hla hK hV hS hPx (va_recv hK hPx (ci := 10) (q0 := 0) rfl rfl)) rfl rfl hl.1 rfl (lv_room (Nat.le_of_ble_eq_true rfl)) dL_law_477 ⟨Nat.le_of_ble_eq_true rfl, Nat.le_of_ble_eq_true rfl⟩) hS hla hPm nmx (fun r1 u1 H locs hw1 hPx hPm hS => ?_)
  have hPx : va_P (dC, dI) vwCl (MW y a rn n lo kp dy so he kn ak pl im lo2 dy2 so2 he2 kn2 u1.2.1 kd len ord kh km pg len2 ord2 kh2 km2 u1.1 tl tO bO u1.2.2.1 u1.2.2.2) H := hPx
  have nmy : ∀ (k : Nat) (q : Nat × va_E), (MW y a rn n lo kp dy so he kn ak pl im lo2 dy2 so2 he2 kn2 u1.2.1 kd len ord kh km pg len2 ord2 kh2 km2 u1.1 tl tO bO u1.2.2.1 u1.2.2.2)[k]? = some q → ¬ sA b 16 q.1 := fun k q hk z => by obtain ⟨hk1, hk2⟩ := ad_at (b := a) (N := 34) rfl hk; obtain ⟨j, hj, ej⟩ := z; exact hdis k j hk1 hj (hk2.symm.trans ej)
  refine lv_aload_n hx hb dL_law_480 rfl (lv_at hl 1 rfl) ?_
  refine l_calli (va_runV (As := []) (rest := [.int (r1)]) ⟨hx, hb, hml, hown, hts⟩ (k_X11_ask l dC dI y (sA b 16) b hAb rn n lo kp dy so he kn ak pl iw nm sd ik kr lo2 dy2 so2 he2 kn2 dgv kd len ord kh km pg cm sav bo cb sl len2 ord2 kh2 km2  hn hord hlen hkd hcm hkn hkh hkm) (cwV 0 hts gL_law_X11_ask rfl rfl rfl (by decide +kernel) ⟨Nat.le_of_ble_eq_true rfl, Nat.le_of_ble_eq_true rfl⟩) (c_preV (c_N0 (lA s)) hK trivial hS hPm (va_recv hK hPm (ci := 11) (q0 := 0) rfl rfl)) rfl rfl hl.1 rfl (lv_room (Nat.le_of_ble_eq_true rfl)) dL_law_481 ⟨Nat.le_of_ble_eq_true rfl, Nat.le_of_ble_eq_true rfl⟩) hS hlb hPx nmy (fun r2 u2 H locs hw2 hPm hPx hS => ?_)
  have hPm : va_P (dC, dI) vwCl (DW y b rn n lo kp dy so he kn ak pl iw nm sd ik kr lo2 dy2 so2 he2 kn2 dgv kd len ord kh km pg u2.1 sav bo u2.2 sl len2 ord2 kh2 km2) H := hPm
  have hre : r1 = r2 := (hw1.1).trans (hw2.1).symm
  refine lv_icmp_eq hx hb dL_law_484 rfl (fun _ => ?_) (fun hne => absurd hre hne)
  exact k H locs ⟨rn, n, lo, kp, dy, so, he, kn, ak, pl, lo2, dy2, so2, he2, kn2, kd, len, ord, kh, km, pg, len2, ord2, kh2, km2, im, u1.2.1, u1.1, tl, tO, bO, u1.2.2.1, u1.2.2.2, iw, nm, sd, ik, kr, dgv, u2.1, sav, bo, u2.2, sl, gi_next hG0, hw1.2, htl, hw2.2, hPx, hPm⟩ hS
set_option maxHeartbeats 4000000 in
set_option maxRecDepth 100000 in
theorem law_weeks (l : Launch) {p : Program} {e : Env} {s : State} {m : MethodId} {args : Array Value} {below : List Frame} {meth : Method} {c : Code} {H : Heap} {locs : List Loc} {Q : State → Prop} {ls : Array Slot} {bs L i : Nat} {xs : Nat → Int32} {xK xV : Nat → Nat} {dC : Nat → ClassId} {dI : Nat → Nat → Nat} {y : Nat → ClassId} {a b : Nat → Nat} (hx : p.tables.exec = Jvm.exec) (hb : c.code = cL_law) (hml : c.maxLocals = 4) (hown : s.vm.findClass RL = some m.cls) (hts : ∀ w ∈ wsL_law, w.before args s = true) (hX : va_X bs L xs s s.heap) (hbl : bs < s.heap.size) (hF : LF s xK xV dC dI y a b) (hL : L ≤ 256) (hi : i + 4 ≤ L) (hS : va_S (lA s) s.heap H locs) (hl : lv_has ls 4 [(3, .int (nI i)), (2, .ref (b 0)), (1, .ref (a 0)), (0, .ref bs)]) (hI : LI dC dI y a b i H) (k : ∀ (H1 : Heap) (locs1 : List Loc), LI dC dI y a b (i + 4) H1 → va_S (lA s) s.heap H1 locs1 → W p l e room_1 s m args below meth c H1 locs1 50 1348 Q (F0 m 595 ls [])) : W p l e room_1 s m args below meth c H locs 50 1348 Q (F0 m 489 ls []) := by
  obtain ⟨hK, hV, hAa, hAb, hla, hlb, hdis⟩ := hF
  have hbA : ¬ lA s bs := fun q => absurd hbl (Nat.not_lt.mpr q)
  obtain ⟨rn, n, lo, kp, dy, so, he, kn, ak, pl, lo2, dy2, so2, he2, kn2, kd, len, ord, kh, km, pg, len2, ord2, kh2, km2, im, ma, cw, tl, tO, bO, lf, wo, iw, nm, sd, ik, kr, dgv, cm, sav, bo, cb, sl, hG, hcw, htl, hcm, hPx, hPm⟩ := hI
  have hG0 := hG
  obtain ⟨hn, hn2, hord, hlen, hkd, hkp, hkn, hkh, hkm, hpl, hpg, hak, hrn, hkr, him, hlen2, hkm2, hkn2, hord2⟩ := hG
  have nmx : ∀ (k : Nat) (q : Nat × va_E), (DW y b rn n lo kp dy so he kn ak pl iw nm sd ik kr lo2 dy2 so2 he2 kn2 dgv kd len ord kh km pg cm sav bo cb sl len2 ord2 kh2 km2)[k]? = some q → ¬ sA a 34 q.1 := fun k q hk z => by obtain ⟨hk1, hk2⟩ := ad_at (b := b) (N := 16) rfl hk; obtain ⟨j, hj, ej⟩ := z; exact hdis j k hj hk1 (ej.symm.trans hk2)
  refine lv_aload_n hx hb dL_law_489 rfl (lv_at hl 2 rfl) ?_
  refine lv_aload_n hx hb dL_law_490 rfl (lv_at hl 3 rfl) ?_
  refine lv_iload_n hx hb dL_law_491 rfl (lv_at hl 0 rfl) ?_
  refine lv_iconst (v := nI 1) hx hb dL_law_492 (by decide) ?_
  refine n_iadd hx hb dL_law_493 ?_
  refine l_sld hx hb hX hbl hbA hS (by omega) hL dL_law_494 ?_
  refine lv_aload_n hx hb dL_law_495 rfl (lv_at hl 3 rfl) ?_
  refine lv_iload_n hx hb dL_law_496 rfl (lv_at hl 0 rfl) ?_
  refine lv_iconst (v := nI 2) hx hb dL_law_497 (by decide) ?_
  refine n_iadd hx hb dL_law_498 ?_
  refine l_sld hx hb hX hbl hbA hS (by omega) hL dL_law_499 ?_
  refine lv_aload_n hx hb dL_law_500 rfl (lv_at hl 3 rfl) ?_
  refine lv_iload_n hx hb dL_law_501 rfl (lv_at hl 0 rfl) ?_
  refine lv_iconst (v := nI 3) hx hb dL_law_502 (by decide) ?_
  refine n_iadd hx hb dL_law_503 ?_
  refine l_sld hx hb hX hbl hbA hS (by omega) hL dL_law_504 ?_
  refine l_calli (va_runV (As := [.int (xs (i + 1)), .int (xs (i + 2)), .int (xs (i + 3))]) (rest := []) ⟨hx, hb, hml, hown, hts⟩ (k_X10_weeks l dC dI y (sA a 34) a hAa xK xV rn n lo kp dy so he kn ak pl im lo2 dy2 so2 he2 kn2 ma kd len ord kh km pg len2 ord2 kh2 km2 cw tl tO bO lf wo (xs (i + 1)) (xs (i + 2)) (xs (i + 3)) hn hord hlen hkd hcw hkp htl) (cwV 3 hts gL_law_X10_weeks rfl rfl rfl (by decide +kernel) ⟨Nat.le_of_ble_eq_true rfl, Nat.le_of_ble_eq_true rfl⟩) (l_preX hla hK hV hS hPx (va_recv hK hPx (ci := 10) (q0 := 0) rfl rfl)) rfl rfl hl.1 rfl (lv_room (Nat.le_of_ble_eq_true rfl)) dL_law_505 ⟨Nat.le_of_ble_eq_true rfl, Nat.le_of_ble_eq_true rfl⟩) hS hla hPm nmx (fun r1 u1 H locs hw1 hPx hPm hS => ?_)
  have hPx : va_P (dC, dI) vwCl (MW y a rn n lo kp dy so he kn ak pl im lo2 dy2 so2 he2 kn2 u1.2.1 kd len ord kh km pg len2 ord2 kh2 km2 u1.1 u1.2.2 tO bO lf wo) H := hPx
  have nmy : ∀ (k : Nat) (q : Nat × va_E), (MW y a rn n lo kp dy so he kn ak pl im lo2 dy2 so2 he2 kn2 u1.2.1 kd len ord kh km pg len2 ord2 kh2 km2 u1.1 u1.2.2 tO bO lf wo)[k]? = some q → ¬ sA b 16 q.1 := fun k q hk z => by obtain ⟨hk1, hk2⟩ := ad_at (b := a) (N := 34) rfl hk; obtain ⟨j, hj, ej⟩ := z; exact hdis k j hk1 hj (hk2.symm.trans ej)
  refine lv_aload_n hx hb dL_law_508 rfl (lv_at hl 1 rfl) ?_
  refine lv_aload_n hx hb dL_law_509 rfl (lv_at hl 3 rfl) ?_
  refine lv_iload_n hx hb dL_law_510 rfl (lv_at hl 0 rfl) ?_
  refine lv_iconst (v := nI 1) hx hb dL_law_511 (by decide) ?_
  refine n_iadd hx hb dL_law_512 ?_
  refine l_sld hx hb hX hbl hbA hS (by omega) hL dL_law_513 ?_
  refine lv_aload_n hx hb dL_law_514 rfl (lv_at hl 3 rfl) ?_
  refine lv_iload_n hx hb dL_law_515 rfl (lv_at hl 0 rfl) ?_
  refine lv_iconst (v := nI 2) hx hb dL_law_516 (by decide) ?_
  refine n_iadd hx hb dL_law_517 ?_
  refine l_sld hx hb hX hbl hbA hS (by omega) hL dL_law_518 ?_
  refine lv_aload_n hx hb dL_law_519 rfl (lv_at hl 3 rfl) ?_
  refine lv_iload_n hx hb dL_law_520 rfl (lv_at hl 0 rfl) ?_
  refine lv_iconst (v := nI 3) hx hb dL_law_521 (by decide) ?_
  refine n_iadd hx hb dL_law_522 ?_
  refine l_sld hx hb hX hbl hbA hS (by omega) hL dL_law_523 ?_
  refine l_calli (va_runV (As := [.int (xs (i + 1)), .int (xs (i + 2)), .int (xs (i + 3))]) (rest := [.int (r1)]) ⟨hx, hb, hml, hown, hts⟩ (k_X11_weeks l dC dI y (sA b 16) b hAb rn n lo kp dy so he kn ak pl iw nm sd ik kr lo2 dy2 so2 he2 kn2 dgv kd len ord kh km pg cm sav bo cb sl len2 ord2 kh2 km2 (xs (i + 1)) (xs (i + 2)) (xs (i + 3)) hn hord hlen hkd hcm hkp) (cwV 3 hts gL_law_X11_weeks rfl rfl rfl (by decide +kernel) ⟨Nat.le_of_ble_eq_true rfl, Nat.le_of_ble_eq_true rfl⟩) (c_preV (c_N0 (lA s)) hK trivial hS hPm (va_recv hK hPm (ci := 11) (q0 := 0) rfl rfl)) rfl rfl hl.1 rfl (lv_room (Nat.le_of_ble_eq_true rfl)) dL_law_524 ⟨Nat.le_of_ble_eq_true rfl, Nat.le_of_ble_eq_true rfl⟩) hS hlb hPx nmy (fun r2 u2 H locs hw2 hPm hPx hS => ?_)
  have hPm : va_P (dC, dI) vwCl (DW y b rn n lo kp dy so he kn ak pl iw nm u2.2.1 ik kr lo2 dy2 so2 he2 kn2 dgv kd len ord kh km pg u2.1 sav bo cb u2.2.2 len2 ord2 kh2 km2) H := hPm
  have hre : r1 = r2 := (hw1.1).trans (hw2.1).symm
  refine lv_icmp_eq hx hb dL_law_527 rfl (fun _ => ?_) (fun hne => absurd hre hne)
  exact k H locs ⟨rn, n, lo, kp, dy, so, he, kn, ak, pl, lo2, dy2, so2, he2, kn2, kd, len, ord, kh, km, pg, len2, ord2, kh2, km2, im, u1.2.1, u1.1, u1.2.2, tO, bO, lf, wo, iw, nm, u2.2.1, ik, kr, dgv, u2.1, sav, bo, cb, u2.2.2, gi_next hG0, hw1.2.1, hw1.2.2, hw2.2, hPx, hPm⟩ hS
set_option maxHeartbeats 4000000 in
set_option maxRecDepth 100000 in
theorem law_image (l : Launch) {p : Program} {e : Env} {s : State} {m : MethodId} {args : Array Value} {below : List Frame} {meth : Method} {c : Code} {H : Heap} {locs : List Loc} {Q : State → Prop} {ls : Array Slot} {bs L i : Nat} {xs : Nat → Int32} {xK xV : Nat → Nat} {dC : Nat → ClassId} {dI : Nat → Nat → Nat} {y : Nat → ClassId} {a b : Nat → Nat} (hx : p.tables.exec = Jvm.exec) (hb : c.code = cL_law) (hml : c.maxLocals = 4) (hown : s.vm.findClass RL = some m.cls) (hts : ∀ w ∈ wsL_law, w.before args s = true) (hX : va_X bs L xs s s.heap) (hbl : bs < s.heap.size) (hF : LF s xK xV dC dI y a b) (hL : L ≤ 256) (hi : i + 4 ≤ L) (hS : va_S (lA s) s.heap H locs) (hl : lv_has ls 4 [(3, .int (nI i)), (2, .ref (b 0)), (1, .ref (a 0)), (0, .ref bs)]) (hI : LI dC dI y a b i H) (k : ∀ (H1 : Heap) (locs1 : List Loc), LI dC dI y a b (i + 4) H1 → va_S (lA s) s.heap H1 locs1 → W p l e room_1 s m args below meth c H1 locs1 50 1348 Q (F0 m 595 ls [])) : W p l e room_1 s m args below meth c H locs 50 1348 Q (F0 m 532 ls []) := by
  obtain ⟨hK, hV, hAa, hAb, hla, hlb, hdis⟩ := hF
  have hbA : ¬ lA s bs := fun q => absurd hbl (Nat.not_lt.mpr q)
  obtain ⟨rn, n, lo, kp, dy, so, he, kn, ak, pl, lo2, dy2, so2, he2, kn2, kd, len, ord, kh, km, pg, len2, ord2, kh2, km2, im, ma, cw, tl, tO, bO, lf, wo, iw, nm, sd, ik, kr, dgv, cm, sav, bo, cb, sl, hG, hcw, htl, hcm, hPx, hPm⟩ := hI
  have hG0 := hG
  obtain ⟨hn, hn2, hord, hlen, hkd, hkp, hkn, hkh, hkm, hpl, hpg, hak, hrn, hkr, him, hlen2, hkm2, hkn2, hord2⟩ := hG
  have nmx : ∀ (k : Nat) (q : Nat × va_E), (DW y b rn n lo kp dy so he kn ak pl iw nm sd ik kr lo2 dy2 so2 he2 kn2 dgv kd len ord kh km pg cm sav bo cb sl len2 ord2 kh2 km2)[k]? = some q → ¬ sA a 34 q.1 := fun k q hk z => by obtain ⟨hk1, hk2⟩ := ad_at (b := b) (N := 16) rfl hk; obtain ⟨j, hj, ej⟩ := z; exact hdis j k hj hk1 (ej.symm.trans hk2)
  refine lv_aload_n hx hb dL_law_532 rfl (lv_at hl 2 rfl) ?_
  refine l_calli (va_runV (As := []) (rest := []) ⟨hx, hb, hml, hown, hts⟩ (k_X10_image l dC dI y (sA a 34) a hAa xK xV rn n lo kp dy so he kn ak pl im lo2 dy2 so2 he2 kn2 ma kd len ord kh km pg len2 ord2 kh2 km2 cw tl tO bO lf wo  hn) (cwV 0 hts gL_law_X10_image rfl rfl rfl (by decide +kernel) ⟨Nat.le_of_ble_eq_true rfl, Nat.le_of_ble_eq_true rfl⟩) (l_preX hla hK hV hS hPx (va_recv hK hPx (ci := 10) (q0 := 0) rfl rfl)) rfl rfl hl.1 rfl (lv_room (Nat.le_of_ble_eq_true rfl)) dL_law_533 ⟨Nat.le_of_ble_eq_true rfl, Nat.le_of_ble_eq_true rfl⟩) hS hla hPm nmx (fun r1 u1 H locs hw1 hPx hPm hS => ?_)
  have hPx : va_P (dC, dI) vwCl (MW y a rn n lo kp dy so he kn ak pl (bif decide (n = 0) then im else true) (bif decide (n = 0) then lo2 else lo) (bif decide (n = 0) then dy2 else dy) (bif decide (n = 0) then so2 else so) (bif decide (n = 0) then he2 else he) (bif decide (n = 0) then kn2 else kn) ma kd len ord kh km pg (bif decide (n = 0) then len2 else mixF 6 len len2) (bif decide (n = 0) then ord2 else mixF 6 ord ord2) (bif decide (n = 0) then kh2 else mixF 6 kh kh2) (bif decide (n = 0) then km2 else mixF 6 km km2) cw tl tO bO lf wo) H := hPx
  have nmy : ∀ (k : Nat) (q : Nat × va_E), (MW y a rn n lo kp dy so he kn ak pl (bif decide (n = 0) then im else true) (bif decide (n = 0) then lo2 else lo) (bif decide (n = 0) then dy2 else dy) (bif decide (n = 0) then so2 else so) (bif decide (n = 0) then he2 else he) (bif decide (n = 0) then kn2 else kn) ma kd len ord kh km pg (bif decide (n = 0) then len2 else mixF 6 len len2) (bif decide (n = 0) then ord2 else mixF 6 ord ord2) (bif decide (n = 0) then kh2 else mixF 6 kh kh2) (bif decide (n = 0) then km2 else mixF 6 km km2) cw tl tO bO lf wo)[k]? = some q → ¬ sA b 16 q.1 := fun k q hk z => by obtain ⟨hk1, hk2⟩ := ad_at (b := a) (N := 34) rfl hk; obtain ⟨j, hj, ej⟩ := z; exact hdis k j hk1 hj (hk2.symm.trans ej)
  refine lv_aload_n hx hb dL_law_536 rfl (lv_at hl 1 rfl) ?_
  refine l_calli (va_runV (As := []) (rest := [.int (r1)]) ⟨hx, hb, hml, hown, hts⟩ (k_X11_image l dC dI y (sA b 16) b hAb rn n lo kp dy so he kn ak pl iw nm sd ik kr lo2 dy2 so2 he2 kn2 dgv kd len ord kh km pg cm sav bo cb sl len2 ord2 kh2 km2  hn) (cwV 0 hts gL_law_X11_image rfl rfl rfl (by decide +kernel) ⟨Nat.le_of_ble_eq_true rfl, Nat.le_of_ble_eq_true rfl⟩) (c_preV (c_N0 (lA s)) hK trivial hS hPm (va_recv hK hPm (ci := 11) (q0 := 0) rfl rfl)) rfl rfl hl.1 rfl (lv_room (Nat.le_of_ble_eq_true rfl)) dL_law_537 ⟨Nat.le_of_ble_eq_true rfl, Nat.le_of_ble_eq_true rfl⟩) hS hlb hPx nmy (fun r2 u2 H locs hw2 hPm hPx hS => ?_)
  have hPm : va_P (dC, dI) vwCl (DW y b rn n lo kp dy so he kn ak pl iw nm sd (bif decide (n = 0) then ik else true) (bif decide (n = 0) then kr else rn) (bif decide (n = 0) then lo2 else lo) (bif decide (n = 0) then dy2 else dy) (bif decide (n = 0) then so2 else so) (bif decide (n = 0) then he2 else he) (bif decide (n = 0) then kn2 else kn) dgv kd len ord kh km pg cm sav bo cb sl (bif decide (n = 0) then len2 else mixF 6 len len2) (bif decide (n = 0) then ord2 else mixF 6 ord ord2) (bif decide (n = 0) then kh2 else mixF 6 kh kh2) (bif decide (n = 0) then km2 else mixF 6 km km2)) H := hPm
  have hre : r1 = r2 := (hw1).trans (hw2).symm
  refine lv_icmp_eq hx hb dL_law_540 rfl (fun _ => ?_) (fun hne => absurd hre hne)
  exact k H locs ⟨rn, n, lo, kp, dy, so, he, kn, ak, pl, bif decide (n = 0) then lo2 else lo, bif decide (n = 0) then dy2 else dy, bif decide (n = 0) then so2 else so, bif decide (n = 0) then he2 else he, bif decide (n = 0) then kn2 else kn, kd, len, ord, kh, km, pg, bif decide (n = 0) then len2 else mixF 6 len len2, bif decide (n = 0) then ord2 else mixF 6 ord ord2, bif decide (n = 0) then kh2 else mixF 6 kh kh2, bif decide (n = 0) then km2 else mixF 6 km km2, bif decide (n = 0) then im else true, ma, cw, tl, tO, bO, lf, wo, iw, nm, sd, bif decide (n = 0) then ik else true, bif decide (n = 0) then kr else rn, dgv, cm, sav, bo, cb, sl, gi_image hG0, hcw, htl, hcm, hPx, hPm⟩ hS
set_option maxHeartbeats 4000000 in
set_option maxRecDepth 100000 in
theorem law_restore (l : Launch) {p : Program} {e : Env} {s : State} {m : MethodId} {args : Array Value} {below : List Frame} {meth : Method} {c : Code} {H : Heap} {locs : List Loc} {Q : State → Prop} {ls : Array Slot} {bs L i : Nat} {xs : Nat → Int32} {xK xV : Nat → Nat} {dC : Nat → ClassId} {dI : Nat → Nat → Nat} {y : Nat → ClassId} {a b : Nat → Nat} (hx : p.tables.exec = Jvm.exec) (hb : c.code = cL_law) (hml : c.maxLocals = 4) (hown : s.vm.findClass RL = some m.cls) (hts : ∀ w ∈ wsL_law, w.before args s = true) (hX : va_X bs L xs s s.heap) (hbl : bs < s.heap.size) (hF : LF s xK xV dC dI y a b) (hL : L ≤ 256) (hi : i + 4 ≤ L) (hS : va_S (lA s) s.heap H locs) (hl : lv_has ls 4 [(3, .int (nI i)), (2, .ref (b 0)), (1, .ref (a 0)), (0, .ref bs)]) (hI : LI dC dI y a b i H) (k : ∀ (H1 : Heap) (locs1 : List Loc), LI dC dI y a b (i + 4) H1 → va_S (lA s) s.heap H1 locs1 → W p l e room_1 s m args below meth c H1 locs1 50 1348 Q (F0 m 595 ls [])) : W p l e room_1 s m args below meth c H locs 50 1348 Q (F0 m 545 ls []) := by
  obtain ⟨hK, hV, hAa, hAb, hla, hlb, hdis⟩ := hF
  have hbA : ¬ lA s bs := fun q => absurd hbl (Nat.not_lt.mpr q)
  obtain ⟨rn, n, lo, kp, dy, so, he, kn, ak, pl, lo2, dy2, so2, he2, kn2, kd, len, ord, kh, km, pg, len2, ord2, kh2, km2, im, ma, cw, tl, tO, bO, lf, wo, iw, nm, sd, ik, kr, dgv, cm, sav, bo, cb, sl, hG, hcw, htl, hcm, hPx, hPm⟩ := hI
  have hG0 := hG
  obtain ⟨hn, hn2, hord, hlen, hkd, hkp, hkn, hkh, hkm, hpl, hpg, hak, hrn, hkr, him, hlen2, hkm2, hkn2, hord2⟩ := hG
  have nmx : ∀ (k : Nat) (q : Nat × va_E), (DW y b rn n lo kp dy so he kn ak pl iw nm sd ik kr lo2 dy2 so2 he2 kn2 dgv kd len ord kh km pg cm sav bo cb sl len2 ord2 kh2 km2)[k]? = some q → ¬ sA a 34 q.1 := fun k q hk z => by obtain ⟨hk1, hk2⟩ := ad_at (b := b) (N := 16) rfl hk; obtain ⟨j, hj, ej⟩ := z; exact hdis j k hj hk1 (ej.symm.trans hk2)
  refine lv_aload_n hx hb dL_law_545 rfl (lv_at hl 2 rfl) ?_
  refine l_calli (va_runV (As := []) (rest := []) ⟨hx, hb, hml, hown, hts⟩ (k_X10_restore l dC dI y (sA a 34) a hAa xK xV rn n lo kp dy so he kn ak pl im lo2 dy2 so2 he2 kn2 ma kd len ord kh km pg len2 ord2 kh2 km2 cw tl tO bO lf wo  ) (cwV 0 hts gL_law_X10_restore rfl rfl rfl (by decide +kernel) ⟨Nat.le_of_ble_eq_true rfl, Nat.le_of_ble_eq_true rfl⟩) (l_preX hla hK hV hS hPx (va_recv hK hPx (ci := 10) (q0 := 0) rfl rfl)) rfl rfl hl.1 rfl (lv_room (Nat.le_of_ble_eq_true rfl)) dL_law_546 ⟨Nat.le_of_ble_eq_true rfl, Nat.le_of_ble_eq_true rfl⟩) hS hla hPm nmx (fun r1 u1 H locs hw1 hPx hPm hS => ?_)
  have hPx : va_P (dC, dI) vwCl (MW y a rn n (bif im then lo2 else lo) kp (bif im then dy2 else dy) (bif im then so2 else so) (bif im then he2 else he) (bif im then kn2 else kn) ak pl im lo2 dy2 so2 he2 kn2 ma kd (bif im then mixF 6 len2 len else len) (bif im then mixF 6 ord2 ord else ord) (bif im then mixF 6 kh2 kh else kh) (bif im then mixF 6 km2 km else km) pg len2 ord2 kh2 km2 cw tl tO bO lf wo) H := hPx
  have nmy : ∀ (k : Nat) (q : Nat × va_E), (MW y a rn n (bif im then lo2 else lo) kp (bif im then dy2 else dy) (bif im then so2 else so) (bif im then he2 else he) (bif im then kn2 else kn) ak pl im lo2 dy2 so2 he2 kn2 ma kd (bif im then mixF 6 len2 len else len) (bif im then mixF 6 ord2 ord else ord) (bif im then mixF 6 kh2 kh else kh) (bif im then mixF 6 km2 km else km) pg len2 ord2 kh2 km2 cw tl tO bO lf wo)[k]? = some q → ¬ sA b 16 q.1 := fun k q hk z => by obtain ⟨hk1, hk2⟩ := ad_at (b := a) (N := 34) rfl hk; obtain ⟨j, hj, ej⟩ := z; exact hdis k j hk1 hj (hk2.symm.trans ej)
  refine lv_aload_n hx hb dL_law_549 rfl (lv_at hl 1 rfl) ?_
  refine l_calli (va_runV (As := []) (rest := [.int (r1)]) ⟨hx, hb, hml, hown, hts⟩ (k_X11_restore l dC dI y (sA b 16) b hAb rn n lo kp dy so he kn ak pl iw nm sd ik kr lo2 dy2 so2 he2 kn2 dgv kd len ord kh km pg cm sav bo cb sl len2 ord2 kh2 km2  (by omega) (by omega)) (cwV 0 hts gL_law_X11_restore rfl rfl rfl (by decide +kernel) ⟨Nat.le_of_ble_eq_true rfl, Nat.le_of_ble_eq_true rfl⟩) (c_preV (c_N0 (lA s)) hK trivial hS hPm (va_recv hK hPm (ci := 11) (q0 := 0) rfl rfl)) rfl rfl hl.1 rfl (lv_room (Nat.le_of_ble_eq_true rfl)) dL_law_550 ⟨Nat.le_of_ble_eq_true rfl, Nat.le_of_ble_eq_true rfl⟩) hS hlb hPx nmy (fun r2 u2 H locs hw2 hPm hPx hS => ?_)
  have hPm : va_P (dC, dI) vwCl (DW y b rn n (bif rsB ik kr rn then lo2 else lo) kp (bif rsB ik kr rn then dy2 else dy) (bif rsB ik kr rn then so2 else so) (bif rsB ik kr rn then he2 else he) (bif rsB ik kr rn then kn2 else kn) ak pl iw nm sd ik kr lo2 dy2 so2 he2 kn2 dgv kd (bif rsB ik kr rn then mixF 6 len2 len else len) (bif rsB ik kr rn then mixF 6 ord2 ord else ord) (bif rsB ik kr rn then mixF 6 kh2 kh else kh) (bif rsB ik kr rn then mixF 6 km2 km else km) pg cm sav bo cb sl len2 ord2 kh2 km2) H := hPm
  have hw2 : r2 = (bif im then dy2 else -103) := by rw [him]; exact hw2
  have hre : r1 = r2 := (hw1).trans (hw2).symm
  refine lv_icmp_eq hx hb dL_law_553 rfl (fun _ => ?_) (fun hne => absurd hre hne)
  have hPm : va_P (dC, dI) vwCl (DW y b rn n (bif im then lo2 else lo) kp (bif im then dy2 else dy) (bif im then so2 else so) (bif im then he2 else he) (bif im then kn2 else kn) ak pl iw nm sd ik kr lo2 dy2 so2 he2 kn2 dgv kd (bif im then mixF 6 len2 len else len) (bif im then mixF 6 ord2 ord else ord) (bif im then mixF 6 kh2 kh else kh) (bif im then mixF 6 km2 km else km) pg cm sav bo cb sl len2 ord2 kh2 km2) H := by rw [← him] at hPm; exact hPm
  exact k H locs ⟨rn, n, bif im then lo2 else lo, kp, bif im then dy2 else dy, bif im then so2 else so, bif im then he2 else he, bif im then kn2 else kn, ak, pl, lo2, dy2, so2, he2, kn2, kd, bif im then mixF 6 len2 len else len, bif im then mixF 6 ord2 ord else ord, bif im then mixF 6 kh2 kh else kh, bif im then mixF 6 km2 km else km, pg, len2, ord2, kh2, km2, im, ma, cw, tl, tO, bO, lf, wo, iw, nm, sd, ik, kr, dgv, cm, sav, bo, cb, sl, gi_restore hG0, hcw, htl, hcm, hPx, hPm⟩ hS
set_option maxHeartbeats 4000000 in
set_option maxRecDepth 100000 in
theorem law_count (l : Launch) {p : Program} {e : Env} {s : State} {m : MethodId} {args : Array Value} {below : List Frame} {meth : Method} {c : Code} {H : Heap} {locs : List Loc} {Q : State → Prop} {ls : Array Slot} {bs L i : Nat} {xs : Nat → Int32} {xK xV : Nat → Nat} {dC : Nat → ClassId} {dI : Nat → Nat → Nat} {y : Nat → ClassId} {a b : Nat → Nat} (hx : p.tables.exec = Jvm.exec) (hb : c.code = cL_law) (hml : c.maxLocals = 4) (hown : s.vm.findClass RL = some m.cls) (hts : ∀ w ∈ wsL_law, w.before args s = true) (hX : va_X bs L xs s s.heap) (hbl : bs < s.heap.size) (hF : LF s xK xV dC dI y a b) (hL : L ≤ 256) (hi : i + 4 ≤ L) (hS : va_S (lA s) s.heap H locs) (hl : lv_has ls 4 [(3, .int (nI i)), (2, .ref (b 0)), (1, .ref (a 0)), (0, .ref bs)]) (hI : LI dC dI y a b i H) (k : ∀ (H1 : Heap) (locs1 : List Loc), LI dC dI y a b (i + 4) H1 → va_S (lA s) s.heap H1 locs1 → W p l e room_1 s m args below meth c H1 locs1 50 1348 Q (F0 m 595 ls [])) : W p l e room_1 s m args below meth c H locs 50 1348 Q (F0 m 558 ls []) := by
  obtain ⟨hK, hV, hAa, hAb, hla, hlb, hdis⟩ := hF
  have hbA : ¬ lA s bs := fun q => absurd hbl (Nat.not_lt.mpr q)
  obtain ⟨rn, n, lo, kp, dy, so, he, kn, ak, pl, lo2, dy2, so2, he2, kn2, kd, len, ord, kh, km, pg, len2, ord2, kh2, km2, im, ma, cw, tl, tO, bO, lf, wo, iw, nm, sd, ik, kr, dgv, cm, sav, bo, cb, sl, hG, hcw, htl, hcm, hPx, hPm⟩ := hI
  have hG0 := hG
  obtain ⟨hn, hn2, hord, hlen, hkd, hkp, hkn, hkh, hkm, hpl, hpg, hak, hrn, hkr, him, hlen2, hkm2, hkn2, hord2⟩ := hG
  have nmx : ∀ (k : Nat) (q : Nat × va_E), (DW y b rn n lo kp dy so he kn ak pl iw nm sd ik kr lo2 dy2 so2 he2 kn2 dgv kd len ord kh km pg cm sav bo cb sl len2 ord2 kh2 km2)[k]? = some q → ¬ sA a 34 q.1 := fun k q hk z => by obtain ⟨hk1, hk2⟩ := ad_at (b := b) (N := 16) rfl hk; obtain ⟨j, hj, ej⟩ := z; exact hdis j k hj hk1 (ej.symm.trans hk2)
  refine lv_aload_n hx hb dL_law_558 rfl (lv_at hl 2 rfl) ?_
  refine lv_aload_n hx hb dL_law_559 rfl (lv_at hl 3 rfl) ?_
  refine lv_iload_n hx hb dL_law_560 rfl (lv_at hl 0 rfl) ?_
  refine lv_iconst (v := nI 1) hx hb dL_law_561 (by decide) ?_
  refine n_iadd hx hb dL_law_562 ?_
  refine l_sld hx hb hX hbl hbA hS (by omega) hL dL_law_563 ?_
  refine l_calli (va_runV (As := [.int (xs (i + 1))]) (rest := []) ⟨hx, hb, hml, hown, hts⟩ (k_X10_count l dC dI y (sA a 34) a hAa xK xV rn n lo kp dy so he kn ak pl im lo2 dy2 so2 he2 kn2 ma kd len ord kh km pg len2 ord2 kh2 km2 cw tl tO bO lf wo (xs (i + 1)) hn hord hlen hkd hcw hkp) (cwV 1 hts gL_law_X10_count rfl rfl rfl (by decide +kernel) ⟨Nat.le_of_ble_eq_true rfl, Nat.le_of_ble_eq_true rfl⟩) (l_preX hla hK hV hS hPx (va_recv hK hPx (ci := 10) (q0 := 0) rfl rfl)) rfl rfl hl.1 rfl (lv_room (Nat.le_of_ble_eq_true rfl)) dL_law_564 ⟨Nat.le_of_ble_eq_true rfl, Nat.le_of_ble_eq_true rfl⟩) hS hla hPm nmx (fun r1 u1 H locs hw1 hPx hPm hS => ?_)
  have hPx : va_P (dC, dI) vwCl (MW y a rn n lo kp dy so he kn ak pl im lo2 dy2 so2 he2 kn2 u1.2 kd len ord kh km pg len2 ord2 kh2 km2 u1.1 tl tO bO lf wo) H := hPx
  have nmy : ∀ (k : Nat) (q : Nat × va_E), (MW y a rn n lo kp dy so he kn ak pl im lo2 dy2 so2 he2 kn2 u1.2 kd len ord kh km pg len2 ord2 kh2 km2 u1.1 tl tO bO lf wo)[k]? = some q → ¬ sA b 16 q.1 := fun k q hk z => by obtain ⟨hk1, hk2⟩ := ad_at (b := a) (N := 34) rfl hk; obtain ⟨j, hj, ej⟩ := z; exact hdis k j hk1 hj (hk2.symm.trans ej)
  refine lv_aload_n hx hb dL_law_567 rfl (lv_at hl 1 rfl) ?_
  refine lv_aload_n hx hb dL_law_568 rfl (lv_at hl 3 rfl) ?_
  refine lv_iload_n hx hb dL_law_569 rfl (lv_at hl 0 rfl) ?_
  refine lv_iconst (v := nI 1) hx hb dL_law_570 (by decide) ?_
  refine n_iadd hx hb dL_law_571 ?_
  refine l_sld hx hb hX hbl hbA hS (by omega) hL dL_law_572 ?_
  refine l_calli (va_runV (As := [.int (xs (i + 1))]) (rest := [.int (r1)]) ⟨hx, hb, hml, hown, hts⟩ (k_X11_count l dC dI y (sA b 16) b hAb rn n lo kp dy so he kn ak pl iw nm sd ik kr lo2 dy2 so2 he2 kn2 dgv kd len ord kh km pg cm sav bo cb sl len2 ord2 kh2 km2 (xs (i + 1)) hn hord hlen hkd hcm hkp) (cwV 1 hts gL_law_X11_count rfl rfl rfl (by decide +kernel) ⟨Nat.le_of_ble_eq_true rfl, Nat.le_of_ble_eq_true rfl⟩) (c_preV (c_N0 (lA s)) hK trivial hS hPm (va_recv hK hPm (ci := 11) (q0 := 0) rfl rfl)) rfl rfl hl.1 rfl (lv_room (Nat.le_of_ble_eq_true rfl)) dL_law_573 ⟨Nat.le_of_ble_eq_true rfl, Nat.le_of_ble_eq_true rfl⟩) hS hlb hPx nmy (fun r2 u2 H locs hw2 hPm hPx hS => ?_)
  have hPm : va_P (dC, dI) vwCl (DW y b rn n lo kp dy so he kn ak pl iw nm sd ik kr lo2 dy2 so2 he2 kn2 dgv kd len ord kh km pg u2 sav bo cb sl len2 ord2 kh2 km2) H := hPm
  have hre : r1 = r2 := (hw1.1).trans (hw2.1).symm
  refine lv_icmp_eq hx hb dL_law_576 rfl (fun _ => ?_) (fun hne => absurd hre hne)
  exact k H locs ⟨rn, n, lo, kp, dy, so, he, kn, ak, pl, lo2, dy2, so2, he2, kn2, kd, len, ord, kh, km, pg, len2, ord2, kh2, km2, im, u1.2, u1.1, tl, tO, bO, lf, wo, iw, nm, sd, ik, kr, dgv, u2, sav, bo, cb, sl, gi_next hG0, hw1.2, htl, hw2.2, hPx, hPm⟩ hS
set_option maxHeartbeats 4000000 in
set_option maxRecDepth 100000 in
theorem law_digest (l : Launch) {p : Program} {e : Env} {s : State} {m : MethodId} {args : Array Value} {below : List Frame} {meth : Method} {c : Code} {H : Heap} {locs : List Loc} {Q : State → Prop} {ls : Array Slot} {bs L i : Nat} {xs : Nat → Int32} {xK xV : Nat → Nat} {dC : Nat → ClassId} {dI : Nat → Nat → Nat} {y : Nat → ClassId} {a b : Nat → Nat} (hx : p.tables.exec = Jvm.exec) (hb : c.code = cL_law) (hml : c.maxLocals = 4) (hown : s.vm.findClass RL = some m.cls) (hts : ∀ w ∈ wsL_law, w.before args s = true) (hX : va_X bs L xs s s.heap) (hbl : bs < s.heap.size) (hF : LF s xK xV dC dI y a b) (hL : L ≤ 256) (hi : i + 4 ≤ L) (hS : va_S (lA s) s.heap H locs) (hl : lv_has ls 4 [(3, .int (nI i)), (2, .ref (b 0)), (1, .ref (a 0)), (0, .ref bs)]) (hI : LI dC dI y a b i H) (k : ∀ (H1 : Heap) (locs1 : List Loc), LI dC dI y a b (i + 4) H1 → va_S (lA s) s.heap H1 locs1 → W p l e room_1 s m args below meth c H1 locs1 50 1348 Q (F0 m 595 ls [])) : W p l e room_1 s m args below meth c H locs 50 1348 Q (F0 m 581 ls []) := by
  obtain ⟨hK, hV, hAa, hAb, hla, hlb, hdis⟩ := hF
  have hbA : ¬ lA s bs := fun q => absurd hbl (Nat.not_lt.mpr q)
  obtain ⟨rn, n, lo, kp, dy, so, he, kn, ak, pl, lo2, dy2, so2, he2, kn2, kd, len, ord, kh, km, pg, len2, ord2, kh2, km2, im, ma, cw, tl, tO, bO, lf, wo, iw, nm, sd, ik, kr, dgv, cm, sav, bo, cb, sl, hG, hcw, htl, hcm, hPx, hPm⟩ := hI
  have hG0 := hG
  obtain ⟨hn, hn2, hord, hlen, hkd, hkp, hkn, hkh, hkm, hpl, hpg, hak, hrn, hkr, him, hlen2, hkm2, hkn2, hord2⟩ := hG
  have nmx : ∀ (k : Nat) (q : Nat × va_E), (DW y b rn n lo kp dy so he kn ak pl iw nm sd ik kr lo2 dy2 so2 he2 kn2 dgv kd len ord kh km pg cm sav bo cb sl len2 ord2 kh2 km2)[k]? = some q → ¬ sA a 34 q.1 := fun k q hk z => by obtain ⟨hk1, hk2⟩ := ad_at (b := b) (N := 16) rfl hk; obtain ⟨j, hj, ej⟩ := z; exact hdis j k hj hk1 (ej.symm.trans hk2)
  refine lv_aload_n hx hb dL_law_581 rfl (lv_at hl 2 rfl) ?_
  refine l_calll (va_runV (As := []) (rest := []) ⟨hx, hb, hml, hown, hts⟩ (k_X10_digest l dC dI y (sA a 34) a hAa xK xV rn n lo kp dy so he kn ak pl im lo2 dy2 so2 he2 kn2 ma kd len ord kh km pg len2 ord2 kh2 km2 cw tl tO bO lf wo  hn hord hlen hkd hcw hkp hkn hkh hkm htl hpl) (cwV 0 hts gL_law_X10_digest rfl rfl rfl (by decide +kernel) ⟨Nat.le_of_ble_eq_true rfl, Nat.le_of_ble_eq_true rfl⟩) (l_preX hla hK hV hS hPx (va_recv hK hPx (ci := 10) (q0 := 0) rfl rfl)) rfl rfl hl.1 rfl (lv_room (Nat.le_of_ble_eq_true rfl)) dL_law_582 ⟨Nat.le_of_ble_eq_true rfl, Nat.le_of_ble_eq_true rfl⟩) hS hla hPm nmx (fun r1 u1 H locs hw1 hPx hPm hS => ?_)
  have hPx : va_P (dC, dI) vwCl (MW y a rn n lo kp dy so he kn ak pl im lo2 dy2 so2 he2 kn2 u1.2.1 kd len ord kh km pg len2 ord2 kh2 km2 u1.1 u1.2.2.1 tO bO u1.2.2.2.1 u1.2.2.2.2) H := hPx
  have nmy : ∀ (k : Nat) (q : Nat × va_E), (MW y a rn n lo kp dy so he kn ak pl im lo2 dy2 so2 he2 kn2 u1.2.1 kd len ord kh km pg len2 ord2 kh2 km2 u1.1 u1.2.2.1 tO bO u1.2.2.2.1 u1.2.2.2.2)[k]? = some q → ¬ sA b 16 q.1 := fun k q hk z => by obtain ⟨hk1, hk2⟩ := ad_at (b := a) (N := 34) rfl hk; obtain ⟨j, hj, ej⟩ := z; exact hdis k j hk1 hj (hk2.symm.trans ej)
  refine lv_aload_n hx hb dL_law_585 rfl (lv_at hl 1 rfl) ?_
  refine l_calll (va_runV (As := []) (rest := [.long (r1)]) ⟨hx, hb, hml, hown, hts⟩ (k_X11_digest l dC dI y (sA b 16) b hAb rn n lo kp dy so he kn ak pl iw nm sd ik kr lo2 dy2 so2 he2 kn2 dgv kd len ord kh km pg cm sav bo cb sl len2 ord2 kh2 km2  hn hord hlen hkd hcm hkp hkn hkh hkm hpl) (cwV 0 hts gL_law_X11_digest rfl rfl rfl (by decide +kernel) ⟨Nat.le_of_ble_eq_true rfl, Nat.le_of_ble_eq_true rfl⟩) (c_preV (c_N0 (lA s)) hK trivial hS hPm (va_recv hK hPm (ci := 11) (q0 := 0) rfl rfl)) rfl rfl hl.1 rfl (lv_room (Nat.le_of_ble_eq_true rfl)) dL_law_586 ⟨Nat.le_of_ble_eq_true rfl, Nat.le_of_ble_eq_true rfl⟩) hS hlb hPx nmy (fun r2 u2 H locs hw2 hPm hPx hS => ?_)
  have hPm : va_P (dC, dI) vwCl (DW y b rn n lo kp dy so he kn ak pl iw nm sd ik kr lo2 dy2 so2 he2 kn2 u2.2.2 kd len ord kh km pg u2.1 sav bo u2.2.1 sl len2 ord2 kh2 km2) H := hPm
  have hre : r1 = r2 := (hw1.1).trans (hw2.1).symm
  subst hre
  refine W.lcmp hx hb dL_law_589 ?_
  refine n_top (y := nI 0) (lg_cmp_self _) ?_
  refine lv_if_eq hx hb dL_law_590 rfl (fun _ => ?_) (fun hne => absurd rfl hne)
  exact k H locs ⟨rn, n, lo, kp, dy, so, he, kn, ak, pl, lo2, dy2, so2, he2, kn2, kd, len, ord, kh, km, pg, len2, ord2, kh2, km2, im, u1.2.1, u1.1, u1.2.2.1, tO, bO, u1.2.2.2.1, u1.2.2.2.2, iw, nm, sd, ik, kr, u2.2.2, u2.1, sav, bo, u2.2.1, sl, gi_next hG0, hw1.2.1, hw1.2.2, hw2.2, hPx, hPm⟩ hS
