def bI (b : Bool) : Int32 := bif b then 1 else 0
theorem bI_nar (b : Bool) : narrow .boolean (.int (bI b)) = .int (bI b) := by cases b <;> rfl
theorem bI_fit (b : Bool) : fits .boolean (.int (bI b)) = true := by cases b <;> rfl
theorem bI_1 {b : Bool} (h : b = true) : nI 1 = bI b := by rw [h]; rfl
theorem bI_0 {b : Bool} (h : b = false) : nI 0 = bI b := by rw [h]; rfl
theorem mr_inc (x : Nat) : nI x + Int32.ofInt 1 = nI (x + 1) := nI_1 x
theorem mr_inc2 (x : Nat) : nI x + Int32.ofInt 2 = nI (x + 2) := nI_add x 2
theorem mr_inc4 (x : Nat) : nI x + Int32.ofInt 4 = nI (x + 4) := nI_add x 4
theorem mr_dec {x : Nat} (h : 0 < x) : nI x + Int32.ofInt (-1) = nI (x - 1) := by
  obtain ⟨k, rfl⟩ : ∃ k, x = k + 1 := ⟨x - 1, by omega⟩
  exact pk_m1 k
theorem mr_decR (x : Nat) : nI x + Int32.ofInt (-1) = nI x - nI 1 := by rw [Int32.sub_eq_add_neg]; rfl
/-- the addresses of a world: apart, and of a kind -/
def ad_ok (A : Nat → Prop) (b : Nat → Nat) (N : Nat) : Prop := (∀ i j, i < N → j < N → b i = b j → i = j) ∧ ∀ i, i < N → A (b i)
theorem ad_at {b : Nat → Nat} {N k : Nat} {ws : va_W} {q : Nat × va_E} (hm : ws.map (fun q => q.1) = (List.range N).map b) (h : ws[k]? = some q) : k < N ∧ q.1 = b k := by
  have h1 : (ws.map (fun q => q.1))[k]? = some q.1 := by rw [List.getElem?_map, h]; rfl
  rw [hm, List.getElem?_map] at h1
  by_cases hk : k < N
  · rw [List.getElem?_range hk] at h1
    exact ⟨hk, (Option.some.inj h1).symm⟩
  · rw [List.getElem?_eq_none (by rw [List.length_range]; omega)] at h1
    cases h1
theorem ad_D {A : Nat → Prop} {b : Nat → Nat} {N : Nat} {ws : va_W} (h : ad_ok A b N) (hm : ws.map (fun q => q.1) = (List.range N).map b) : va_D A ws := by
  refine ⟨fun i j x z hi hj hxz => ?_, fun k q hk => ?_⟩
  · obtain ⟨h1, h2⟩ := ad_at hm hi
    obtain ⟨h3, h4⟩ := ad_at hm hj
    exact h.1 i j h1 h3 (by rw [← h2, ← h4, hxz])
  · obtain ⟨h1, h2⟩ := ad_at hm hk
    rw [h2]
    exact h.2 k h1
section MRC
variable {p : Program} {l : Launch} {e : Env} {R : Room} {s : State} {m : MethodId} {args : Array Value} {below : List Frame} {meth : Method} {c : Code} {H : Heap} {locs : List Loc} {cells slots : Nat} {Q : State → Prop}
variable {cc : ByteArray} {pc : Nat} {ls : Array Slot} {rest : List Value}
theorem n_bif_eq (hx : p.tables.exec = Jvm.exec) (hb : c.code = cc) {b : Bool} {off : Int} {tgt : Nat} (hdg : decode cc pc = .ok (.ifCond .eq off, 3)) (ht : (pc : Int) + off = (tgt : Int)) (kt : b = false → W p l e R s m args below meth c H locs cells slots Q (F0 m tgt ls rest)) (kf : b = true → W p l e R s m args below meth c H locs cells slots Q (F0 m (pc + 3) ls rest)) : W p l e R s m args below meth c H locs cells slots Q (F0 m pc ls (.int (bI b) :: rest)) := lv_if_eq hx hb hdg ht (fun h => kt (by cases b <;> first | rfl | exact absurd h (by decide))) (fun h => kf (by cases b <;> first | rfl | exact absurd rfl h))
theorem n_bif_ne (hx : p.tables.exec = Jvm.exec) (hb : c.code = cc) {b : Bool} {off : Int} {tgt : Nat} (hdg : decode cc pc = .ok (.ifCond .ne off, 3)) (ht : (pc : Int) + off = (tgt : Int)) (kt : b = true → W p l e R s m args below meth c H locs cells slots Q (F0 m tgt ls rest)) (kf : b = false → W p l e R s m args below meth c H locs cells slots Q (F0 m (pc + 3) ls rest)) : W p l e R s m args below meth c H locs cells slots Q (F0 m pc ls (.int (bI b) :: rest)) := lv_if_ne hx hb hdg ht (fun h => kt (by cases b <;> first | rfl | exact absurd rfl h)) (fun h => kf (by cases b <;> first | rfl | exact absurd h (by decide)))
end MRC
abbrev TY (y : Nat → ClassId) : List (ClassId × FieldType) := [(y 0, .int), (y 1, .byte), (y 2, .char), (y 3, .object "MilkRound$House"), (y 4, .array .int)]
def DW (y : Nat → ClassId) (b : Nat → Nat) (rn : Nat) (n : Nat) (lo : Int32) (kp : Nat) (dy : Int32) (so : Int32) (he : Int32) (kn : Nat) (ak : Nat) (pl : Nat) (iw : Bool) (nm : Nat) (sd : Int64) (ik : Bool) (kr : Nat) (lo2 : Int32) (dy2 : Int32) (so2 : Int32) (he2 : Int32) (kn2 : Nat) (dgv : Int64) (kd : Nat → Nat) (len : Nat → Nat) (ord : Nat → Nat) (kh : Nat → Nat) (km : Nat → Nat) (pg : Nat → Nat) (cm : Nat → Nat) (sav : Nat → Nat) (bo : Nat → Nat) (cb : Nat → Nat) (sl : Nat → Nat) (len2 : Nat → Nat) (ord2 : Nat → Nat) (kh2 : Nat → Nat) (km2 : Nat → Nat) : va_W := [(b 0, .inr (11, [.int (nI (rn)), .int (nI (n)), .ref (b 1), .ref (b 2), .ref (b 3), .int (lo), .int (nI (kp)), .int (dy), .int (so), .int (he), .int (nI (kn)), .ref (b 4), .ref (b 5), .int (nI (ak)), .int (nI (pl)), .ref (b 6), .int (bI (iw)), .int (nI (nm)), .ref (b 7), .ref (b 8), .ref (b 9), .ref (b 10), .long (sd), .ref (b 11), .int (bI (ik)), .int (nI (kr)), .int (lo2), .int (dy2), .int (so2), .int (he2), .int (nI (kn2)), .ref (b 12), .ref (b 13), .ref (b 14), .ref (b 15), .long (dgv)])),
  (b 1, .inl (y 0, 6, .inl (fun j => nI (kd j)))),
  (b 2, .inl (y 0, 6, .inl (fun j => nI (len j)))),
  (b 3, .inl (y 0, 6, .inl (fun j => nI (ord j)))),
  (b 4, .inl (y 0, 6, .inl (fun j => nI (kh j)))),
  (b 5, .inl (y 0, 6, .inl (fun j => nI (km j)))),
  (b 6, .inl (y 1, 21, .inl (fun j => nI (pg j)))),
  (b 7, .inl (y 0, 6, .inl (fun j => nI (cm j)))),
  (b 8, .inl (y 0, 6, .inl (fun j => nI (sav j)))),
  (b 9, .inl (y 0, 6, .inl (fun j => nI (bo j)))),
  (b 10, .inl (y 0, 151, .inl (fun j => nI (cb j)))),
  (b 11, .inl (y 0, 6, .inl (fun j => nI (sl j)))),
  (b 12, .inl (y 0, 6, .inl (fun j => nI (len2 j)))),
  (b 13, .inl (y 0, 6, .inl (fun j => nI (ord2 j)))),
  (b 14, .inl (y 0, 6, .inl (fun j => nI (kh2 j)))),
  (b 15, .inl (y 0, 6, .inl (fun j => nI (km2 j))))]
