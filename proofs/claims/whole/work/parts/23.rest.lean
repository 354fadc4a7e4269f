abbrev rmX7_at : Room := { frames := 1, cells := 0, slots := 0, locals := 22 }
theorem hdX7_at : yX7_at.cls ≠ "java/lang/invoke/MethodHandle" ∧ yX7_at.cls ≠ "java/lang/invoke/VarHandle" ∧ (parseMethodDescriptor yX7_at.desc).map (fun d => d.parameters.length) = some 2 := by decide +kernel
theorem iX7_at_X7 : ∀ w ∈ wsX70, w ∈ wsX7_at := by decide +kernel
theorem gfX7_at_11 {p : Program} {l : Launch} {e : Env} {R : Room} {s : State} {m : MethodId} {args : Array Value} {below : List Frame} {meth : Method} {c : Code} {H : Heap} {locs : List Loc} {cells slots : Nat} {Q : State → Prop} {D : va_G} {A : Nat → Prop} {tys : List (ClassId × FieldType)} {Es : (Nat → Nat) × (Nat → Nat)} {ws : va_W} {pc : Nat} {ls : Array Slot} {rest : List Value} {a : Nat} (C : CT p s m args meth c RX7 cX7_at 5 (some .int) wsX7_at D A tys Es) (B : DB D A ws s H locs) (q0 : Nat) {fs : List Value} {v : Value} (he : ws[q0]? = some (a, .inr (7, fs))) (hv : fs[0]? = some v) (hdg : decode cX7_at pc = .ok (.getfield 11, 3)) (kk : W p l e R s m args below meth c H locs cells slots Q (F0 m (pc + 3) ls (v :: rest))) : W p l e R s m args below meth c H locs cells slots Q (F0 m pc ls (.ref a :: rest)) :=
  k_get (Cn := RX7) (T := TX7) (N := 4) (index := 11) C B iX7_at_X7 rfl 0 (by decide) (by decide +kernel) q0 he hv hdg kk
theorem gfX7_at_15 {p : Program} {l : Launch} {e : Env} {R : Room} {s : State} {m : MethodId} {args : Array Value} {below : List Frame} {meth : Method} {c : Code} {H : Heap} {locs : List Loc} {cells slots : Nat} {Q : State → Prop} {D : va_G} {A : Nat → Prop} {tys : List (ClassId × FieldType)} {Es : (Nat → Nat) × (Nat → Nat)} {ws : va_W} {pc : Nat} {ls : Array Slot} {rest : List Value} {a : Nat} (C : CT p s m args meth c RX7 cX7_at 5 (some .int) wsX7_at D A tys Es) (B : DB D A ws s H locs) (q0 : Nat) {fs : List Value} {v : Value} (he : ws[q0]? = some (a, .inr (7, fs))) (hv : fs[1]? = some v) (hdg : decode cX7_at pc = .ok (.getfield 15, 3)) (kk : W p l e R s m args below meth c H locs cells slots Q (F0 m (pc + 3) ls (v :: rest))) : W p l e R s m args below meth c H locs cells slots Q (F0 m pc ls (.ref a :: rest)) :=
  k_get (Cn := RX7) (T := TX7) (N := 4) (index := 15) C B iX7_at_X7 rfl 1 (by decide) (by decide +kernel) q0 he hv hdg kk
theorem gfX7_at_18 {p : Program} {l : Launch} {e : Env} {R : Room} {s : State} {m : MethodId} {args : Array Value} {below : List Frame} {meth : Method} {c : Code} {H : Heap} {locs : List Loc} {cells slots : Nat} {Q : State → Prop} {D : va_G} {A : Nat → Prop} {tys : List (ClassId × FieldType)} {Es : (Nat → Nat) × (Nat → Nat)} {ws : va_W} {pc : Nat} {ls : Array Slot} {rest : List Value} {a : Nat} (C : CT p s m args meth c RX7 cX7_at 5 (some .int) wsX7_at D A tys Es) (B : DB D A ws s H locs) (q0 : Nat) {fs : List Value} {v : Value} (he : ws[q0]? = some (a, .inr (7, fs))) (hv : fs[2]? = some v) (hdg : decode cX7_at pc = .ok (.getfield 18, 3)) (kk : W p l e R s m args below meth c H locs cells slots Q (F0 m (pc + 3) ls (v :: rest))) : W p l e R s m args below meth c H locs cells slots Q (F0 m pc ls (.ref a :: rest)) :=
  k_get (Cn := RX7) (T := TX7) (N := 4) (index := 18) C B iX7_at_X7 rfl 2 (by decide) (by decide +kernel) q0 he hv hdg kk
section
variable {p : Program} {l : Launch} {e : Env} {s : State} {m : MethodId} {args : Array Value} {below : List Frame} {meth : Method} {c : Code} {D : va_G} {A : Nat → Prop} {Es : (Nat → Nat) × (Nat → Nat)} {a b : Nat → Nat} {cI cJ cT : ClassId}
set_option maxHeartbeats 4000000 in
set_option maxRecDepth 100000 in
theorem qX7_at_0 (C : CT p s m args meth c RX7 cX7_at 5 (some .int) wsX7_at D A (tyl cI cJ cT) Es) {N : Nat} {rs_low : Nat → Int64} {rs_mid : Nat → Int64} {rs_high : Nat → Int64} {z_r : Int32} : ∀ (x1 : Int32) (x2 : Int32), fX7_at N rs_low rs_mid rs_high x1 x2 = some z_r → ∀ (H : Heap) (locs : List Loc) (ls : Array Slot), DB D A (wd_rs a b cI cJ cT rs_low rs_mid rs_high) s H locs → lv_has ls 5 [(0, .ref (a 24)), (1, .int x1), (2, .int x2)] → W p l e rmX7_at s m args below meth c H locs 0 0 (ZI below args s D A (tyl cI cJ cT) z_r (wd_rs a b cI cJ cT rs_low rs_mid rs_high) 0 0) (F0 m 0 ls []) := by
  have hx := C.1.1
  have hb := C.1.2.1
  have hown := C.1.2.2.2.1
  have hts := C.1.2.2.2.2
  intro x1 x2 h H locs ls B hl
  rw [fX7_at] at h
  refine lv_iload_n hx hb dX7_at_0 rfl (lv_at hl 1 rfl) ?_
  refine lv_bipush (v := 8) hx hb dX7_at_1 (by decide) ?_
  refine lv_imul hx hb dX7_at_3 ?_
  refine lv_iload_n hx hb dX7_at_4 rfl (lv_at hl 2 rfl) ?_
  refine lv_bipush (v := 64) hx hb dX7_at_5 (by decide) ?_
  refine lv_idiv hx hb dX7_at_7 (by decide) ?_
  refine lv_iadd hx hb dX7_at_8 ?_
  refine lv_istore_n (lv' := [(3, .int ((x1 * (8 : Int32)) + (x2 / (64 : Int32)))), (0, .ref (a 24)), (1, .int x1), (2, .int x2)]) hx hb dX7_at_9 rfl hl (by decide) rfl (fun ls hl => ?_)
  refine lv_iload_n hx hb dX7_at_10 rfl (lv_at hl 3 rfl) ?_
  refine lv_bipush (v := 64) hx hb dX7_at_11 (by decide) ?_
  refine lv_irem hx hb dX7_at_13 (by decide) ?_
  refine lv_istore (lv' := [(4, .int (x2 - x2 / (64 : Int32) * (64 : Int32))), (3, .int ((x1 * (8 : Int32)) + (x2 / (64 : Int32)))), (0, .ref (a 24)), (1, .int x1), (2, .int x2)]) hx hb dX7_at_14 hl (by decide) rfl (fun ls hl => ?_)
  refine lv_aload_n hx hb dX7_at_16 rfl (lv_at hl 2 rfl) ?_
  refine gfX7_at_11 C B 0 rfl rfl dX7_at_17 ?_
  refine lv_iload_n hx hb dX7_at_20 rfl (lv_at hl 1 rfl) ?_
  obtain ⟨b_1, h⟩ := bnd_some h
  refine k_lald C B 1 1 rfl rfl b_1 dX7_at_21 ?_
  refine lv_iload hx hb dX7_at_22 (lv_at hl 0 rfl) ?_
  obtain ⟨r_2, g_7, h⟩ := ob_some h
  try dsimp only at h
  refine kc_SI C B (As := [.long (rs_low (Int32.toNatClampNeg ((x1 * (8 : Int32)) + (x2 / (64 : Int32))))), .int (x2 - x2 / (64 : Int32) * (64 : Int32))]) (rest := []) (w2 := (wd_rs a b cI cJ cT rs_low rs_mid rs_high)) (tX7_bitAt N g_7) gX7_at_X7_bitAt rfl ⟨rfl, rfl⟩ hdX7_bitAt ⟨Nat.le_of_ble_eq_true rfl, Nat.le_of_ble_eq_true rfl⟩ [] [0, 1, 2, 3] [0, 1, 2, 3] rfl rfl rfl rfl rfl rfl rfl rfl hl.1 rfl (Nat.le_of_ble_eq_true rfl) ⟨Nat.zero_le _, Nat.zero_le _⟩ dX7_at_24 (fun H locs B => ?_)
  refine lv_iconst (v := 2) hx hb dX7_at_27 (by decide) ?_
  refine lv_aload_n hx hb dX7_at_28 rfl (lv_at hl 2 rfl) ?_
  refine gfX7_at_15 C B 0 rfl rfl dX7_at_29 ?_
  refine lv_iload_n hx hb dX7_at_32 rfl (lv_at hl 1 rfl) ?_
  refine k_lald C B 2 1 rfl rfl b_1 dX7_at_33 ?_
  refine lv_iload hx hb dX7_at_34 (lv_at hl 0 rfl) ?_
  obtain ⟨r_3, g_6, h⟩ := ob_some h
  try dsimp only at h
  refine kc_SI C B (As := [.long (rs_mid (Int32.toNatClampNeg ((x1 * (8 : Int32)) + (x2 / (64 : Int32))))), .int (x2 - x2 / (64 : Int32) * (64 : Int32))]) (rest := [.int (2 : Int32), .int r_2]) (w2 := (wd_rs a b cI cJ cT rs_low rs_mid rs_high)) (tX7_bitAt N g_6) gX7_at_X7_bitAt rfl ⟨rfl, rfl⟩ hdX7_bitAt ⟨Nat.le_of_ble_eq_true rfl, Nat.le_of_ble_eq_true rfl⟩ [] [0, 1, 2, 3] [0, 1, 2, 3] rfl rfl rfl rfl rfl rfl rfl rfl hl.1 rfl (Nat.le_of_ble_eq_true rfl) ⟨Nat.zero_le _, Nat.zero_le _⟩ dX7_at_36 (fun H locs B => ?_)
  refine lv_imul hx hb dX7_at_39 ?_
  refine lv_iadd hx hb dX7_at_40 ?_
  refine lv_iconst (v := 4) hx hb dX7_at_41 (by decide) ?_
  refine lv_aload_n hx hb dX7_at_42 rfl (lv_at hl 2 rfl) ?_
  refine gfX7_at_18 C B 0 rfl rfl dX7_at_43 ?_
  refine lv_iload_n hx hb dX7_at_46 rfl (lv_at hl 1 rfl) ?_
  refine k_lald C B 3 1 rfl rfl b_1 dX7_at_47 ?_
  refine lv_iload hx hb dX7_at_48 (lv_at hl 0 rfl) ?_
  obtain ⟨r_4, g_5, h⟩ := ob_some h
  try dsimp only at h
  refine kc_SI C B (As := [.long (rs_high (Int32.toNatClampNeg ((x1 * (8 : Int32)) + (x2 / (64 : Int32))))), .int (x2 - x2 / (64 : Int32) * (64 : Int32))]) (rest := [.int (4 : Int32), .int (r_2 + ((2 : Int32) * r_3))]) (w2 := (wd_rs a b cI cJ cT rs_low rs_mid rs_high)) (tX7_bitAt N g_5) gX7_at_X7_bitAt rfl ⟨rfl, rfl⟩ hdX7_bitAt ⟨Nat.le_of_ble_eq_true rfl, Nat.le_of_ble_eq_true rfl⟩ [] [0, 1, 2, 3] [0, 1, 2, 3] rfl rfl rfl rfl rfl rfl rfl rfl hl.1 rfl (Nat.le_of_ble_eq_true rfl) ⟨Nat.zero_le _, Nat.zero_le _⟩ dX7_at_50 (fun H locs B => ?_)
  refine lv_imul hx hb dX7_at_53 ?_
  refine lv_iadd hx hb dX7_at_54 ?_
  cases h
  exact k_iret C B dX7_at_55
end
theorem tX7_at {l : Launch} {D : va_G} {Es : (Nat → Nat) × (Nat → Nat)} {a b : Nat → Nat} {cI cJ cT : ClassId} {rs_low : Nat → Int64} {rs_mid : Nat → Int64} {rs_high : Nat → Int64} {x1 : Int32} {x2 : Int32} {z_r : Int32} (N : Nat) (h : fX7_at N rs_low rs_mid rs_high x1 x2 = some z_r) : CtI l yX7_at wsX7_at rmX7_at D (tyl cI cJ cT) Es [.ref (a 24), .int x1, .int x2] (wd_rs a b cI cJ cT rs_low rs_mid rs_high) z_r (wd_rs a b cI cJ cT rs_low rs_mid rs_high) :=
  CtI.of (own := RX7) (cc := cX7_at) (nL := 5) (ret := (some .int)) (by decide +kernel) rfl rfl (Nat.le_of_ble_eq_true rfl) rfl (fun p e s m below meth c A ls C B hl => qX7_at_0 C (N := N) x1 x2 h _ _ _ B hl)

abbrev rmX8_failsFor : Room := { frames := 2, cells := 0, slots := 0, locals := 46 }
theorem hdX8_failsFor : yX8_failsFor.cls ≠ "java/lang/invoke/MethodHandle" ∧ yX8_failsFor.cls ≠ "java/lang/invoke/VarHandle" ∧ (parseMethodDescriptor yX8_failsFor.desc).map (fun d => d.parameters.length) = some 2 := by decide +kernel
theorem iX8_failsFor_X8 : ∀ w ∈ wsX80, w ∈ wsX8_failsFor := by decide +kernel
theorem gfX8_failsFor_22 {p : Program} {l : Launch} {e : Env} {R : Room} {s : State} {m : MethodId} {args : Array Value} {below : List Frame} {meth : Method} {c : Code} {H : Heap} {locs : List Loc} {cells slots : Nat} {Q : State → Prop} {D : va_G} {A : Nat → Prop} {tys : List (ClassId × FieldType)} {Es : (Nat → Nat) × (Nat → Nat)} {ws : va_W} {pc : Nat} {ls : Array Slot} {rest : List Value} {a : Nat} (C : CT p s m args meth c RX8 cX8_failsFor 3 (some .boolean) wsX8_failsFor D A tys Es) (B : DB D A ws s H locs) (q0 : Nat) {fs : List Value} {v : Value} (he : ws[q0]? = some (a, .inr (8, fs))) (hv : fs[3]? = some v) (hdg : decode cX8_failsFor pc = .ok (.getfield 22, 3)) (kk : W p l e R s m args below meth c H locs cells slots Q (F0 m (pc + 3) ls (v :: rest))) : W p l e R s m args below meth c H locs cells slots Q (F0 m pc ls (.ref a :: rest)) :=
  k_get (Cn := RX8) (T := TX8) (N := 4) (index := 22) C B iX8_failsFor_X8 rfl 3 (by decide) (by decide +kernel) q0 he hv hdg kk
theorem gfX8_failsFor_9 {p : Program} {l : Launch} {e : Env} {R : Room} {s : State} {m : MethodId} {args : Array Value} {below : List Frame} {meth : Method} {c : Code} {H : Heap} {locs : List Loc} {cells slots : Nat} {Q : State → Prop} {D : va_G} {A : Nat → Prop} {tys : List (ClassId × FieldType)} {Es : (Nat → Nat) × (Nat → Nat)} {ws : va_W} {pc : Nat} {ls : Array Slot} {rest : List Value} {a : Nat} (C : CT p s m args meth c RX8 cX8_failsFor 3 (some .boolean) wsX8_failsFor D A tys Es) (B : DB D A ws s H locs) (q0 : Nat) {fs : List Value} {v : Value} (he : ws[q0]? = some (a, .inr (8, fs))) (hv : fs[0]? = some v) (hdg : decode cX8_failsFor pc = .ok (.getfield 9, 3)) (kk : W p l e R s m args below meth c H locs cells slots Q (F0 m (pc + 3) ls (v :: rest))) : W p l e R s m args below meth c H locs cells slots Q (F0 m pc ls (.ref a :: rest)) :=
  k_get (Cn := RX8) (T := TX8) (N := 4) (index := 9) C B iX8_failsFor_X8 rfl 0 (by decide) (by decide +kernel) q0 he hv hdg kk
theorem gfX8_failsFor_15 {p : Program} {l : Launch} {e : Env} {R : Room} {s : State} {m : MethodId} {args : Array Value} {below : List Frame} {meth : Method} {c : Code} {H : Heap} {locs : List Loc} {cells slots : Nat} {Q : State → Prop} {D : va_G} {A : Nat → Prop} {tys : List (ClassId × FieldType)} {Es : (Nat → Nat) × (Nat → Nat)} {ws : va_W} {pc : Nat} {ls : Array Slot} {rest : List Value} {a : Nat} (C : CT p s m args meth c RX8 cX8_failsFor 3 (some .boolean) wsX8_failsFor D A tys Es) (B : DB D A ws s H locs) (q0 : Nat) {fs : List Value} {v : Value} (he : ws[q0]? = some (a, .inr (8, fs))) (hv : fs[1]? = some v) (hdg : decode cX8_failsFor pc = .ok (.getfield 15, 3)) (kk : W p l e R s m args below meth c H locs cells slots Q (F0 m (pc + 3) ls (v :: rest))) : W p l e R s m args below meth c H locs cells slots Q (F0 m pc ls (.ref a :: rest)) :=
  k_get (Cn := RX8) (T := TX8) (N := 4) (index := 15) C B iX8_failsFor_X8 rfl 1 (by decide) (by decide +kernel) q0 he hv hdg kk
section
variable {p : Program} {l : Launch} {e : Env} {s : State} {m : MethodId} {args : Array Value} {below : List Frame} {meth : Method} {c : Code} {D : va_G} {A : Nat → Prop} {Es : (Nat → Nat) × (Nat → Nat)} {a b : Nat → Nat} {cI cJ cT : ClassId}
set_option maxHeartbeats 4000000 in
set_option maxRecDepth 100000 in
theorem qX8_failsFor_0 (C : CT p s m args meth c RX8 cX8_failsFor 3 (some .boolean) wsX8_failsFor D A (tyl cI cJ cT) Es) {N : Nat} {rs_low : Nat → Int64} {rs_mid : Nat → Int64} {rs_high : Nat → Int64} {te_inputs : Nat → Int32} {te_dues : Nat → Int32} {te_count : Int32} {z_r : Int32} : ∀ (x1 : Int32) (x2 : Int32), fX8_failsFor N rs_low rs_mid rs_high te_inputs te_dues x1 x2 = some z_r → ∀ (H : Heap) (locs : List Loc) (ls : Array Slot), DB D A (wd_rs_te a b cI cJ cT rs_low rs_mid rs_high te_inputs te_dues te_count) s H locs → lv_has ls 3 [(0, .ref (a 32)), (1, .int x1), (2, .int x2)] → W p l e rmX8_failsFor s m args below meth c H locs 0 0 (ZI below args s D A (tyl cI cJ cT) z_r (wd_rs_te a b cI cJ cT rs_low rs_mid rs_high te_inputs te_dues te_count) 0 0) (F0 m 0 ls []) := by
  have hx := C.1.1
  have hb := C.1.2.1
  have hown := C.1.2.2.2.1
  have hts := C.1.2.2.2.2
  intro x1 x2 h H locs ls B hl
  rw [fX8_failsFor] at h
  refine lv_aload_n hx hb dX8_failsFor_0 rfl (lv_at hl 0 rfl) ?_
  refine gfX8_failsFor_22 C B 4 rfl rfl dX8_failsFor_1 ?_
  refine lv_iload_n hx hb dX8_failsFor_4 rfl (lv_at hl 2 rfl) ?_
  refine lv_aload_n hx hb dX8_failsFor_5 rfl (lv_at hl 0 rfl) ?_
  refine gfX8_failsFor_9 C B 4 rfl rfl dX8_failsFor_6 ?_
  refine lv_iload_n hx hb dX8_failsFor_9 rfl (lv_at hl 1 rfl) ?_
  obtain ⟨b_1, h⟩ := bnd_some h
  refine k_iald C B 5 0 rfl rfl b_1 dX8_failsFor_10 ?_
  obtain ⟨r_2, g_4, h⟩ := ob_some h
  try dsimp only at h
  refine kc_VI C B (q0 := 0) (ci := 7) (As := [.int x2, .int (te_inputs (Int32.toNatClampNeg x1))]) (rest := []) (w2 := (wd_rs_te a b cI cJ cT rs_low rs_mid rs_high te_inputs te_dues te_count)) (tX7_at (a := a) (b := b) N g_4) gX8_failsFor_X7_at rfl ⟨rfl, rfl⟩ ⟨rfl, hdX7_at⟩ ⟨Nat.le_of_ble_eq_true rfl, Nat.le_of_ble_eq_true rfl⟩ rfl rfl [0, 1, 2, 3] [4, 5, 6] [3, 4, 5, 6, 0, 1, 2] rfl rfl rfl rfl rfl rfl rfl rfl hl.1 rfl (Nat.le_of_ble_eq_true rfl) ⟨Nat.zero_le _, Nat.zero_le _⟩ dX8_failsFor_11 (fun H locs B => ?_)
  refine lv_aload_n hx hb dX8_failsFor_14 rfl (lv_at hl 0 rfl) ?_
  refine gfX8_failsFor_15 C B 4 rfl rfl dX8_failsFor_15 ?_
  refine lv_iload_n hx hb dX8_failsFor_18 rfl (lv_at hl 1 rfl) ?_
  refine k_iald C B 6 0 rfl rfl b_1 dX8_failsFor_19 ?_
  refine lv_icmp_eq (tgt := 27) hx hb dX8_failsFor_20 (by decide) (fun c_3 => ?_) (fun c_3 => ?_)
  · rw [if_pos c_3] at h
    refine lv_iconst (v := 0) hx hb dX8_failsFor_27 (by decide) ?_
    cases h
    exact k_zret C B (by decide) dX8_failsFor_28
  · rw [if_neg c_3] at h
    refine lv_iconst (v := 1) hx hb dX8_failsFor_23 (by decide) ?_
    refine lv_goto (tgt := 28) hx hb dX8_failsFor_24 (by decide) ?_
    cases h
    exact k_zret C B (by decide) dX8_failsFor_28
end
theorem tX8_failsFor {l : Launch} {D : va_G} {Es : (Nat → Nat) × (Nat → Nat)} {a b : Nat → Nat} {cI cJ cT : ClassId} {rs_low : Nat → Int64} {rs_mid : Nat → Int64} {rs_high : Nat → Int64} {te_inputs : Nat → Int32} {te_dues : Nat → Int32} {te_count : Int32} {x1 : Int32} {x2 : Int32} {z_r : Int32} (N : Nat) (h : fX8_failsFor N rs_low rs_mid rs_high te_inputs te_dues x1 x2 = some z_r) : CtI l yX8_failsFor wsX8_failsFor rmX8_failsFor D (tyl cI cJ cT) Es [.ref (a 32), .int x1, .int x2] (wd_rs_te a b cI cJ cT rs_low rs_mid rs_high te_inputs te_dues te_count) z_r (wd_rs_te a b cI cJ cT rs_low rs_mid rs_high te_inputs te_dues te_count) :=
  CtI.of (own := RX8) (cc := cX8_failsFor) (nL := 3) (ret := (some .boolean)) (by decide +kernel) rfl rfl (Nat.le_of_ble_eq_true rfl) rfl (fun p e s m below meth c A ls C B hl => qX8_failsFor_0 C (N := N) x1 x2 h _ _ _ B hl)

abbrev rmX8_failing : Room := { frames := 3, cells := 0, slots := 0, locals := 68 }
theorem hdX8_failing : yX8_failing.cls ≠ "java/lang/invoke/MethodHandle" ∧ yX8_failing.cls ≠ "java/lang/invoke/VarHandle" ∧ (parseMethodDescriptor yX8_failing.desc).map (fun d => d.parameters.length) = some 0 := by decide +kernel
theorem iX8_failing_X8 : ∀ w ∈ wsX80, w ∈ wsX8_failing := by decide +kernel
theorem gfX8_failing_18 {p : Program} {l : Launch} {e : Env} {R : Room} {s : State} {m : MethodId} {args : Array Value} {below : List Frame} {meth : Method} {c : Code} {H : Heap} {locs : List Loc} {cells slots : Nat} {Q : State → Prop} {D : va_G} {A : Nat → Prop} {tys : List (ClassId × FieldType)} {Es : (Nat → Nat) × (Nat → Nat)} {ws : va_W} {pc : Nat} {ls : Array Slot} {rest : List Value} {a : Nat} (C : CT p s m args meth c RX8 cX8_failing 3 (some .int) wsX8_failing D A tys Es) (B : DB D A ws s H locs) (q0 : Nat) {fs : List Value} {v : Value} (he : ws[q0]? = some (a, .inr (8, fs))) (hv : fs[2]? = some v) (hdg : decode cX8_failing pc = .ok (.getfield 18, 3)) (kk : W p l e R s m args below meth c H locs cells slots Q (F0 m (pc + 3) ls (v :: rest))) : W p l e R s m args below meth c H locs cells slots Q (F0 m pc ls (.ref a :: rest)) :=
  k_get (Cn := RX8) (T := TX8) (N := 4) (index := 18) C B iX8_failing_X8 rfl 2 (by decide) (by decide +kernel) q0 he hv hdg kk
section
variable {p : Program} {l : Launch} {e : Env} {s : State} {m : MethodId} {args : Array Value} {below : List Frame} {meth : Method} {c : Code} {D : va_G} {A : Nat → Prop} {Es : (Nat → Nat) × (Nat → Nat)} {a b : Nat → Nat} {cI cJ cT : ClassId}
set_option maxHeartbeats 4000000 in
set_option maxRecDepth 100000 in
theorem qX8_failing_4 (C : CT p s m args meth c RX8 cX8_failing 3 (some .int) wsX8_failing D A (tyl cI cJ cT) Es) {N : Nat} {rs_low : Nat → Int64} {rs_mid : Nat → Int64} {rs_high : Nat → Int64} {te_inputs : Nat → Int32} {te_dues : Nat → Int32} {te_count : Int32} {z_r : Int32} : ∀ (n : Nat) (x1 : Int32) (x2 : Int32), bX8_failing_4 N rs_low rs_mid rs_high te_inputs te_dues te_count n x1 x2 = some z_r → ∀ (H : Heap) (locs : List Loc) (ls : Array Slot), DB D A (wd_rs_te a b cI cJ cT rs_low rs_mid rs_high te_inputs te_dues te_count) s H locs → lv_has ls 3 [(0, .ref (a 32)), (1, .int x1), (2, .int x2)] → W p l e rmX8_failing s m args below meth c H locs 0 0 (ZI below args s D A (tyl cI cJ cT) z_r (wd_rs_te a b cI cJ cT rs_low rs_mid rs_high te_inputs te_dues te_count) 0 0) (F0 m 4 ls []) := by
  have hx := C.1.1
  have hb := C.1.2.1
  have hown := C.1.2.2.2.1
  have hts := C.1.2.2.2.2
  intro n
  induction n with
  | zero => intro x1 x2 h; cases h
  | succ n ih =>
    intro x1 x2 h H locs ls B hl
    rw [bX8_failing_4] at h
    refine lv_iload_n hx hb dX8_failing_4 rfl (lv_at hl 2 rfl) ?_
    refine lv_aload_n hx hb dX8_failing_5 rfl (lv_at hl 0 rfl) ?_
    refine gfX8_failing_18 C B 4 rfl rfl dX8_failing_6 ?_
    refine lv_icmp_ge (tgt := 35) hx hb dX8_failing_9 (by decide) (fun c_1 => ?_) (fun c_1 => ?_)
    · rw [if_pos c_1] at h
      refine lv_iload_n hx hb dX8_failing_35 rfl (lv_at hl 1 rfl) ?_
      cases h
      exact k_iret C B dX8_failing_36
    · rw [if_neg c_1] at h
      refine lv_iload_n hx hb dX8_failing_12 rfl (lv_at hl 1 rfl) ?_
      refine lv_aload_n hx hb dX8_failing_13 rfl (lv_at hl 0 rfl) ?_
      refine lv_iload_n hx hb dX8_failing_14 rfl (lv_at hl 2 rfl) ?_
      refine lv_iconst (v := 0) hx hb dX8_failing_15 (by decide) ?_
      obtain ⟨r_2, g_4, h⟩ := ob_some h
      try dsimp only at h
      refine kc_VI C B (q0 := 4) (ci := 8) (As := [.int x2, .int (0 : Int32)]) (rest := [.int x1]) (w2 := (wd_rs_te a b cI cJ cT rs_low rs_mid rs_high te_inputs te_dues te_count)) (tX8_failsFor (a := a) (b := b) N g_4) gX8_failing_X8_failsFor rfl ⟨rfl, rfl⟩ ⟨rfl, hdX8_failsFor⟩ ⟨Nat.le_of_ble_eq_true rfl, Nat.le_of_ble_eq_true rfl⟩ rfl rfl [0, 1, 2, 3, 4, 5, 6] [] [0, 1, 2, 3, 4, 5, 6] rfl rfl rfl rfl rfl rfl rfl rfl hl.1 rfl (Nat.le_of_ble_eq_true rfl) ⟨Nat.zero_le _, Nat.zero_le _⟩ dX8_failing_16 (fun H locs B => ?_)
      refine lv_if_eq (tgt := 26) hx hb dX8_failing_19 (by decide) (fun c_3 => ?_) (fun c_3 => ?_)
      · rw [if_pos c_3] at h
        refine lv_iconst (v := 0) hx hb dX8_failing_26 (by decide) ?_
        refine lv_iadd hx hb dX8_failing_27 ?_
        refine lv_istore_n (lv' := [(1, .int (x1 + (0 : Int32))), (0, .ref (a 32)), (2, .int x2)]) hx hb dX8_failing_28 rfl hl (by decide) rfl (fun ls hl => ?_)
        refine lv_iinc (v := (x2 + 1)) (lv' := [(2, .int (x2 + 1)), (1, .int (x1 + (0 : Int32))), (0, .ref (a 32))]) hx hb dX8_failing_29 hl (k := 2) rfl rfl (by decide) rfl (fun ls hl => ?_)
        refine lv_goto (tgt := 4) hx hb dX8_failing_32 (by decide) ?_
        exact ih (x1 + (0 : Int32)) (x2 + 1) h H locs ls B (lv_sub hl [2, 1, 0] rfl)
      · rw [if_neg c_3] at h
        refine lv_iconst (v := 1) hx hb dX8_failing_22 (by decide) ?_
        refine lv_goto (tgt := 27) hx hb dX8_failing_23 (by decide) ?_
        refine lv_iadd hx hb dX8_failing_27 ?_
        refine lv_istore_n (lv' := [(1, .int (x1 + (1 : Int32))), (0, .ref (a 32)), (2, .int x2)]) hx hb dX8_failing_28 rfl hl (by decide) rfl (fun ls hl => ?_)
        refine lv_iinc (v := (x2 + 1)) (lv' := [(2, .int (x2 + 1)), (1, .int (x1 + (1 : Int32))), (0, .ref (a 32))]) hx hb dX8_failing_29 hl (k := 2) rfl rfl (by decide) rfl (fun ls hl => ?_)
        refine lv_goto (tgt := 4) hx hb dX8_failing_32 (by decide) ?_
        exact ih (x1 + (1 : Int32)) (x2 + 1) h H locs ls B (lv_sub hl [2, 1, 0] rfl)
set_option maxHeartbeats 4000000 in
set_option maxRecDepth 100000 in
theorem qX8_failing_0 (C : CT p s m args meth c RX8 cX8_failing 3 (some .int) wsX8_failing D A (tyl cI cJ cT) Es) {N : Nat} {rs_low : Nat → Int64} {rs_mid : Nat → Int64} {rs_high : Nat → Int64} {te_inputs : Nat → Int32} {te_dues : Nat → Int32} {te_count : Int32} {z_r : Int32} : fX8_failing N rs_low rs_mid rs_high te_inputs te_dues te_count = some z_r → ∀ (H : Heap) (locs : List Loc) (ls : Array Slot), DB D A (wd_rs_te a b cI cJ cT rs_low rs_mid rs_high te_inputs te_dues te_count) s H locs → lv_has ls 3 [(0, .ref (a 32))] → W p l e rmX8_failing s m args below meth c H locs 0 0 (ZI below args s D A (tyl cI cJ cT) z_r (wd_rs_te a b cI cJ cT rs_low rs_mid rs_high te_inputs te_dues te_count) 0 0) (F0 m 0 ls []) := by
  have hx := C.1.1
  have hb := C.1.2.1
  have hown := C.1.2.2.2.1
  have hts := C.1.2.2.2.2
  intro h H locs ls B hl
  rw [fX8_failing] at h
  refine lv_iconst (v := 0) hx hb dX8_failing_0 (by decide) ?_
  refine lv_istore_n (lv' := [(1, .int (0 : Int32)), (0, .ref (a 32))]) hx hb dX8_failing_1 rfl hl (by decide) rfl (fun ls hl => ?_)
  refine lv_iconst (v := 0) hx hb dX8_failing_2 (by decide) ?_
  refine lv_istore_n (lv' := [(2, .int (0 : Int32)), (1, .int (0 : Int32)), (0, .ref (a 32))]) hx hb dX8_failing_3 rfl hl (by decide) rfl (fun ls hl => ?_)
  exact qX8_failing_4 C N (0 : Int32) (0 : Int32) h H locs ls B (lv_sub hl [2, 1, 0] rfl)
end
theorem tX8_failing {l : Launch} {D : va_G} {Es : (Nat → Nat) × (Nat → Nat)} {a b : Nat → Nat} {cI cJ cT : ClassId} {rs_low : Nat → Int64} {rs_mid : Nat → Int64} {rs_high : Nat → Int64} {te_inputs : Nat → Int32} {te_dues : Nat → Int32} {te_count : Int32} {z_r : Int32} (N : Nat) (h : fX8_failing N rs_low rs_mid rs_high te_inputs te_dues te_count = some z_r) : CtI l yX8_failing wsX8_failing rmX8_failing D (tyl cI cJ cT) Es [.ref (a 32)] (wd_rs_te a b cI cJ cT rs_low rs_mid rs_high te_inputs te_dues te_count) z_r (wd_rs_te a b cI cJ cT rs_low rs_mid rs_high te_inputs te_dues te_count) :=
  CtI.of (own := RX8) (cc := cX8_failing) (nL := 3) (ret := (some .int)) (by decide +kernel) rfl rfl (Nat.le_of_ble_eq_true rfl) rfl (fun p e s m below meth c A ls C B hl => qX8_failing_0 C (N := N) h _ _ _ B hl)

abbrev rmX1_append : Room := { frames := 0, cells := 0, slots := 0, locals := 0 }
theorem hdX1_append : yX1_append.cls ≠ "java/lang/invoke/MethodHandle" ∧ yX1_append.cls ≠ "java/lang/invoke/VarHandle" ∧ (parseMethodDescriptor yX1_append.desc).map (fun d => d.parameters.length) = some 2 := by decide +kernel
theorem iX1_append_X1 : ∀ w ∈ wsX10, w ∈ wsX1_append := by decide +kernel
theorem gfX1_append_21 {p : Program} {l : Launch} {e : Env} {R : Room} {s : State} {m : MethodId} {args : Array Value} {below : List Frame} {meth : Method} {c : Code} {H : Heap} {locs : List Loc} {cells slots : Nat} {Q : State → Prop} {D : va_G} {A : Nat → Prop} {tys : List (ClassId × FieldType)} {Es : (Nat → Nat) × (Nat → Nat)} {ws : va_W} {pc : Nat} {ls : Array Slot} {rest : List Value} {a : Nat} (C : CT p s m args meth c RX1 cX1_append 3 none wsX1_append D A tys Es) (B : DB D A ws s H locs) (q0 : Nat) {fs : List Value} {v : Value} (he : ws[q0]? = some (a, .inr (1, fs))) (hv : fs[3]? = some v) (hdg : decode cX1_append pc = .ok (.getfield 21, 3)) (kk : W p l e R s m args below meth c H locs cells slots Q (F0 m (pc + 3) ls (v :: rest))) : W p l e R s m args below meth c H locs cells slots Q (F0 m pc ls (.ref a :: rest)) :=
  k_get (Cn := RX1) (T := TX1) (N := 5) (index := 21) C B iX1_append_X1 rfl 3 (by decide) (by decide +kernel) q0 he hv hdg kk
theorem gfX1_append_9 {p : Program} {l : Launch} {e : Env} {R : Room} {s : State} {m : MethodId} {args : Array Value} {below : List Frame} {meth : Method} {c : Code} {H : Heap} {locs : List Loc} {cells slots : Nat} {Q : State → Prop} {D : va_G} {A : Nat → Prop} {tys : List (ClassId × FieldType)} {Es : (Nat → Nat) × (Nat → Nat)} {ws : va_W} {pc : Nat} {ls : Array Slot} {rest : List Value} {a : Nat} (C : CT p s m args meth c RX1 cX1_append 3 none wsX1_append D A tys Es) (B : DB D A ws s H locs) (q0 : Nat) {fs : List Value} {v : Value} (he : ws[q0]? = some (a, .inr (1, fs))) (hv : fs[0]? = some v) (hdg : decode cX1_append pc = .ok (.getfield 9, 3)) (kk : W p l e R s m args below meth c H locs cells slots Q (F0 m (pc + 3) ls (v :: rest))) : W p l e R s m args below meth c H locs cells slots Q (F0 m pc ls (.ref a :: rest)) :=
  k_get (Cn := RX1) (T := TX1) (N := 5) (index := 9) C B iX1_append_X1 rfl 0 (by decide) (by decide +kernel) q0 he hv hdg kk
theorem gfX1_append_15 {p : Program} {l : Launch} {e : Env} {R : Room} {s : State} {m : MethodId} {args : Array Value} {below : List Frame} {meth : Method} {c : Code} {H : Heap} {locs : List Loc} {cells slots : Nat} {Q : State → Prop} {D : va_G} {A : Nat → Prop} {tys : List (ClassId × FieldType)} {Es : (Nat → Nat) × (Nat → Nat)} {ws : va_W} {pc : Nat} {ls : Array Slot} {rest : List Value} {a : Nat} (C : CT p s m args meth c RX1 cX1_append 3 none wsX1_append D A tys Es) (B : DB D A ws s H locs) (q0 : Nat) {fs : List Value} {v : Value} (he : ws[q0]? = some (a, .inr (1, fs))) (hv : fs[1]? = some v) (hdg : decode cX1_append pc = .ok (.getfield 15, 3)) (kk : W p l e R s m args below meth c H locs cells slots Q (F0 m (pc + 3) ls (v :: rest))) : W p l e R s m args below meth c H locs cells slots Q (F0 m pc ls (.ref a :: rest)) :=
  k_get (Cn := RX1) (T := TX1) (N := 5) (index := 15) C B iX1_append_X1 rfl 1 (by decide) (by decide +kernel) q0 he hv hdg kk
theorem pfX1_append_21 {p : Program} {l : Launch} {e : Env} {R : Room} {s : State} {m : MethodId} {args : Array Value} {below : List Frame} {meth : Method} {c : Code} {H : Heap} {locs : List Loc} {cells slots : Nat} {Q : State → Prop} {D : va_G} {A : Nat → Prop} {tys : List (ClassId × FieldType)} {Es : (Nat → Nat) × (Nat → Nat)} {ws : va_W} {pc : Nat} {ls : Array Slot} {rest : List Value} {a : Nat} (C : CT p s m args meth c RX1 cX1_append 3 none wsX1_append D A tys Es) (B : DB D A ws s H locs) (q0 : Nat) {fs : List Value} {v : Value} (hn : narrow .int v = v) (hfit : fits .int v = true) (he : ws[q0]? = some (a, .inr (1, fs))) (hl : 3 < fs.length) (hdg : decode cX1_append pc = .ok (.putfield 21, 3)) (kk : ∀ (H1 : Heap) (locs1 : List Loc), DB D A (ws.set q0 (a, .inr (1, fs.set 3 v))) s H1 locs1 → W p l e R s m args below meth c H1 locs1 cells slots Q (F0 m (pc + 3) ls rest)) : W p l e R s m args below meth c H locs cells slots Q (F0 m pc ls (v :: .ref a :: rest)) :=
  k_put (Cn := RX1) (T := TX1) (N := 5) (index := 21) C B iX1_append_X1 rfl tyX1 tyX1_ok nmX1 3 (by decide) (by decide +kernel) rfl q0 (by decide +kernel) hn hfit he hl hdg kk
section
variable {p : Program} {l : Launch} {e : Env} {s : State} {m : MethodId} {args : Array Value} {below : List Frame} {meth : Method} {c : Code} {D : va_G} {A : Nat → Prop} {Es : (Nat → Nat) × (Nat → Nat)} {a b : Nat → Nat} {cI cJ cT : ClassId}
set_option maxHeartbeats 4000000 in
set_option maxRecDepth 100000 in
theorem qX1_append_0 (C : CT p s m args meth c RX1 cX1_append 3 none wsX1_append D A (tyl cI cJ cT) Es) {N : Nat} {ch_felt : Nat → Int32} {z_ch_nodes : Nat → Int32} {z_ch_signs : Nat → Int32} {z_ch_count : Int32} : ∀ (x1 : Int32) (x2 : Int32) (ch_nodes : Nat → Int32) (ch_signs : Nat → Int32) (ch_count : Int32), fX1_append N x1 x2 ch_nodes ch_signs ch_count = some (z_ch_nodes, z_ch_signs, z_ch_count) → ∀ (H : Heap) (locs : List Loc) (ls : Array Slot), DB D A (wd_ch a b cI cJ cT ch_nodes ch_signs ch_felt ch_count) s H locs → lv_has ls 3 [(0, .ref (a 28)), (1, .int x1), (2, .int x2)] → W p l e rmX1_append s m args below meth c H locs 0 0 (ZV below args s D A (tyl cI cJ cT) (wd_ch a b cI cJ cT z_ch_nodes z_ch_signs ch_felt z_ch_count) 0 0) (F0 m 0 ls []) := by
  have hx := C.1.1
  have hb := C.1.2.1
  have hown := C.1.2.2.2.1
  have hts := C.1.2.2.2.2
  intro x1 x2 ch_nodes ch_signs ch_count h H locs ls B hl
  rw [fX1_append] at h
  refine lv_aload_n hx hb dX1_append_0 rfl (lv_at hl 0 rfl) ?_
  refine gfX1_append_21 C B 0 rfl rfl dX1_append_1 ?_
  refine lv_bipush (v := 96) hx hb dX1_append_4 (by decide) ?_
  refine lv_icmp_ge (tgt := 39) hx hb dX1_append_6 (by decide) (fun c_1 => ?_) (fun c_1 => ?_)
  · rw [if_pos c_1] at h
    cases h
    exact k_vret C B dX1_append_39
  · rw [if_neg c_1] at h
    refine lv_aload_n hx hb dX1_append_9 rfl (lv_at hl 0 rfl) ?_
    refine gfX1_append_9 C B 0 rfl rfl dX1_append_10 ?_
    refine lv_aload_n hx hb dX1_append_13 rfl (lv_at hl 0 rfl) ?_
    refine gfX1_append_21 C B 0 rfl rfl dX1_append_14 ?_
    refine lv_iload_n hx hb dX1_append_17 rfl (lv_at hl 1 rfl) ?_
    obtain ⟨b_2, h⟩ := bnd_some h
    refine k_iast C B 1 0 rfl rfl b_2 dX1_append_18 (fun H locs B => ?_)
    have B : DB D A (wd_ch a b cI cJ cT (upd ch_nodes (Int32.toNatClampNeg ch_count) x1) ch_signs ch_felt ch_count) s H locs := B
    refine lv_aload_n hx hb dX1_append_19 rfl (lv_at hl 0 rfl) ?_
    refine gfX1_append_15 C B 0 rfl rfl dX1_append_20 ?_
    refine lv_aload_n hx hb dX1_append_23 rfl (lv_at hl 0 rfl) ?_
    refine gfX1_append_21 C B 0 rfl rfl dX1_append_24 ?_
    refine lv_iload_n hx hb dX1_append_27 rfl (lv_at hl 2 rfl) ?_
    refine k_iast C B 2 0 rfl rfl b_2 dX1_append_28 (fun H locs B => ?_)
    have B : DB D A (wd_ch a b cI cJ cT (upd ch_nodes (Int32.toNatClampNeg ch_count) x1) (upd ch_signs (Int32.toNatClampNeg ch_count) x2) ch_felt ch_count) s H locs := B
    refine lv_aload_n hx hb dX1_append_29 rfl (lv_at hl 0 rfl) ?_
    refine lv_dup hx hb dX1_append_30 rfl ?_
    refine gfX1_append_21 C B 0 rfl rfl dX1_append_31 ?_
    refine lv_iconst (v := 1) hx hb dX1_append_34 (by decide) ?_
    refine lv_iadd hx hb dX1_append_35 ?_
    refine pfX1_append_21 C B 0 rfl (by rfl) rfl (Nat.le_of_ble_eq_true rfl) dX1_append_36 (fun H locs B => ?_)
    have B : DB D A (wd_ch a b cI cJ cT (upd ch_nodes (Int32.toNatClampNeg ch_count) x1) (upd ch_signs (Int32.toNatClampNeg ch_count) x2) ch_felt (ch_count + (1 : Int32))) s H locs := B
    cases h
    exact k_vret C B dX1_append_39
end
theorem tX1_append {l : Launch} {D : va_G} {Es : (Nat → Nat) × (Nat → Nat)} {a b : Nat → Nat} {cI cJ cT : ClassId} {ch_nodes : Nat → Int32} {ch_signs : Nat → Int32} {ch_felt : Nat → Int32} {ch_count : Int32} {x1 : Int32} {x2 : Int32} {z_ch_nodes : Nat → Int32} {z_ch_signs : Nat → Int32} {z_ch_count : Int32} (N : Nat) (h : fX1_append N x1 x2 ch_nodes ch_signs ch_count = some (z_ch_nodes, z_ch_signs, z_ch_count)) : CtV l yX1_append wsX1_append rmX1_append D (tyl cI cJ cT) Es [.ref (a 28), .int x1, .int x2] (wd_ch a b cI cJ cT ch_nodes ch_signs ch_felt ch_count) (wd_ch a b cI cJ cT z_ch_nodes z_ch_signs ch_felt z_ch_count) :=
  CtV.of (own := RX1) (cc := cX1_append) (nL := 3) (ret := none) (by decide +kernel) rfl rfl (Nat.le_of_ble_eq_true rfl) rfl (fun p e s m below meth c A ls C B hl => qX1_append_0 C (N := N) x1 x2 ch_nodes ch_signs ch_count h _ _ _ B hl)

abbrev rmX1_listOfNode : Room := { frames := 5, cells := 0, slots := 0, locals := 111 }
theorem hdX1_listOfNode : yX1_listOfNode.cls ≠ "java/lang/invoke/MethodHandle" ∧ yX1_listOfNode.cls ≠ "java/lang/invoke/VarHandle" ∧ (parseMethodDescriptor yX1_listOfNode.desc).map (fun d => d.parameters.length) = some 2 := by decide +kernel
section
variable {p : Program} {l : Launch} {e : Env} {s : State} {m : MethodId} {args : Array Value} {below : List Frame} {meth : Method} {c : Code} {D : va_G} {A : Nat → Prop} {Es : (Nat → Nat) × (Nat → Nat)} {a b : Nat → Nat} {cI cJ cT : ClassId}
set_option maxHeartbeats 4000000 in
set_option maxRecDepth 100000 in
theorem qX1_listOfNode_52 (C : CT p s m args meth c RX1 cX1_listOfNode 5 none wsX1_listOfNode D A (tyl cI cJ cT) Es) {N : Nat} {ch_felt : Nat → Int32} {z_ch_nodes : Nat → Int32} {z_ch_signs : Nat → Int32} {z_ch_count : Int32} : ∀ (n : Nat) (x1 : Int32) (x2 : Int32) (x3 : Nat) (x4 : Int32) (ch_nodes : Nat → Int32) (ch_signs : Nat → Int32) (ch_count : Int32), bX1_listOfNode_52 N n x1 x2 x3 x4 ch_nodes ch_signs ch_count = some (z_ch_nodes, z_ch_signs, z_ch_count) → ∀ (H : Heap) (locs : List Loc) (ls : Array Slot), DB D A (wd_ch a b cI cJ cT ch_nodes ch_signs ch_felt ch_count) s H locs → lv_has ls 5 [(0, .ref (a 28)), (1, .int x1), (2, .int x2), (3, .ref (Es.1 x3)), (4, .int x4)] → W p l e rmX1_listOfNode s m args below meth c H locs 0 0 (ZV below args s D A (tyl cI cJ cT) (wd_ch a b cI cJ cT z_ch_nodes z_ch_signs ch_felt z_ch_count) 0 0) (F0 m 52 ls []) := by
  have hx := C.1.1
  have hb := C.1.2.1
  have hown := C.1.2.2.2.1
  have hts := C.1.2.2.2.2
  intro n
  induction n with
  | zero => intro x1 x2 x3 x4 ch_nodes ch_signs ch_count h; cases h
  | succ n ih =>
    intro x1 x2 x3 x4 ch_nodes ch_signs ch_count h H locs ls B hl
    rw [bX1_listOfNode_52] at h
    refine lv_iload hx hb dX1_listOfNode_52 (lv_at hl 4 rfl) ?_
    refine lv_aload_n hx hb dX1_listOfNode_54 rfl (lv_at hl 3 rfl) ?_
    obtain ⟨s_15, h⟩ := sg_some h
    obtain ⟨r_1, g_14, h⟩ := ob_some h
    try dsimp only at h
    refine kc_TI C B (As := []) (rest := [.int x4]) (w2 := (wd_ch a b cI cJ cT ch_nodes ch_signs ch_felt ch_count)) (tJ0_length_8abf5 N g_14) gX1_listOfNode_J0_length_8abf5 rfl ⟨rfl, rfl⟩ ⟨rfl, hdJ0_length_8abf5⟩ ⟨Nat.le_of_ble_eq_true rfl, Nat.le_of_ble_eq_true rfl⟩ s_15 [] [0, 1, 2, 3] [0, 1, 2, 3] rfl rfl rfl rfl rfl rfl rfl rfl hl.1 rfl (Nat.le_of_ble_eq_true rfl) ⟨Nat.zero_le _, Nat.zero_le _⟩ dX1_listOfNode_55 (fun H locs B => ?_)
    refine lv_icmp_ge (tgt := 88) hx hb dX1_listOfNode_58 (by decide) (fun c_2 => ?_) (fun c_2 => ?_)
    · rw [if_pos c_2] at h
      cases h
      exact k_vret C B dX1_listOfNode_88
    · rw [if_neg c_2] at h
      refine lv_aload_n hx hb dX1_listOfNode_61 rfl (lv_at hl 3 rfl) ?_
      refine lv_iload hx hb dX1_listOfNode_62 (lv_at hl 4 rfl) ?_
      obtain ⟨s_13, h⟩ := sg_some h
      obtain ⟨r_3, g_12, h⟩ := ob_some h
      try dsimp only at h
      refine kc_TI C B (As := [.int x4]) (rest := []) (w2 := (wd_ch a b cI cJ cT ch_nodes ch_signs ch_felt ch_count)) (tJ0_charAt_5068e N g_12) gX1_listOfNode_J0_charAt_5068e rfl ⟨rfl, rfl⟩ ⟨rfl, hdJ0_charAt_5068e⟩ ⟨Nat.le_of_ble_eq_true rfl, Nat.le_of_ble_eq_true rfl⟩ s_13 [] [0, 1, 2, 3] [0, 1, 2, 3] rfl rfl rfl rfl rfl rfl rfl rfl hl.1 rfl (Nat.le_of_ble_eq_true rfl) ⟨Nat.zero_le _, Nat.zero_le _⟩ dX1_listOfNode_64 (fun H locs B => ?_)
      refine lv_iload_n hx hb dX1_listOfNode_67 rfl (lv_at hl 2 rfl) ?_
      refine lv_icmp_eq (tgt := 82) hx hb dX1_listOfNode_68 (by decide) (fun c_4 => ?_) (fun c_4 => ?_)
      · rw [if_pos c_4] at h
        refine lv_iinc (v := (x4 + 1)) (lv' := [(4, .int (x4 + 1)), (0, .ref (a 28)), (1, .int x1), (2, .int x2), (3, .ref (Es.1 x3))]) hx hb dX1_listOfNode_82 hl (k := 4) rfl rfl (by decide) rfl (fun ls hl => ?_)
        refine lv_goto (tgt := 52) hx hb dX1_listOfNode_85 (by decide) ?_
        exact ih x1 x2 x3 (x4 + 1) ch_nodes ch_signs ch_count h H locs ls B (lv_sub hl [1, 2, 3, 4, 0] rfl)
      · rw [if_neg c_4] at h
        refine lv_aload_n hx hb dX1_listOfNode_71 rfl (lv_at hl 0 rfl) ?_
        refine lv_iload_n hx hb dX1_listOfNode_72 rfl (lv_at hl 1 rfl) ?_
        refine lv_aload_n hx hb dX1_listOfNode_73 rfl (lv_at hl 3 rfl) ?_
        refine lv_iload hx hb dX1_listOfNode_74 (lv_at hl 4 rfl) ?_
        obtain ⟨s_11, h⟩ := sg_some h
        obtain ⟨r_5, g_10, h⟩ := ob_some h
        try dsimp only at h
        refine kc_TI C B (As := [.int x4]) (rest := [.int x1, .ref (a 28)]) (w2 := (wd_ch a b cI cJ cT ch_nodes ch_signs ch_felt ch_count)) (tJ0_charAt_5068e N g_10) gX1_listOfNode_J0_charAt_5068e rfl ⟨rfl, rfl⟩ ⟨rfl, hdJ0_charAt_5068e⟩ ⟨Nat.le_of_ble_eq_true rfl, Nat.le_of_ble_eq_true rfl⟩ s_11 [] [0, 1, 2, 3] [0, 1, 2, 3] rfl rfl rfl rfl rfl rfl rfl rfl hl.1 rfl (Nat.le_of_ble_eq_true rfl) ⟨Nat.zero_le _, Nat.zero_le _⟩ dX1_listOfNode_76 (fun H locs B => ?_)
        obtain ⟨⟨ch_nodes_6, ch_signs_7, ch_count_8⟩, g_9, h⟩ := ob_some h
        try dsimp only at h
        refine kc_VV C B (q0 := 0) (ci := 1) (As := [.int x1, .int r_5]) (rest := []) (w2 := (wd_ch a b cI cJ cT ch_nodes_6 ch_signs_7 ch_felt ch_count_8)) (tX1_append (a := a) (b := b) N g_9) gX1_listOfNode_X1_append rfl ⟨rfl, rfl⟩ ⟨rfl, hdX1_append⟩ ⟨Nat.le_of_ble_eq_true rfl, Nat.le_of_ble_eq_true rfl⟩ rfl rfl [0, 1, 2, 3] [] [0, 1, 2, 3] rfl rfl rfl rfl rfl rfl rfl rfl hl.1 rfl (Nat.le_of_ble_eq_true rfl) ⟨Nat.zero_le _, Nat.zero_le _⟩ dX1_listOfNode_79 (fun H locs B => ?_)
        refine lv_iinc (v := (x4 + 1)) (lv' := [(4, .int (x4 + 1)), (0, .ref (a 28)), (1, .int x1), (2, .int x2), (3, .ref (Es.1 x3))]) hx hb dX1_listOfNode_82 hl (k := 4) rfl rfl (by decide) rfl (fun ls hl => ?_)
        refine lv_goto (tgt := 52) hx hb dX1_listOfNode_85 (by decide) ?_
        exact ih x1 x2 x3 (x4 + 1) ch_nodes_6 ch_signs_7 ch_count_8 h H locs ls B (lv_sub hl [1, 2, 3, 4, 0] rfl)
set_option maxHeartbeats 4000000 in
set_option maxRecDepth 100000 in
theorem qX1_listOfNode_0 (C : CT p s m args meth c RX1 cX1_listOfNode 5 none wsX1_listOfNode D A (tyl cI cJ cT) Es) {N : Nat} {ch_felt : Nat → Int32} {z_ch_nodes : Nat → Int32} {z_ch_signs : Nat → Int32} {z_ch_count : Int32} : ∀ (x1 : Int32) (x2 : Int32) (ch_nodes : Nat → Int32) (ch_signs : Nat → Int32) (ch_count : Int32), fX1_listOfNode N x1 x2 ch_nodes ch_signs ch_count = some (z_ch_nodes, z_ch_signs, z_ch_count) → ∀ (H : Heap) (locs : List Loc) (ls : Array Slot), DB D A (wd_ch a b cI cJ cT ch_nodes ch_signs ch_felt ch_count) s H locs → lv_has ls 5 [(0, .ref (a 28)), (1, .int x1), (2, .int x2)] → W p l e rmX1_listOfNode s m args below meth c H locs 0 0 (ZV below args s D A (tyl cI cJ cT) (wd_ch a b cI cJ cT z_ch_nodes z_ch_signs ch_felt z_ch_count) 0 0) (F0 m 0 ls []) := by
  have hx := C.1.1
  have hb := C.1.2.1
  have hown := C.1.2.2.2.1
  have hts := C.1.2.2.2.2
  intro x1 x2 ch_nodes ch_signs ch_count h H locs ls B hl
  rw [fX1_listOfNode] at h
  refine lv_iload_n hx hb dX1_listOfNode_0 rfl (lv_at hl 2 rfl) ?_
  obtain ⟨r_1, g_13, h⟩ := ob_some h
  try dsimp only at h
  refine kc_SI C B (As := [.int x2]) (rest := []) (w2 := (wd_ch a b cI cJ cT ch_nodes ch_signs ch_felt ch_count)) (tX9_isNumber N g_13) gX1_listOfNode_X9_isNumber rfl ⟨rfl, rfl⟩ hdX9_isNumber ⟨Nat.le_of_ble_eq_true rfl, Nat.le_of_ble_eq_true rfl⟩ [] [0, 1, 2, 3] [0, 1, 2, 3] rfl rfl rfl rfl rfl rfl rfl rfl hl.1 rfl (Nat.le_of_ble_eq_true rfl) ⟨Nat.zero_le _, Nat.zero_le _⟩ dX1_listOfNode_1 (fun H locs B => ?_)
  refine lv_if_eq (tgt := 44) hx hb dX1_listOfNode_4 (by decide) (fun c_2 => ?_) (fun c_2 => ?_)
  · rw [if_pos c_2] at h
    refine lv_iload_n hx hb dX1_listOfNode_44 rfl (lv_at hl 2 rfl) ?_
    obtain ⟨r_3, g_4, h⟩ := ob_some h
    try dsimp only at h
    refine kc_SA C B (As := [.int x2]) (rest := []) (w2 := (wd_ch a b cI cJ cT ch_nodes ch_signs ch_felt ch_count)) (tX1_kindOf N g_4) gX1_listOfNode_X1_kindOf rfl ⟨rfl, rfl⟩ hdX1_kindOf ⟨Nat.le_of_ble_eq_true rfl, Nat.le_of_ble_eq_true rfl⟩ [] [0, 1, 2, 3] [0, 1, 2, 3] rfl rfl rfl rfl rfl rfl rfl rfl hl.1 rfl (Nat.le_of_ble_eq_true rfl) ⟨Nat.zero_le _, Nat.zero_le _⟩ dX1_listOfNode_45 (fun H locs B => ?_)
    refine lv_astore_n (lv' := [(3, .ref (Es.1 r_3)), (0, .ref (a 28)), (1, .int x1), (2, .int x2)]) hx hb dX1_listOfNode_48 rfl hl (by decide) rfl (fun ls hl => ?_)
    refine lv_iconst (v := 0) hx hb dX1_listOfNode_49 (by decide) ?_
    refine lv_istore (lv' := [(4, .int (0 : Int32)), (3, .ref (Es.1 r_3)), (0, .ref (a 28)), (1, .int x1), (2, .int x2)]) hx hb dX1_listOfNode_50 hl (by decide) rfl (fun ls hl => ?_)
    exact qX1_listOfNode_52 C N x1 x2 r_3 (0 : Int32) ch_nodes ch_signs ch_count h H locs ls B (lv_sub hl [2, 3, 4, 1, 0] rfl)
  · rw [if_neg c_2] at h
    refine lv_iload_n hx hb dX1_listOfNode_7 rfl (lv_at hl 2 rfl) ?_
    refine lv_bipush (v := 48) hx hb dX1_listOfNode_8 (by decide) ?_
    refine lv_isub hx hb dX1_listOfNode_10 ?_
    refine lv_istore_n (lv' := [(3, .int (x2 - (48 : Int32))), (0, .ref (a 28)), (1, .int x1), (2, .int x2)]) hx hb dX1_listOfNode_11 rfl hl (by decide) rfl (fun ls hl => ?_)
    refine lv_aload_n hx hb dX1_listOfNode_12 rfl (lv_at hl 1 rfl) ?_
    refine lv_iload_n hx hb dX1_listOfNode_13 rfl (lv_at hl 2 rfl) ?_
    refine lv_bipush (v := 48) hx hb dX1_listOfNode_14 (by decide) ?_
    refine lv_iload_n hx hb dX1_listOfNode_16 rfl (lv_at hl 0 rfl) ?_
    refine lv_iconst (v := 1) hx hb dX1_listOfNode_17 (by decide) ?_
    refine lv_iadd hx hb dX1_listOfNode_18 ?_
    refine lv_bipush (v := 8) hx hb dX1_listOfNode_19 (by decide) ?_
    refine lv_irem hx hb dX1_listOfNode_21 (by decide) ?_
    refine lv_iadd hx hb dX1_listOfNode_22 ?_
    obtain ⟨⟨ch_nodes_5, ch_signs_6, ch_count_7⟩, g_12, h⟩ := ob_some h
    try dsimp only at h
    refine kc_VV C B (q0 := 0) (ci := 1) (As := [.int x1, .int ((48 : Int32) + (((x2 - (48 : Int32)) + (1 : Int32)) - ((x2 - (48 : Int32)) + (1 : Int32)) / (8 : Int32) * (8 : Int32)))]) (rest := []) (w2 := (wd_ch a b cI cJ cT ch_nodes_5 ch_signs_6 ch_felt ch_count_7)) (tX1_append (a := a) (b := b) N g_12) gX1_listOfNode_X1_append rfl ⟨rfl, rfl⟩ ⟨rfl, hdX1_append⟩ ⟨Nat.le_of_ble_eq_true rfl, Nat.le_of_ble_eq_true rfl⟩ rfl rfl [0, 1, 2, 3] [] [0, 1, 2, 3] rfl rfl rfl rfl rfl rfl rfl rfl hl.1 rfl (Nat.le_of_ble_eq_true rfl) ⟨Nat.zero_le _, Nat.zero_le _⟩ dX1_listOfNode_23 (fun H locs B => ?_)
    refine lv_aload_n hx hb dX1_listOfNode_26 rfl (lv_at hl 1 rfl) ?_
    refine lv_iload_n hx hb dX1_listOfNode_27 rfl (lv_at hl 2 rfl) ?_
    refine lv_bipush (v := 48) hx hb dX1_listOfNode_28 (by decide) ?_
    refine lv_iload_n hx hb dX1_listOfNode_30 rfl (lv_at hl 0 rfl) ?_
    refine lv_bipush (v := 8) hx hb dX1_listOfNode_31 (by decide) ?_
    refine lv_iadd hx hb dX1_listOfNode_33 ?_
    refine lv_iconst (v := 1) hx hb dX1_listOfNode_34 (by decide) ?_
    refine lv_isub hx hb dX1_listOfNode_35 ?_
    refine lv_bipush (v := 8) hx hb dX1_listOfNode_36 (by decide) ?_
    refine lv_irem hx hb dX1_listOfNode_38 (by decide) ?_
    refine lv_iadd hx hb dX1_listOfNode_39 ?_
    obtain ⟨⟨ch_nodes_8, ch_signs_9, ch_count_10⟩, g_11, h⟩ := ob_some h
    try dsimp only at h
    refine kc_VV C B (q0 := 0) (ci := 1) (As := [.int x1, .int ((48 : Int32) + ((((x2 - (48 : Int32)) + (8 : Int32)) - (1 : Int32)) - (((x2 - (48 : Int32)) + (8 : Int32)) - (1 : Int32)) / (8 : Int32) * (8 : Int32)))]) (rest := []) (w2 := (wd_ch a b cI cJ cT ch_nodes_8 ch_signs_9 ch_felt ch_count_10)) (tX1_append (a := a) (b := b) N g_11) gX1_listOfNode_X1_append rfl ⟨rfl, rfl⟩ ⟨rfl, hdX1_append⟩ ⟨Nat.le_of_ble_eq_true rfl, Nat.le_of_ble_eq_true rfl⟩ rfl rfl [0, 1, 2, 3] [] [0, 1, 2, 3] rfl rfl rfl rfl rfl rfl rfl rfl hl.1 rfl (Nat.le_of_ble_eq_true rfl) ⟨Nat.zero_le _, Nat.zero_le _⟩ dX1_listOfNode_40 (fun H locs B => ?_)
    cases h
    exact k_vret C B dX1_listOfNode_43
end
theorem tX1_listOfNode {l : Launch} {D : va_G} {Es : (Nat → Nat) × (Nat → Nat)} {a b : Nat → Nat} {cI cJ cT : ClassId} {ch_nodes : Nat → Int32} {ch_signs : Nat → Int32} {ch_felt : Nat → Int32} {ch_count : Int32} {x1 : Int32} {x2 : Int32} {z_ch_nodes : Nat → Int32} {z_ch_signs : Nat → Int32} {z_ch_count : Int32} (N : Nat) (h : fX1_listOfNode N x1 x2 ch_nodes ch_signs ch_count = some (z_ch_nodes, z_ch_signs, z_ch_count)) : CtV l yX1_listOfNode wsX1_listOfNode rmX1_listOfNode D (tyl cI cJ cT) Es [.ref (a 28), .int x1, .int x2] (wd_ch a b cI cJ cT ch_nodes ch_signs ch_felt ch_count) (wd_ch a b cI cJ cT z_ch_nodes z_ch_signs ch_felt z_ch_count) :=
  CtV.of (own := RX1) (cc := cX1_listOfNode) (nL := 5) (ret := none) (by decide +kernel) rfl rfl (Nat.le_of_ble_eq_true rfl) rfl (fun p e s m below meth c A ls C B hl => qX1_listOfNode_0 C (N := N) x1 x2 ch_nodes ch_signs ch_count h _ _ _ B hl)

abbrev rmX7_workOutChanged : Room := { frames := 4, cells := 0, slots := 0, locals := 106 }
theorem hdX7_workOutChanged : yX7_workOutChanged.cls ≠ "java/lang/invoke/MethodHandle" ∧ yX7_workOutChanged.cls ≠ "java/lang/invoke/VarHandle" ∧ (parseMethodDescriptor yX7_workOutChanged.desc).map (fun d => d.parameters.length) = some 4 := by decide +kernel
theorem iX7_workOutChanged_X7 : ∀ w ∈ wsX70, w ∈ wsX7_workOutChanged := by decide +kernel
theorem gfX7_workOutChanged_21 {p : Program} {l : Launch} {e : Env} {R : Room} {s : State} {m : MethodId} {args : Array Value} {below : List Frame} {meth : Method} {c : Code} {H : Heap} {locs : List Loc} {cells slots : Nat} {Q : State → Prop} {D : va_G} {A : Nat → Prop} {tys : List (ClassId × FieldType)} {Es : (Nat → Nat) × (Nat → Nat)} {ws : va_W} {pc : Nat} {ls : Array Slot} {rest : List Value} {a : Nat} (C : CT p s m args meth c RX7 cX7_workOutChanged 7 none wsX7_workOutChanged D A tys Es) (B : DB D A ws s H locs) (q0 : Nat) {fs : List Value} {v : Value} (he : ws[q0]? = some (a, .inr (7, fs))) (hv : fs[3]? = some v) (hdg : decode cX7_workOutChanged pc = .ok (.getfield 21, 3)) (kk : W p l e R s m args below meth c H locs cells slots Q (F0 m (pc + 3) ls (v :: rest))) : W p l e R s m args below meth c H locs cells slots Q (F0 m pc ls (.ref a :: rest)) :=
  k_get (Cn := RX7) (T := TX7) (N := 4) (index := 21) C B iX7_workOutChanged_X7 rfl 3 (by decide) (by decide +kernel) q0 he hv hdg kk
theorem gfX7_workOutChanged_11 {p : Program} {l : Launch} {e : Env} {R : Room} {s : State} {m : MethodId} {args : Array Value} {below : List Frame} {meth : Method} {c : Code} {H : Heap} {locs : List Loc} {cells slots : Nat} {Q : State → Prop} {D : va_G} {A : Nat → Prop} {tys : List (ClassId × FieldType)} {Es : (Nat → Nat) × (Nat → Nat)} {ws : va_W} {pc : Nat} {ls : Array Slot} {rest : List Value} {a : Nat} (C : CT p s m args meth c RX7 cX7_workOutChanged 7 none wsX7_workOutChanged D A tys Es) (B : DB D A ws s H locs) (q0 : Nat) {fs : List Value} {v : Value} (he : ws[q0]? = some (a, .inr (7, fs))) (hv : fs[0]? = some v) (hdg : decode cX7_workOutChanged pc = .ok (.getfield 11, 3)) (kk : W p l e R s m args below meth c H locs cells slots Q (F0 m (pc + 3) ls (v :: rest))) : W p l e R s m args below meth c H locs cells slots Q (F0 m pc ls (.ref a :: rest)) :=
  k_get (Cn := RX7) (T := TX7) (N := 4) (index := 11) C B iX7_workOutChanged_X7 rfl 0 (by decide) (by decide +kernel) q0 he hv hdg kk
theorem iX7_workOutChanged_X10 : ∀ w ∈ wsX100, w ∈ wsX7_workOutChanged := by decide +kernel
theorem gfX7_workOutChanged_35 {p : Program} {l : Launch} {e : Env} {R : Room} {s : State} {m : MethodId} {args : Array Value} {below : List Frame} {meth : Method} {c : Code} {H : Heap} {locs : List Loc} {cells slots : Nat} {Q : State → Prop} {D : va_G} {A : Nat → Prop} {tys : List (ClassId × FieldType)} {Es : (Nat → Nat) × (Nat → Nat)} {ws : va_W} {pc : Nat} {ls : Array Slot} {rest : List Value} {a : Nat} (C : CT p s m args meth c RX7 cX7_workOutChanged 7 none wsX7_workOutChanged D A tys Es) (B : DB D A ws s H locs) (q0 : Nat) {fs : List Value} {v : Value} (he : ws[q0]? = some (a, .inr (10, fs))) (hv : fs[0]? = some v) (hdg : decode cX7_workOutChanged pc = .ok (.getfield 35, 3)) (kk : W p l e R s m args below meth c H locs cells slots Q (F0 m (pc + 3) ls (v :: rest))) : W p l e R s m args below meth c H locs cells slots Q (F0 m pc ls (.ref a :: rest)) :=
  k_get (Cn := RX10) (T := TX10) (N := 4) (index := 35) C B iX7_workOutChanged_X10 rfl 0 (by decide) (by decide +kernel) q0 he hv hdg kk
theorem gfX7_workOutChanged_15 {p : Program} {l : Launch} {e : Env} {R : Room} {s : State} {m : MethodId} {args : Array Value} {below : List Frame} {meth : Method} {c : Code} {H : Heap} {locs : List Loc} {cells slots : Nat} {Q : State → Prop} {D : va_G} {A : Nat → Prop} {tys : List (ClassId × FieldType)} {Es : (Nat → Nat) × (Nat → Nat)} {ws : va_W} {pc : Nat} {ls : Array Slot} {rest : List Value} {a : Nat} (C : CT p s m args meth c RX7 cX7_workOutChanged 7 none wsX7_workOutChanged D A tys Es) (B : DB D A ws s H locs) (q0 : Nat) {fs : List Value} {v : Value} (he : ws[q0]? = some (a, .inr (7, fs))) (hv : fs[1]? = some v) (hdg : decode cX7_workOutChanged pc = .ok (.getfield 15, 3)) (kk : W p l e R s m args below meth c H locs cells slots Q (F0 m (pc + 3) ls (v :: rest))) : W p l e R s m args below meth c H locs cells slots Q (F0 m pc ls (.ref a :: rest)) :=
  k_get (Cn := RX7) (T := TX7) (N := 4) (index := 15) C B iX7_workOutChanged_X7 rfl 1 (by decide) (by decide +kernel) q0 he hv hdg kk
theorem gfX7_workOutChanged_36 {p : Program} {l : Launch} {e : Env} {R : Room} {s : State} {m : MethodId} {args : Array Value} {below : List Frame} {meth : Method} {c : Code} {H : Heap} {locs : List Loc} {cells slots : Nat} {Q : State → Prop} {D : va_G} {A : Nat → Prop} {tys : List (ClassId × FieldType)} {Es : (Nat → Nat) × (Nat → Nat)} {ws : va_W} {pc : Nat} {ls : Array Slot} {rest : List Value} {a : Nat} (C : CT p s m args meth c RX7 cX7_workOutChanged 7 none wsX7_workOutChanged D A tys Es) (B : DB D A ws s H locs) (q0 : Nat) {fs : List Value} {v : Value} (he : ws[q0]? = some (a, .inr (10, fs))) (hv : fs[1]? = some v) (hdg : decode cX7_workOutChanged pc = .ok (.getfield 36, 3)) (kk : W p l e R s m args below meth c H locs cells slots Q (F0 m (pc + 3) ls (v :: rest))) : W p l e R s m args below meth c H locs cells slots Q (F0 m pc ls (.ref a :: rest)) :=
  k_get (Cn := RX10) (T := TX10) (N := 4) (index := 36) C B iX7_workOutChanged_X10 rfl 1 (by decide) (by decide +kernel) q0 he hv hdg kk
theorem gfX7_workOutChanged_18 {p : Program} {l : Launch} {e : Env} {R : Room} {s : State} {m : MethodId} {args : Array Value} {below : List Frame} {meth : Method} {c : Code} {H : Heap} {locs : List Loc} {cells slots : Nat} {Q : State → Prop} {D : va_G} {A : Nat → Prop} {tys : List (ClassId × FieldType)} {Es : (Nat → Nat) × (Nat → Nat)} {ws : va_W} {pc : Nat} {ls : Array Slot} {rest : List Value} {a : Nat} (C : CT p s m args meth c RX7 cX7_workOutChanged 7 none wsX7_workOutChanged D A tys Es) (B : DB D A ws s H locs) (q0 : Nat) {fs : List Value} {v : Value} (he : ws[q0]? = some (a, .inr (7, fs))) (hv : fs[2]? = some v) (hdg : decode cX7_workOutChanged pc = .ok (.getfield 18, 3)) (kk : W p l e R s m args below meth c H locs cells slots Q (F0 m (pc + 3) ls (v :: rest))) : W p l e R s m args below meth c H locs cells slots Q (F0 m pc ls (.ref a :: rest)) :=
  k_get (Cn := RX7) (T := TX7) (N := 4) (index := 18) C B iX7_workOutChanged_X7 rfl 2 (by decide) (by decide +kernel) q0 he hv hdg kk
theorem gfX7_workOutChanged_37 {p : Program} {l : Launch} {e : Env} {R : Room} {s : State} {m : MethodId} {args : Array Value} {below : List Frame} {meth : Method} {c : Code} {H : Heap} {locs : List Loc} {cells slots : Nat} {Q : State → Prop} {D : va_G} {A : Nat → Prop} {tys : List (ClassId × FieldType)} {Es : (Nat → Nat) × (Nat → Nat)} {ws : va_W} {pc : Nat} {ls : Array Slot} {rest : List Value} {a : Nat} (C : CT p s m args meth c RX7 cX7_workOutChanged 7 none wsX7_workOutChanged D A tys Es) (B : DB D A ws s H locs) (q0 : Nat) {fs : List Value} {v : Value} (he : ws[q0]? = some (a, .inr (10, fs))) (hv : fs[2]? = some v) (hdg : decode cX7_workOutChanged pc = .ok (.getfield 37, 3)) (kk : W p l e R s m args below meth c H locs cells slots Q (F0 m (pc + 3) ls (v :: rest))) : W p l e R s m args below meth c H locs cells slots Q (F0 m pc ls (.ref a :: rest)) :=
  k_get (Cn := RX10) (T := TX10) (N := 4) (index := 37) C B iX7_workOutChanged_X10 rfl 2 (by decide) (by decide +kernel) q0 he hv hdg kk
section
variable {p : Program} {l : Launch} {e : Env} {s : State} {m : MethodId} {args : Array Value} {below : List Frame} {meth : Method} {c : Code} {D : va_G} {A : Nat → Prop} {Es : (Nat → Nat) × (Nat → Nat)} {a b : Nat → Nat} {cI cJ cT : ClassId}
set_option maxHeartbeats 4000000 in
set_option maxRecDepth 100000 in
theorem qX7_workOutChanged_3 (C : CT p s m args meth c RX7 cX7_workOutChanged 7 none wsX7_workOutChanged D A (tyl cI cJ cT) Es) {N : Nat} {tx_signs : Nat → Int32} {tx_wanted : Nat → Int32} {tx_owners : Nat → Int32} {tx_places : Nat → Int32} {tx_spans : Nat → Int32} {tx_partNodes : Nat → Int32} {tx_count : Int32} {z_wk_low : Nat → Int64} {z_wk_mid : Nat → Int64} {z_wk_high : Nat → Int64} {z_wk_holds : Nat → Int64} {z_rs_low : Nat → Int64} {z_rs_mid : Nat → Int64} {z_rs_high : Nat → Int64} : ∀ (n : Nat) (x1 : Int32) (x3 : Int32) (x4 : Int32) (x5 : Int32) (wk_low : Nat → Int64) (wk_mid : Nat → Int64) (wk_high : Nat → Int64) (wk_holds : Nat → Int64) (rs_low : Nat → Int64) (rs_mid : Nat → Int64) (rs_high : Nat → Int64), bX7_workOutChanged_3 N tx_signs tx_wanted tx_partNodes tx_count n x1 x3 x4 x5 wk_low wk_mid wk_high wk_holds rs_low rs_mid rs_high = some (z_wk_low, z_wk_mid, z_wk_high, z_wk_holds, z_rs_low, z_rs_mid, z_rs_high) → ∀ (H : Heap) (locs : List Loc) (ls : Array Slot), DB D A (wd_tx_wk_rs a b cI cJ cT tx_signs tx_wanted tx_owners tx_places tx_spans tx_partNodes tx_count wk_low wk_mid wk_high wk_holds rs_low rs_mid rs_high) s H locs → lv_has ls 7 [(0, .ref (a 24)), (1, .int x1), (2, .ref (b 0)), (3, .int x3), (4, .int x4), (5, .int x5)] → W p l e rmX7_workOutChanged s m args below meth c H locs 0 0 (ZV below args s D A (tyl cI cJ cT) (wd_tx_wk_rs a b cI cJ cT tx_signs tx_wanted tx_owners tx_places tx_spans tx_partNodes tx_count z_wk_low z_wk_mid z_wk_high z_wk_holds z_rs_low z_rs_mid z_rs_high) 0 0) (F0 m 3 ls []) := by
  have hx := C.1.1
  have hb := C.1.2.1
  have hown := C.1.2.2.2.1
  have hts := C.1.2.2.2.2
  intro n
  induction n with
  | zero => intro x1 x3 x4 x5 wk_low wk_mid wk_high wk_holds rs_low rs_mid rs_high h; cases h
  | succ n ih =>
    intro x1 x3 x4 x5 wk_low wk_mid wk_high wk_holds rs_low rs_mid rs_high h H locs ls B hl
    rw [bX7_workOutChanged_3] at h
    refine lv_iload hx hb dX7_workOutChanged_3 (lv_at hl 5 rfl) ?_
    refine lv_bipush (v := 8) hx hb dX7_workOutChanged_5 (by decide) ?_
    refine lv_icmp_ge (tgt := 86) hx hb dX7_workOutChanged_7 (by decide) (fun c_1 => ?_) (fun c_1 => ?_)
    · rw [if_pos c_1] at h
      cases h
      exact k_vret C B dX7_workOutChanged_86
    · rw [if_neg c_1] at h
      refine lv_aload_n hx hb dX7_workOutChanged_10 rfl (lv_at hl 0 rfl) ?_
      refine gfX7_workOutChanged_21 C B 12 rfl rfl dX7_workOutChanged_11 ?_
      refine lv_aload_n hx hb dX7_workOutChanged_14 rfl (lv_at hl 2 rfl) ?_
      refine lv_iload_n hx hb dX7_workOutChanged_15 rfl (lv_at hl 3 rfl) ?_
      refine lv_iload hx hb dX7_workOutChanged_16 (lv_at hl 4 rfl) ?_
      refine lv_iload hx hb dX7_workOutChanged_18 (lv_at hl 5 rfl) ?_
      obtain ⟨⟨wk_low_2, wk_mid_3, wk_high_4, wk_holds_5⟩, g_8, h⟩ := ob_some h
      try dsimp only at h
      refine kc_VV C B (q0 := 7) (ci := 10) (As := [.ref (b 0), .int x3, .int x4, .int x5]) (rest := []) (w2 := (wd_tx_wk_rs a b cI cJ cT tx_signs tx_wanted tx_owners tx_places tx_spans tx_partNodes tx_count wk_low_2 wk_mid_3 wk_high_4 wk_holds_5 rs_low rs_mid rs_high)) (tX10_workOut (a := a) (b := b) N g_8) gX7_workOutChanged_X10_workOut rfl ⟨rfl, rfl⟩ ⟨rfl, hdX10_workOut⟩ ⟨Nat.le_of_ble_eq_true rfl, Nat.le_of_ble_eq_true rfl⟩ rfl rfl [0, 1, 2, 3, 4, 5, 6, 7, 8, 9, 10, 11] [12, 13, 14, 15] [4, 5, 6, 7, 8, 9, 10, 11, 12, 13, 14, 15, 0, 1, 2, 3] rfl rfl rfl rfl rfl rfl rfl rfl hl.1 rfl (Nat.le_of_ble_eq_true rfl) ⟨Nat.zero_le _, Nat.zero_le _⟩ dX7_workOutChanged_20 (fun H locs B => ?_)
      refine lv_iload_n hx hb dX7_workOutChanged_23 rfl (lv_at hl 1 rfl) ?_
      refine lv_bipush (v := 8) hx hb dX7_workOutChanged_24 (by decide) ?_
      refine lv_imul hx hb dX7_workOutChanged_26 ?_
      refine lv_iload hx hb dX7_workOutChanged_27 (lv_at hl 5 rfl) ?_
      refine lv_iadd hx hb dX7_workOutChanged_29 ?_
      refine lv_istore (lv' := [(6, .int ((x1 * (8 : Int32)) + x5)), (0, .ref (a 24)), (1, .int x1), (2, .ref (b 0)), (3, .int x3), (4, .int x4), (5, .int x5)]) hx hb dX7_workOutChanged_30 hl (by decide) rfl (fun ls hl => ?_)
      refine lv_aload_n hx hb dX7_workOutChanged_32 rfl (lv_at hl 1 rfl) ?_
      refine gfX7_workOutChanged_11 C B 12 rfl rfl dX7_workOutChanged_33 ?_
      refine lv_iload hx hb dX7_workOutChanged_36 (lv_at hl 0 rfl) ?_
      refine lv_aload_n hx hb dX7_workOutChanged_38 rfl (lv_at hl 1 rfl) ?_
      refine gfX7_workOutChanged_21 C B 12 rfl rfl dX7_workOutChanged_39 ?_
      refine gfX7_workOutChanged_35 C B 7 rfl rfl dX7_workOutChanged_42 ?_
      refine lv_iconst (v := 0) hx hb dX7_workOutChanged_45 (by decide) ?_
      refine k_lald C B 8 1 rfl rfl (vp_lit (by decide)) dX7_workOutChanged_46 ?_
      obtain ⟨b_7, h⟩ := bnd_some h
      refine k_last C B 13 1 rfl rfl b_7 dX7_workOutChanged_47 (fun H locs B => ?_)
      have B : DB D A (wd_tx_wk_rs a b cI cJ cT tx_signs tx_wanted tx_owners tx_places tx_spans tx_partNodes tx_count wk_low_2 wk_mid_3 wk_high_4 wk_holds_5 (vp_updL rs_low (Int32.toNatClampNeg ((x1 * (8 : Int32)) + x5)) (wk_low_2 (Int32.toNatClampNeg (0 : Int32)))) rs_mid rs_high) s H locs := B
      refine lv_aload_n hx hb dX7_workOutChanged_48 rfl (lv_at hl 1 rfl) ?_
      refine gfX7_workOutChanged_15 C B 12 rfl rfl dX7_workOutChanged_49 ?_
      refine lv_iload hx hb dX7_workOutChanged_52 (lv_at hl 0 rfl) ?_
      refine lv_aload_n hx hb dX7_workOutChanged_54 rfl (lv_at hl 1 rfl) ?_
      refine gfX7_workOutChanged_21 C B 12 rfl rfl dX7_workOutChanged_55 ?_
      refine gfX7_workOutChanged_36 C B 7 rfl rfl dX7_workOutChanged_58 ?_
      refine lv_iconst (v := 0) hx hb dX7_workOutChanged_61 (by decide) ?_
      refine k_lald C B 9 1 rfl rfl (vp_lit (by decide)) dX7_workOutChanged_62 ?_
      refine k_last C B 14 1 rfl rfl b_7 dX7_workOutChanged_63 (fun H locs B => ?_)
      have B : DB D A (wd_tx_wk_rs a b cI cJ cT tx_signs tx_wanted tx_owners tx_places tx_spans tx_partNodes tx_count wk_low_2 wk_mid_3 wk_high_4 wk_holds_5 (vp_updL rs_low (Int32.toNatClampNeg ((x1 * (8 : Int32)) + x5)) (wk_low_2 (Int32.toNatClampNeg (0 : Int32)))) (vp_updL rs_mid (Int32.toNatClampNeg ((x1 * (8 : Int32)) + x5)) (wk_mid_3 (Int32.toNatClampNeg (0 : Int32)))) rs_high) s H locs := B
      refine lv_aload_n hx hb dX7_workOutChanged_64 rfl (lv_at hl 1 rfl) ?_
      refine gfX7_workOutChanged_18 C B 12 rfl rfl dX7_workOutChanged_65 ?_
      refine lv_iload hx hb dX7_workOutChanged_68 (lv_at hl 0 rfl) ?_
      refine lv_aload_n hx hb dX7_workOutChanged_70 rfl (lv_at hl 1 rfl) ?_
      refine gfX7_workOutChanged_21 C B 12 rfl rfl dX7_workOutChanged_71 ?_
      refine gfX7_workOutChanged_37 C B 7 rfl rfl dX7_workOutChanged_74 ?_
      refine lv_iconst (v := 0) hx hb dX7_workOutChanged_77 (by decide) ?_
      refine k_lald C B 10 1 rfl rfl (vp_lit (by decide)) dX7_workOutChanged_78 ?_
      refine k_last C B 15 1 rfl rfl b_7 dX7_workOutChanged_79 (fun H locs B => ?_)
      have B : DB D A (wd_tx_wk_rs a b cI cJ cT tx_signs tx_wanted tx_owners tx_places tx_spans tx_partNodes tx_count wk_low_2 wk_mid_3 wk_high_4 wk_holds_5 (vp_updL rs_low (Int32.toNatClampNeg ((x1 * (8 : Int32)) + x5)) (wk_low_2 (Int32.toNatClampNeg (0 : Int32)))) (vp_updL rs_mid (Int32.toNatClampNeg ((x1 * (8 : Int32)) + x5)) (wk_mid_3 (Int32.toNatClampNeg (0 : Int32)))) (vp_updL rs_high (Int32.toNatClampNeg ((x1 * (8 : Int32)) + x5)) (wk_high_4 (Int32.toNatClampNeg (0 : Int32))))) s H locs := B
      refine lv_iinc (v := (x5 + 1)) (lv' := [(5, .int (x5 + 1)), (6, .int ((x1 * (8 : Int32)) + x5)), (0, .ref (a 24)), (1, .int x1), (2, .ref (b 0)), (3, .int x3), (4, .int x4)]) hx hb dX7_workOutChanged_80 hl (k := 6) rfl rfl (by decide) rfl (fun ls hl => ?_)
      refine lv_goto (tgt := 3) hx hb dX7_workOutChanged_83 (by decide) ?_
      exact ih x1 x3 x4 (x5 + 1) wk_low_2 wk_mid_3 wk_high_4 wk_holds_5 (vp_updL rs_low (Int32.toNatClampNeg ((x1 * (8 : Int32)) + x5)) (wk_low_2 (Int32.toNatClampNeg (0 : Int32)))) (vp_updL rs_mid (Int32.toNatClampNeg ((x1 * (8 : Int32)) + x5)) (wk_mid_3 (Int32.toNatClampNeg (0 : Int32)))) (vp_updL rs_high (Int32.toNatClampNeg ((x1 * (8 : Int32)) + x5)) (wk_high_4 (Int32.toNatClampNeg (0 : Int32)))) h H locs ls B (lv_sub hl [2, 3, 4, 5, 6, 0] rfl)
set_option maxHeartbeats 4000000 in
set_option maxRecDepth 100000 in
theorem qX7_workOutChanged_0 (C : CT p s m args meth c RX7 cX7_workOutChanged 7 none wsX7_workOutChanged D A (tyl cI cJ cT) Es) {N : Nat} {tx_signs : Nat → Int32} {tx_wanted : Nat → Int32} {tx_owners : Nat → Int32} {tx_places : Nat → Int32} {tx_spans : Nat → Int32} {tx_partNodes : Nat → Int32} {tx_count : Int32} {z_wk_low : Nat → Int64} {z_wk_mid : Nat → Int64} {z_wk_high : Nat → Int64} {z_wk_holds : Nat → Int64} {z_rs_low : Nat → Int64} {z_rs_mid : Nat → Int64} {z_rs_high : Nat → Int64} : ∀ (x1 : Int32) (x3 : Int32) (x4 : Int32) (wk_low : Nat → Int64) (wk_mid : Nat → Int64) (wk_high : Nat → Int64) (wk_holds : Nat → Int64) (rs_low : Nat → Int64) (rs_mid : Nat → Int64) (rs_high : Nat → Int64), fX7_workOutChanged N tx_signs tx_wanted tx_partNodes tx_count x1 x3 x4 wk_low wk_mid wk_high wk_holds rs_low rs_mid rs_high = some (z_wk_low, z_wk_mid, z_wk_high, z_wk_holds, z_rs_low, z_rs_mid, z_rs_high) → ∀ (H : Heap) (locs : List Loc) (ls : Array Slot), DB D A (wd_tx_wk_rs a b cI cJ cT tx_signs tx_wanted tx_owners tx_places tx_spans tx_partNodes tx_count wk_low wk_mid wk_high wk_holds rs_low rs_mid rs_high) s H locs → lv_has ls 7 [(0, .ref (a 24)), (1, .int x1), (2, .ref (b 0)), (3, .int x3), (4, .int x4)] → W p l e rmX7_workOutChanged s m args below meth c H locs 0 0 (ZV below args s D A (tyl cI cJ cT) (wd_tx_wk_rs a b cI cJ cT tx_signs tx_wanted tx_owners tx_places tx_spans tx_partNodes tx_count z_wk_low z_wk_mid z_wk_high z_wk_holds z_rs_low z_rs_mid z_rs_high) 0 0) (F0 m 0 ls []) := by
  have hx := C.1.1
  have hb := C.1.2.1
  have hown := C.1.2.2.2.1
  have hts := C.1.2.2.2.2
  intro x1 x3 x4 wk_low wk_mid wk_high wk_holds rs_low rs_mid rs_high h H locs ls B hl
  rw [fX7_workOutChanged] at h
  refine lv_iconst (v := 0) hx hb dX7_workOutChanged_0 (by decide) ?_
  refine lv_istore (lv' := [(5, .int (0 : Int32)), (0, .ref (a 24)), (1, .int x1), (2, .ref (b 0)), (3, .int x3), (4, .int x4)]) hx hb dX7_workOutChanged_1 hl (by decide) rfl (fun ls hl => ?_)
  exact qX7_workOutChanged_3 C N x1 x3 x4 (0 : Int32) wk_low wk_mid wk_high wk_holds rs_low rs_mid rs_high h H locs ls B (lv_sub hl [1, 2, 3, 4, 5, 0] rfl)
end
theorem tX7_workOutChanged {l : Launch} {D : va_G} {Es : (Nat → Nat) × (Nat → Nat)} {a b : Nat → Nat} {cI cJ cT : ClassId} {tx_signs : Nat → Int32} {tx_wanted : Nat → Int32} {tx_owners : Nat → Int32} {tx_places : Nat → Int32} {tx_spans : Nat → Int32} {tx_partNodes : Nat → Int32} {tx_count : Int32} {wk_low : Nat → Int64} {wk_mid : Nat → Int64} {wk_high : Nat → Int64} {wk_holds : Nat → Int64} {rs_low : Nat → Int64} {rs_mid : Nat → Int64} {rs_high : Nat → Int64} {x1 : Int32} {x3 : Int32} {x4 : Int32} {z_wk_low : Nat → Int64} {z_wk_mid : Nat → Int64} {z_wk_high : Nat → Int64} {z_wk_holds : Nat → Int64} {z_rs_low : Nat → Int64} {z_rs_mid : Nat → Int64} {z_rs_high : Nat → Int64} (N : Nat) (h : fX7_workOutChanged N tx_signs tx_wanted tx_partNodes tx_count x1 x3 x4 wk_low wk_mid wk_high wk_holds rs_low rs_mid rs_high = some (z_wk_low, z_wk_mid, z_wk_high, z_wk_holds, z_rs_low, z_rs_mid, z_rs_high)) : CtV l yX7_workOutChanged wsX7_workOutChanged rmX7_workOutChanged D (tyl cI cJ cT) Es [.ref (a 24), .int x1, .ref (b 0), .int x3, .int x4] (wd_tx_wk_rs a b cI cJ cT tx_signs tx_wanted tx_owners tx_places tx_spans tx_partNodes tx_count wk_low wk_mid wk_high wk_holds rs_low rs_mid rs_high) (wd_tx_wk_rs a b cI cJ cT tx_signs tx_wanted tx_owners tx_places tx_spans tx_partNodes tx_count z_wk_low z_wk_mid z_wk_high z_wk_holds z_rs_low z_rs_mid z_rs_high) :=
  CtV.of (own := RX7) (cc := cX7_workOutChanged) (nL := 7) (ret := none) (by decide +kernel) rfl rfl (Nat.le_of_ble_eq_true rfl) rfl (fun p e s m below meth c A ls C B hl => qX7_workOutChanged_0 C (N := N) x1 x3 x4 wk_low wk_mid wk_high wk_holds rs_low rs_mid rs_high h _ _ _ B hl)

abbrev rmX7_unlike : Room := { frames := 0, cells := 0, slots := 0, locals := 0 }
theorem hdX7_unlike : yX7_unlike.cls ≠ "java/lang/invoke/MethodHandle" ∧ yX7_unlike.cls ≠ "java/lang/invoke/VarHandle" ∧ (parseMethodDescriptor yX7_unlike.desc).map (fun d => d.parameters.length) = some 3 := by decide +kernel
theorem iX7_unlike_X7 : ∀ w ∈ wsX70, w ∈ wsX7_unlike := by decide +kernel
theorem gfX7_unlike_11 {p : Program} {l : Launch} {e : Env} {R : Room} {s : State} {m : MethodId} {args : Array Value} {below : List Frame} {meth : Method} {c : Code} {H : Heap} {locs : List Loc} {cells slots : Nat} {Q : State → Prop} {D : va_G} {A : Nat → Prop} {tys : List (ClassId × FieldType)} {Es : (Nat → Nat) × (Nat → Nat)} {ws : va_W} {pc : Nat} {ls : Array Slot} {rest : List Value} {a : Nat} (C : CT p s m args meth c RX7 cX7_unlike 6 (some .long) wsX7_unlike D A tys Es) (B : DB D A ws s H locs) (q0 : Nat) {fs : List Value} {v : Value} (he : ws[q0]? = some (a, .inr (7, fs))) (hv : fs[0]? = some v) (hdg : decode cX7_unlike pc = .ok (.getfield 11, 3)) (kk : W p l e R s m args below meth c H locs cells slots Q (F0 m (pc + 3) ls (v :: rest))) : W p l e R s m args below meth c H locs cells slots Q (F0 m pc ls (.ref a :: rest)) :=
  k_get (Cn := RX7) (T := TX7) (N := 4) (index := 11) C B iX7_unlike_X7 rfl 0 (by decide) (by decide +kernel) q0 he hv hdg kk
theorem gfX7_unlike_15 {p : Program} {l : Launch} {e : Env} {R : Room} {s : State} {m : MethodId} {args : Array Value} {below : List Frame} {meth : Method} {c : Code} {H : Heap} {locs : List Loc} {cells slots : Nat} {Q : State → Prop} {D : va_G} {A : Nat → Prop} {tys : List (ClassId × FieldType)} {Es : (Nat → Nat) × (Nat → Nat)} {ws : va_W} {pc : Nat} {ls : Array Slot} {rest : List Value} {a : Nat} (C : CT p s m args meth c RX7 cX7_unlike 6 (some .long) wsX7_unlike D A tys Es) (B : DB D A ws s H locs) (q0 : Nat) {fs : List Value} {v : Value} (he : ws[q0]? = some (a, .inr (7, fs))) (hv : fs[1]? = some v) (hdg : decode cX7_unlike pc = .ok (.getfield 15, 3)) (kk : W p l e R s m args below meth c H locs cells slots Q (F0 m (pc + 3) ls (v :: rest))) : W p l e R s m args below meth c H locs cells slots Q (F0 m pc ls (.ref a :: rest)) :=
  k_get (Cn := RX7) (T := TX7) (N := 4) (index := 15) C B iX7_unlike_X7 rfl 1 (by decide) (by decide +kernel) q0 he hv hdg kk
theorem gfX7_unlike_18 {p : Program} {l : Launch} {e : Env} {R : Room} {s : State} {m : MethodId} {args : Array Value} {below : List Frame} {meth : Method} {c : Code} {H : Heap} {locs : List Loc} {cells slots : Nat} {Q : State → Prop} {D : va_G} {A : Nat → Prop} {tys : List (ClassId × FieldType)} {Es : (Nat → Nat) × (Nat → Nat)} {ws : va_W} {pc : Nat} {ls : Array Slot} {rest : List Value} {a : Nat} (C : CT p s m args meth c RX7 cX7_unlike 6 (some .long) wsX7_unlike D A tys Es) (B : DB D A ws s H locs) (q0 : Nat) {fs : List Value} {v : Value} (he : ws[q0]? = some (a, .inr (7, fs))) (hv : fs[2]? = some v) (hdg : decode cX7_unlike pc = .ok (.getfield 18, 3)) (kk : W p l e R s m args below meth c H locs cells slots Q (F0 m (pc + 3) ls (v :: rest))) : W p l e R s m args below meth c H locs cells slots Q (F0 m pc ls (.ref a :: rest)) :=
  k_get (Cn := RX7) (T := TX7) (N := 4) (index := 18) C B iX7_unlike_X7 rfl 2 (by decide) (by decide +kernel) q0 he hv hdg kk
section
variable {p : Program} {l : Launch} {e : Env} {s : State} {m : MethodId} {args : Array Value} {below : List Frame} {meth : Method} {c : Code} {D : va_G} {A : Nat → Prop} {Es : (Nat → Nat) × (Nat → Nat)} {a b : Nat → Nat} {cI cJ cT : ClassId}
set_option maxHeartbeats 4000000 in
set_option maxRecDepth 100000 in
theorem qX7_unlike_0 (C : CT p s m args meth c RX7 cX7_unlike 6 (some .long) wsX7_unlike D A (tyl cI cJ cT) Es) {N : Nat} {rs_low : Nat → Int64} {rs_mid : Nat → Int64} {rs_high : Nat → Int64} {z_r : Int64} : ∀ (x1 : Int32) (x2 : Int32) (x3 : Int32), fX7_unlike N rs_low rs_mid rs_high x1 x2 x3 = some z_r → ∀ (H : Heap) (locs : List Loc) (ls : Array Slot), DB D A (wd_rs a b cI cJ cT rs_low rs_mid rs_high) s H locs → lv_has ls 6 [(0, .ref (a 24)), (1, .int x1), (2, .int x2), (3, .int x3)] → W p l e rmX7_unlike s m args below meth c H locs 0 0 (ZL below args s D A (tyl cI cJ cT) z_r (wd_rs a b cI cJ cT rs_low rs_mid rs_high) 0 0) (F0 m 0 ls []) := by
  have hx := C.1.1
  have hb := C.1.2.1
  have hown := C.1.2.2.2.1
  have hts := C.1.2.2.2.2
  intro x1 x2 x3 h H locs ls B hl
  rw [fX7_unlike] at h
  refine lv_iload_n hx hb dX7_unlike_0 rfl (lv_at hl 1 rfl) ?_
  refine lv_bipush (v := 8) hx hb dX7_unlike_1 (by decide) ?_
  refine lv_imul hx hb dX7_unlike_3 ?_
  refine lv_iload_n hx hb dX7_unlike_4 rfl (lv_at hl 3 rfl) ?_
  refine lv_iadd hx hb dX7_unlike_5 ?_
  refine lv_istore (lv' := [(4, .int ((x1 * (8 : Int32)) + x3)), (0, .ref (a 24)), (1, .int x1), (2, .int x2), (3, .int x3)]) hx hb dX7_unlike_6 hl (by decide) rfl (fun ls hl => ?_)
  refine lv_iload_n hx hb dX7_unlike_8 rfl (lv_at hl 3 rfl) ?_
  refine lv_bipush (v := 8) hx hb dX7_unlike_9 (by decide) ?_
  refine lv_imul hx hb dX7_unlike_11 ?_
  refine lv_iload_n hx hb dX7_unlike_12 rfl (lv_at hl 4 rfl) ?_
  refine lv_iadd hx hb dX7_unlike_13 ?_
  refine lv_istore (lv' := [(5, .int ((x2 * (8 : Int32)) + x3)), (4, .int ((x1 * (8 : Int32)) + x3)), (0, .ref (a 24)), (1, .int x1), (2, .int x2), (3, .int x3)]) hx hb dX7_unlike_14 hl (by decide) rfl (fun ls hl => ?_)
  refine lv_aload_n hx hb dX7_unlike_16 rfl (lv_at hl 2 rfl) ?_
  refine gfX7_unlike_11 C B 0 rfl rfl dX7_unlike_17 ?_
  refine lv_iload hx hb dX7_unlike_20 (lv_at hl 1 rfl) ?_
  obtain ⟨b_1, h⟩ := bnd_some h
  refine k_lald C B 1 1 rfl rfl b_1 dX7_unlike_22 ?_
  refine lv_aload_n hx hb dX7_unlike_23 rfl (lv_at hl 2 rfl) ?_
  refine gfX7_unlike_11 C B 0 rfl rfl dX7_unlike_24 ?_
  refine lv_iload hx hb dX7_unlike_27 (lv_at hl 0 rfl) ?_
  obtain ⟨b_2, h⟩ := bnd_some h
  refine k_lald C B 1 1 rfl rfl b_2 dX7_unlike_29 ?_
  refine lv_lxor hx hb dX7_unlike_30 ?_
  refine lv_aload_n hx hb dX7_unlike_31 rfl (lv_at hl 2 rfl) ?_
  refine gfX7_unlike_15 C B 0 rfl rfl dX7_unlike_32 ?_
  refine lv_iload hx hb dX7_unlike_35 (lv_at hl 1 rfl) ?_
  refine k_lald C B 2 1 rfl rfl b_1 dX7_unlike_37 ?_
  refine lv_aload_n hx hb dX7_unlike_38 rfl (lv_at hl 2 rfl) ?_
  refine gfX7_unlike_15 C B 0 rfl rfl dX7_unlike_39 ?_
  refine lv_iload hx hb dX7_unlike_42 (lv_at hl 0 rfl) ?_
  refine k_lald C B 2 1 rfl rfl b_2 dX7_unlike_44 ?_
  refine lv_lxor hx hb dX7_unlike_45 ?_
  refine lv_lor hx hb dX7_unlike_46 ?_
  refine lv_aload_n hx hb dX7_unlike_47 rfl (lv_at hl 2 rfl) ?_
  refine gfX7_unlike_18 C B 0 rfl rfl dX7_unlike_48 ?_
  refine lv_iload hx hb dX7_unlike_51 (lv_at hl 1 rfl) ?_
  refine k_lald C B 3 1 rfl rfl b_1 dX7_unlike_53 ?_
  refine lv_aload_n hx hb dX7_unlike_54 rfl (lv_at hl 2 rfl) ?_
  refine gfX7_unlike_18 C B 0 rfl rfl dX7_unlike_55 ?_
  refine lv_iload hx hb dX7_unlike_58 (lv_at hl 0 rfl) ?_
  refine k_lald C B 3 1 rfl rfl b_2 dX7_unlike_60 ?_
  refine lv_lxor hx hb dX7_unlike_61 ?_
  refine lv_lor hx hb dX7_unlike_62 ?_
  cases h
  exact k_lret C B dX7_unlike_63
end
theorem tX7_unlike {l : Launch} {D : va_G} {Es : (Nat → Nat) × (Nat → Nat)} {a b : Nat → Nat} {cI cJ cT : ClassId} {rs_low : Nat → Int64} {rs_mid : Nat → Int64} {rs_high : Nat → Int64} {x1 : Int32} {x2 : Int32} {x3 : Int32} {z_r : Int64} (N : Nat) (h : fX7_unlike N rs_low rs_mid rs_high x1 x2 x3 = some z_r) : CtL l yX7_unlike wsX7_unlike rmX7_unlike D (tyl cI cJ cT) Es [.ref (a 24), .int x1, .int x2, .int x3] (wd_rs a b cI cJ cT rs_low rs_mid rs_high) z_r (wd_rs a b cI cJ cT rs_low rs_mid rs_high) :=
  CtL.of (own := RX7) (cc := cX7_unlike) (nL := 6) (ret := (some .long)) (by decide +kernel) rfl rfl (Nat.le_of_ble_eq_true rfl) rfl (fun p e s m below meth c A ls C B hl => qX7_unlike_0 C (N := N) x1 x2 x3 h _ _ _ B hl)

abbrev rmX7_unlikeMany : Room := { frames := 1, cells := 0, slots := 0, locals := 25 }
theorem hdX7_unlikeMany : yX7_unlikeMany.cls ≠ "java/lang/invoke/MethodHandle" ∧ yX7_unlikeMany.cls ≠ "java/lang/invoke/VarHandle" ∧ (parseMethodDescriptor yX7_unlikeMany.desc).map (fun d => d.parameters.length) = some 2 := by decide +kernel
section
variable {p : Program} {l : Launch} {e : Env} {s : State} {m : MethodId} {args : Array Value} {below : List Frame} {meth : Method} {c : Code} {D : va_G} {A : Nat → Prop} {Es : (Nat → Nat) × (Nat → Nat)} {a b : Nat → Nat} {cI cJ cT : ClassId}
set_option maxHeartbeats 4000000 in
set_option maxRecDepth 100000 in
theorem qX7_unlikeMany_5 (C : CT p s m args meth c RX7 cX7_unlikeMany 5 (some .int) wsX7_unlikeMany D A (tyl cI cJ cT) Es) {N : Nat} {rs_low : Nat → Int64} {rs_mid : Nat → Int64} {rs_high : Nat → Int64} {z_r : Int32} : ∀ (n : Nat) (x1 : Int32) (x2 : Int32) (x3 : Int32) (x4 : Int32), bX7_unlikeMany_5 N rs_low rs_mid rs_high n x1 x2 x3 x4 = some z_r → ∀ (H : Heap) (locs : List Loc) (ls : Array Slot), DB D A (wd_rs a b cI cJ cT rs_low rs_mid rs_high) s H locs → lv_has ls 5 [(0, .ref (a 24)), (1, .int x1), (2, .int x2), (3, .int x3), (4, .int x4)] → W p l e rmX7_unlikeMany s m args below meth c H locs 0 0 (ZI below args s D A (tyl cI cJ cT) z_r (wd_rs a b cI cJ cT rs_low rs_mid rs_high) 0 0) (F0 m 5 ls []) := by
  have hx := C.1.1
  have hb := C.1.2.1
  have hown := C.1.2.2.2.1
  have hts := C.1.2.2.2.2
  intro n
  induction n with
  | zero => intro x1 x2 x3 x4 h; cases h
  | succ n ih =>
    intro x1 x2 x3 x4 h H locs ls B hl
    rw [bX7_unlikeMany_5] at h
    refine lv_iload hx hb dX7_unlikeMany_5 (lv_at hl 4 rfl) ?_
    refine lv_bipush (v := 8) hx hb dX7_unlikeMany_7 (by decide) ?_
    refine lv_icmp_ge (tgt := 32) hx hb dX7_unlikeMany_9 (by decide) (fun c_1 => ?_) (fun c_1 => ?_)
    · rw [if_pos c_1] at h
      refine lv_iload_n hx hb dX7_unlikeMany_32 rfl (lv_at hl 3 rfl) ?_
      cases h
      exact k_iret C B dX7_unlikeMany_33
    · rw [if_neg c_1] at h
      refine lv_iload_n hx hb dX7_unlikeMany_12 rfl (lv_at hl 3 rfl) ?_
      refine lv_aload_n hx hb dX7_unlikeMany_13 rfl (lv_at hl 0 rfl) ?_
      refine lv_iload_n hx hb dX7_unlikeMany_14 rfl (lv_at hl 1 rfl) ?_
      refine lv_iload_n hx hb dX7_unlikeMany_15 rfl (lv_at hl 2 rfl) ?_
      refine lv_iload hx hb dX7_unlikeMany_16 (lv_at hl 4 rfl) ?_
      obtain ⟨r_2, g_5, h⟩ := ob_some h
      try dsimp only at h
      refine kc_VL C B (q0 := 0) (ci := 7) (As := [.int x1, .int x2, .int x4]) (rest := [.int x3]) (w2 := (wd_rs a b cI cJ cT rs_low rs_mid rs_high)) (tX7_unlike (a := a) (b := b) N g_5) gX7_unlikeMany_X7_unlike rfl ⟨rfl, rfl⟩ ⟨rfl, hdX7_unlike⟩ ⟨Nat.le_of_ble_eq_true rfl, Nat.le_of_ble_eq_true rfl⟩ rfl rfl [0, 1, 2, 3] [] [0, 1, 2, 3] rfl rfl rfl rfl rfl rfl rfl rfl hl.1 rfl (Nat.le_of_ble_eq_true rfl) ⟨Nat.zero_le _, Nat.zero_le _⟩ dX7_unlikeMany_18 (fun H locs B => ?_)
      obtain ⟨r_3, g_4, h⟩ := ob_some h
      try dsimp only at h
      refine kc_SI C B (As := [.long r_2]) (rest := [.int x3]) (w2 := (wd_rs a b cI cJ cT rs_low rs_mid rs_high)) (tJ13_bitCount_95d88 N g_4) gX7_unlikeMany_J13_bitCount_95d88 rfl ⟨rfl, rfl⟩ hdJ13_bitCount_95d88 ⟨Nat.le_of_ble_eq_true rfl, Nat.le_of_ble_eq_true rfl⟩ [] [0, 1, 2, 3] [0, 1, 2, 3] rfl rfl rfl rfl rfl rfl rfl rfl hl.1 rfl (Nat.le_of_ble_eq_true rfl) ⟨Nat.zero_le _, Nat.zero_le _⟩ dX7_unlikeMany_21 (fun H locs B => ?_)
      refine lv_iadd hx hb dX7_unlikeMany_24 ?_
      refine lv_istore_n (lv' := [(3, .int (x3 + r_3)), (0, .ref (a 24)), (1, .int x1), (2, .int x2), (4, .int x4)]) hx hb dX7_unlikeMany_25 rfl hl (by decide) rfl (fun ls hl => ?_)
      refine lv_iinc (v := (x4 + 1)) (lv' := [(4, .int (x4 + 1)), (3, .int (x3 + r_3)), (0, .ref (a 24)), (1, .int x1), (2, .int x2)]) hx hb dX7_unlikeMany_26 hl (k := 4) rfl rfl (by decide) rfl (fun ls hl => ?_)
      refine lv_goto (tgt := 5) hx hb dX7_unlikeMany_29 (by decide) ?_
      exact ih x1 x2 (x3 + r_3) (x4 + 1) h H locs ls B (lv_sub hl [2, 3, 4, 1, 0] rfl)
set_option maxHeartbeats 4000000 in
set_option maxRecDepth 100000 in
theorem qX7_unlikeMany_0 (C : CT p s m args meth c RX7 cX7_unlikeMany 5 (some .int) wsX7_unlikeMany D A (tyl cI cJ cT) Es) {N : Nat} {rs_low : Nat → Int64} {rs_mid : Nat → Int64} {rs_high : Nat → Int64} {z_r : Int32} : ∀ (x1 : Int32) (x2 : Int32), fX7_unlikeMany N rs_low rs_mid rs_high x1 x2 = some z_r → ∀ (H : Heap) (locs : List Loc) (ls : Array Slot), DB D A (wd_rs a b cI cJ cT rs_low rs_mid rs_high) s H locs → lv_has ls 5 [(0, .ref (a 24)), (1, .int x1), (2, .int x2)] → W p l e rmX7_unlikeMany s m args below meth c H locs 0 0 (ZI below args s D A (tyl cI cJ cT) z_r (wd_rs a b cI cJ cT rs_low rs_mid rs_high) 0 0) (F0 m 0 ls []) := by
  have hx := C.1.1
  have hb := C.1.2.1
  have hown := C.1.2.2.2.1
  have hts := C.1.2.2.2.2
  intro x1 x2 h H locs ls B hl
  rw [fX7_unlikeMany] at h
  refine lv_iconst (v := 0) hx hb dX7_unlikeMany_0 (by decide) ?_
  refine lv_istore_n (lv' := [(3, .int (0 : Int32)), (0, .ref (a 24)), (1, .int x1), (2, .int x2)]) hx hb dX7_unlikeMany_1 rfl hl (by decide) rfl (fun ls hl => ?_)
  refine lv_iconst (v := 0) hx hb dX7_unlikeMany_2 (by decide) ?_
  refine lv_istore (lv' := [(4, .int (0 : Int32)), (3, .int (0 : Int32)), (0, .ref (a 24)), (1, .int x1), (2, .int x2)]) hx hb dX7_unlikeMany_3 hl (by decide) rfl (fun ls hl => ?_)
  exact qX7_unlikeMany_5 C N x1 x2 (0 : Int32) (0 : Int32) h H locs ls B (lv_sub hl [2, 3, 4, 1, 0] rfl)
end
theorem tX7_unlikeMany {l : Launch} {D : va_G} {Es : (Nat → Nat) × (Nat → Nat)} {a b : Nat → Nat} {cI cJ cT : ClassId} {rs_low : Nat → Int64} {rs_mid : Nat → Int64} {rs_high : Nat → Int64} {x1 : Int32} {x2 : Int32} {z_r : Int32} (N : Nat) (h : fX7_unlikeMany N rs_low rs_mid rs_high x1 x2 = some z_r) : CtI l yX7_unlikeMany wsX7_unlikeMany rmX7_unlikeMany D (tyl cI cJ cT) Es [.ref (a 24), .int x1, .int x2] (wd_rs a b cI cJ cT rs_low rs_mid rs_high) z_r (wd_rs a b cI cJ cT rs_low rs_mid rs_high) :=
  CtI.of (own := RX7) (cc := cX7_unlikeMany) (nL := 5) (ret := (some .int)) (by decide +kernel) rfl rfl (Nat.le_of_ble_eq_true rfl) rfl (fun p e s m below meth c A ls C B hl => qX7_unlikeMany_0 C (N := N) x1 x2 h _ _ _ B hl)

abbrev rmX1_list : Room := { frames := 6, cells := 0, slots := 0, locals := 135 }
theorem hdX1_list : yX1_list.cls ≠ "java/lang/invoke/MethodHandle" ∧ yX1_list.cls ≠ "java/lang/invoke/VarHandle" ∧ (parseMethodDescriptor yX1_list.desc).map (fun d => d.parameters.length) = some 1 := by decide +kernel
theorem iX1_list_X1 : ∀ w ∈ wsX10, w ∈ wsX1_list := by decide +kernel
theorem gfX1_list_21 {p : Program} {l : Launch} {e : Env} {R : Room} {s : State} {m : MethodId} {args : Array Value} {below : List Frame} {meth : Method} {c : Code} {H : Heap} {locs : List Loc} {cells slots : Nat} {Q : State → Prop} {D : va_G} {A : Nat → Prop} {tys : List (ClassId × FieldType)} {Es : (Nat → Nat) × (Nat → Nat)} {ws : va_W} {pc : Nat} {ls : Array Slot} {rest : List Value} {a : Nat} (C : CT p s m args meth c RX1 cX1_list 3 none wsX1_list D A tys Es) (B : DB D A ws s H locs) (q0 : Nat) {fs : List Value} {v : Value} (he : ws[q0]? = some (a, .inr (1, fs))) (hv : fs[3]? = some v) (hdg : decode cX1_list pc = .ok (.getfield 21, 3)) (kk : W p l e R s m args below meth c H locs cells slots Q (F0 m (pc + 3) ls (v :: rest))) : W p l e R s m args below meth c H locs cells slots Q (F0 m pc ls (.ref a :: rest)) :=
  k_get (Cn := RX1) (T := TX1) (N := 5) (index := 21) C B iX1_list_X1 rfl 3 (by decide) (by decide +kernel) q0 he hv hdg kk
theorem gfX1_list_25 {p : Program} {l : Launch} {e : Env} {R : Room} {s : State} {m : MethodId} {args : Array Value} {below : List Frame} {meth : Method} {c : Code} {H : Heap} {locs : List Loc} {cells slots : Nat} {Q : State → Prop} {D : va_G} {A : Nat → Prop} {tys : List (ClassId × FieldType)} {Es : (Nat → Nat) × (Nat → Nat)} {ws : va_W} {pc : Nat} {ls : Array Slot} {rest : List Value} {a : Nat} (C : CT p s m args meth c RX1 cX1_list 3 none wsX1_list D A tys Es) (B : DB D A ws s H locs) (q0 : Nat) {fs : List Value} {v : Value} (he : ws[q0]? = some (a, .inr (1, fs))) (hv : fs[4]? = some v) (hdg : decode cX1_list pc = .ok (.getfield 25, 3)) (kk : W p l e R s m args below meth c H locs cells slots Q (F0 m (pc + 3) ls (v :: rest))) : W p l e R s m args below meth c H locs cells slots Q (F0 m pc ls (.ref a :: rest)) :=
  k_get (Cn := RX1) (T := TX1) (N := 5) (index := 25) C B iX1_list_X1 rfl 4 (by decide) (by decide +kernel) q0 he hv hdg kk
theorem gfX1_list_9 {p : Program} {l : Launch} {e : Env} {R : Room} {s : State} {m : MethodId} {args : Array Value} {below : List Frame} {meth : Method} {c : Code} {H : Heap} {locs : List Loc} {cells slots : Nat} {Q : State → Prop} {D : va_G} {A : Nat → Prop} {tys : List (ClassId × FieldType)} {Es : (Nat → Nat) × (Nat → Nat)} {ws : va_W} {pc : Nat} {ls : Array Slot} {rest : List Value} {a : Nat} (C : CT p s m args meth c RX1 cX1_list 3 none wsX1_list D A tys Es) (B : DB D A ws s H locs) (q0 : Nat) {fs : List Value} {v : Value} (he : ws[q0]? = some (a, .inr (1, fs))) (hv : fs[0]? = some v) (hdg : decode cX1_list pc = .ok (.getfield 9, 3)) (kk : W p l e R s m args below meth c H locs cells slots Q (F0 m (pc + 3) ls (v :: rest))) : W p l e R s m args below meth c H locs cells slots Q (F0 m pc ls (.ref a :: rest)) :=
  k_get (Cn := RX1) (T := TX1) (N := 5) (index := 9) C B iX1_list_X1 rfl 0 (by decide) (by decide +kernel) q0 he hv hdg kk
theorem gfX1_list_15 {p : Program} {l : Launch} {e : Env} {R : Room} {s : State} {m : MethodId} {args : Array Value} {below : List Frame} {meth : Method} {c : Code} {H : Heap} {locs : List Loc} {cells slots : Nat} {Q : State → Prop} {D : va_G} {A : Nat → Prop} {tys : List (ClassId × FieldType)} {Es : (Nat → Nat) × (Nat → Nat)} {ws : va_W} {pc : Nat} {ls : Array Slot} {rest : List Value} {a : Nat} (C : CT p s m args meth c RX1 cX1_list 3 none wsX1_list D A tys Es) (B : DB D A ws s H locs) (q0 : Nat) {fs : List Value} {v : Value} (he : ws[q0]? = some (a, .inr (1, fs))) (hv : fs[1]? = some v) (hdg : decode cX1_list pc = .ok (.getfield 15, 3)) (kk : W p l e R s m args below meth c H locs cells slots Q (F0 m (pc + 3) ls (v :: rest))) : W p l e R s m args below meth c H locs cells slots Q (F0 m pc ls (.ref a :: rest)) :=
  k_get (Cn := RX1) (T := TX1) (N := 5) (index := 15) C B iX1_list_X1 rfl 1 (by decide) (by decide +kernel) q0 he hv hdg kk
theorem gfX1_list_18 {p : Program} {l : Launch} {e : Env} {R : Room} {s : State} {m : MethodId} {args : Array Value} {below : List Frame} {meth : Method} {c : Code} {H : Heap} {locs : List Loc} {cells slots : Nat} {Q : State → Prop} {D : va_G} {A : Nat → Prop} {tys : List (ClassId × FieldType)} {Es : (Nat → Nat) × (Nat → Nat)} {ws : va_W} {pc : Nat} {ls : Array Slot} {rest : List Value} {a : Nat} (C : CT p s m args meth c RX1 cX1_list 3 none wsX1_list D A tys Es) (B : DB D A ws s H locs) (q0 : Nat) {fs : List Value} {v : Value} (he : ws[q0]? = some (a, .inr (1, fs))) (hv : fs[2]? = some v) (hdg : decode cX1_list pc = .ok (.getfield 18, 3)) (kk : W p l e R s m args below meth c H locs cells slots Q (F0 m (pc + 3) ls (v :: rest))) : W p l e R s m args below meth c H locs cells slots Q (F0 m pc ls (.ref a :: rest)) :=
  k_get (Cn := RX1) (T := TX1) (N := 5) (index := 18) C B iX1_list_X1 rfl 2 (by decide) (by decide +kernel) q0 he hv hdg kk
theorem iX1_list_X9 : ∀ w ∈ wsX90, w ∈ wsX1_list := by decide +kernel
theorem gfX1_list_29 {p : Program} {l : Launch} {e : Env} {R : Room} {s : State} {m : MethodId} {args : Array Value} {below : List Frame} {meth : Method} {c : Code} {H : Heap} {locs : List Loc} {cells slots : Nat} {Q : State → Prop} {D : va_G} {A : Nat → Prop} {tys : List (ClassId × FieldType)} {Es : (Nat → Nat) × (Nat → Nat)} {ws : va_W} {pc : Nat} {ls : Array Slot} {rest : List Value} {a : Nat} (C : CT p s m args meth c RX1 cX1_list 3 none wsX1_list D A tys Es) (B : DB D A ws s H locs) (q0 : Nat) {fs : List Value} {v : Value} (he : ws[q0]? = some (a, .inr (9, fs))) (hv : fs[6]? = some v) (hdg : decode cX1_list pc = .ok (.getfield 29, 3)) (kk : W p l e R s m args below meth c H locs cells slots Q (F0 m (pc + 3) ls (v :: rest))) : W p l e R s m args below meth c H locs cells slots Q (F0 m pc ls (.ref a :: rest)) :=
  k_get (Cn := RX9) (T := TX9) (N := 7) (index := 29) C B iX1_list_X9 rfl 6 (by decide) (by decide +kernel) q0 he hv hdg kk
theorem gfX1_list_32 {p : Program} {l : Launch} {e : Env} {R : Room} {s : State} {m : MethodId} {args : Array Value} {below : List Frame} {meth : Method} {c : Code} {H : Heap} {locs : List Loc} {cells slots : Nat} {Q : State → Prop} {D : va_G} {A : Nat → Prop} {tys : List (ClassId × FieldType)} {Es : (Nat → Nat) × (Nat → Nat)} {ws : va_W} {pc : Nat} {ls : Array Slot} {rest : List Value} {a : Nat} (C : CT p s m args meth c RX1 cX1_list 3 none wsX1_list D A tys Es) (B : DB D A ws s H locs) (q0 : Nat) {fs : List Value} {v : Value} (he : ws[q0]? = some (a, .inr (9, fs))) (hv : fs[0]? = some v) (hdg : decode cX1_list pc = .ok (.getfield 32, 3)) (kk : W p l e R s m args below meth c H locs cells slots Q (F0 m (pc + 3) ls (v :: rest))) : W p l e R s m args below meth c H locs cells slots Q (F0 m pc ls (.ref a :: rest)) :=
  k_get (Cn := RX9) (T := TX9) (N := 7) (index := 32) C B iX1_list_X9 rfl 0 (by decide) (by decide +kernel) q0 he hv hdg kk
theorem pfX1_list_21 {p : Program} {l : Launch} {e : Env} {R : Room} {s : State} {m : MethodId} {args : Array Value} {below : List Frame} {meth : Method} {c : Code} {H : Heap} {locs : List Loc} {cells slots : Nat} {Q : State → Prop} {D : va_G} {A : Nat → Prop} {tys : List (ClassId × FieldType)} {Es : (Nat → Nat) × (Nat → Nat)} {ws : va_W} {pc : Nat} {ls : Array Slot} {rest : List Value} {a : Nat} (C : CT p s m args meth c RX1 cX1_list 3 none wsX1_list D A tys Es) (B : DB D A ws s H locs) (q0 : Nat) {fs : List Value} {v : Value} (hn : narrow .int v = v) (hfit : fits .int v = true) (he : ws[q0]? = some (a, .inr (1, fs))) (hl : 3 < fs.length) (hdg : decode cX1_list pc = .ok (.putfield 21, 3)) (kk : ∀ (H1 : Heap) (locs1 : List Loc), DB D A (ws.set q0 (a, .inr (1, fs.set 3 v))) s H1 locs1 → W p l e R s m args below meth c H1 locs1 cells slots Q (F0 m (pc + 3) ls rest)) : W p l e R s m args below meth c H locs cells slots Q (F0 m pc ls (v :: .ref a :: rest)) :=
  k_put (Cn := RX1) (T := TX1) (N := 5) (index := 21) C B iX1_list_X1 rfl tyX1 tyX1_ok nmX1 3 (by decide) (by decide +kernel) rfl q0 (by decide +kernel) hn hfit he hl hdg kk
section
variable {p : Program} {l : Launch} {e : Env} {s : State} {m : MethodId} {args : Array Value} {below : List Frame} {meth : Method} {c : Code} {D : va_G} {A : Nat → Prop} {Es : (Nat → Nat) × (Nat → Nat)} {a b : Nat → Nat} {cI cJ cT : ClassId}
set_option maxHeartbeats 4000000 in
set_option maxRecDepth 100000 in
theorem qX1_list_34 (C : CT p s m args meth c RX1 cX1_list 3 none wsX1_list D A (tyl cI cJ cT) Es) {N : Nat} {tx_signs : Nat → Int32} {tx_wanted : Nat → Int32} {tx_owners : Nat → Int32} {tx_places : Nat → Int32} {tx_spans : Nat → Int32} {tx_partNodes : Nat → Int32} {tx_count : Int32} {z_wk_low : Nat → Int64} {z_wk_mid : Nat → Int64} {z_wk_high : Nat → Int64} {z_wk_holds : Nat → Int64} {z_rs_low : Nat → Int64} {z_rs_mid : Nat → Int64} {z_rs_high : Nat → Int64} {z_ch_nodes : Nat → Int32} {z_ch_signs : Nat → Int32} {z_ch_felt : Nat → Int32} {z_ch_count : Int32} : ∀ (n : Nat) (x2 : Int32) (wk_low : Nat → Int64) (wk_mid : Nat → Int64) (wk_high : Nat → Int64) (wk_holds : Nat → Int64) (rs_low : Nat → Int64) (rs_mid : Nat → Int64) (rs_high : Nat → Int64) (ch_nodes : Nat → Int32) (ch_signs : Nat → Int32) (ch_felt : Nat → Int32) (ch_count : Int32), bX1_list_34 N tx_signs tx_wanted tx_partNodes tx_count n x2 wk_low wk_mid wk_high wk_holds rs_low rs_mid rs_high ch_nodes ch_signs ch_felt ch_count = some (z_wk_low, z_wk_mid, z_wk_high, z_wk_holds, z_rs_low, z_rs_mid, z_rs_high, z_ch_nodes, z_ch_signs, z_ch_felt, z_ch_count) → ∀ (H : Heap) (locs : List Loc) (ls : Array Slot), DB D A (wd_tx_wk_rs_ch a b cI cJ cT tx_signs tx_wanted tx_owners tx_places tx_spans tx_partNodes tx_count wk_low wk_mid wk_high wk_holds rs_low rs_mid rs_high ch_nodes ch_signs ch_felt ch_count) s H locs → lv_has ls 3 [(0, .ref (a 28)), (1, .ref (b 0)), (2, .int x2)] → W p l e rmX1_list s m args below meth c H locs 0 0 (ZV below args s D A (tyl cI cJ cT) (wd_tx_wk_rs_ch a b cI cJ cT tx_signs tx_wanted tx_owners tx_places tx_spans tx_partNodes tx_count z_wk_low z_wk_mid z_wk_high z_wk_holds z_rs_low z_rs_mid z_rs_high z_ch_nodes z_ch_signs z_ch_felt z_ch_count) 0 0) (F0 m 34 ls []) := by
  have hx := C.1.1
  have hb := C.1.2.1
  have hown := C.1.2.2.2.1
  have hts := C.1.2.2.2.2
  intro n
  induction n with
  | zero => intro x2 wk_low wk_mid wk_high wk_holds rs_low rs_mid rs_high ch_nodes ch_signs ch_felt ch_count h; cases h
  | succ n ih =>
    intro x2 wk_low wk_mid wk_high wk_holds rs_low rs_mid rs_high ch_nodes ch_signs ch_felt ch_count h H locs ls B hl
    rw [bX1_list_34] at h
    refine lv_iload_n hx hb dX1_list_34 rfl (lv_at hl 2 rfl) ?_
    refine lv_aload_n hx hb dX1_list_35 rfl (lv_at hl 0 rfl) ?_
    refine gfX1_list_21 C B 16 rfl rfl dX1_list_36 ?_
    refine lv_icmp_ge (tgt := 88) hx hb dX1_list_39 (by decide) (fun c_1 => ?_) (fun c_1 => ?_)
    · rw [if_pos c_1] at h
      cases h
      exact k_vret C B dX1_list_88
    · rw [if_neg c_1] at h
      refine lv_aload_n hx hb dX1_list_42 rfl (lv_at hl 0 rfl) ?_
      refine gfX1_list_25 C B 16 rfl rfl dX1_list_43 ?_
      refine lv_iconst (v := 2) hx hb dX1_list_46 (by decide) ?_
      refine lv_iload_n hx hb dX1_list_47 rfl (lv_at hl 2 rfl) ?_
      refine lv_iadd hx hb dX1_list_48 ?_
      refine lv_aload_n hx hb dX1_list_49 rfl (lv_at hl 1 rfl) ?_
      refine lv_aload_n hx hb dX1_list_50 rfl (lv_at hl 0 rfl) ?_
      refine gfX1_list_9 C B 16 rfl rfl dX1_list_51 ?_
      refine lv_iload_n hx hb dX1_list_54 rfl (lv_at hl 2 rfl) ?_
      obtain ⟨b_2, h⟩ := bnd_some h
      refine k_iald C B 17 0 rfl rfl b_2 dX1_list_55 ?_
      refine lv_aload_n hx hb dX1_list_56 rfl (lv_at hl 0 rfl) ?_
      refine gfX1_list_15 C B 16 rfl rfl dX1_list_57 ?_
      refine lv_iload_n hx hb dX1_list_60 rfl (lv_at hl 2 rfl) ?_
      refine k_iald C B 18 0 rfl rfl b_2 dX1_list_61 ?_
      obtain ⟨⟨wk_low_3, wk_mid_4, wk_high_5, wk_holds_6, rs_low_7, rs_mid_8, rs_high_9⟩, g_12, h⟩ := ob_some h
      try dsimp only at h
      refine kc_VV C B (q0 := 12) (ci := 7) (As := [.int ((2 : Int32) + x2), .ref (b 0), .int (ch_nodes (Int32.toNatClampNeg x2)), .int (ch_signs (Int32.toNatClampNeg x2))]) (rest := []) (w2 := (wd_tx_wk_rs_ch a b cI cJ cT tx_signs tx_wanted tx_owners tx_places tx_spans tx_partNodes tx_count wk_low_3 wk_mid_4 wk_high_5 wk_holds_6 rs_low_7 rs_mid_8 rs_high_9 ch_nodes ch_signs ch_felt ch_count)) (tX7_workOutChanged (a := a) (b := b) N g_12) gX1_list_X7_workOutChanged rfl ⟨rfl, rfl⟩ ⟨rfl, hdX7_workOutChanged⟩ ⟨Nat.le_of_ble_eq_true rfl, Nat.le_of_ble_eq_true rfl⟩ rfl rfl [0, 1, 2, 3, 4, 5, 6, 7, 8, 9, 10, 11, 12, 13, 14, 15] [16, 17, 18, 19] [4, 5, 6, 7, 8, 9, 10, 11, 12, 13, 14, 15, 16, 17, 18, 19, 0, 1, 2, 3] rfl rfl rfl rfl rfl rfl rfl rfl hl.1 rfl (Nat.le_of_ble_eq_true rfl) ⟨Nat.zero_le _, Nat.zero_le _⟩ dX1_list_62 (fun H locs B => ?_)
      refine lv_aload_n hx hb dX1_list_65 rfl (lv_at hl 0 rfl) ?_
      refine gfX1_list_18 C B 16 rfl rfl dX1_list_66 ?_
      refine lv_iload_n hx hb dX1_list_69 rfl (lv_at hl 2 rfl) ?_
      refine lv_aload_n hx hb dX1_list_70 rfl (lv_at hl 0 rfl) ?_
      refine gfX1_list_25 C B 16 rfl rfl dX1_list_71 ?_
      refine lv_iconst (v := 2) hx hb dX1_list_74 (by decide) ?_
      refine lv_iload_n hx hb dX1_list_75 rfl (lv_at hl 2 rfl) ?_
      refine lv_iadd hx hb dX1_list_76 ?_
      refine lv_iconst (v := 0) hx hb dX1_list_77 (by decide) ?_
      obtain ⟨r_10, g_11, h⟩ := ob_some h
      try dsimp only at h
      refine kc_VI C B (q0 := 0) (ci := 7) (As := [.int ((2 : Int32) + x2), .int (0 : Int32)]) (rest := [.int x2, .ref (a 31)]) (w2 := (wd_tx_wk_rs_ch a b cI cJ cT tx_signs tx_wanted tx_owners tx_places tx_spans tx_partNodes tx_count wk_low_3 wk_mid_4 wk_high_5 wk_holds_6 rs_low_7 rs_mid_8 rs_high_9 ch_nodes ch_signs ch_felt ch_count)) (tX7_unlikeMany (a := a) (b := b) N g_11) gX1_list_X7_unlikeMany rfl ⟨rfl, rfl⟩ ⟨rfl, hdX7_unlikeMany⟩ ⟨Nat.le_of_ble_eq_true rfl, Nat.le_of_ble_eq_true rfl⟩ rfl rfl [12, 13, 14, 15] [0, 1, 2, 3, 4, 5, 6, 7, 8, 9, 10, 11, 16, 17, 18, 19] [0, 1, 2, 3, 4, 5, 6, 7, 8, 9, 10, 11, 16, 17, 18, 19, 12, 13, 14, 15] rfl rfl rfl rfl rfl rfl rfl rfl hl.1 rfl (Nat.le_of_ble_eq_true rfl) ⟨Nat.zero_le _, Nat.zero_le _⟩ dX1_list_78 (fun H locs B => ?_)
      refine k_iast C B 19 0 rfl rfl b_2 dX1_list_81 (fun H locs B => ?_)
      have B : DB D A (wd_tx_wk_rs_ch a b cI cJ cT tx_signs tx_wanted tx_owners tx_places tx_spans tx_partNodes tx_count wk_low_3 wk_mid_4 wk_high_5 wk_holds_6 rs_low_7 rs_mid_8 rs_high_9 ch_nodes ch_signs (upd ch_felt (Int32.toNatClampNeg x2) r_10) ch_count) s H locs := B
      refine lv_iinc (v := (x2 + 1)) (lv' := [(2, .int (x2 + 1)), (0, .ref (a 28)), (1, .ref (b 0))]) hx hb dX1_list_82 hl (k := 2) rfl rfl (by decide) rfl (fun ls hl => ?_)
      refine lv_goto (tgt := 34) hx hb dX1_list_85 (by decide) ?_
      exact ih (x2 + 1) wk_low_3 wk_mid_4 wk_high_5 wk_holds_6 rs_low_7 rs_mid_8 rs_high_9 ch_nodes ch_signs (upd ch_felt (Int32.toNatClampNeg x2) r_10) ch_count h H locs ls B (lv_sub hl [1, 2, 0] rfl)
set_option maxHeartbeats 4000000 in
set_option maxRecDepth 100000 in
theorem qX1_list_7 (C : CT p s m args meth c RX1 cX1_list 3 none wsX1_list D A (tyl cI cJ cT) Es) {N : Nat} {tx_signs : Nat → Int32} {tx_wanted : Nat → Int32} {tx_owners : Nat → Int32} {tx_places : Nat → Int32} {tx_spans : Nat → Int32} {tx_partNodes : Nat → Int32} {tx_count : Int32} {z_wk_low : Nat → Int64} {z_wk_mid : Nat → Int64} {z_wk_high : Nat → Int64} {z_wk_holds : Nat → Int64} {z_rs_low : Nat → Int64} {z_rs_mid : Nat → Int64} {z_rs_high : Nat → Int64} {z_ch_nodes : Nat → Int32} {z_ch_signs : Nat → Int32} {z_ch_felt : Nat → Int32} {z_ch_count : Int32} : ∀ (n : Nat) (x2 : Int32) (wk_low : Nat → Int64) (wk_mid : Nat → Int64) (wk_high : Nat → Int64) (wk_holds : Nat → Int64) (rs_low : Nat → Int64) (rs_mid : Nat → Int64) (rs_high : Nat → Int64) (ch_nodes : Nat → Int32) (ch_signs : Nat → Int32) (ch_felt : Nat → Int32) (ch_count : Int32), bX1_list_7 N tx_signs tx_wanted tx_partNodes tx_count n x2 wk_low wk_mid wk_high wk_holds rs_low rs_mid rs_high ch_nodes ch_signs ch_felt ch_count = some (z_wk_low, z_wk_mid, z_wk_high, z_wk_holds, z_rs_low, z_rs_mid, z_rs_high, z_ch_nodes, z_ch_signs, z_ch_felt, z_ch_count) → ∀ (H : Heap) (locs : List Loc) (ls : Array Slot), DB D A (wd_tx_wk_rs_ch a b cI cJ cT tx_signs tx_wanted tx_owners tx_places tx_spans tx_partNodes tx_count wk_low wk_mid wk_high wk_holds rs_low rs_mid rs_high ch_nodes ch_signs ch_felt ch_count) s H locs → lv_has ls 3 [(0, .ref (a 28)), (1, .ref (b 0)), (2, .int x2)] → W p l e rmX1_list s m args below meth c H locs 0 0 (ZV below args s D A (tyl cI cJ cT) (wd_tx_wk_rs_ch a b cI cJ cT tx_signs tx_wanted tx_owners tx_places tx_spans tx_partNodes tx_count z_wk_low z_wk_mid z_wk_high z_wk_holds z_rs_low z_rs_mid z_rs_high z_ch_nodes z_ch_signs z_ch_felt z_ch_count) 0 0) (F0 m 7 ls []) := by
  have hx := C.1.1
  have hb := C.1.2.1
  have hown := C.1.2.2.2.1
  have hts := C.1.2.2.2.2
  intro n
  induction n with
  | zero => intro x2 wk_low wk_mid wk_high wk_holds rs_low rs_mid rs_high ch_nodes ch_signs ch_felt ch_count h; cases h
  | succ n ih =>
    intro x2 wk_low wk_mid wk_high wk_holds rs_low rs_mid rs_high ch_nodes ch_signs ch_felt ch_count h H locs ls B hl
    rw [bX1_list_7] at h
    refine lv_iload_n hx hb dX1_list_7 rfl (lv_at hl 2 rfl) ?_
    refine lv_aload_n hx hb dX1_list_8 rfl (lv_at hl 1 rfl) ?_
    refine gfX1_list_29 C B 0 rfl rfl dX1_list_9 ?_
    refine lv_icmp_ge (tgt := 32) hx hb dX1_list_12 (by decide) (fun c_1 => ?_) (fun c_1 => ?_)
    · rw [if_pos c_1] at h
      refine lv_iconst (v := 0) hx hb dX1_list_32 (by decide) ?_
      refine lv_istore_n (lv' := [(2, .int (0 : Int32)), (0, .ref (a 28)), (1, .ref (b 0))]) hx hb dX1_list_33 rfl hl (by decide) rfl (fun ls hl => ?_)
      exact qX1_list_34 C N (0 : Int32) wk_low wk_mid wk_high wk_holds rs_low rs_mid rs_high ch_nodes ch_signs ch_felt ch_count h H locs ls B (lv_sub hl [1, 2, 0] rfl)
    · rw [if_neg c_1] at h
      refine lv_aload_n hx hb dX1_list_15 rfl (lv_at hl 0 rfl) ?_
      refine lv_iload_n hx hb dX1_list_16 rfl (lv_at hl 2 rfl) ?_
      refine lv_aload_n hx hb dX1_list_17 rfl (lv_at hl 1 rfl) ?_
      refine gfX1_list_32 C B 0 rfl rfl dX1_list_18 ?_
      refine lv_iload_n hx hb dX1_list_21 rfl (lv_at hl 2 rfl) ?_
      obtain ⟨b_2, h⟩ := bnd_some h
      refine k_iald C B 1 0 rfl rfl b_2 dX1_list_22 ?_
      obtain ⟨⟨ch_nodes_3, ch_signs_4, ch_count_5⟩, g_6, h⟩ := ob_some h
      try dsimp only at h
      refine kc_VV C B (q0 := 0) (ci := 1) (As := [.int x2, .int (tx_signs (Int32.toNatClampNeg x2))]) (rest := []) (w2 := (wd_tx_wk_rs_ch a b cI cJ cT tx_signs tx_wanted tx_owners tx_places tx_spans tx_partNodes tx_count wk_low wk_mid wk_high wk_holds rs_low rs_mid rs_high ch_nodes_3 ch_signs_4 ch_felt ch_count_5)) (tX1_listOfNode (a := a) (b := b) N g_6) gX1_list_X1_listOfNode rfl ⟨rfl, rfl⟩ ⟨rfl, hdX1_listOfNode⟩ ⟨Nat.le_of_ble_eq_true rfl, Nat.le_of_ble_eq_true rfl⟩ rfl rfl [16, 17, 18, 19] [0, 1, 2, 3, 4, 5, 6, 7, 8, 9, 10, 11, 12, 13, 14, 15] [0, 1, 2, 3, 4, 5, 6, 7, 8, 9, 10, 11, 12, 13, 14, 15, 16, 17, 18, 19] rfl rfl rfl rfl rfl rfl rfl rfl hl.1 rfl (Nat.le_of_ble_eq_true rfl) ⟨Nat.zero_le _, Nat.zero_le _⟩ dX1_list_23 (fun H locs B => ?_)
      refine lv_iinc (v := (x2 + 1)) (lv' := [(2, .int (x2 + 1)), (0, .ref (a 28)), (1, .ref (b 0))]) hx hb dX1_list_26 hl (k := 2) rfl rfl (by decide) rfl (fun ls hl => ?_)
      refine lv_goto (tgt := 7) hx hb dX1_list_29 (by decide) ?_
      exact ih (x2 + 1) wk_low wk_mid wk_high wk_holds rs_low rs_mid rs_high ch_nodes_3 ch_signs_4 ch_felt ch_count_5 h H locs ls B (lv_sub hl [1, 2, 0] rfl)
set_option maxHeartbeats 4000000 in
set_option maxRecDepth 100000 in
theorem qX1_list_0 (C : CT p s m args meth c RX1 cX1_list 3 none wsX1_list D A (tyl cI cJ cT) Es) {N : Nat} {tx_signs : Nat → Int32} {tx_wanted : Nat → Int32} {tx_owners : Nat → Int32} {tx_places : Nat → Int32} {tx_spans : Nat → Int32} {tx_partNodes : Nat → Int32} {tx_count : Int32} {z_wk_low : Nat → Int64} {z_wk_mid : Nat → Int64} {z_wk_high : Nat → Int64} {z_wk_holds : Nat → Int64} {z_rs_low : Nat → Int64} {z_rs_mid : Nat → Int64} {z_rs_high : Nat → Int64} {z_ch_nodes : Nat → Int32} {z_ch_signs : Nat → Int32} {z_ch_felt : Nat → Int32} {z_ch_count : Int32} : ∀ (wk_low : Nat → Int64) (wk_mid : Nat → Int64) (wk_high : Nat → Int64) (wk_holds : Nat → Int64) (rs_low : Nat → Int64) (rs_mid : Nat → Int64) (rs_high : Nat → Int64) (ch_nodes : Nat → Int32) (ch_signs : Nat → Int32) (ch_felt : Nat → Int32) (ch_count : Int32), fX1_list N tx_signs tx_wanted tx_partNodes tx_count wk_low wk_mid wk_high wk_holds rs_low rs_mid rs_high ch_nodes ch_signs ch_felt ch_count = some (z_wk_low, z_wk_mid, z_wk_high, z_wk_holds, z_rs_low, z_rs_mid, z_rs_high, z_ch_nodes, z_ch_signs, z_ch_felt, z_ch_count) → ∀ (H : Heap) (locs : List Loc) (ls : Array Slot), DB D A (wd_tx_wk_rs_ch a b cI cJ cT tx_signs tx_wanted tx_owners tx_places tx_spans tx_partNodes tx_count wk_low wk_mid wk_high wk_holds rs_low rs_mid rs_high ch_nodes ch_signs ch_felt ch_count) s H locs → lv_has ls 3 [(0, .ref (a 28)), (1, .ref (b 0))] → W p l e rmX1_list s m args below meth c H locs 0 0 (ZV below args s D A (tyl cI cJ cT) (wd_tx_wk_rs_ch a b cI cJ cT tx_signs tx_wanted tx_owners tx_places tx_spans tx_partNodes tx_count z_wk_low z_wk_mid z_wk_high z_wk_holds z_rs_low z_rs_mid z_rs_high z_ch_nodes z_ch_signs z_ch_felt z_ch_count) 0 0) (F0 m 0 ls []) := by
  have hx := C.1.1
  have hb := C.1.2.1
  have hown := C.1.2.2.2.1
  have hts := C.1.2.2.2.2
  intro wk_low wk_mid wk_high wk_holds rs_low rs_mid rs_high ch_nodes ch_signs ch_felt ch_count h H locs ls B hl
  rw [fX1_list] at h
  refine lv_aload_n hx hb dX1_list_0 rfl (lv_at hl 0 rfl) ?_
  refine lv_iconst (v := 0) hx hb dX1_list_1 (by decide) ?_
  refine pfX1_list_21 C B 16 rfl (by rfl) rfl (Nat.le_of_ble_eq_true rfl) dX1_list_2 (fun H locs B => ?_)
  have B : DB D A (wd_tx_wk_rs_ch a b cI cJ cT tx_signs tx_wanted tx_owners tx_places tx_spans tx_partNodes tx_count wk_low wk_mid wk_high wk_holds rs_low rs_mid rs_high ch_nodes ch_signs ch_felt (0 : Int32)) s H locs := B
  refine lv_iconst (v := 0) hx hb dX1_list_5 (by decide) ?_
  refine lv_istore_n (lv' := [(2, .int (0 : Int32)), (0, .ref (a 28)), (1, .ref (b 0))]) hx hb dX1_list_6 rfl hl (by decide) rfl (fun ls hl => ?_)
  exact qX1_list_7 C N (0 : Int32) wk_low wk_mid wk_high wk_holds rs_low rs_mid rs_high ch_nodes ch_signs ch_felt (0 : Int32) h H locs ls B (lv_sub hl [1, 2, 0] rfl)
end
theorem tX1_list {l : Launch} {D : va_G} {Es : (Nat → Nat) × (Nat → Nat)} {a b : Nat → Nat} {cI cJ cT : ClassId} {tx_signs : Nat → Int32} {tx_wanted : Nat → Int32} {tx_owners : Nat → Int32} {tx_places : Nat → Int32} {tx_spans : Nat → Int32} {tx_partNodes : Nat → Int32} {tx_count : Int32} {wk_low : Nat → Int64} {wk_mid : Nat → Int64} {wk_high : Nat → Int64} {wk_holds : Nat → Int64} {rs_low : Nat → Int64} {rs_mid : Nat → Int64} {rs_high : Nat → Int64} {ch_nodes : Nat → Int32} {ch_signs : Nat → Int32} {ch_felt : Nat → Int32} {ch_count : Int32} {z_wk_low : Nat → Int64} {z_wk_mid : Nat → Int64} {z_wk_high : Nat → Int64} {z_wk_holds : Nat → Int64} {z_rs_low : Nat → Int64} {z_rs_mid : Nat → Int64} {z_rs_high : Nat → Int64} {z_ch_nodes : Nat → Int32} {z_ch_signs : Nat → Int32} {z_ch_felt : Nat → Int32} {z_ch_count : Int32} (N : Nat) (h : fX1_list N tx_signs tx_wanted tx_partNodes tx_count wk_low wk_mid wk_high wk_holds rs_low rs_mid rs_high ch_nodes ch_signs ch_felt ch_count = some (z_wk_low, z_wk_mid, z_wk_high, z_wk_holds, z_rs_low, z_rs_mid, z_rs_high, z_ch_nodes, z_ch_signs, z_ch_felt, z_ch_count)) : CtV l yX1_list wsX1_list rmX1_list D (tyl cI cJ cT) Es [.ref (a 28), .ref (b 0)] (wd_tx_wk_rs_ch a b cI cJ cT tx_signs tx_wanted tx_owners tx_places tx_spans tx_partNodes tx_count wk_low wk_mid wk_high wk_holds rs_low rs_mid rs_high ch_nodes ch_signs ch_felt ch_count) (wd_tx_wk_rs_ch a b cI cJ cT tx_signs tx_wanted tx_owners tx_places tx_spans tx_partNodes tx_count z_wk_low z_wk_mid z_wk_high z_wk_holds z_rs_low z_rs_mid z_rs_high z_ch_nodes z_ch_signs z_ch_felt z_ch_count) :=
  CtV.of (own := RX1) (cc := cX1_list) (nL := 3) (ret := none) (by decide +kernel) rfl rfl (Nat.le_of_ble_eq_true rfl) rfl (fun p e s m below meth c A ls C B hl => qX1_list_0 C (N := N) wk_low wk_mid wk_high wk_holds rs_low rs_mid rs_high ch_nodes ch_signs ch_felt ch_count h _ _ _ B hl)

abbrev rmX1_silentOnes : Room := { frames := 0, cells := 0, slots := 0, locals := 0 }
theorem hdX1_silentOnes : yX1_silentOnes.cls ≠ "java/lang/invoke/MethodHandle" ∧ yX1_silentOnes.cls ≠ "java/lang/invoke/VarHandle" ∧ (parseMethodDescriptor yX1_silentOnes.desc).map (fun d => d.parameters.length) = some 0 := by decide +kernel
theorem iX1_silentOnes_X1 : ∀ w ∈ wsX10, w ∈ wsX1_silentOnes := by decide +kernel
theorem gfX1_silentOnes_21 {p : Program} {l : Launch} {e : Env} {R : Room} {s : State} {m : MethodId} {args : Array Value} {below : List Frame} {meth : Method} {c : Code} {H : Heap} {locs : List Loc} {cells slots : Nat} {Q : State → Prop} {D : va_G} {A : Nat → Prop} {tys : List (ClassId × FieldType)} {Es : (Nat → Nat) × (Nat → Nat)} {ws : va_W} {pc : Nat} {ls : Array Slot} {rest : List Value} {a : Nat} (C : CT p s m args meth c RX1 cX1_silentOnes 3 (some .int) wsX1_silentOnes D A tys Es) (B : DB D A ws s H locs) (q0 : Nat) {fs : List Value} {v : Value} (he : ws[q0]? = some (a, .inr (1, fs))) (hv : fs[3]? = some v) (hdg : decode cX1_silentOnes pc = .ok (.getfield 21, 3)) (kk : W p l e R s m args below meth c H locs cells slots Q (F0 m (pc + 3) ls (v :: rest))) : W p l e R s m args below meth c H locs cells slots Q (F0 m pc ls (.ref a :: rest)) :=
  k_get (Cn := RX1) (T := TX1) (N := 5) (index := 21) C B iX1_silentOnes_X1 rfl 3 (by decide) (by decide +kernel) q0 he hv hdg kk
theorem gfX1_silentOnes_18 {p : Program} {l : Launch} {e : Env} {R : Room} {s : State} {m : MethodId} {args : Array Value} {below : List Frame} {meth : Method} {c : Code} {H : Heap} {locs : List Loc} {cells slots : Nat} {Q : State → Prop} {D : va_G} {A : Nat → Prop} {tys : List (ClassId × FieldType)} {Es : (Nat → Nat) × (Nat → Nat)} {ws : va_W} {pc : Nat} {ls : Array Slot} {rest : List Value} {a : Nat} (C : CT p s m args meth c RX1 cX1_silentOnes 3 (some .int) wsX1_silentOnes D A tys Es) (B : DB D A ws s H locs) (q0 : Nat) {fs : List Value} {v : Value} (he : ws[q0]? = some (a, .inr (1, fs))) (hv : fs[2]? = some v) (hdg : decode cX1_silentOnes pc = .ok (.getfield 18, 3)) (kk : W p l e R s m args below meth c H locs cells slots Q (F0 m (pc + 3) ls (v :: rest))) : W p l e R s m args below meth c H locs cells slots Q (F0 m pc ls (.ref a :: rest)) :=
  k_get (Cn := RX1) (T := TX1) (N := 5) (index := 18) C B iX1_silentOnes_X1 rfl 2 (by decide) (by decide +kernel) q0 he hv hdg kk
section
variable {p : Program} {l : Launch} {e : Env} {s : State} {m : MethodId} {args : Array Value} {below : List Frame} {meth : Method} {c : Code} {D : va_G} {A : Nat → Prop} {Es : (Nat → Nat) × (Nat → Nat)} {a b : Nat → Nat} {cI cJ cT : ClassId}
set_option maxHeartbeats 4000000 in
set_option maxRecDepth 100000 in
theorem qX1_silentOnes_4 (C : CT p s m args meth c RX1 cX1_silentOnes 3 (some .int) wsX1_silentOnes D A (tyl cI cJ cT) Es) {N : Nat} {ch_nodes : Nat → Int32} {ch_signs : Nat → Int32} {ch_felt : Nat → Int32} {ch_count : Int32} {z_r : Int32} : ∀ (n : Nat) (x1 : Int32) (x2 : Int32), bX1_silentOnes_4 N ch_felt ch_count n x1 x2 = some z_r → ∀ (H : Heap) (locs : List Loc) (ls : Array Slot), DB D A (wd_ch a b cI cJ cT ch_nodes ch_signs ch_felt ch_count) s H locs → lv_has ls 3 [(0, .ref (a 28)), (1, .int x1), (2, .int x2)] → W p l e rmX1_silentOnes s m args below meth c H locs 0 0 (ZI below args s D A (tyl cI cJ cT) z_r (wd_ch a b cI cJ cT ch_nodes ch_signs ch_felt ch_count) 0 0) (F0 m 4 ls []) := by
  have hx := C.1.1
  have hb := C.1.2.1
  have hown := C.1.2.2.2.1
  have hts := C.1.2.2.2.2
  intro n
  induction n with
  | zero => intro x1 x2 h; cases h
  | succ n ih =>
    intro x1 x2 h H locs ls B hl
    rw [bX1_silentOnes_4] at h
    refine lv_iload_n hx hb dX1_silentOnes_4 rfl (lv_at hl 2 rfl) ?_
    refine lv_aload_n hx hb dX1_silentOnes_5 rfl (lv_at hl 0 rfl) ?_
    refine gfX1_silentOnes_21 C B 0 rfl rfl dX1_silentOnes_6 ?_
    refine lv_icmp_ge (tgt := 35) hx hb dX1_silentOnes_9 (by decide) (fun c_1 => ?_) (fun c_1 => ?_)
    · rw [if_pos c_1] at h
      refine lv_iload_n hx hb dX1_silentOnes_35 rfl (lv_at hl 1 rfl) ?_
      cases h
      exact k_iret C B dX1_silentOnes_36
    · rw [if_neg c_1] at h
      refine lv_iload_n hx hb dX1_silentOnes_12 rfl (lv_at hl 1 rfl) ?_
      refine lv_aload_n hx hb dX1_silentOnes_13 rfl (lv_at hl 0 rfl) ?_
      refine gfX1_silentOnes_18 C B 0 rfl rfl dX1_silentOnes_14 ?_
      refine lv_iload_n hx hb dX1_silentOnes_17 rfl (lv_at hl 2 rfl) ?_
      obtain ⟨b_2, h⟩ := bnd_some h
      refine k_iald C B 3 0 rfl rfl b_2 dX1_silentOnes_18 ?_
      refine lv_if_ne (tgt := 26) hx hb dX1_silentOnes_19 (by decide) (fun c_3 => ?_) (fun c_3 => ?_)
      · rw [if_neg c_3] at h
        refine lv_iconst (v := 0) hx hb dX1_silentOnes_26 (by decide) ?_
        refine lv_iadd hx hb dX1_silentOnes_27 ?_
        refine lv_istore_n (lv' := [(1, .int (x1 + (0 : Int32))), (0, .ref (a 28)), (2, .int x2)]) hx hb dX1_silentOnes_28 rfl hl (by decide) rfl (fun ls hl => ?_)
        refine lv_iinc (v := (x2 + 1)) (lv' := [(2, .int (x2 + 1)), (1, .int (x1 + (0 : Int32))), (0, .ref (a 28))]) hx hb dX1_silentOnes_29 hl (k := 2) rfl rfl (by decide) rfl (fun ls hl => ?_)
        refine lv_goto (tgt := 4) hx hb dX1_silentOnes_32 (by decide) ?_
        exact ih (x1 + (0 : Int32)) (x2 + 1) h H locs ls B (lv_sub hl [2, 1, 0] rfl)
      · rw [if_pos c_3] at h
        refine lv_iconst (v := 1) hx hb dX1_silentOnes_22 (by decide) ?_
        refine lv_goto (tgt := 27) hx hb dX1_silentOnes_23 (by decide) ?_
        refine lv_iadd hx hb dX1_silentOnes_27 ?_
        refine lv_istore_n (lv' := [(1, .int (x1 + (1 : Int32))), (0, .ref (a 28)), (2, .int x2)]) hx hb dX1_silentOnes_28 rfl hl (by decide) rfl (fun ls hl => ?_)
        refine lv_iinc (v := (x2 + 1)) (lv' := [(2, .int (x2 + 1)), (1, .int (x1 + (1 : Int32))), (0, .ref (a 28))]) hx hb dX1_silentOnes_29 hl (k := 2) rfl rfl (by decide) rfl (fun ls hl => ?_)
        refine lv_goto (tgt := 4) hx hb dX1_silentOnes_32 (by decide) ?_
        exact ih (x1 + (1 : Int32)) (x2 + 1) h H locs ls B (lv_sub hl [2, 1, 0] rfl)
set_option maxHeartbeats 4000000 in
set_option maxRecDepth 100000 in
theorem qX1_silentOnes_0 (C : CT p s m args meth c RX1 cX1_silentOnes 3 (some .int) wsX1_silentOnes D A (tyl cI cJ cT) Es) {N : Nat} {ch_nodes : Nat → Int32} {ch_signs : Nat → Int32} {ch_felt : Nat → Int32} {ch_count : Int32} {z_r : Int32} : fX1_silentOnes N ch_felt ch_count = some z_r → ∀ (H : Heap) (locs : List Loc) (ls : Array Slot), DB D A (wd_ch a b cI cJ cT ch_nodes ch_signs ch_felt ch_count) s H locs → lv_has ls 3 [(0, .ref (a 28))] → W p l e rmX1_silentOnes s m args below meth c H locs 0 0 (ZI below args s D A (tyl cI cJ cT) z_r (wd_ch a b cI cJ cT ch_nodes ch_signs ch_felt ch_count) 0 0) (F0 m 0 ls []) := by
  have hx := C.1.1
  have hb := C.1.2.1
  have hown := C.1.2.2.2.1
  have hts := C.1.2.2.2.2
  intro h H locs ls B hl
  rw [fX1_silentOnes] at h
  refine lv_iconst (v := 0) hx hb dX1_silentOnes_0 (by decide) ?_
  refine lv_istore_n (lv' := [(1, .int (0 : Int32)), (0, .ref (a 28))]) hx hb dX1_silentOnes_1 rfl hl (by decide) rfl (fun ls hl => ?_)
  refine lv_iconst (v := 0) hx hb dX1_silentOnes_2 (by decide) ?_
  refine lv_istore_n (lv' := [(2, .int (0 : Int32)), (1, .int (0 : Int32)), (0, .ref (a 28))]) hx hb dX1_silentOnes_3 rfl hl (by decide) rfl (fun ls hl => ?_)
  exact qX1_silentOnes_4 C N (0 : Int32) (0 : Int32) h H locs ls B (lv_sub hl [2, 1, 0] rfl)
end
theorem tX1_silentOnes {l : Launch} {D : va_G} {Es : (Nat → Nat) × (Nat → Nat)} {a b : Nat → Nat} {cI cJ cT : ClassId} {ch_nodes : Nat → Int32} {ch_signs : Nat → Int32} {ch_felt : Nat → Int32} {ch_count : Int32} {z_r : Int32} (N : Nat) (h : fX1_silentOnes N ch_felt ch_count = some z_r) : CtI l yX1_silentOnes wsX1_silentOnes rmX1_silentOnes D (tyl cI cJ cT) Es [.ref (a 28)] (wd_ch a b cI cJ cT ch_nodes ch_signs ch_felt ch_count) z_r (wd_ch a b cI cJ cT ch_nodes ch_signs ch_felt ch_count) :=
  CtI.of (own := RX1) (cc := cX1_silentOnes) (nL := 3) (ret := (some .int)) (by decide +kernel) rfl rfl (Nat.le_of_ble_eq_true rfl) rfl (fun p e s m below meth c A ls C B hl => qX1_silentOnes_0 C (N := N) h _ _ _ B hl)

abbrev rmX8_noneFailsFor : Room := { frames := 3, cells := 0, slots := 0, locals := 68 }
theorem hdX8_noneFailsFor : yX8_noneFailsFor.cls ≠ "java/lang/invoke/MethodHandle" ∧ yX8_noneFailsFor.cls ≠ "java/lang/invoke/VarHandle" ∧ (parseMethodDescriptor yX8_noneFailsFor.desc).map (fun d => d.parameters.length) = some 1 := by decide +kernel
theorem iX8_noneFailsFor_X8 : ∀ w ∈ wsX80, w ∈ wsX8_noneFailsFor := by decide +kernel
theorem gfX8_noneFailsFor_18 {p : Program} {l : Launch} {e : Env} {R : Room} {s : State} {m : MethodId} {args : Array Value} {below : List Frame} {meth : Method} {c : Code} {H : Heap} {locs : List Loc} {cells slots : Nat} {Q : State → Prop} {D : va_G} {A : Nat → Prop} {tys : List (ClassId × FieldType)} {Es : (Nat → Nat) × (Nat → Nat)} {ws : va_W} {pc : Nat} {ls : Array Slot} {rest : List Value} {a : Nat} (C : CT p s m args meth c RX8 cX8_noneFailsFor 3 (some .boolean) wsX8_noneFailsFor D A tys Es) (B : DB D A ws s H locs) (q0 : Nat) {fs : List Value} {v : Value} (he : ws[q0]? = some (a, .inr (8, fs))) (hv : fs[2]? = some v) (hdg : decode cX8_noneFailsFor pc = .ok (.getfield 18, 3)) (kk : W p l e R s m args below meth c H locs cells slots Q (F0 m (pc + 3) ls (v :: rest))) : W p l e R s m args below meth c H locs cells slots Q (F0 m pc ls (.ref a :: rest)) :=
  k_get (Cn := RX8) (T := TX8) (N := 4) (index := 18) C B iX8_noneFailsFor_X8 rfl 2 (by decide) (by decide +kernel) q0 he hv hdg kk
section
variable {p : Program} {l : Launch} {e : Env} {s : State} {m : MethodId} {args : Array Value} {below : List Frame} {meth : Method} {c : Code} {D : va_G} {A : Nat → Prop} {Es : (Nat → Nat) × (Nat → Nat)} {a b : Nat → Nat} {cI cJ cT : ClassId}
set_option maxHeartbeats 4000000 in
set_option maxRecDepth 100000 in
theorem qX8_noneFailsFor_2 (C : CT p s m args meth c RX8 cX8_noneFailsFor 3 (some .boolean) wsX8_noneFailsFor D A (tyl cI cJ cT) Es) {N : Nat} {rs_low : Nat → Int64} {rs_mid : Nat → Int64} {rs_high : Nat → Int64} {te_inputs : Nat → Int32} {te_dues : Nat → Int32} {te_count : Int32} {z_r : Int32} : ∀ (n : Nat) (x1 : Int32) (x2 : Int32), bX8_noneFailsFor_2 N rs_low rs_mid rs_high te_inputs te_dues te_count n x1 x2 = some z_r → ∀ (H : Heap) (locs : List Loc) (ls : Array Slot), DB D A (wd_rs_te a b cI cJ cT rs_low rs_mid rs_high te_inputs te_dues te_count) s H locs → lv_has ls 3 [(0, .ref (a 32)), (1, .int x1), (2, .int x2)] → W p l e rmX8_noneFailsFor s m args below meth c H locs 0 0 (ZI below args s D A (tyl cI cJ cT) z_r (wd_rs_te a b cI cJ cT rs_low rs_mid rs_high te_inputs te_dues te_count) 0 0) (F0 m 2 ls []) := by
  have hx := C.1.1
  have hb := C.1.2.1
  have hown := C.1.2.2.2.1
  have hts := C.1.2.2.2.2
  intro n
  induction n with
  | zero => intro x1 x2 h; cases h
  | succ n ih =>
    intro x1 x2 h H locs ls B hl
    rw [bX8_noneFailsFor_2] at h
    refine lv_iload_n hx hb dX8_noneFailsFor_2 rfl (lv_at hl 2 rfl) ?_
    refine lv_aload_n hx hb dX8_noneFailsFor_3 rfl (lv_at hl 0 rfl) ?_
    refine gfX8_noneFailsFor_18 C B 4 rfl rfl dX8_noneFailsFor_4 ?_
    refine lv_icmp_ge (tgt := 27) hx hb dX8_noneFailsFor_7 (by decide) (fun c_1 => ?_) (fun c_1 => ?_)
    · rw [if_pos c_1] at h
      refine lv_iconst (v := 1) hx hb dX8_noneFailsFor_27 (by decide) ?_
      cases h
      exact k_zret C B (by decide) dX8_noneFailsFor_28
    · rw [if_neg c_1] at h
      refine lv_aload_n hx hb dX8_noneFailsFor_10 rfl (lv_at hl 0 rfl) ?_
      refine lv_iload_n hx hb dX8_noneFailsFor_11 rfl (lv_at hl 2 rfl) ?_
      refine lv_iload_n hx hb dX8_noneFailsFor_12 rfl (lv_at hl 1 rfl) ?_
      obtain ⟨r_2, g_4, h⟩ := ob_some h
      try dsimp only at h
      refine kc_VI C B (q0 := 4) (ci := 8) (As := [.int x2, .int x1]) (rest := []) (w2 := (wd_rs_te a b cI cJ cT rs_low rs_mid rs_high te_inputs te_dues te_count)) (tX8_failsFor (a := a) (b := b) N g_4) gX8_noneFailsFor_X8_failsFor rfl ⟨rfl, rfl⟩ ⟨rfl, hdX8_failsFor⟩ ⟨Nat.le_of_ble_eq_true rfl, Nat.le_of_ble_eq_true rfl⟩ rfl rfl [0, 1, 2, 3, 4, 5, 6] [] [0, 1, 2, 3, 4, 5, 6] rfl rfl rfl rfl rfl rfl rfl rfl hl.1 rfl (Nat.le_of_ble_eq_true rfl) ⟨Nat.zero_le _, Nat.zero_le _⟩ dX8_noneFailsFor_13 (fun H locs B => ?_)
      refine lv_if_eq (tgt := 21) hx hb dX8_noneFailsFor_16 (by decide) (fun c_3 => ?_) (fun c_3 => ?_)
      · rw [if_pos c_3] at h
        refine lv_iinc (v := (x2 + 1)) (lv' := [(2, .int (x2 + 1)), (0, .ref (a 32)), (1, .int x1)]) hx hb dX8_noneFailsFor_21 hl (k := 2) rfl rfl (by decide) rfl (fun ls hl => ?_)
        refine lv_goto (tgt := 2) hx hb dX8_noneFailsFor_24 (by decide) ?_
        exact ih x1 (x2 + 1) h H locs ls B (lv_sub hl [1, 2, 0] rfl)
      · rw [if_neg c_3] at h
        refine lv_iconst (v := 0) hx hb dX8_noneFailsFor_19 (by decide) ?_
        cases h
        exact k_zret C B (by decide) dX8_noneFailsFor_20
set_option maxHeartbeats 4000000 in
set_option maxRecDepth 100000 in
theorem qX8_noneFailsFor_0 (C : CT p s m args meth c RX8 cX8_noneFailsFor 3 (some .boolean) wsX8_noneFailsFor D A (tyl cI cJ cT) Es) {N : Nat} {rs_low : Nat → Int64} {rs_mid : Nat → Int64} {rs_high : Nat → Int64} {te_inputs : Nat → Int32} {te_dues : Nat → Int32} {te_count : Int32} {z_r : Int32} : ∀ (x1 : Int32), fX8_noneFailsFor N rs_low rs_mid rs_high te_inputs te_dues te_count x1 = some z_r → ∀ (H : Heap) (locs : List Loc) (ls : Array Slot), DB D A (wd_rs_te a b cI cJ cT rs_low rs_mid rs_high te_inputs te_dues te_count) s H locs → lv_has ls 3 [(0, .ref (a 32)), (1, .int x1)] → W p l e rmX8_noneFailsFor s m args below meth c H locs 0 0 (ZI below args s D A (tyl cI cJ cT) z_r (wd_rs_te a b cI cJ cT rs_low rs_mid rs_high te_inputs te_dues te_count) 0 0) (F0 m 0 ls []) := by
  have hx := C.1.1
  have hb := C.1.2.1
  have hown := C.1.2.2.2.1
  have hts := C.1.2.2.2.2
  intro x1 h H locs ls B hl
  rw [fX8_noneFailsFor] at h
  refine lv_iconst (v := 0) hx hb dX8_noneFailsFor_0 (by decide) ?_
  refine lv_istore_n (lv' := [(2, .int (0 : Int32)), (0, .ref (a 32)), (1, .int x1)]) hx hb dX8_noneFailsFor_1 rfl hl (by decide) rfl (fun ls hl => ?_)
  exact qX8_noneFailsFor_2 C N x1 (0 : Int32) h H locs ls B (lv_sub hl [1, 2, 0] rfl)
end
theorem tX8_noneFailsFor {l : Launch} {D : va_G} {Es : (Nat → Nat) × (Nat → Nat)} {a b : Nat → Nat} {cI cJ cT : ClassId} {rs_low : Nat → Int64} {rs_mid : Nat → Int64} {rs_high : Nat → Int64} {te_inputs : Nat → Int32} {te_dues : Nat → Int32} {te_count : Int32} {x1 : Int32} {z_r : Int32} (N : Nat) (h : fX8_noneFailsFor N rs_low rs_mid rs_high te_inputs te_dues te_count x1 = some z_r) : CtI l yX8_noneFailsFor wsX8_noneFailsFor rmX8_noneFailsFor D (tyl cI cJ cT) Es [.ref (a 32), .int x1] (wd_rs_te a b cI cJ cT rs_low rs_mid rs_high te_inputs te_dues te_count) z_r (wd_rs_te a b cI cJ cT rs_low rs_mid rs_high te_inputs te_dues te_count) :=
  CtI.of (own := RX8) (cc := cX8_noneFailsFor) (nL := 3) (ret := (some .boolean)) (by decide +kernel) rfl rfl (Nat.le_of_ble_eq_true rfl) rfl (fun p e s m below meth c A ls C B hl => qX8_noneFailsFor_0 C (N := N) x1 h _ _ _ B hl)

abbrev rmX7_isUnlikeAt : Room := { frames := 1, cells := 0, slots := 0, locals := 25 }
theorem hdX7_isUnlikeAt : yX7_isUnlikeAt.cls ≠ "java/lang/invoke/MethodHandle" ∧ yX7_isUnlikeAt.cls ≠ "java/lang/invoke/VarHandle" ∧ (parseMethodDescriptor yX7_isUnlikeAt.desc).map (fun d => d.parameters.length) = some 3 := by decide +kernel
section
variable {p : Program} {l : Launch} {e : Env} {s : State} {m : MethodId} {args : Array Value} {below : List Frame} {meth : Method} {c : Code} {D : va_G} {A : Nat → Prop} {Es : (Nat → Nat) × (Nat → Nat)} {a b : Nat → Nat} {cI cJ cT : ClassId}
set_option maxHeartbeats 4000000 in
set_option maxRecDepth 100000 in
theorem qX7_isUnlikeAt_0 (C : CT p s m args meth c RX7 cX7_isUnlikeAt 4 (some .boolean) wsX7_isUnlikeAt D A (tyl cI cJ cT) Es) {N : Nat} {rs_low : Nat → Int64} {rs_mid : Nat → Int64} {rs_high : Nat → Int64} {z_r : Int32} : ∀ (x1 : Int32) (x2 : Int32) (x3 : Int32), fX7_isUnlikeAt N rs_low rs_mid rs_high x1 x2 x3 = some z_r → ∀ (H : Heap) (locs : List Loc) (ls : Array Slot), DB D A (wd_rs a b cI cJ cT rs_low rs_mid rs_high) s H locs → lv_has ls 4 [(0, .ref (a 24)), (1, .int x1), (2, .int x2), (3, .int x3)] → W p l e rmX7_isUnlikeAt s m args below meth c H locs 0 0 (ZI below args s D A (tyl cI cJ cT) z_r (wd_rs a b cI cJ cT rs_low rs_mid rs_high) 0 0) (F0 m 0 ls []) := by
  have hx := C.1.1
  have hb := C.1.2.1
  have hown := C.1.2.2.2.1
  have hts := C.1.2.2.2.2
  intro x1 x2 x3 h H locs ls B hl
  rw [fX7_isUnlikeAt] at h
  refine lv_aload_n hx hb dX7_isUnlikeAt_0 rfl (lv_at hl 0 rfl) ?_
  refine lv_iload_n hx hb dX7_isUnlikeAt_1 rfl (lv_at hl 1 rfl) ?_
  refine lv_iload_n hx hb dX7_isUnlikeAt_2 rfl (lv_at hl 2 rfl) ?_
  refine lv_iload_n hx hb dX7_isUnlikeAt_3 rfl (lv_at hl 3 rfl) ?_
  refine lv_bipush (v := 64) hx hb dX7_isUnlikeAt_4 (by decide) ?_
  refine lv_idiv hx hb dX7_isUnlikeAt_6 (by decide) ?_
  obtain ⟨r_1, g_5, h⟩ := ob_some h
  try dsimp only at h
  refine kc_VL C B (q0 := 0) (ci := 7) (As := [.int x1, .int x2, .int (x3 / (64 : Int32))]) (rest := []) (w2 := (wd_rs a b cI cJ cT rs_low rs_mid rs_high)) (tX7_unlike (a := a) (b := b) N g_5) gX7_isUnlikeAt_X7_unlike rfl ⟨rfl, rfl⟩ ⟨rfl, hdX7_unlike⟩ ⟨Nat.le_of_ble_eq_true rfl, Nat.le_of_ble_eq_true rfl⟩ rfl rfl [0, 1, 2, 3] [] [0, 1, 2, 3] rfl rfl rfl rfl rfl rfl rfl rfl hl.1 rfl (Nat.le_of_ble_eq_true rfl) ⟨Nat.zero_le _, Nat.zero_le _⟩ dX7_isUnlikeAt_7 (fun H locs B => ?_)
  refine lv_iload_n hx hb dX7_isUnlikeAt_10 rfl (lv_at hl 3 rfl) ?_
  refine lv_bipush (v := 64) hx hb dX7_isUnlikeAt_11 (by decide) ?_
  refine lv_irem hx hb dX7_isUnlikeAt_13 (by decide) ?_
  obtain ⟨r_2, g_4, h⟩ := ob_some h
  try dsimp only at h
  refine kc_SI C B (As := [.long r_1, .int (x3 - x3 / (64 : Int32) * (64 : Int32))]) (rest := []) (w2 := (wd_rs a b cI cJ cT rs_low rs_mid rs_high)) (tX7_bitAt N g_4) gX7_isUnlikeAt_X7_bitAt rfl ⟨rfl, rfl⟩ hdX7_bitAt ⟨Nat.le_of_ble_eq_true rfl, Nat.le_of_ble_eq_true rfl⟩ [] [0, 1, 2, 3] [0, 1, 2, 3] rfl rfl rfl rfl rfl rfl rfl rfl hl.1 rfl (Nat.le_of_ble_eq_true rfl) ⟨Nat.zero_le _, Nat.zero_le _⟩ dX7_isUnlikeAt_14 (fun H locs B => ?_)
  refine lv_if_eq (tgt := 24) hx hb dX7_isUnlikeAt_17 (by decide) (fun c_3 => ?_) (fun c_3 => ?_)
  · rw [if_pos c_3] at h
    refine lv_iconst (v := 0) hx hb dX7_isUnlikeAt_24 (by decide) ?_
    cases h
    exact k_zret C B (by decide) dX7_isUnlikeAt_25
  · rw [if_neg c_3] at h
    refine lv_iconst (v := 1) hx hb dX7_isUnlikeAt_20 (by decide) ?_
    refine lv_goto (tgt := 25) hx hb dX7_isUnlikeAt_21 (by decide) ?_
    cases h
    exact k_zret C B (by decide) dX7_isUnlikeAt_25
end
theorem tX7_isUnlikeAt {l : Launch} {D : va_G} {Es : (Nat → Nat) × (Nat → Nat)} {a b : Nat → Nat} {cI cJ cT : ClassId} {rs_low : Nat → Int64} {rs_mid : Nat → Int64} {rs_high : Nat → Int64} {x1 : Int32} {x2 : Int32} {x3 : Int32} {z_r : Int32} (N : Nat) (h : fX7_isUnlikeAt N rs_low rs_mid rs_high x1 x2 x3 = some z_r) : CtI l yX7_isUnlikeAt wsX7_isUnlikeAt rmX7_isUnlikeAt D (tyl cI cJ cT) Es [.ref (a 24), .int x1, .int x2, .int x3] (wd_rs a b cI cJ cT rs_low rs_mid rs_high) z_r (wd_rs a b cI cJ cT rs_low rs_mid rs_high) :=
  CtI.of (own := RX7) (cc := cX7_isUnlikeAt) (nL := 4) (ret := (some .boolean)) (by decide +kernel) rfl rfl (Nat.le_of_ble_eq_true rfl) rfl (fun p e s m below meth c A ls C B hl => qX7_isUnlikeAt_0 C (N := N) x1 x2 x3 h _ _ _ B hl)

abbrev rmX4_testsThatNotice : Room := { frames := 2, cells := 0, slots := 0, locals := 48 }
theorem hdX4_testsThatNotice : yX4_testsThatNotice.cls ≠ "java/lang/invoke/MethodHandle" ∧ yX4_testsThatNotice.cls ≠ "java/lang/invoke/VarHandle" ∧ (parseMethodDescriptor yX4_testsThatNotice.desc).map (fun d => d.parameters.length) = some 1 := by decide +kernel
theorem iX4_testsThatNotice_X4 : ∀ w ∈ wsX40, w ∈ wsX4_testsThatNotice := by decide +kernel
theorem gfX4_testsThatNotice_30 {p : Program} {l : Launch} {e : Env} {R : Room} {s : State} {m : MethodId} {args : Array Value} {below : List Frame} {meth : Method} {c : Code} {H : Heap} {locs : List Loc} {cells slots : Nat} {Q : State → Prop} {D : va_G} {A : Nat → Prop} {tys : List (ClassId × FieldType)} {Es : (Nat → Nat) × (Nat → Nat)} {ws : va_W} {pc : Nat} {ls : Array Slot} {rest : List Value} {a : Nat} (C : CT p s m args meth c RX4 cX4_testsThatNotice 4 (some .int) wsX4_testsThatNotice D A tys Es) (B : DB D A ws s H locs) (q0 : Nat) {fs : List Value} {v : Value} (he : ws[q0]? = some (a, .inr (4, fs))) (hv : fs[5]? = some v) (hdg : decode cX4_testsThatNotice pc = .ok (.getfield 30, 3)) (kk : W p l e R s m args below meth c H locs cells slots Q (F0 m (pc + 3) ls (v :: rest))) : W p l e R s m args below meth c H locs cells slots Q (F0 m pc ls (.ref a :: rest)) :=
  k_get (Cn := RX4) (T := TX4) (N := 7) (index := 30) C B iX4_testsThatNotice_X4 rfl 5 (by decide) (by decide +kernel) q0 he hv hdg kk
theorem iX4_testsThatNotice_X8 : ∀ w ∈ wsX80, w ∈ wsX4_testsThatNotice := by decide +kernel
theorem gfX4_testsThatNotice_47 {p : Program} {l : Launch} {e : Env} {R : Room} {s : State} {m : MethodId} {args : Array Value} {below : List Frame} {meth : Method} {c : Code} {H : Heap} {locs : List Loc} {cells slots : Nat} {Q : State → Prop} {D : va_G} {A : Nat → Prop} {tys : List (ClassId × FieldType)} {Es : (Nat → Nat) × (Nat → Nat)} {ws : va_W} {pc : Nat} {ls : Array Slot} {rest : List Value} {a : Nat} (C : CT p s m args meth c RX4 cX4_testsThatNotice 4 (some .int) wsX4_testsThatNotice D A tys Es) (B : DB D A ws s H locs) (q0 : Nat) {fs : List Value} {v : Value} (he : ws[q0]? = some (a, .inr (8, fs))) (hv : fs[2]? = some v) (hdg : decode cX4_testsThatNotice pc = .ok (.getfield 47, 3)) (kk : W p l e R s m args below meth c H locs cells slots Q (F0 m (pc + 3) ls (v :: rest))) : W p l e R s m args below meth c H locs cells slots Q (F0 m pc ls (.ref a :: rest)) :=
  k_get (Cn := RX8) (T := TX8) (N := 4) (index := 47) C B iX4_testsThatNotice_X8 rfl 2 (by decide) (by decide +kernel) q0 he hv hdg kk
theorem gfX4_testsThatNotice_34 {p : Program} {l : Launch} {e : Env} {R : Room} {s : State} {m : MethodId} {args : Array Value} {below : List Frame} {meth : Method} {c : Code} {H : Heap} {locs : List Loc} {cells slots : Nat} {Q : State → Prop} {D : va_G} {A : Nat → Prop} {tys : List (ClassId × FieldType)} {Es : (Nat → Nat) × (Nat → Nat)} {ws : va_W} {pc : Nat} {ls : Array Slot} {rest : List Value} {a : Nat} (C : CT p s m args meth c RX4 cX4_testsThatNotice 4 (some .int) wsX4_testsThatNotice D A tys Es) (B : DB D A ws s H locs) (q0 : Nat) {fs : List Value} {v : Value} (he : ws[q0]? = some (a, .inr (4, fs))) (hv : fs[6]? = some v) (hdg : decode cX4_testsThatNotice pc = .ok (.getfield 34, 3)) (kk : W p l e R s m args below meth c H locs cells slots Q (F0 m (pc + 3) ls (v :: rest))) : W p l e R s m args below meth c H locs cells slots Q (F0 m pc ls (.ref a :: rest)) :=
  k_get (Cn := RX4) (T := TX4) (N := 7) (index := 34) C B iX4_testsThatNotice_X4 rfl 6 (by decide) (by decide +kernel) q0 he hv hdg kk
theorem gfX4_testsThatNotice_50 {p : Program} {l : Launch} {e : Env} {R : Room} {s : State} {m : MethodId} {args : Array Value} {below : List Frame} {meth : Method} {c : Code} {H : Heap} {locs : List Loc} {cells slots : Nat} {Q : State → Prop} {D : va_G} {A : Nat → Prop} {tys : List (ClassId × FieldType)} {Es : (Nat → Nat) × (Nat → Nat)} {ws : va_W} {pc : Nat} {ls : Array Slot} {rest : List Value} {a : Nat} (C : CT p s m args meth c RX4 cX4_testsThatNotice 4 (some .int) wsX4_testsThatNotice D A tys Es) (B : DB D A ws s H locs) (q0 : Nat) {fs : List Value} {v : Value} (he : ws[q0]? = some (a, .inr (8, fs))) (hv : fs[0]? = some v) (hdg : decode cX4_testsThatNotice pc = .ok (.getfield 50, 3)) (kk : W p l e R s m args below meth c H locs cells slots Q (F0 m (pc + 3) ls (v :: rest))) : W p l e R s m args below meth c H locs cells slots Q (F0 m pc ls (.ref a :: rest)) :=
  k_get (Cn := RX8) (T := TX8) (N := 4) (index := 50) C B iX4_testsThatNotice_X8 rfl 0 (by decide) (by decide +kernel) q0 he hv hdg kk
section
variable {p : Program} {l : Launch} {e : Env} {s : State} {m : MethodId} {args : Array Value} {below : List Frame} {meth : Method} {c : Code} {D : va_G} {A : Nat → Prop} {Es : (Nat → Nat) × (Nat → Nat)} {a b : Nat → Nat} {cI cJ cT : ClassId}
set_option maxHeartbeats 4000000 in
set_option maxRecDepth 100000 in
theorem qX4_testsThatNotice_4 (C : CT p s m args meth c RX4 cX4_testsThatNotice 4 (some .int) wsX4_testsThatNotice D A (tyl cI cJ cT) Es) {N : Nat} {rs_low : Nat → Int64} {rs_mid : Nat → Int64} {rs_high : Nat → Int64} {te_inputs : Nat → Int32} {te_dues : Nat → Int32} {te_count : Int32} {no_bits : Nat → Int32} {no_wishedInputs : Int32} {no_wishedMany : Int32} {no_hiddenUnlike : Nat → Int64} {z_r : Int32} : ∀ (n : Nat) (x1 : Int32) (x2 : Int32) (x3 : Int32), bX4_testsThatNotice_4 N rs_low rs_mid rs_high te_inputs te_count n x1 x2 x3 = some z_r → ∀ (H : Heap) (locs : List Loc) (ls : Array Slot), DB D A (wd_rs_te_no a b cI cJ cT rs_low rs_mid rs_high te_inputs te_dues te_count no_bits no_wishedInputs no_wishedMany no_hiddenUnlike) s H locs → lv_has ls 4 [(0, .ref (a 35)), (1, .int x1), (2, .int x2), (3, .int x3)] → W p l e rmX4_testsThatNotice s m args below meth c H locs 0 0 (ZI below args s D A (tyl cI cJ cT) z_r (wd_rs_te_no a b cI cJ cT rs_low rs_mid rs_high te_inputs te_dues te_count no_bits no_wishedInputs no_wishedMany no_hiddenUnlike) 0 0) (F0 m 4 ls []) := by
  have hx := C.1.1
  have hb := C.1.2.1
  have hown := C.1.2.2.2.1
  have hts := C.1.2.2.2.2
  intro n
  induction n with
  | zero => intro x1 x2 x3 h; cases h
  | succ n ih =>
    intro x1 x2 x3 h H locs ls B hl
    rw [bX4_testsThatNotice_4] at h
    refine lv_iload_n hx hb dX4_testsThatNotice_4 rfl (lv_at hl 3 rfl) ?_
    refine lv_aload_n hx hb dX4_testsThatNotice_5 rfl (lv_at hl 0 rfl) ?_
    refine gfX4_testsThatNotice_30 C B 7 rfl rfl dX4_testsThatNotice_6 ?_
    refine gfX4_testsThatNotice_47 C B 4 rfl rfl dX4_testsThatNotice_9 ?_
    refine lv_icmp_ge (tgt := 50) hx hb dX4_testsThatNotice_12 (by decide) (fun c_1 => ?_) (fun c_1 => ?_)
    · rw [if_pos c_1] at h
      refine lv_iload_n hx hb dX4_testsThatNotice_50 rfl (lv_at hl 2 rfl) ?_
      cases h
      exact k_iret C B dX4_testsThatNotice_51
    · rw [if_neg c_1] at h
      refine lv_aload_n hx hb dX4_testsThatNotice_15 rfl (lv_at hl 0 rfl) ?_
      refine gfX4_testsThatNotice_34 C B 7 rfl rfl dX4_testsThatNotice_16 ?_
      refine lv_iconst (v := 2) hx hb dX4_testsThatNotice_19 (by decide) ?_
      refine lv_iload_n hx hb dX4_testsThatNotice_20 rfl (lv_at hl 1 rfl) ?_
      refine lv_iadd hx hb dX4_testsThatNotice_21 ?_
      refine lv_iconst (v := 0) hx hb dX4_testsThatNotice_22 (by decide) ?_
      refine lv_aload_n hx hb dX4_testsThatNotice_23 rfl (lv_at hl 0 rfl) ?_
      refine gfX4_testsThatNotice_30 C B 7 rfl rfl dX4_testsThatNotice_24 ?_
      refine gfX4_testsThatNotice_50 C B 4 rfl rfl dX4_testsThatNotice_27 ?_
      refine lv_iload_n hx hb dX4_testsThatNotice_30 rfl (lv_at hl 3 rfl) ?_
      obtain ⟨b_2, h⟩ := bnd_some h
      refine k_iald C B 5 0 rfl rfl b_2 dX4_testsThatNotice_31 ?_
      obtain ⟨r_3, g_5, h⟩ := ob_some h
      try dsimp only at h
      refine kc_VI C B (q0 := 0) (ci := 7) (As := [.int ((2 : Int32) + x1), .int (0 : Int32), .int (te_inputs (Int32.toNatClampNeg x3))]) (rest := []) (w2 := (wd_rs_te_no a b cI cJ cT rs_low rs_mid rs_high te_inputs te_dues te_count no_bits no_wishedInputs no_wishedMany no_hiddenUnlike)) (tX7_isUnlikeAt (a := a) (b := b) N g_5) gX4_testsThatNotice_X7_isUnlikeAt rfl ⟨rfl, rfl⟩ ⟨rfl, hdX7_isUnlikeAt⟩ ⟨Nat.le_of_ble_eq_true rfl, Nat.le_of_ble_eq_true rfl⟩ rfl rfl [0, 1, 2, 3] [4, 5, 6, 7, 8, 9] [6, 7, 8, 9, 0, 1, 2, 3, 4, 5] rfl rfl rfl rfl rfl rfl rfl rfl hl.1 rfl (Nat.le_of_ble_eq_true rfl) ⟨Nat.zero_le _, Nat.zero_le _⟩ dX4_testsThatNotice_32 (fun H locs B => ?_)
      refine lv_if_eq (tgt := 44) hx hb dX4_testsThatNotice_35 (by decide) (fun c_4 => ?_) (fun c_4 => ?_)
      · rw [if_pos c_4] at h
        refine lv_iinc (v := (x3 + 1)) (lv' := [(3, .int (x3 + 1)), (0, .ref (a 35)), (1, .int x1), (2, .int x2)]) hx hb dX4_testsThatNotice_44 hl (k := 3) rfl rfl (by decide) rfl (fun ls hl => ?_)
        refine lv_goto (tgt := 4) hx hb dX4_testsThatNotice_47 (by decide) ?_
        exact ih x1 x2 (x3 + 1) h H locs ls B (lv_sub hl [1, 2, 3, 0] rfl)
      · rw [if_neg c_4] at h
        refine lv_iload_n hx hb dX4_testsThatNotice_38 rfl (lv_at hl 2 rfl) ?_
        refine lv_iconst (v := 1) hx hb dX4_testsThatNotice_39 (by decide) ?_
        refine lv_iload_n hx hb dX4_testsThatNotice_40 rfl (lv_at hl 3 rfl) ?_
        refine lv_ishl hx hb dX4_testsThatNotice_41 ?_
        refine lv_ior hx hb dX4_testsThatNotice_42 ?_
        refine lv_istore_n (lv' := [(2, .int (x2 ||| ((1 : Int32) <<< (x3 &&& 31)))), (0, .ref (a 35)), (1, .int x1), (3, .int x3)]) hx hb dX4_testsThatNotice_43 rfl hl (by decide) rfl (fun ls hl => ?_)
        refine lv_iinc (v := (x3 + 1)) (lv' := [(3, .int (x3 + 1)), (2, .int (x2 ||| ((1 : Int32) <<< (x3 &&& 31)))), (0, .ref (a 35)), (1, .int x1)]) hx hb dX4_testsThatNotice_44 hl (k := 3) rfl rfl (by decide) rfl (fun ls hl => ?_)
        refine lv_goto (tgt := 4) hx hb dX4_testsThatNotice_47 (by decide) ?_
        exact ih x1 (x2 ||| ((1 : Int32) <<< (x3 &&& 31))) (x3 + 1) h H locs ls B (lv_sub hl [2, 3, 1, 0] rfl)
set_option maxHeartbeats 4000000 in
set_option maxRecDepth 100000 in
theorem qX4_testsThatNotice_0 (C : CT p s m args meth c RX4 cX4_testsThatNotice 4 (some .int) wsX4_testsThatNotice D A (tyl cI cJ cT) Es) {N : Nat} {rs_low : Nat → Int64} {rs_mid : Nat → Int64} {rs_high : Nat → Int64} {te_inputs : Nat → Int32} {te_dues : Nat → Int32} {te_count : Int32} {no_bits : Nat → Int32} {no_wishedInputs : Int32} {no_wishedMany : Int32} {no_hiddenUnlike : Nat → Int64} {z_r : Int32} : ∀ (x1 : Int32), fX4_testsThatNotice N rs_low rs_mid rs_high te_inputs te_count x1 = some z_r → ∀ (H : Heap) (locs : List Loc) (ls : Array Slot), DB D A (wd_rs_te_no a b cI cJ cT rs_low rs_mid rs_high te_inputs te_dues te_count no_bits no_wishedInputs no_wishedMany no_hiddenUnlike) s H locs → lv_has ls 4 [(0, .ref (a 35)), (1, .int x1)] → W p l e rmX4_testsThatNotice s m args below meth c H locs 0 0 (ZI below args s D A (tyl cI cJ cT) z_r (wd_rs_te_no a b cI cJ cT rs_low rs_mid rs_high te_inputs te_dues te_count no_bits no_wishedInputs no_wishedMany no_hiddenUnlike) 0 0) (F0 m 0 ls []) := by
  have hx := C.1.1
  have hb := C.1.2.1
  have hown := C.1.2.2.2.1
  have hts := C.1.2.2.2.2
  intro x1 h H locs ls B hl
  rw [fX4_testsThatNotice] at h
  refine lv_iconst (v := 0) hx hb dX4_testsThatNotice_0 (by decide) ?_
  refine lv_istore_n (lv' := [(2, .int (0 : Int32)), (0, .ref (a 35)), (1, .int x1)]) hx hb dX4_testsThatNotice_1 rfl hl (by decide) rfl (fun ls hl => ?_)
  refine lv_iconst (v := 0) hx hb dX4_testsThatNotice_2 (by decide) ?_
  refine lv_istore_n (lv' := [(3, .int (0 : Int32)), (2, .int (0 : Int32)), (0, .ref (a 35)), (1, .int x1)]) hx hb dX4_testsThatNotice_3 rfl hl (by decide) rfl (fun ls hl => ?_)
  exact qX4_testsThatNotice_4 C N x1 (0 : Int32) (0 : Int32) h H locs ls B (lv_sub hl [2, 3, 1, 0] rfl)
end
theorem tX4_testsThatNotice {l : Launch} {D : va_G} {Es : (Nat → Nat) × (Nat → Nat)} {a b : Nat → Nat} {cI cJ cT : ClassId} {rs_low : Nat → Int64} {rs_mid : Nat → Int64} {rs_high : Nat → Int64} {te_inputs : Nat → Int32} {te_dues : Nat → Int32} {te_count : Int32} {no_bits : Nat → Int32} {no_wishedInputs : Int32} {no_wishedMany : Int32} {no_hiddenUnlike : Nat → Int64} {x1 : Int32} {z_r : Int32} (N : Nat) (h : fX4_testsThatNotice N rs_low rs_mid rs_high te_inputs te_count x1 = some z_r) : CtI l yX4_testsThatNotice wsX4_testsThatNotice rmX4_testsThatNotice D (tyl cI cJ cT) Es [.ref (a 35), .int x1] (wd_rs_te_no a b cI cJ cT rs_low rs_mid rs_high te_inputs te_dues te_count no_bits no_wishedInputs no_wishedMany no_hiddenUnlike) z_r (wd_rs_te_no a b cI cJ cT rs_low rs_mid rs_high te_inputs te_dues te_count no_bits no_wishedInputs no_wishedMany no_hiddenUnlike) :=
  CtI.of (own := RX4) (cc := cX4_testsThatNotice) (nL := 4) (ret := (some .int)) (by decide +kernel) rfl rfl (Nat.le_of_ble_eq_true rfl) rfl (fun p e s m below meth c A ls C B hl => qX4_testsThatNotice_0 C (N := N) x1 h _ _ _ B hl)

abbrev rmX4_settle : Room := { frames := 3, cells := 0, slots := 0, locals := 71 }
theorem hdX4_settle : yX4_settle.cls ≠ "java/lang/invoke/MethodHandle" ∧ yX4_settle.cls ≠ "java/lang/invoke/VarHandle" ∧ (parseMethodDescriptor yX4_settle.desc).map (fun d => d.parameters.length) = some 0 := by decide +kernel
theorem iX4_settle_X4 : ∀ w ∈ wsX40, w ∈ wsX4_settle := by decide +kernel
theorem gfX4_settle_26 {p : Program} {l : Launch} {e : Env} {R : Room} {s : State} {m : MethodId} {args : Array Value} {below : List Frame} {meth : Method} {c : Code} {H : Heap} {locs : List Loc} {cells slots : Nat} {Q : State → Prop} {D : va_G} {A : Nat → Prop} {tys : List (ClassId × FieldType)} {Es : (Nat → Nat) × (Nat → Nat)} {ws : va_W} {pc : Nat} {ls : Array Slot} {rest : List Value} {a : Nat} (C : CT p s m args meth c RX4 cX4_settle 2 none wsX4_settle D A tys Es) (B : DB D A ws s H locs) (q0 : Nat) {fs : List Value} {v : Value} (he : ws[q0]? = some (a, .inr (4, fs))) (hv : fs[4]? = some v) (hdg : decode cX4_settle pc = .ok (.getfield 26, 3)) (kk : W p l e R s m args below meth c H locs cells slots Q (F0 m (pc + 3) ls (v :: rest))) : W p l e R s m args below meth c H locs cells slots Q (F0 m pc ls (.ref a :: rest)) :=
  k_get (Cn := RX4) (T := TX4) (N := 7) (index := 26) C B iX4_settle_X4 rfl 4 (by decide) (by decide +kernel) q0 he hv hdg kk
theorem iX4_settle_X1 : ∀ w ∈ wsX10, w ∈ wsX4_settle := by decide +kernel
theorem gfX4_settle_38 {p : Program} {l : Launch} {e : Env} {R : Room} {s : State} {m : MethodId} {args : Array Value} {below : List Frame} {meth : Method} {c : Code} {H : Heap} {locs : List Loc} {cells slots : Nat} {Q : State → Prop} {D : va_G} {A : Nat → Prop} {tys : List (ClassId × FieldType)} {Es : (Nat → Nat) × (Nat → Nat)} {ws : va_W} {pc : Nat} {ls : Array Slot} {rest : List Value} {a : Nat} (C : CT p s m args meth c RX4 cX4_settle 2 none wsX4_settle D A tys Es) (B : DB D A ws s H locs) (q0 : Nat) {fs : List Value} {v : Value} (he : ws[q0]? = some (a, .inr (1, fs))) (hv : fs[3]? = some v) (hdg : decode cX4_settle pc = .ok (.getfield 38, 3)) (kk : W p l e R s m args below meth c H locs cells slots Q (F0 m (pc + 3) ls (v :: rest))) : W p l e R s m args below meth c H locs cells slots Q (F0 m pc ls (.ref a :: rest)) :=
  k_get (Cn := RX1) (T := TX1) (N := 5) (index := 38) C B iX4_settle_X1 rfl 3 (by decide) (by decide +kernel) q0 he hv hdg kk
theorem gfX4_settle_9 {p : Program} {l : Launch} {e : Env} {R : Room} {s : State} {m : MethodId} {args : Array Value} {below : List Frame} {meth : Method} {c : Code} {H : Heap} {locs : List Loc} {cells slots : Nat} {Q : State → Prop} {D : va_G} {A : Nat → Prop} {tys : List (ClassId × FieldType)} {Es : (Nat → Nat) × (Nat → Nat)} {ws : va_W} {pc : Nat} {ls : Array Slot} {rest : List Value} {a : Nat} (C : CT p s m args meth c RX4 cX4_settle 2 none wsX4_settle D A tys Es) (B : DB D A ws s H locs) (q0 : Nat) {fs : List Value} {v : Value} (he : ws[q0]? = some (a, .inr (4, fs))) (hv : fs[0]? = some v) (hdg : decode cX4_settle pc = .ok (.getfield 9, 3)) (kk : W p l e R s m args below meth c H locs cells slots Q (F0 m (pc + 3) ls (v :: rest))) : W p l e R s m args below meth c H locs cells slots Q (F0 m pc ls (.ref a :: rest)) :=
  k_get (Cn := RX4) (T := TX4) (N := 7) (index := 9) C B iX4_settle_X4 rfl 0 (by decide) (by decide +kernel) q0 he hv hdg kk
section
variable {p : Program} {l : Launch} {e : Env} {s : State} {m : MethodId} {args : Array Value} {below : List Frame} {meth : Method} {c : Code} {D : va_G} {A : Nat → Prop} {Es : (Nat → Nat) × (Nat → Nat)} {a b : Nat → Nat} {cI cJ cT : ClassId}
set_option maxHeartbeats 4000000 in
set_option maxRecDepth 100000 in
theorem qX4_settle_2 (C : CT p s m args meth c RX4 cX4_settle 2 none wsX4_settle D A (tyl cI cJ cT) Es) {N : Nat} {rs_low : Nat → Int64} {rs_mid : Nat → Int64} {rs_high : Nat → Int64} {ch_nodes : Nat → Int32} {ch_signs : Nat → Int32} {ch_felt : Nat → Int32} {ch_count : Int32} {te_inputs : Nat → Int32} {te_dues : Nat → Int32} {te_count : Int32} {no_wishedInputs : Int32} {no_wishedMany : Int32} {no_hiddenUnlike : Nat → Int64} {z_no_bits : Nat → Int32} : ∀ (n : Nat) (x1 : Int32) (no_bits : Nat → Int32), bX4_settle_2 N rs_low rs_mid rs_high ch_count te_inputs te_count n x1 no_bits = some z_no_bits → ∀ (H : Heap) (locs : List Loc) (ls : Array Slot), DB D A (wd_rs_ch_te_no a b cI cJ cT rs_low rs_mid rs_high ch_nodes ch_signs ch_felt ch_count te_inputs te_dues te_count no_bits no_wishedInputs no_wishedMany no_hiddenUnlike) s H locs → lv_has ls 2 [(0, .ref (a 35)), (1, .int x1)] → W p l e rmX4_settle s m args below meth c H locs 0 0 (ZV below args s D A (tyl cI cJ cT) (wd_rs_ch_te_no a b cI cJ cT rs_low rs_mid rs_high ch_nodes ch_signs ch_felt ch_count te_inputs te_dues te_count z_no_bits no_wishedInputs no_wishedMany no_hiddenUnlike) 0 0) (F0 m 2 ls []) := by
  have hx := C.1.1
  have hb := C.1.2.1
  have hown := C.1.2.2.2.1
  have hts := C.1.2.2.2.2
  intro n
  induction n with
  | zero => intro x1 no_bits h; cases h
  | succ n ih =>
    intro x1 no_bits h H locs ls B hl
    rw [bX4_settle_2] at h
    refine lv_iload_n hx hb dX4_settle_2 rfl (lv_at hl 1 rfl) ?_
    refine lv_aload_n hx hb dX4_settle_3 rfl (lv_at hl 0 rfl) ?_
    refine gfX4_settle_26 C B 11 rfl rfl dX4_settle_4 ?_
    refine gfX4_settle_38 C B 4 rfl rfl dX4_settle_7 ?_
    refine lv_icmp_ge (tgt := 30) hx hb dX4_settle_10 (by decide) (fun c_1 => ?_) (fun c_1 => ?_)
    · rw [if_pos c_1] at h
      cases h
      exact k_vret C B dX4_settle_30
    · rw [if_neg c_1] at h
      refine lv_aload_n hx hb dX4_settle_13 rfl (lv_at hl 0 rfl) ?_
      refine gfX4_settle_9 C B 11 rfl rfl dX4_settle_14 ?_
      refine lv_iload_n hx hb dX4_settle_17 rfl (lv_at hl 1 rfl) ?_
      refine lv_aload_n hx hb dX4_settle_18 rfl (lv_at hl 0 rfl) ?_
      refine lv_iload_n hx hb dX4_settle_19 rfl (lv_at hl 1 rfl) ?_
      obtain ⟨r_2, g_4, h⟩ := ob_some h
      try dsimp only at h
      refine kc_VI C B (q0 := 7) (ci := 4) (As := [.int x1]) (rest := [.int x1, .ref (a 36)]) (w2 := (wd_rs_ch_te_no a b cI cJ cT rs_low rs_mid rs_high ch_nodes ch_signs ch_felt ch_count te_inputs te_dues te_count no_bits no_wishedInputs no_wishedMany no_hiddenUnlike)) (tX4_testsThatNotice (a := a) (b := b) N g_4) gX4_settle_X4_testsThatNotice rfl ⟨rfl, rfl⟩ ⟨rfl, hdX4_testsThatNotice⟩ ⟨Nat.le_of_ble_eq_true rfl, Nat.le_of_ble_eq_true rfl⟩ rfl rfl [0, 1, 2, 3, 8, 9, 10, 11, 12, 13] [4, 5, 6, 7] [4, 5, 6, 7, 0, 1, 2, 3, 8, 9, 10, 11, 12, 13] rfl rfl rfl rfl rfl rfl rfl rfl hl.1 rfl (Nat.le_of_ble_eq_true rfl) ⟨Nat.zero_le _, Nat.zero_le _⟩ dX4_settle_20 (fun H locs B => ?_)
      obtain ⟨b_3, h⟩ := bnd_some h
      refine k_iast C B 12 0 rfl rfl b_3 dX4_settle_23 (fun H locs B => ?_)
      have B : DB D A (wd_rs_ch_te_no a b cI cJ cT rs_low rs_mid rs_high ch_nodes ch_signs ch_felt ch_count te_inputs te_dues te_count (upd no_bits (Int32.toNatClampNeg x1) r_2) no_wishedInputs no_wishedMany no_hiddenUnlike) s H locs := B
      refine lv_iinc (v := (x1 + 1)) (lv' := [(1, .int (x1 + 1)), (0, .ref (a 35))]) hx hb dX4_settle_24 hl (k := 1) rfl rfl (by decide) rfl (fun ls hl => ?_)
      refine lv_goto (tgt := 2) hx hb dX4_settle_27 (by decide) ?_
      exact ih (x1 + 1) (upd no_bits (Int32.toNatClampNeg x1) r_2) h H locs ls B (lv_sub hl [1, 0] rfl)
set_option maxHeartbeats 4000000 in
set_option maxRecDepth 100000 in
theorem qX4_settle_0 (C : CT p s m args meth c RX4 cX4_settle 2 none wsX4_settle D A (tyl cI cJ cT) Es) {N : Nat} {rs_low : Nat → Int64} {rs_mid : Nat → Int64} {rs_high : Nat → Int64} {ch_nodes : Nat → Int32} {ch_signs : Nat → Int32} {ch_felt : Nat → Int32} {ch_count : Int32} {te_inputs : Nat → Int32} {te_dues : Nat → Int32} {te_count : Int32} {no_wishedInputs : Int32} {no_wishedMany : Int32} {no_hiddenUnlike : Nat → Int64} {z_no_bits : Nat → Int32} : ∀ (no_bits : Nat → Int32), fX4_settle N rs_low rs_mid rs_high ch_count te_inputs te_count no_bits = some z_no_bits → ∀ (H : Heap) (locs : List Loc) (ls : Array Slot), DB D A (wd_rs_ch_te_no a b cI cJ cT rs_low rs_mid rs_high ch_nodes ch_signs ch_felt ch_count te_inputs te_dues te_count no_bits no_wishedInputs no_wishedMany no_hiddenUnlike) s H locs → lv_has ls 2 [(0, .ref (a 35))] → W p l e rmX4_settle s m args below meth c H locs 0 0 (ZV below args s D A (tyl cI cJ cT) (wd_rs_ch_te_no a b cI cJ cT rs_low rs_mid rs_high ch_nodes ch_signs ch_felt ch_count te_inputs te_dues te_count z_no_bits no_wishedInputs no_wishedMany no_hiddenUnlike) 0 0) (F0 m 0 ls []) := by
  have hx := C.1.1
  have hb := C.1.2.1
  have hown := C.1.2.2.2.1
  have hts := C.1.2.2.2.2
  intro no_bits h H locs ls B hl
  rw [fX4_settle] at h
  refine lv_iconst (v := 0) hx hb dX4_settle_0 (by decide) ?_
  refine lv_istore_n (lv' := [(1, .int (0 : Int32)), (0, .ref (a 35))]) hx hb dX4_settle_1 rfl hl (by decide) rfl (fun ls hl => ?_)
  exact qX4_settle_2 C N (0 : Int32) no_bits h H locs ls B (lv_sub hl [1, 0] rfl)
end
theorem tX4_settle {l : Launch} {D : va_G} {Es : (Nat → Nat) × (Nat → Nat)} {a b : Nat → Nat} {cI cJ cT : ClassId} {rs_low : Nat → Int64} {rs_mid : Nat → Int64} {rs_high : Nat → Int64} {ch_nodes : Nat → Int32} {ch_signs : Nat → Int32} {ch_felt : Nat → Int32} {ch_count : Int32} {te_inputs : Nat → Int32} {te_dues : Nat → Int32} {te_count : Int32} {no_bits : Nat → Int32} {no_wishedInputs : Int32} {no_wishedMany : Int32} {no_hiddenUnlike : Nat → Int64} {z_no_bits : Nat → Int32} (N : Nat) (h : fX4_settle N rs_low rs_mid rs_high ch_count te_inputs te_count no_bits = some z_no_bits) : CtV l yX4_settle wsX4_settle rmX4_settle D (tyl cI cJ cT) Es [.ref (a 35)] (wd_rs_ch_te_no a b cI cJ cT rs_low rs_mid rs_high ch_nodes ch_signs ch_felt ch_count te_inputs te_dues te_count no_bits no_wishedInputs no_wishedMany no_hiddenUnlike) (wd_rs_ch_te_no a b cI cJ cT rs_low rs_mid rs_high ch_nodes ch_signs ch_felt ch_count te_inputs te_dues te_count z_no_bits no_wishedInputs no_wishedMany no_hiddenUnlike) :=
  CtV.of (own := RX4) (cc := cX4_settle) (nL := 2) (ret := none) (by decide +kernel) rfl rfl (Nat.le_of_ble_eq_true rfl) rfl (fun p e s m below meth c A ls C B hl => qX4_settle_0 C (N := N) no_bits h _ _ _ B hl)

abbrev rmX4_howManyNoticedBy : Room := { frames := 0, cells := 0, slots := 0, locals := 0 }
theorem hdX4_howManyNoticedBy : yX4_howManyNoticedBy.cls ≠ "java/lang/invoke/MethodHandle" ∧ yX4_howManyNoticedBy.cls ≠ "java/lang/invoke/VarHandle" ∧ (parseMethodDescriptor yX4_howManyNoticedBy.desc).map (fun d => d.parameters.length) = some 1 := by decide +kernel
theorem iX4_howManyNoticedBy_X4 : ∀ w ∈ wsX40, w ∈ wsX4_howManyNoticedBy := by decide +kernel
theorem gfX4_howManyNoticedBy_26 {p : Program} {l : Launch} {e : Env} {R : Room} {s : State} {m : MethodId} {args : Array Value} {below : List Frame} {meth : Method} {c : Code} {H : Heap} {locs : List Loc} {cells slots : Nat} {Q : State → Prop} {D : va_G} {A : Nat → Prop} {tys : List (ClassId × FieldType)} {Es : (Nat → Nat) × (Nat → Nat)} {ws : va_W} {pc : Nat} {ls : Array Slot} {rest : List Value} {a : Nat} (C : CT p s m args meth c RX4 cX4_howManyNoticedBy 4 (some .int) wsX4_howManyNoticedBy D A tys Es) (B : DB D A ws s H locs) (q0 : Nat) {fs : List Value} {v : Value} (he : ws[q0]? = some (a, .inr (4, fs))) (hv : fs[4]? = some v) (hdg : decode cX4_howManyNoticedBy pc = .ok (.getfield 26, 3)) (kk : W p l e R s m args below meth c H locs cells slots Q (F0 m (pc + 3) ls (v :: rest))) : W p l e R s m args below meth c H locs cells slots Q (F0 m pc ls (.ref a :: rest)) :=
  k_get (Cn := RX4) (T := TX4) (N := 7) (index := 26) C B iX4_howManyNoticedBy_X4 rfl 4 (by decide) (by decide +kernel) q0 he hv hdg kk
theorem iX4_howManyNoticedBy_X1 : ∀ w ∈ wsX10, w ∈ wsX4_howManyNoticedBy := by decide +kernel
theorem gfX4_howManyNoticedBy_38 {p : Program} {l : Launch} {e : Env} {R : Room} {s : State} {m : MethodId} {args : Array Value} {below : List Frame} {meth : Method} {c : Code} {H : Heap} {locs : List Loc} {cells slots : Nat} {Q : State → Prop} {D : va_G} {A : Nat → Prop} {tys : List (ClassId × FieldType)} {Es : (Nat → Nat) × (Nat → Nat)} {ws : va_W} {pc : Nat} {ls : Array Slot} {rest : List Value} {a : Nat} (C : CT p s m args meth c RX4 cX4_howManyNoticedBy 4 (some .int) wsX4_howManyNoticedBy D A tys Es) (B : DB D A ws s H locs) (q0 : Nat) {fs : List Value} {v : Value} (he : ws[q0]? = some (a, .inr (1, fs))) (hv : fs[3]? = some v) (hdg : decode cX4_howManyNoticedBy pc = .ok (.getfield 38, 3)) (kk : W p l e R s m args below meth c H locs cells slots Q (F0 m (pc + 3) ls (v :: rest))) : W p l e R s m args below meth c H locs cells slots Q (F0 m pc ls (.ref a :: rest)) :=
  k_get (Cn := RX1) (T := TX1) (N := 5) (index := 38) C B iX4_howManyNoticedBy_X1 rfl 3 (by decide) (by decide +kernel) q0 he hv hdg kk
theorem gfX4_howManyNoticedBy_9 {p : Program} {l : Launch} {e : Env} {R : Room} {s : State} {m : MethodId} {args : Array Value} {below : List Frame} {meth : Method} {c : Code} {H : Heap} {locs : List Loc} {cells slots : Nat} {Q : State → Prop} {D : va_G} {A : Nat → Prop} {tys : List (ClassId × FieldType)} {Es : (Nat → Nat) × (Nat → Nat)} {ws : va_W} {pc : Nat} {ls : Array Slot} {rest : List Value} {a : Nat} (C : CT p s m args meth c RX4 cX4_howManyNoticedBy 4 (some .int) wsX4_howManyNoticedBy D A tys Es) (B : DB D A ws s H locs) (q0 : Nat) {fs : List Value} {v : Value} (he : ws[q0]? = some (a, .inr (4, fs))) (hv : fs[0]? = some v) (hdg : decode cX4_howManyNoticedBy pc = .ok (.getfield 9, 3)) (kk : W p l e R s m args below meth c H locs cells slots Q (F0 m (pc + 3) ls (v :: rest))) : W p l e R s m args below meth c H locs cells slots Q (F0 m pc ls (.ref a :: rest)) :=
  k_get (Cn := RX4) (T := TX4) (N := 7) (index := 9) C B iX4_howManyNoticedBy_X4 rfl 0 (by decide) (by decide +kernel) q0 he hv hdg kk
section
variable {p : Program} {l : Launch} {e : Env} {s : State} {m : MethodId} {args : Array Value} {below : List Frame} {meth : Method} {c : Code} {D : va_G} {A : Nat → Prop} {Es : (Nat → Nat) × (Nat → Nat)} {a b : Nat → Nat} {cI cJ cT : ClassId}
set_option maxHeartbeats 4000000 in
set_option maxRecDepth 100000 in
theorem qX4_howManyNoticedBy_28 (C : CT p s m args meth c RX4 cX4_howManyNoticedBy 4 (some .int) wsX4_howManyNoticedBy D A (tyl cI cJ cT) Es) {N : Nat} {ch_nodes : Nat → Int32} {ch_signs : Nat → Int32} {ch_felt : Nat → Int32} {ch_count : Int32} {no_bits : Nat → Int32} {no_wishedInputs : Int32} {no_wishedMany : Int32} {no_hiddenUnlike : Nat → Int64} {z_r : Int32} {k4 : Int32 → Int32 → Int32 → Option (Int32)} (hk4 : ∀ (x1 : Int32) (x2 : Int32) (x3 : Int32), k4 x1 x2 x3 = some z_r → ∀ (H : Heap) (locs : List Loc) (ls : Array Slot), DB D A (wd_ch_no a b cI cJ cT ch_nodes ch_signs ch_felt ch_count no_bits no_wishedInputs no_wishedMany no_hiddenUnlike) s H locs → lv_has ls 4 [(0, .ref (a 35)), (1, .int x1), (2, .int x2), (3, .int x3)] → W p l e rmX4_howManyNoticedBy s m args below meth c H locs 0 0 (ZI below args s D A (tyl cI cJ cT) z_r (wd_ch_no a b cI cJ cT ch_nodes ch_signs ch_felt ch_count no_bits no_wishedInputs no_wishedMany no_hiddenUnlike) 0 0) (F0 m 4 ls [])) : ∀ (x1 : Int32) (x2 : Int32) (x3 : Int32), bX4_howManyNoticedBy_28 N ch_count no_bits k4 x1 x2 x3 = some z_r → ∀ (H : Heap) (locs : List Loc) (ls : Array Slot), DB D A (wd_ch_no a b cI cJ cT ch_nodes ch_signs ch_felt ch_count no_bits no_wishedInputs no_wishedMany no_hiddenUnlike) s H locs → lv_has ls 4 [(0, .ref (a 35)), (1, .int x1), (2, .int x2), (3, .int x3)] → W p l e rmX4_howManyNoticedBy s m args below meth c H locs 0 0 (ZI below args s D A (tyl cI cJ cT) z_r (wd_ch_no a b cI cJ cT ch_nodes ch_signs ch_felt ch_count no_bits no_wishedInputs no_wishedMany no_hiddenUnlike) 0 0) (F0 m 28 ls []) := by
  have hx := C.1.1
  have hb := C.1.2.1
  have hown := C.1.2.2.2.1
  have hts := C.1.2.2.2.2
  intro x1 x2 x3 h H locs ls B hl
  rw [bX4_howManyNoticedBy_28] at h
  refine lv_iinc (v := (x3 + 1)) (lv' := [(3, .int (x3 + 1)), (0, .ref (a 35)), (1, .int x1), (2, .int x2)]) hx hb dX4_howManyNoticedBy_28 hl (k := 3) rfl rfl (by decide) rfl (fun ls hl => ?_)
  refine lv_goto (tgt := 4) hx hb dX4_howManyNoticedBy_31 (by decide) ?_
  exact hk4 x1 x2 (x3 + 1) h H locs ls B (lv_sub hl [1, 2, 3, 0] rfl)
set_option maxHeartbeats 4000000 in
set_option maxRecDepth 100000 in
theorem qX4_howManyNoticedBy_4 (C : CT p s m args meth c RX4 cX4_howManyNoticedBy 4 (some .int) wsX4_howManyNoticedBy D A (tyl cI cJ cT) Es) {N : Nat} {ch_nodes : Nat → Int32} {ch_signs : Nat → Int32} {ch_felt : Nat → Int32} {ch_count : Int32} {no_bits : Nat → Int32} {no_wishedInputs : Int32} {no_wishedMany : Int32} {no_hiddenUnlike : Nat → Int64} {z_r : Int32} : ∀ (n : Nat) (x1 : Int32) (x2 : Int32) (x3 : Int32), bX4_howManyNoticedBy_4 N ch_count no_bits n x1 x2 x3 = some z_r → ∀ (H : Heap) (locs : List Loc) (ls : Array Slot), DB D A (wd_ch_no a b cI cJ cT ch_nodes ch_signs ch_felt ch_count no_bits no_wishedInputs no_wishedMany no_hiddenUnlike) s H locs → lv_has ls 4 [(0, .ref (a 35)), (1, .int x1), (2, .int x2), (3, .int x3)] → W p l e rmX4_howManyNoticedBy s m args below meth c H locs 0 0 (ZI below args s D A (tyl cI cJ cT) z_r (wd_ch_no a b cI cJ cT ch_nodes ch_signs ch_felt ch_count no_bits no_wishedInputs no_wishedMany no_hiddenUnlike) 0 0) (F0 m 4 ls []) := by
  have hx := C.1.1
  have hb := C.1.2.1
  have hown := C.1.2.2.2.1
  have hts := C.1.2.2.2.2
  intro n
  induction n with
  | zero => intro x1 x2 x3 h; cases h
  | succ n ih =>
    intro x1 x2 x3 h H locs ls B hl
    rw [bX4_howManyNoticedBy_4] at h
    refine lv_iload_n hx hb dX4_howManyNoticedBy_4 rfl (lv_at hl 3 rfl) ?_
    refine lv_aload_n hx hb dX4_howManyNoticedBy_5 rfl (lv_at hl 0 rfl) ?_
    refine gfX4_howManyNoticedBy_26 C B 4 rfl rfl dX4_howManyNoticedBy_6 ?_
    refine gfX4_howManyNoticedBy_38 C B 0 rfl rfl dX4_howManyNoticedBy_9 ?_
    refine lv_icmp_ge (tgt := 34) hx hb dX4_howManyNoticedBy_12 (by decide) (fun c_1 => ?_) (fun c_1 => ?_)
    · rw [if_pos c_1] at h
      refine lv_iload_n hx hb dX4_howManyNoticedBy_34 rfl (lv_at hl 2 rfl) ?_
      cases h
      exact k_iret C B dX4_howManyNoticedBy_35
    · rw [if_neg c_1] at h
      refine lv_iload_n hx hb dX4_howManyNoticedBy_15 rfl (lv_at hl 2 rfl) ?_
      refine lv_aload_n hx hb dX4_howManyNoticedBy_16 rfl (lv_at hl 0 rfl) ?_
      refine gfX4_howManyNoticedBy_9 C B 4 rfl rfl dX4_howManyNoticedBy_17 ?_
      refine lv_iload_n hx hb dX4_howManyNoticedBy_20 rfl (lv_at hl 3 rfl) ?_
      obtain ⟨b_2, h⟩ := bnd_some h
      refine k_iald C B 5 0 rfl rfl b_2 dX4_howManyNoticedBy_21 ?_
      refine lv_iload_n hx hb dX4_howManyNoticedBy_22 rfl (lv_at hl 1 rfl) ?_
      refine lv_iushr (v := (iush (no_bits (Int32.toNatClampNeg x3)) x1)) hx hb dX4_howManyNoticedBy_23 rfl ?_
      refine lv_iconst (v := 1) hx hb dX4_howManyNoticedBy_24 (by decide) ?_
      refine lv_iand hx hb dX4_howManyNoticedBy_25 ?_
      refine lv_iadd hx hb dX4_howManyNoticedBy_26 ?_
      refine lv_istore_n (lv' := [(2, .int (x2 + ((iush (no_bits (Int32.toNatClampNeg x3)) x1) &&& (1 : Int32)))), (0, .ref (a 35)), (1, .int x1), (3, .int x3)]) hx hb dX4_howManyNoticedBy_27 rfl hl (by decide) rfl (fun ls hl => ?_)
      exact qX4_howManyNoticedBy_28 C ih x1 (x2 + ((iush (no_bits (Int32.toNatClampNeg x3)) x1) &&& (1 : Int32))) x3 h H locs ls B (lv_sub hl [1, 2, 0, 3] rfl)
set_option maxHeartbeats 4000000 in
set_option maxRecDepth 100000 in
theorem qX4_howManyNoticedBy_0 (C : CT p s m args meth c RX4 cX4_howManyNoticedBy 4 (some .int) wsX4_howManyNoticedBy D A (tyl cI cJ cT) Es) {N : Nat} {ch_nodes : Nat → Int32} {ch_signs : Nat → Int32} {ch_felt : Nat → Int32} {ch_count : Int32} {no_bits : Nat → Int32} {no_wishedInputs : Int32} {no_wishedMany : Int32} {no_hiddenUnlike : Nat → Int64} {z_r : Int32} : ∀ (x1 : Int32), fX4_howManyNoticedBy N ch_count no_bits x1 = some z_r → ∀ (H : Heap) (locs : List Loc) (ls : Array Slot), DB D A (wd_ch_no a b cI cJ cT ch_nodes ch_signs ch_felt ch_count no_bits no_wishedInputs no_wishedMany no_hiddenUnlike) s H locs → lv_has ls 4 [(0, .ref (a 35)), (1, .int x1)] → W p l e rmX4_howManyNoticedBy s m args below meth c H locs 0 0 (ZI below args s D A (tyl cI cJ cT) z_r (wd_ch_no a b cI cJ cT ch_nodes ch_signs ch_felt ch_count no_bits no_wishedInputs no_wishedMany no_hiddenUnlike) 0 0) (F0 m 0 ls []) := by
  have hx := C.1.1
  have hb := C.1.2.1
  have hown := C.1.2.2.2.1
  have hts := C.1.2.2.2.2
  intro x1 h H locs ls B hl
  rw [fX4_howManyNoticedBy] at h
  refine lv_iconst (v := 0) hx hb dX4_howManyNoticedBy_0 (by decide) ?_
  refine lv_istore_n (lv' := [(2, .int (0 : Int32)), (0, .ref (a 35)), (1, .int x1)]) hx hb dX4_howManyNoticedBy_1 rfl hl (by decide) rfl (fun ls hl => ?_)
  refine lv_iconst (v := 0) hx hb dX4_howManyNoticedBy_2 (by decide) ?_
  refine lv_istore_n (lv' := [(3, .int (0 : Int32)), (2, .int (0 : Int32)), (0, .ref (a 35)), (1, .int x1)]) hx hb dX4_howManyNoticedBy_3 rfl hl (by decide) rfl (fun ls hl => ?_)
  exact qX4_howManyNoticedBy_4 C N x1 (0 : Int32) (0 : Int32) h H locs ls B (lv_sub hl [2, 3, 1, 0] rfl)
end
theorem tX4_howManyNoticedBy {l : Launch} {D : va_G} {Es : (Nat → Nat) × (Nat → Nat)} {a b : Nat → Nat} {cI cJ cT : ClassId} {ch_nodes : Nat → Int32} {ch_signs : Nat → Int32} {ch_felt : Nat → Int32} {ch_count : Int32} {no_bits : Nat → Int32} {no_wishedInputs : Int32} {no_wishedMany : Int32} {no_hiddenUnlike : Nat → Int64} {x1 : Int32} {z_r : Int32} (N : Nat) (h : fX4_howManyNoticedBy N ch_count no_bits x1 = some z_r) : CtI l yX4_howManyNoticedBy wsX4_howManyNoticedBy rmX4_howManyNoticedBy D (tyl cI cJ cT) Es [.ref (a 35), .int x1] (wd_ch_no a b cI cJ cT ch_nodes ch_signs ch_felt ch_count no_bits no_wishedInputs no_wishedMany no_hiddenUnlike) z_r (wd_ch_no a b cI cJ cT ch_nodes ch_signs ch_felt ch_count no_bits no_wishedInputs no_wishedMany no_hiddenUnlike) :=
  CtI.of (own := RX4) (cc := cX4_howManyNoticedBy) (nL := 4) (ret := (some .int)) (by decide +kernel) rfl rfl (Nat.le_of_ble_eq_true rfl) rfl (fun p e s m below meth c A ls C B hl => qX4_howManyNoticedBy_0 C (N := N) x1 h _ _ _ B hl)

abbrev rmX4_isBehind : Room := { frames := 0, cells := 0, slots := 0, locals := 0 }
theorem hdX4_isBehind : yX4_isBehind.cls ≠ "java/lang/invoke/MethodHandle" ∧ yX4_isBehind.cls ≠ "java/lang/invoke/VarHandle" ∧ (parseMethodDescriptor yX4_isBehind.desc).map (fun d => d.parameters.length) = some 2 := by decide +kernel
theorem iX4_isBehind_X4 : ∀ w ∈ wsX40, w ∈ wsX4_isBehind := by decide +kernel
theorem gfX4_isBehind_9 {p : Program} {l : Launch} {e : Env} {R : Room} {s : State} {m : MethodId} {args : Array Value} {below : List Frame} {meth : Method} {c : Code} {H : Heap} {locs : List Loc} {cells slots : Nat} {Q : State → Prop} {D : va_G} {A : Nat → Prop} {tys : List (ClassId × FieldType)} {Es : (Nat → Nat) × (Nat → Nat)} {ws : va_W} {pc : Nat} {ls : Array Slot} {rest : List Value} {a : Nat} (C : CT p s m args meth c RX4 cX4_isBehind 4 (some .boolean) wsX4_isBehind D A tys Es) (B : DB D A ws s H locs) (q0 : Nat) {fs : List Value} {v : Value} (he : ws[q0]? = some (a, .inr (4, fs))) (hv : fs[0]? = some v) (hdg : decode cX4_isBehind pc = .ok (.getfield 9, 3)) (kk : W p l e R s m args below meth c H locs cells slots Q (F0 m (pc + 3) ls (v :: rest))) : W p l e R s m args below meth c H locs cells slots Q (F0 m pc ls (.ref a :: rest)) :=
  k_get (Cn := RX4) (T := TX4) (N := 7) (index := 9) C B iX4_isBehind_X4 rfl 0 (by decide) (by decide +kernel) q0 he hv hdg kk
section
variable {p : Program} {l : Launch} {e : Env} {s : State} {m : MethodId} {args : Array Value} {below : List Frame} {meth : Method} {c : Code} {D : va_G} {A : Nat → Prop} {Es : (Nat → Nat) × (Nat → Nat)} {a b : Nat → Nat} {cI cJ cT : ClassId}
set_option maxHeartbeats 4000000 in
set_option maxRecDepth 100000 in
theorem qX4_isBehind_0 (C : CT p s m args meth c RX4 cX4_isBehind 4 (some .boolean) wsX4_isBehind D A (tyl cI cJ cT) Es) {N : Nat} {no_bits : Nat → Int32} {no_wishedInputs : Int32} {no_wishedMany : Int32} {no_hiddenUnlike : Nat → Int64} {z_r : Int32} : ∀ (x1 : Int32) (x2 : Int32), fX4_isBehind N no_bits x1 x2 = some z_r → ∀ (H : Heap) (locs : List Loc) (ls : Array Slot), DB D A (wd_no a b cI cJ cT no_bits no_wishedInputs no_wishedMany no_hiddenUnlike) s H locs → lv_has ls 4 [(0, .ref (a 35)), (1, .int x1), (2, .int x2)] → W p l e rmX4_isBehind s m args below meth c H locs 0 0 (ZI below args s D A (tyl cI cJ cT) z_r (wd_no a b cI cJ cT no_bits no_wishedInputs no_wishedMany no_hiddenUnlike) 0 0) (F0 m 0 ls []) := by
  have hx := C.1.1
  have hb := C.1.2.1
  have hown := C.1.2.2.2.1
  have hts := C.1.2.2.2.2
  intro x1 x2 h H locs ls B hl
  rw [fX4_isBehind] at h
  refine lv_aload_n hx hb dX4_isBehind_0 rfl (lv_at hl 0 rfl) ?_
  refine gfX4_isBehind_9 C B 0 rfl rfl dX4_isBehind_1 ?_
  refine lv_iload_n hx hb dX4_isBehind_4 rfl (lv_at hl 2 rfl) ?_
  obtain ⟨b_1, h⟩ := bnd_some h
  refine k_iald C B 1 0 rfl rfl b_1 dX4_isBehind_5 ?_
  refine lv_istore_n (lv' := [(3, .int (no_bits (Int32.toNatClampNeg x2))), (0, .ref (a 35)), (1, .int x1), (2, .int x2)]) hx hb dX4_isBehind_6 rfl hl (by decide) rfl (fun ls hl => ?_)
  refine lv_iload_n hx hb dX4_isBehind_7 rfl (lv_at hl 0 rfl) ?_
  refine lv_if_eq (tgt := 38) hx hb dX4_isBehind_8 (by decide) (fun c_2 => ?_) (fun c_2 => ?_)
  · rw [if_pos c_2] at h
    refine lv_iconst (v := 0) hx hb dX4_isBehind_38 (by decide) ?_
    cases h
    exact k_zret C B (by decide) dX4_isBehind_39
  · rw [if_neg c_2] at h
    refine lv_iload_n hx hb dX4_isBehind_11 rfl (lv_at hl 0 rfl) ?_
    refine lv_aload_n hx hb dX4_isBehind_12 rfl (lv_at hl 1 rfl) ?_
    refine gfX4_isBehind_9 C B 0 rfl rfl dX4_isBehind_13 ?_
    refine lv_iload_n hx hb dX4_isBehind_16 rfl (lv_at hl 2 rfl) ?_
    obtain ⟨b_3, h⟩ := bnd_some h
    refine k_iald C B 1 0 rfl rfl b_3 dX4_isBehind_17 ?_
    refine lv_iconst (v := -1) hx hb dX4_isBehind_18 (by decide) ?_
    refine lv_ixor hx hb dX4_isBehind_19 ?_
    refine lv_iand hx hb dX4_isBehind_20 ?_
    refine lv_if_ne (tgt := 38) hx hb dX4_isBehind_21 (by decide) (fun c_4 => ?_) (fun c_4 => ?_)
    · rw [if_neg c_4] at h
      refine lv_iconst (v := 0) hx hb dX4_isBehind_38 (by decide) ?_
      cases h
      exact k_zret C B (by decide) dX4_isBehind_39
    · rw [if_pos c_4] at h
      refine lv_iload_n hx hb dX4_isBehind_24 rfl (lv_at hl 0 rfl) ?_
      refine lv_aload_n hx hb dX4_isBehind_25 rfl (lv_at hl 1 rfl) ?_
      refine gfX4_isBehind_9 C B 0 rfl rfl dX4_isBehind_26 ?_
      refine lv_iload_n hx hb dX4_isBehind_29 rfl (lv_at hl 2 rfl) ?_
      refine k_iald C B 1 0 rfl rfl b_3 dX4_isBehind_30 ?_
      refine lv_icmp_eq (tgt := 38) hx hb dX4_isBehind_31 (by decide) (fun c_5 => ?_) (fun c_5 => ?_)
      · rw [if_pos c_5] at h
        refine lv_iconst (v := 0) hx hb dX4_isBehind_38 (by decide) ?_
        cases h
        exact k_zret C B (by decide) dX4_isBehind_39
      · rw [if_neg c_5] at h
        refine lv_iconst (v := 1) hx hb dX4_isBehind_34 (by decide) ?_
        refine lv_goto (tgt := 39) hx hb dX4_isBehind_35 (by decide) ?_
        cases h
        exact k_zret C B (by decide) dX4_isBehind_39
end
theorem tX4_isBehind {l : Launch} {D : va_G} {Es : (Nat → Nat) × (Nat → Nat)} {a b : Nat → Nat} {cI cJ cT : ClassId} {no_bits : Nat → Int32} {no_wishedInputs : Int32} {no_wishedMany : Int32} {no_hiddenUnlike : Nat → Int64} {x1 : Int32} {x2 : Int32} {z_r : Int32} (N : Nat) (h : fX4_isBehind N no_bits x1 x2 = some z_r) : CtI l yX4_isBehind wsX4_isBehind rmX4_isBehind D (tyl cI cJ cT) Es [.ref (a 35), .int x1, .int x2] (wd_no a b cI cJ cT no_bits no_wishedInputs no_wishedMany no_hiddenUnlike) z_r (wd_no a b cI cJ cT no_bits no_wishedInputs no_wishedMany no_hiddenUnlike) :=
  CtI.of (own := RX4) (cc := cX4_isBehind) (nL := 4) (ret := (some .boolean)) (by decide +kernel) rfl rfl (Nat.le_of_ble_eq_true rfl) rfl (fun p e s m below meth c A ls C B hl => qX4_isBehind_0 C (N := N) x1 x2 h _ _ _ B hl)

abbrev rmX4_behindHowMany : Room := { frames := 1, cells := 0, slots := 0, locals := 23 }
theorem hdX4_behindHowMany : yX4_behindHowMany.cls ≠ "java/lang/invoke/MethodHandle" ∧ yX4_behindHowMany.cls ≠ "java/lang/invoke/VarHandle" ∧ (parseMethodDescriptor yX4_behindHowMany.desc).map (fun d => d.parameters.length) = some 1 := by decide +kernel
theorem iX4_behindHowMany_X4 : ∀ w ∈ wsX40, w ∈ wsX4_behindHowMany := by decide +kernel
theorem gfX4_behindHowMany_26 {p : Program} {l : Launch} {e : Env} {R : Room} {s : State} {m : MethodId} {args : Array Value} {below : List Frame} {meth : Method} {c : Code} {H : Heap} {locs : List Loc} {cells slots : Nat} {Q : State → Prop} {D : va_G} {A : Nat → Prop} {tys : List (ClassId × FieldType)} {Es : (Nat → Nat) × (Nat → Nat)} {ws : va_W} {pc : Nat} {ls : Array Slot} {rest : List Value} {a : Nat} (C : CT p s m args meth c RX4 cX4_behindHowMany 4 (some .int) wsX4_behindHowMany D A tys Es) (B : DB D A ws s H locs) (q0 : Nat) {fs : List Value} {v : Value} (he : ws[q0]? = some (a, .inr (4, fs))) (hv : fs[4]? = some v) (hdg : decode cX4_behindHowMany pc = .ok (.getfield 26, 3)) (kk : W p l e R s m args below meth c H locs cells slots Q (F0 m (pc + 3) ls (v :: rest))) : W p l e R s m args below meth c H locs cells slots Q (F0 m pc ls (.ref a :: rest)) :=
  k_get (Cn := RX4) (T := TX4) (N := 7) (index := 26) C B iX4_behindHowMany_X4 rfl 4 (by decide) (by decide +kernel) q0 he hv hdg kk
theorem iX4_behindHowMany_X1 : ∀ w ∈ wsX10, w ∈ wsX4_behindHowMany := by decide +kernel
theorem gfX4_behindHowMany_38 {p : Program} {l : Launch} {e : Env} {R : Room} {s : State} {m : MethodId} {args : Array Value} {below : List Frame} {meth : Method} {c : Code} {H : Heap} {locs : List Loc} {cells slots : Nat} {Q : State → Prop} {D : va_G} {A : Nat → Prop} {tys : List (ClassId × FieldType)} {Es : (Nat → Nat) × (Nat → Nat)} {ws : va_W} {pc : Nat} {ls : Array Slot} {rest : List Value} {a : Nat} (C : CT p s m args meth c RX4 cX4_behindHowMany 4 (some .int) wsX4_behindHowMany D A tys Es) (B : DB D A ws s H locs) (q0 : Nat) {fs : List Value} {v : Value} (he : ws[q0]? = some (a, .inr (1, fs))) (hv : fs[3]? = some v) (hdg : decode cX4_behindHowMany pc = .ok (.getfield 38, 3)) (kk : W p l e R s m args below meth c H locs cells slots Q (F0 m (pc + 3) ls (v :: rest))) : W p l e R s m args below meth c H locs cells slots Q (F0 m pc ls (.ref a :: rest)) :=
  k_get (Cn := RX1) (T := TX1) (N := 5) (index := 38) C B iX4_behindHowMany_X1 rfl 3 (by decide) (by decide +kernel) q0 he hv hdg kk
section
variable {p : Program} {l : Launch} {e : Env} {s : State} {m : MethodId} {args : Array Value} {below : List Frame} {meth : Method} {c : Code} {D : va_G} {A : Nat → Prop} {Es : (Nat → Nat) × (Nat → Nat)} {a b : Nat → Nat} {cI cJ cT : ClassId}
set_option maxHeartbeats 4000000 in
set_option maxRecDepth 100000 in
theorem qX4_behindHowMany_4 (C : CT p s m args meth c RX4 cX4_behindHowMany 4 (some .int) wsX4_behindHowMany D A (tyl cI cJ cT) Es) {N : Nat} {ch_nodes : Nat → Int32} {ch_signs : Nat → Int32} {ch_felt : Nat → Int32} {ch_count : Int32} {no_bits : Nat → Int32} {no_wishedInputs : Int32} {no_wishedMany : Int32} {no_hiddenUnlike : Nat → Int64} {z_r : Int32} : ∀ (n : Nat) (x1 : Int32) (x2 : Int32) (x3 : Int32), bX4_behindHowMany_4 N ch_count no_bits n x1 x2 x3 = some z_r → ∀ (H : Heap) (locs : List Loc) (ls : Array Slot), DB D A (wd_ch_no a b cI cJ cT ch_nodes ch_signs ch_felt ch_count no_bits no_wishedInputs no_wishedMany no_hiddenUnlike) s H locs → lv_has ls 4 [(0, .ref (a 35)), (1, .int x1), (2, .int x2), (3, .int x3)] → W p l e rmX4_behindHowMany s m args below meth c H locs 0 0 (ZI below args s D A (tyl cI cJ cT) z_r (wd_ch_no a b cI cJ cT ch_nodes ch_signs ch_felt ch_count no_bits no_wishedInputs no_wishedMany no_hiddenUnlike) 0 0) (F0 m 4 ls []) := by
  have hx := C.1.1
  have hb := C.1.2.1
  have hown := C.1.2.2.2.1
  have hts := C.1.2.2.2.2
  intro n
  induction n with
  | zero => intro x1 x2 x3 h; cases h
  | succ n ih =>
    intro x1 x2 x3 h H locs ls B hl
    rw [bX4_behindHowMany_4] at h
    refine lv_iload_n hx hb dX4_behindHowMany_4 rfl (lv_at hl 3 rfl) ?_
    refine lv_aload_n hx hb dX4_behindHowMany_5 rfl (lv_at hl 0 rfl) ?_
    refine gfX4_behindHowMany_26 C B 4 rfl rfl dX4_behindHowMany_6 ?_
    refine gfX4_behindHowMany_38 C B 0 rfl rfl dX4_behindHowMany_9 ?_
    refine lv_icmp_ge (tgt := 38) hx hb dX4_behindHowMany_12 (by decide) (fun c_1 => ?_) (fun c_1 => ?_)
    · rw [if_pos c_1] at h
      refine lv_iload_n hx hb dX4_behindHowMany_38 rfl (lv_at hl 2 rfl) ?_
      cases h
      exact k_iret C B dX4_behindHowMany_39
    · rw [if_neg c_1] at h
      refine lv_iload_n hx hb dX4_behindHowMany_15 rfl (lv_at hl 2 rfl) ?_
      refine lv_aload_n hx hb dX4_behindHowMany_16 rfl (lv_at hl 0 rfl) ?_
      refine lv_iload_n hx hb dX4_behindHowMany_17 rfl (lv_at hl 1 rfl) ?_
      refine lv_iload_n hx hb dX4_behindHowMany_18 rfl (lv_at hl 3 rfl) ?_
      obtain ⟨r_2, g_4, h⟩ := ob_some h
      try dsimp only at h
      refine kc_VI C B (q0 := 0) (ci := 4) (As := [.int x1, .int x3]) (rest := [.int x2]) (w2 := (wd_ch_no a b cI cJ cT ch_nodes ch_signs ch_felt ch_count no_bits no_wishedInputs no_wishedMany no_hiddenUnlike)) (tX4_isBehind (a := a) (b := b) N g_4) gX4_behindHowMany_X4_isBehind rfl ⟨rfl, rfl⟩ ⟨rfl, hdX4_isBehind⟩ ⟨Nat.le_of_ble_eq_true rfl, Nat.le_of_ble_eq_true rfl⟩ rfl rfl [4, 5, 6] [0, 1, 2, 3] [0, 1, 2, 3, 4, 5, 6] rfl rfl rfl rfl rfl rfl rfl rfl hl.1 rfl (Nat.le_of_ble_eq_true rfl) ⟨Nat.zero_le _, Nat.zero_le _⟩ dX4_behindHowMany_19 (fun H locs B => ?_)
      refine lv_if_eq (tgt := 29) hx hb dX4_behindHowMany_22 (by decide) (fun c_3 => ?_) (fun c_3 => ?_)
      · rw [if_pos c_3] at h
        refine lv_iconst (v := 0) hx hb dX4_behindHowMany_29 (by decide) ?_
        refine lv_iadd hx hb dX4_behindHowMany_30 ?_
        refine lv_istore_n (lv' := [(2, .int (x2 + (0 : Int32))), (0, .ref (a 35)), (1, .int x1), (3, .int x3)]) hx hb dX4_behindHowMany_31 rfl hl (by decide) rfl (fun ls hl => ?_)
        refine lv_iinc (v := (x3 + 1)) (lv' := [(3, .int (x3 + 1)), (2, .int (x2 + (0 : Int32))), (0, .ref (a 35)), (1, .int x1)]) hx hb dX4_behindHowMany_32 hl (k := 3) rfl rfl (by decide) rfl (fun ls hl => ?_)
        refine lv_goto (tgt := 4) hx hb dX4_behindHowMany_35 (by decide) ?_
        exact ih x1 (x2 + (0 : Int32)) (x3 + 1) h H locs ls B (lv_sub hl [2, 3, 1, 0] rfl)
      · rw [if_neg c_3] at h
        refine lv_iconst (v := 1) hx hb dX4_behindHowMany_25 (by decide) ?_
        refine lv_goto (tgt := 30) hx hb dX4_behindHowMany_26 (by decide) ?_
        refine lv_iadd hx hb dX4_behindHowMany_30 ?_
        refine lv_istore_n (lv' := [(2, .int (x2 + (1 : Int32))), (0, .ref (a 35)), (1, .int x1), (3, .int x3)]) hx hb dX4_behindHowMany_31 rfl hl (by decide) rfl (fun ls hl => ?_)
        refine lv_iinc (v := (x3 + 1)) (lv' := [(3, .int (x3 + 1)), (2, .int (x2 + (1 : Int32))), (0, .ref (a 35)), (1, .int x1)]) hx hb dX4_behindHowMany_32 hl (k := 3) rfl rfl (by decide) rfl (fun ls hl => ?_)
        refine lv_goto (tgt := 4) hx hb dX4_behindHowMany_35 (by decide) ?_
        exact ih x1 (x2 + (1 : Int32)) (x3 + 1) h H locs ls B (lv_sub hl [2, 3, 1, 0] rfl)
set_option maxHeartbeats 4000000 in
set_option maxRecDepth 100000 in
theorem qX4_behindHowMany_0 (C : CT p s m args meth c RX4 cX4_behindHowMany 4 (some .int) wsX4_behindHowMany D A (tyl cI cJ cT) Es) {N : Nat} {ch_nodes : Nat → Int32} {ch_signs : Nat → Int32} {ch_felt : Nat → Int32} {ch_count : Int32} {no_bits : Nat → Int32} {no_wishedInputs : Int32} {no_wishedMany : Int32} {no_hiddenUnlike : Nat → Int64} {z_r : Int32} : ∀ (x1 : Int32), fX4_behindHowMany N ch_count no_bits x1 = some z_r → ∀ (H : Heap) (locs : List Loc) (ls : Array Slot), DB D A (wd_ch_no a b cI cJ cT ch_nodes ch_signs ch_felt ch_count no_bits no_wishedInputs no_wishedMany no_hiddenUnlike) s H locs → lv_has ls 4 [(0, .ref (a 35)), (1, .int x1)] → W p l e rmX4_behindHowMany s m args below meth c H locs 0 0 (ZI below args s D A (tyl cI cJ cT) z_r (wd_ch_no a b cI cJ cT ch_nodes ch_signs ch_felt ch_count no_bits no_wishedInputs no_wishedMany no_hiddenUnlike) 0 0) (F0 m 0 ls []) := by
  have hx := C.1.1
  have hb := C.1.2.1
  have hown := C.1.2.2.2.1
  have hts := C.1.2.2.2.2
  intro x1 h H locs ls B hl
  rw [fX4_behindHowMany] at h
  refine lv_iconst (v := 0) hx hb dX4_behindHowMany_0 (by decide) ?_
  refine lv_istore_n (lv' := [(2, .int (0 : Int32)), (0, .ref (a 35)), (1, .int x1)]) hx hb dX4_behindHowMany_1 rfl hl (by decide) rfl (fun ls hl => ?_)
  refine lv_iconst (v := 0) hx hb dX4_behindHowMany_2 (by decide) ?_
  refine lv_istore_n (lv' := [(3, .int (0 : Int32)), (2, .int (0 : Int32)), (0, .ref (a 35)), (1, .int x1)]) hx hb dX4_behindHowMany_3 rfl hl (by decide) rfl (fun ls hl => ?_)
  exact qX4_behindHowMany_4 C N x1 (0 : Int32) (0 : Int32) h H locs ls B (lv_sub hl [2, 3, 1, 0] rfl)
end
theorem tX4_behindHowMany {l : Launch} {D : va_G} {Es : (Nat → Nat) × (Nat → Nat)} {a b : Nat → Nat} {cI cJ cT : ClassId} {ch_nodes : Nat → Int32} {ch_signs : Nat → Int32} {ch_felt : Nat → Int32} {ch_count : Int32} {no_bits : Nat → Int32} {no_wishedInputs : Int32} {no_wishedMany : Int32} {no_hiddenUnlike : Nat → Int64} {x1 : Int32} {z_r : Int32} (N : Nat) (h : fX4_behindHowMany N ch_count no_bits x1 = some z_r) : CtI l yX4_behindHowMany wsX4_behindHowMany rmX4_behindHowMany D (tyl cI cJ cT) Es [.ref (a 35), .int x1] (wd_ch_no a b cI cJ cT ch_nodes ch_signs ch_felt ch_count no_bits no_wishedInputs no_wishedMany no_hiddenUnlike) z_r (wd_ch_no a b cI cJ cT ch_nodes ch_signs ch_felt ch_count no_bits no_wishedInputs no_wishedMany no_hiddenUnlike) :=
  CtI.of (own := RX4) (cc := cX4_behindHowMany) (nL := 4) (ret := (some .int)) (by decide +kernel) rfl rfl (Nat.le_of_ble_eq_true rfl) rfl (fun p e s m below meth c A ls C B hl => qX4_behindHowMany_0 C (N := N) x1 h _ _ _ B hl)

abbrev rmX4_isHidden : Room := { frames := 0, cells := 0, slots := 0, locals := 0 }
theorem hdX4_isHidden : yX4_isHidden.cls ≠ "java/lang/invoke/MethodHandle" ∧ yX4_isHidden.cls ≠ "java/lang/invoke/VarHandle" ∧ (parseMethodDescriptor yX4_isHidden.desc).map (fun d => d.parameters.length) = some 1 := by decide +kernel
theorem iX4_isHidden_X4 : ∀ w ∈ wsX40, w ∈ wsX4_isHidden := by decide +kernel
theorem gfX4_isHidden_9 {p : Program} {l : Launch} {e : Env} {R : Room} {s : State} {m : MethodId} {args : Array Value} {below : List Frame} {meth : Method} {c : Code} {H : Heap} {locs : List Loc} {cells slots : Nat} {Q : State → Prop} {D : va_G} {A : Nat → Prop} {tys : List (ClassId × FieldType)} {Es : (Nat → Nat) × (Nat → Nat)} {ws : va_W} {pc : Nat} {ls : Array Slot} {rest : List Value} {a : Nat} (C : CT p s m args meth c RX4 cX4_isHidden 2 (some .boolean) wsX4_isHidden D A tys Es) (B : DB D A ws s H locs) (q0 : Nat) {fs : List Value} {v : Value} (he : ws[q0]? = some (a, .inr (4, fs))) (hv : fs[0]? = some v) (hdg : decode cX4_isHidden pc = .ok (.getfield 9, 3)) (kk : W p l e R s m args below meth c H locs cells slots Q (F0 m (pc + 3) ls (v :: rest))) : W p l e R s m args below meth c H locs cells slots Q (F0 m pc ls (.ref a :: rest)) :=
  k_get (Cn := RX4) (T := TX4) (N := 7) (index := 9) C B iX4_isHidden_X4 rfl 0 (by decide) (by decide +kernel) q0 he hv hdg kk
theorem gfX4_isHidden_26 {p : Program} {l : Launch} {e : Env} {R : Room} {s : State} {m : MethodId} {args : Array Value} {below : List Frame} {meth : Method} {c : Code} {H : Heap} {locs : List Loc} {cells slots : Nat} {Q : State → Prop} {D : va_G} {A : Nat → Prop} {tys : List (ClassId × FieldType)} {Es : (Nat → Nat) × (Nat → Nat)} {ws : va_W} {pc : Nat} {ls : Array Slot} {rest : List Value} {a : Nat} (C : CT p s m args meth c RX4 cX4_isHidden 2 (some .boolean) wsX4_isHidden D A tys Es) (B : DB D A ws s H locs) (q0 : Nat) {fs : List Value} {v : Value} (he : ws[q0]? = some (a, .inr (4, fs))) (hv : fs[4]? = some v) (hdg : decode cX4_isHidden pc = .ok (.getfield 26, 3)) (kk : W p l e R s m args below meth c H locs cells slots Q (F0 m (pc + 3) ls (v :: rest))) : W p l e R s m args below meth c H locs cells slots Q (F0 m pc ls (.ref a :: rest)) :=
  k_get (Cn := RX4) (T := TX4) (N := 7) (index := 26) C B iX4_isHidden_X4 rfl 4 (by decide) (by decide +kernel) q0 he hv hdg kk
theorem iX4_isHidden_X1 : ∀ w ∈ wsX10, w ∈ wsX4_isHidden := by decide +kernel
theorem gfX4_isHidden_63 {p : Program} {l : Launch} {e : Env} {R : Room} {s : State} {m : MethodId} {args : Array Value} {below : List Frame} {meth : Method} {c : Code} {H : Heap} {locs : List Loc} {cells slots : Nat} {Q : State → Prop} {D : va_G} {A : Nat → Prop} {tys : List (ClassId × FieldType)} {Es : (Nat → Nat) × (Nat → Nat)} {ws : va_W} {pc : Nat} {ls : Array Slot} {rest : List Value} {a : Nat} (C : CT p s m args meth c RX4 cX4_isHidden 2 (some .boolean) wsX4_isHidden D A tys Es) (B : DB D A ws s H locs) (q0 : Nat) {fs : List Value} {v : Value} (he : ws[q0]? = some (a, .inr (1, fs))) (hv : fs[2]? = some v) (hdg : decode cX4_isHidden pc = .ok (.getfield 63, 3)) (kk : W p l e R s m args below meth c H locs cells slots Q (F0 m (pc + 3) ls (v :: rest))) : W p l e R s m args below meth c H locs cells slots Q (F0 m pc ls (.ref a :: rest)) :=
  k_get (Cn := RX1) (T := TX1) (N := 5) (index := 63) C B iX4_isHidden_X1 rfl 2 (by decide) (by decide +kernel) q0 he hv hdg kk
section
variable {p : Program} {l : Launch} {e : Env} {s : State} {m : MethodId} {args : Array Value} {below : List Frame} {meth : Method} {c : Code} {D : va_G} {A : Nat → Prop} {Es : (Nat → Nat) × (Nat → Nat)} {a b : Nat → Nat} {cI cJ cT : ClassId}
set_option maxHeartbeats 4000000 in
set_option maxRecDepth 100000 in
theorem qX4_isHidden_0 (C : CT p s m args meth c RX4 cX4_isHidden 2 (some .boolean) wsX4_isHidden D A (tyl cI cJ cT) Es) {N : Nat} {ch_nodes : Nat → Int32} {ch_signs : Nat → Int32} {ch_felt : Nat → Int32} {ch_count : Int32} {no_bits : Nat → Int32} {no_wishedInputs : Int32} {no_wishedMany : Int32} {no_hiddenUnlike : Nat → Int64} {z_r : Int32} : ∀ (x1 : Int32), fX4_isHidden N ch_felt no_bits x1 = some z_r → ∀ (H : Heap) (locs : List Loc) (ls : Array Slot), DB D A (wd_ch_no a b cI cJ cT ch_nodes ch_signs ch_felt ch_count no_bits no_wishedInputs no_wishedMany no_hiddenUnlike) s H locs → lv_has ls 2 [(0, .ref (a 35)), (1, .int x1)] → W p l e rmX4_isHidden s m args below meth c H locs 0 0 (ZI below args s D A (tyl cI cJ cT) z_r (wd_ch_no a b cI cJ cT ch_nodes ch_signs ch_felt ch_count no_bits no_wishedInputs no_wishedMany no_hiddenUnlike) 0 0) (F0 m 0 ls []) := by
  have hx := C.1.1
  have hb := C.1.2.1
  have hown := C.1.2.2.2.1
  have hts := C.1.2.2.2.2
  intro x1 h H locs ls B hl
  rw [fX4_isHidden] at h
  refine lv_aload_n hx hb dX4_isHidden_0 rfl (lv_at hl 0 rfl) ?_
  refine gfX4_isHidden_9 C B 4 rfl rfl dX4_isHidden_1 ?_
  refine lv_iload_n hx hb dX4_isHidden_4 rfl (lv_at hl 1 rfl) ?_
  obtain ⟨b_1, h⟩ := bnd_some h
  refine k_iald C B 5 0 rfl rfl b_1 dX4_isHidden_5 ?_
  refine lv_if_ne (tgt := 25) hx hb dX4_isHidden_6 (by decide) (fun c_2 => ?_) (fun c_2 => ?_)
  · rw [if_neg c_2] at h
    refine lv_iconst (v := 0) hx hb dX4_isHidden_25 (by decide) ?_
    cases h
    exact k_zret C B (by decide) dX4_isHidden_26
  · rw [if_pos c_2] at h
    refine lv_aload_n hx hb dX4_isHidden_9 rfl (lv_at hl 0 rfl) ?_
    refine gfX4_isHidden_26 C B 4 rfl rfl dX4_isHidden_10 ?_
    refine gfX4_isHidden_63 C B 0 rfl rfl dX4_isHidden_13 ?_
    refine lv_iload_n hx hb dX4_isHidden_16 rfl (lv_at hl 1 rfl) ?_
    refine k_iald C B 3 0 rfl rfl b_1 dX4_isHidden_17 ?_
    refine lv_if_eq (tgt := 25) hx hb dX4_isHidden_18 (by decide) (fun c_3 => ?_) (fun c_3 => ?_)
    · rw [if_pos c_3] at h
      refine lv_iconst (v := 0) hx hb dX4_isHidden_25 (by decide) ?_
      cases h
      exact k_zret C B (by decide) dX4_isHidden_26
    · rw [if_neg c_3] at h
      refine lv_iconst (v := 1) hx hb dX4_isHidden_21 (by decide) ?_
      refine lv_goto (tgt := 26) hx hb dX4_isHidden_22 (by decide) ?_
      cases h
      exact k_zret C B (by decide) dX4_isHidden_26
end
theorem tX4_isHidden {l : Launch} {D : va_G} {Es : (Nat → Nat) × (Nat → Nat)} {a b : Nat → Nat} {cI cJ cT : ClassId} {ch_nodes : Nat → Int32} {ch_signs : Nat → Int32} {ch_felt : Nat → Int32} {ch_count : Int32} {no_bits : Nat → Int32} {no_wishedInputs : Int32} {no_wishedMany : Int32} {no_hiddenUnlike : Nat → Int64} {x1 : Int32} {z_r : Int32} (N : Nat) (h : fX4_isHidden N ch_felt no_bits x1 = some z_r) : CtI l yX4_isHidden wsX4_isHidden rmX4_isHidden D (tyl cI cJ cT) Es [.ref (a 35), .int x1] (wd_ch_no a b cI cJ cT ch_nodes ch_signs ch_felt ch_count no_bits no_wishedInputs no_wishedMany no_hiddenUnlike) z_r (wd_ch_no a b cI cJ cT ch_nodes ch_signs ch_felt ch_count no_bits no_wishedInputs no_wishedMany no_hiddenUnlike) :=
  CtI.of (own := RX4) (cc := cX4_isHidden) (nL := 2) (ret := (some .boolean)) (by decide +kernel) rfl rfl (Nat.le_of_ble_eq_true rfl) rfl (fun p e s m below meth c A ls C B hl => qX4_isHidden_0 C (N := N) x1 h _ _ _ B hl)

abbrev rmX4_noticedOnes : Room := { frames := 0, cells := 0, slots := 0, locals := 0 }
theorem hdX4_noticedOnes : yX4_noticedOnes.cls ≠ "java/lang/invoke/MethodHandle" ∧ yX4_noticedOnes.cls ≠ "java/lang/invoke/VarHandle" ∧ (parseMethodDescriptor yX4_noticedOnes.desc).map (fun d => d.parameters.length) = some 0 := by decide +kernel
theorem iX4_noticedOnes_X4 : ∀ w ∈ wsX40, w ∈ wsX4_noticedOnes := by decide +kernel
theorem gfX4_noticedOnes_26 {p : Program} {l : Launch} {e : Env} {R : Room} {s : State} {m : MethodId} {args : Array Value} {below : List Frame} {meth : Method} {c : Code} {H : Heap} {locs : List Loc} {cells slots : Nat} {Q : State → Prop} {D : va_G} {A : Nat → Prop} {tys : List (ClassId × FieldType)} {Es : (Nat → Nat) × (Nat → Nat)} {ws : va_W} {pc : Nat} {ls : Array Slot} {rest : List Value} {a : Nat} (C : CT p s m args meth c RX4 cX4_noticedOnes 3 (some .int) wsX4_noticedOnes D A tys Es) (B : DB D A ws s H locs) (q0 : Nat) {fs : List Value} {v : Value} (he : ws[q0]? = some (a, .inr (4, fs))) (hv : fs[4]? = some v) (hdg : decode cX4_noticedOnes pc = .ok (.getfield 26, 3)) (kk : W p l e R s m args below meth c H locs cells slots Q (F0 m (pc + 3) ls (v :: rest))) : W p l e R s m args below meth c H locs cells slots Q (F0 m pc ls (.ref a :: rest)) :=
  k_get (Cn := RX4) (T := TX4) (N := 7) (index := 26) C B iX4_noticedOnes_X4 rfl 4 (by decide) (by decide +kernel) q0 he hv hdg kk
theorem iX4_noticedOnes_X1 : ∀ w ∈ wsX10, w ∈ wsX4_noticedOnes := by decide +kernel
theorem gfX4_noticedOnes_38 {p : Program} {l : Launch} {e : Env} {R : Room} {s : State} {m : MethodId} {args : Array Value} {below : List Frame} {meth : Method} {c : Code} {H : Heap} {locs : List Loc} {cells slots : Nat} {Q : State → Prop} {D : va_G} {A : Nat → Prop} {tys : List (ClassId × FieldType)} {Es : (Nat → Nat) × (Nat → Nat)} {ws : va_W} {pc : Nat} {ls : Array Slot} {rest : List Value} {a : Nat} (C : CT p s m args meth c RX4 cX4_noticedOnes 3 (some .int) wsX4_noticedOnes D A tys Es) (B : DB D A ws s H locs) (q0 : Nat) {fs : List Value} {v : Value} (he : ws[q0]? = some (a, .inr (1, fs))) (hv : fs[3]? = some v) (hdg : decode cX4_noticedOnes pc = .ok (.getfield 38, 3)) (kk : W p l e R s m args below meth c H locs cells slots Q (F0 m (pc + 3) ls (v :: rest))) : W p l e R s m args below meth c H locs cells slots Q (F0 m pc ls (.ref a :: rest)) :=
  k_get (Cn := RX1) (T := TX1) (N := 5) (index := 38) C B iX4_noticedOnes_X1 rfl 3 (by decide) (by decide +kernel) q0 he hv hdg kk
theorem gfX4_noticedOnes_9 {p : Program} {l : Launch} {e : Env} {R : Room} {s : State} {m : MethodId} {args : Array Value} {below : List Frame} {meth : Method} {c : Code} {H : Heap} {locs : List Loc} {cells slots : Nat} {Q : State → Prop} {D : va_G} {A : Nat → Prop} {tys : List (ClassId × FieldType)} {Es : (Nat → Nat) × (Nat → Nat)} {ws : va_W} {pc : Nat} {ls : Array Slot} {rest : List Value} {a : Nat} (C : CT p s m args meth c RX4 cX4_noticedOnes 3 (some .int) wsX4_noticedOnes D A tys Es) (B : DB D A ws s H locs) (q0 : Nat) {fs : List Value} {v : Value} (he : ws[q0]? = some (a, .inr (4, fs))) (hv : fs[0]? = some v) (hdg : decode cX4_noticedOnes pc = .ok (.getfield 9, 3)) (kk : W p l e R s m args below meth c H locs cells slots Q (F0 m (pc + 3) ls (v :: rest))) : W p l e R s m args below meth c H locs cells slots Q (F0 m pc ls (.ref a :: rest)) :=
  k_get (Cn := RX4) (T := TX4) (N := 7) (index := 9) C B iX4_noticedOnes_X4 rfl 0 (by decide) (by decide +kernel) q0 he hv hdg kk
section
variable {p : Program} {l : Launch} {e : Env} {s : State} {m : MethodId} {args : Array Value} {below : List Frame} {meth : Method} {c : Code} {D : va_G} {A : Nat → Prop} {Es : (Nat → Nat) × (Nat → Nat)} {a b : Nat → Nat} {cI cJ cT : ClassId}
set_option maxHeartbeats 4000000 in
set_option maxRecDepth 100000 in
theorem qX4_noticedOnes_4 (C : CT p s m args meth c RX4 cX4_noticedOnes 3 (some .int) wsX4_noticedOnes D A (tyl cI cJ cT) Es) {N : Nat} {ch_nodes : Nat → Int32} {ch_signs : Nat → Int32} {ch_felt : Nat → Int32} {ch_count : Int32} {no_bits : Nat → Int32} {no_wishedInputs : Int32} {no_wishedMany : Int32} {no_hiddenUnlike : Nat → Int64} {z_r : Int32} : ∀ (n : Nat) (x1 : Int32) (x2 : Int32), bX4_noticedOnes_4 N ch_count no_bits n x1 x2 = some z_r → ∀ (H : Heap) (locs : List Loc) (ls : Array Slot), DB D A (wd_ch_no a b cI cJ cT ch_nodes ch_signs ch_felt ch_count no_bits no_wishedInputs no_wishedMany no_hiddenUnlike) s H locs → lv_has ls 3 [(0, .ref (a 35)), (1, .int x1), (2, .int x2)] → W p l e rmX4_noticedOnes s m args below meth c H locs 0 0 (ZI below args s D A (tyl cI cJ cT) z_r (wd_ch_no a b cI cJ cT ch_nodes ch_signs ch_felt ch_count no_bits no_wishedInputs no_wishedMany no_hiddenUnlike) 0 0) (F0 m 4 ls []) := by
  have hx := C.1.1
  have hb := C.1.2.1
  have hown := C.1.2.2.2.1
  have hts := C.1.2.2.2.2
  intro n
  induction n with
  | zero => intro x1 x2 h; cases h
  | succ n ih =>
    intro x1 x2 h H locs ls B hl
    rw [bX4_noticedOnes_4] at h
    refine lv_iload_n hx hb dX4_noticedOnes_4 rfl (lv_at hl 2 rfl) ?_
    refine lv_aload_n hx hb dX4_noticedOnes_5 rfl (lv_at hl 0 rfl) ?_
    refine gfX4_noticedOnes_26 C B 4 rfl rfl dX4_noticedOnes_6 ?_
    refine gfX4_noticedOnes_38 C B 0 rfl rfl dX4_noticedOnes_9 ?_
    refine lv_icmp_ge (tgt := 38) hx hb dX4_noticedOnes_12 (by decide) (fun c_1 => ?_) (fun c_1 => ?_)
    · rw [if_pos c_1] at h
      refine lv_iload_n hx hb dX4_noticedOnes_38 rfl (lv_at hl 1 rfl) ?_
      cases h
      exact k_iret C B dX4_noticedOnes_39
    · rw [if_neg c_1] at h
      refine lv_iload_n hx hb dX4_noticedOnes_15 rfl (lv_at hl 1 rfl) ?_
      refine lv_aload_n hx hb dX4_noticedOnes_16 rfl (lv_at hl 0 rfl) ?_
      refine gfX4_noticedOnes_9 C B 4 rfl rfl dX4_noticedOnes_17 ?_
      refine lv_iload_n hx hb dX4_noticedOnes_20 rfl (lv_at hl 2 rfl) ?_
      obtain ⟨b_2, h⟩ := bnd_some h
      refine k_iald C B 5 0 rfl rfl b_2 dX4_noticedOnes_21 ?_
      refine lv_if_eq (tgt := 29) hx hb dX4_noticedOnes_22 (by decide) (fun c_3 => ?_) (fun c_3 => ?_)
      · rw [if_pos c_3] at h
        refine lv_iconst (v := 0) hx hb dX4_noticedOnes_29 (by decide) ?_
        refine lv_iadd hx hb dX4_noticedOnes_30 ?_
        refine lv_istore_n (lv' := [(1, .int (x1 + (0 : Int32))), (0, .ref (a 35)), (2, .int x2)]) hx hb dX4_noticedOnes_31 rfl hl (by decide) rfl (fun ls hl => ?_)
        refine lv_iinc (v := (x2 + 1)) (lv' := [(2, .int (x2 + 1)), (1, .int (x1 + (0 : Int32))), (0, .ref (a 35))]) hx hb dX4_noticedOnes_32 hl (k := 2) rfl rfl (by decide) rfl (fun ls hl => ?_)
        refine lv_goto (tgt := 4) hx hb dX4_noticedOnes_35 (by decide) ?_
        exact ih (x1 + (0 : Int32)) (x2 + 1) h H locs ls B (lv_sub hl [2, 1, 0] rfl)
      · rw [if_neg c_3] at h
        refine lv_iconst (v := 1) hx hb dX4_noticedOnes_25 (by decide) ?_
        refine lv_goto (tgt := 30) hx hb dX4_noticedOnes_26 (by decide) ?_
        refine lv_iadd hx hb dX4_noticedOnes_30 ?_
        refine lv_istore_n (lv' := [(1, .int (x1 + (1 : Int32))), (0, .ref (a 35)), (2, .int x2)]) hx hb dX4_noticedOnes_31 rfl hl (by decide) rfl (fun ls hl => ?_)
        refine lv_iinc (v := (x2 + 1)) (lv' := [(2, .int (x2 + 1)), (1, .int (x1 + (1 : Int32))), (0, .ref (a 35))]) hx hb dX4_noticedOnes_32 hl (k := 2) rfl rfl (by decide) rfl (fun ls hl => ?_)
        refine lv_goto (tgt := 4) hx hb dX4_noticedOnes_35 (by decide) ?_
        exact ih (x1 + (1 : Int32)) (x2 + 1) h H locs ls B (lv_sub hl [2, 1, 0] rfl)
set_option maxHeartbeats 4000000 in
set_option maxRecDepth 100000 in
theorem qX4_noticedOnes_0 (C : CT p s m args meth c RX4 cX4_noticedOnes 3 (some .int) wsX4_noticedOnes D A (tyl cI cJ cT) Es) {N : Nat} {ch_nodes : Nat → Int32} {ch_signs : Nat → Int32} {ch_felt : Nat → Int32} {ch_count : Int32} {no_bits : Nat → Int32} {no_wishedInputs : Int32} {no_wishedMany : Int32} {no_hiddenUnlike : Nat → Int64} {z_r : Int32} : fX4_noticedOnes N ch_count no_bits = some z_r → ∀ (H : Heap) (locs : List Loc) (ls : Array Slot), DB D A (wd_ch_no a b cI cJ cT ch_nodes ch_signs ch_felt ch_count no_bits no_wishedInputs no_wishedMany no_hiddenUnlike) s H locs → lv_has ls 3 [(0, .ref (a 35))] → W p l e rmX4_noticedOnes s m args below meth c H locs 0 0 (ZI below args s D A (tyl cI cJ cT) z_r (wd_ch_no a b cI cJ cT ch_nodes ch_signs ch_felt ch_count no_bits no_wishedInputs no_wishedMany no_hiddenUnlike) 0 0) (F0 m 0 ls []) := by
  have hx := C.1.1
  have hb := C.1.2.1
  have hown := C.1.2.2.2.1
  have hts := C.1.2.2.2.2
  intro h H locs ls B hl
  rw [fX4_noticedOnes] at h
  refine lv_iconst (v := 0) hx hb dX4_noticedOnes_0 (by decide) ?_
  refine lv_istore_n (lv' := [(1, .int (0 : Int32)), (0, .ref (a 35))]) hx hb dX4_noticedOnes_1 rfl hl (by decide) rfl (fun ls hl => ?_)
  refine lv_iconst (v := 0) hx hb dX4_noticedOnes_2 (by decide) ?_
  refine lv_istore_n (lv' := [(2, .int (0 : Int32)), (1, .int (0 : Int32)), (0, .ref (a 35))]) hx hb dX4_noticedOnes_3 rfl hl (by decide) rfl (fun ls hl => ?_)
  exact qX4_noticedOnes_4 C N (0 : Int32) (0 : Int32) h H locs ls B (lv_sub hl [2, 1, 0] rfl)
end
theorem tX4_noticedOnes {l : Launch} {D : va_G} {Es : (Nat → Nat) × (Nat → Nat)} {a b : Nat → Nat} {cI cJ cT : ClassId} {ch_nodes : Nat → Int32} {ch_signs : Nat → Int32} {ch_felt : Nat → Int32} {ch_count : Int32} {no_bits : Nat → Int32} {no_wishedInputs : Int32} {no_wishedMany : Int32} {no_hiddenUnlike : Nat → Int64} {z_r : Int32} (N : Nat) (h : fX4_noticedOnes N ch_count no_bits = some z_r) : CtI l yX4_noticedOnes wsX4_noticedOnes rmX4_noticedOnes D (tyl cI cJ cT) Es [.ref (a 35)] (wd_ch_no a b cI cJ cT ch_nodes ch_signs ch_felt ch_count no_bits no_wishedInputs no_wishedMany no_hiddenUnlike) z_r (wd_ch_no a b cI cJ cT ch_nodes ch_signs ch_felt ch_count no_bits no_wishedInputs no_wishedMany no_hiddenUnlike) :=
  CtI.of (own := RX4) (cc := cX4_noticedOnes) (nL := 3) (ret := (some .int)) (by decide +kernel) rfl rfl (Nat.le_of_ble_eq_true rfl) rfl (fun p e s m below meth c A ls C B hl => qX4_noticedOnes_0 C (N := N) h _ _ _ B hl)

abbrev rmX4_hiddenOnes : Room := { frames := 1, cells := 0, slots := 0, locals := 21 }
theorem hdX4_hiddenOnes : yX4_hiddenOnes.cls ≠ "java/lang/invoke/MethodHandle" ∧ yX4_hiddenOnes.cls ≠ "java/lang/invoke/VarHandle" ∧ (parseMethodDescriptor yX4_hiddenOnes.desc).map (fun d => d.parameters.length) = some 0 := by decide +kernel
theorem iX4_hiddenOnes_X4 : ∀ w ∈ wsX40, w ∈ wsX4_hiddenOnes := by decide +kernel
theorem gfX4_hiddenOnes_26 {p : Program} {l : Launch} {e : Env} {R : Room} {s : State} {m : MethodId} {args : Array Value} {below : List Frame} {meth : Method} {c : Code} {H : Heap} {locs : List Loc} {cells slots : Nat} {Q : State → Prop} {D : va_G} {A : Nat → Prop} {tys : List (ClassId × FieldType)} {Es : (Nat → Nat) × (Nat → Nat)} {ws : va_W} {pc : Nat} {ls : Array Slot} {rest : List Value} {a : Nat} (C : CT p s m args meth c RX4 cX4_hiddenOnes 3 (some .int) wsX4_hiddenOnes D A tys Es) (B : DB D A ws s H locs) (q0 : Nat) {fs : List Value} {v : Value} (he : ws[q0]? = some (a, .inr (4, fs))) (hv : fs[4]? = some v) (hdg : decode cX4_hiddenOnes pc = .ok (.getfield 26, 3)) (kk : W p l e R s m args below meth c H locs cells slots Q (F0 m (pc + 3) ls (v :: rest))) : W p l e R s m args below meth c H locs cells slots Q (F0 m pc ls (.ref a :: rest)) :=
  k_get (Cn := RX4) (T := TX4) (N := 7) (index := 26) C B iX4_hiddenOnes_X4 rfl 4 (by decide) (by decide +kernel) q0 he hv hdg kk
theorem iX4_hiddenOnes_X1 : ∀ w ∈ wsX10, w ∈ wsX4_hiddenOnes := by decide +kernel
theorem gfX4_hiddenOnes_38 {p : Program} {l : Launch} {e : Env} {R : Room} {s : State} {m : MethodId} {args : Array Value} {below : List Frame} {meth : Method} {c : Code} {H : Heap} {locs : List Loc} {cells slots : Nat} {Q : State → Prop} {D : va_G} {A : Nat → Prop} {tys : List (ClassId × FieldType)} {Es : (Nat → Nat) × (Nat → Nat)} {ws : va_W} {pc : Nat} {ls : Array Slot} {rest : List Value} {a : Nat} (C : CT p s m args meth c RX4 cX4_hiddenOnes 3 (some .int) wsX4_hiddenOnes D A tys Es) (B : DB D A ws s H locs) (q0 : Nat) {fs : List Value} {v : Value} (he : ws[q0]? = some (a, .inr (1, fs))) (hv : fs[3]? = some v) (hdg : decode cX4_hiddenOnes pc = .ok (.getfield 38, 3)) (kk : W p l e R s m args below meth c H locs cells slots Q (F0 m (pc + 3) ls (v :: rest))) : W p l e R s m args below meth c H locs cells slots Q (F0 m pc ls (.ref a :: rest)) :=
  k_get (Cn := RX1) (T := TX1) (N := 5) (index := 38) C B iX4_hiddenOnes_X1 rfl 3 (by decide) (by decide +kernel) q0 he hv hdg kk
section
variable {p : Program} {l : Launch} {e : Env} {s : State} {m : MethodId} {args : Array Value} {below : List Frame} {meth : Method} {c : Code} {D : va_G} {A : Nat → Prop} {Es : (Nat → Nat) × (Nat → Nat)} {a b : Nat → Nat} {cI cJ cT : ClassId}
set_option maxHeartbeats 4000000 in
set_option maxRecDepth 100000 in
theorem qX4_hiddenOnes_4 (C : CT p s m args meth c RX4 cX4_hiddenOnes 3 (some .int) wsX4_hiddenOnes D A (tyl cI cJ cT) Es) {N : Nat} {ch_nodes : Nat → Int32} {ch_signs : Nat → Int32} {ch_felt : Nat → Int32} {ch_count : Int32} {no_bits : Nat → Int32} {no_wishedInputs : Int32} {no_wishedMany : Int32} {no_hiddenUnlike : Nat → Int64} {z_r : Int32} : ∀ (n : Nat) (x1 : Int32) (x2 : Int32), bX4_hiddenOnes_4 N ch_felt ch_count no_bits n x1 x2 = some z_r → ∀ (H : Heap) (locs : List Loc) (ls : Array Slot), DB D A (wd_ch_no a b cI cJ cT ch_nodes ch_signs ch_felt ch_count no_bits no_wishedInputs no_wishedMany no_hiddenUnlike) s H locs → lv_has ls 3 [(0, .ref (a 35)), (1, .int x1), (2, .int x2)] → W p l e rmX4_hiddenOnes s m args below meth c H locs 0 0 (ZI below args s D A (tyl cI cJ cT) z_r (wd_ch_no a b cI cJ cT ch_nodes ch_signs ch_felt ch_count no_bits no_wishedInputs no_wishedMany no_hiddenUnlike) 0 0) (F0 m 4 ls []) := by
  have hx := C.1.1
  have hb := C.1.2.1
  have hown := C.1.2.2.2.1
  have hts := C.1.2.2.2.2
  intro n
  induction n with
  | zero => intro x1 x2 h; cases h
  | succ n ih =>
    intro x1 x2 h H locs ls B hl
    rw [bX4_hiddenOnes_4] at h
    refine lv_iload_n hx hb dX4_hiddenOnes_4 rfl (lv_at hl 2 rfl) ?_
    refine lv_aload_n hx hb dX4_hiddenOnes_5 rfl (lv_at hl 0 rfl) ?_
    refine gfX4_hiddenOnes_26 C B 4 rfl rfl dX4_hiddenOnes_6 ?_
    refine gfX4_hiddenOnes_38 C B 0 rfl rfl dX4_hiddenOnes_9 ?_
    refine lv_icmp_ge (tgt := 37) hx hb dX4_hiddenOnes_12 (by decide) (fun c_1 => ?_) (fun c_1 => ?_)
    · rw [if_pos c_1] at h
      refine lv_iload_n hx hb dX4_hiddenOnes_37 rfl (lv_at hl 1 rfl) ?_
      cases h
      exact k_iret C B dX4_hiddenOnes_38
    · rw [if_neg c_1] at h
      refine lv_iload_n hx hb dX4_hiddenOnes_15 rfl (lv_at hl 1 rfl) ?_
      refine lv_aload_n hx hb dX4_hiddenOnes_16 rfl (lv_at hl 0 rfl) ?_
      refine lv_iload_n hx hb dX4_hiddenOnes_17 rfl (lv_at hl 2 rfl) ?_
      obtain ⟨r_2, g_4, h⟩ := ob_some h
      try dsimp only at h
      refine kc_VI C B (q0 := 4) (ci := 4) (As := [.int x2]) (rest := [.int x1]) (w2 := (wd_ch_no a b cI cJ cT ch_nodes ch_signs ch_felt ch_count no_bits no_wishedInputs no_wishedMany no_hiddenUnlike)) (tX4_isHidden (a := a) (b := b) N g_4) gX4_hiddenOnes_X4_isHidden rfl ⟨rfl, rfl⟩ ⟨rfl, hdX4_isHidden⟩ ⟨Nat.le_of_ble_eq_true rfl, Nat.le_of_ble_eq_true rfl⟩ rfl rfl [0, 1, 2, 3, 4, 5, 6] [] [0, 1, 2, 3, 4, 5, 6] rfl rfl rfl rfl rfl rfl rfl rfl hl.1 rfl (Nat.le_of_ble_eq_true rfl) ⟨Nat.zero_le _, Nat.zero_le _⟩ dX4_hiddenOnes_18 (fun H locs B => ?_)
      refine lv_if_eq (tgt := 28) hx hb dX4_hiddenOnes_21 (by decide) (fun c_3 => ?_) (fun c_3 => ?_)
      · rw [if_pos c_3] at h
        refine lv_iconst (v := 0) hx hb dX4_hiddenOnes_28 (by decide) ?_
        refine lv_iadd hx hb dX4_hiddenOnes_29 ?_
        refine lv_istore_n (lv' := [(1, .int (x1 + (0 : Int32))), (0, .ref (a 35)), (2, .int x2)]) hx hb dX4_hiddenOnes_30 rfl hl (by decide) rfl (fun ls hl => ?_)
        refine lv_iinc (v := (x2 + 1)) (lv' := [(2, .int (x2 + 1)), (1, .int (x1 + (0 : Int32))), (0, .ref (a 35))]) hx hb dX4_hiddenOnes_31 hl (k := 2) rfl rfl (by decide) rfl (fun ls hl => ?_)
        refine lv_goto (tgt := 4) hx hb dX4_hiddenOnes_34 (by decide) ?_
        exact ih (x1 + (0 : Int32)) (x2 + 1) h H locs ls B (lv_sub hl [2, 1, 0] rfl)
      · rw [if_neg c_3] at h
        refine lv_iconst (v := 1) hx hb dX4_hiddenOnes_24 (by decide) ?_
        refine lv_goto (tgt := 29) hx hb dX4_hiddenOnes_25 (by decide) ?_
        refine lv_iadd hx hb dX4_hiddenOnes_29 ?_
        refine lv_istore_n (lv' := [(1, .int (x1 + (1 : Int32))), (0, .ref (a 35)), (2, .int x2)]) hx hb dX4_hiddenOnes_30 rfl hl (by decide) rfl (fun ls hl => ?_)
        refine lv_iinc (v := (x2 + 1)) (lv' := [(2, .int (x2 + 1)), (1, .int (x1 + (1 : Int32))), (0, .ref (a 35))]) hx hb dX4_hiddenOnes_31 hl (k := 2) rfl rfl (by decide) rfl (fun ls hl => ?_)
        refine lv_goto (tgt := 4) hx hb dX4_hiddenOnes_34 (by decide) ?_
        exact ih (x1 + (1 : Int32)) (x2 + 1) h H locs ls B (lv_sub hl [2, 1, 0] rfl)
set_option maxHeartbeats 4000000 in
set_option maxRecDepth 100000 in
theorem qX4_hiddenOnes_0 (C : CT p s m args meth c RX4 cX4_hiddenOnes 3 (some .int) wsX4_hiddenOnes D A (tyl cI cJ cT) Es) {N : Nat} {ch_nodes : Nat → Int32} {ch_signs : Nat → Int32} {ch_felt : Nat → Int32} {ch_count : Int32} {no_bits : Nat → Int32} {no_wishedInputs : Int32} {no_wishedMany : Int32} {no_hiddenUnlike : Nat → Int64} {z_r : Int32} : fX4_hiddenOnes N ch_felt ch_count no_bits = some z_r → ∀ (H : Heap) (locs : List Loc) (ls : Array Slot), DB D A (wd_ch_no a b cI cJ cT ch_nodes ch_signs ch_felt ch_count no_bits no_wishedInputs no_wishedMany no_hiddenUnlike) s H locs → lv_has ls 3 [(0, .ref (a 35))] → W p l e rmX4_hiddenOnes s m args below meth c H locs 0 0 (ZI below args s D A (tyl cI cJ cT) z_r (wd_ch_no a b cI cJ cT ch_nodes ch_signs ch_felt ch_count no_bits no_wishedInputs no_wishedMany no_hiddenUnlike) 0 0) (F0 m 0 ls []) := by
  have hx := C.1.1
  have hb := C.1.2.1
  have hown := C.1.2.2.2.1
  have hts := C.1.2.2.2.2
  intro h H locs ls B hl
  rw [fX4_hiddenOnes] at h
  refine lv_iconst (v := 0) hx hb dX4_hiddenOnes_0 (by decide) ?_
  refine lv_istore_n (lv' := [(1, .int (0 : Int32)), (0, .ref (a 35))]) hx hb dX4_hiddenOnes_1 rfl hl (by decide) rfl (fun ls hl => ?_)
  refine lv_iconst (v := 0) hx hb dX4_hiddenOnes_2 (by decide) ?_
  refine lv_istore_n (lv' := [(2, .int (0 : Int32)), (1, .int (0 : Int32)), (0, .ref (a 35))]) hx hb dX4_hiddenOnes_3 rfl hl (by decide) rfl (fun ls hl => ?_)
  exact qX4_hiddenOnes_4 C N (0 : Int32) (0 : Int32) h H locs ls B (lv_sub hl [2, 1, 0] rfl)
end
theorem tX4_hiddenOnes {l : Launch} {D : va_G} {Es : (Nat → Nat) × (Nat → Nat)} {a b : Nat → Nat} {cI cJ cT : ClassId} {ch_nodes : Nat → Int32} {ch_signs : Nat → Int32} {ch_felt : Nat → Int32} {ch_count : Int32} {no_bits : Nat → Int32} {no_wishedInputs : Int32} {no_wishedMany : Int32} {no_hiddenUnlike : Nat → Int64} {z_r : Int32} (N : Nat) (h : fX4_hiddenOnes N ch_felt ch_count no_bits = some z_r) : CtI l yX4_hiddenOnes wsX4_hiddenOnes rmX4_hiddenOnes D (tyl cI cJ cT) Es [.ref (a 35)] (wd_ch_no a b cI cJ cT ch_nodes ch_signs ch_felt ch_count no_bits no_wishedInputs no_wishedMany no_hiddenUnlike) z_r (wd_ch_no a b cI cJ cT ch_nodes ch_signs ch_felt ch_count no_bits no_wishedInputs no_wishedMany no_hiddenUnlike) :=
  CtI.of (own := RX4) (cc := cX4_hiddenOnes) (nL := 3) (ret := (some .int)) (by decide +kernel) rfl rfl (Nat.le_of_ble_eq_true rfl) rfl (fun p e s m below meth c A ls C B hl => qX4_hiddenOnes_0 C (N := N) h _ _ _ B hl)

abbrev rmX4_frontOnes : Room := { frames := 2, cells := 0, slots := 0, locals := 46 }
theorem hdX4_frontOnes : yX4_frontOnes.cls ≠ "java/lang/invoke/MethodHandle" ∧ yX4_frontOnes.cls ≠ "java/lang/invoke/VarHandle" ∧ (parseMethodDescriptor yX4_frontOnes.desc).map (fun d => d.parameters.length) = some 0 := by decide +kernel
theorem iX4_frontOnes_X4 : ∀ w ∈ wsX40, w ∈ wsX4_frontOnes := by decide +kernel
theorem gfX4_frontOnes_26 {p : Program} {l : Launch} {e : Env} {R : Room} {s : State} {m : MethodId} {args : Array Value} {below : List Frame} {meth : Method} {c : Code} {H : Heap} {locs : List Loc} {cells slots : Nat} {Q : State → Prop} {D : va_G} {A : Nat → Prop} {tys : List (ClassId × FieldType)} {Es : (Nat → Nat) × (Nat → Nat)} {ws : va_W} {pc : Nat} {ls : Array Slot} {rest : List Value} {a : Nat} (C : CT p s m args meth c RX4 cX4_frontOnes 3 (some .int) wsX4_frontOnes D A tys Es) (B : DB D A ws s H locs) (q0 : Nat) {fs : List Value} {v : Value} (he : ws[q0]? = some (a, .inr (4, fs))) (hv : fs[4]? = some v) (hdg : decode cX4_frontOnes pc = .ok (.getfield 26, 3)) (kk : W p l e R s m args below meth c H locs cells slots Q (F0 m (pc + 3) ls (v :: rest))) : W p l e R s m args below meth c H locs cells slots Q (F0 m pc ls (.ref a :: rest)) :=
  k_get (Cn := RX4) (T := TX4) (N := 7) (index := 26) C B iX4_frontOnes_X4 rfl 4 (by decide) (by decide +kernel) q0 he hv hdg kk
theorem iX4_frontOnes_X1 : ∀ w ∈ wsX10, w ∈ wsX4_frontOnes := by decide +kernel
theorem gfX4_frontOnes_38 {p : Program} {l : Launch} {e : Env} {R : Room} {s : State} {m : MethodId} {args : Array Value} {below : List Frame} {meth : Method} {c : Code} {H : Heap} {locs : List Loc} {cells slots : Nat} {Q : State → Prop} {D : va_G} {A : Nat → Prop} {tys : List (ClassId × FieldType)} {Es : (Nat → Nat) × (Nat → Nat)} {ws : va_W} {pc : Nat} {ls : Array Slot} {rest : List Value} {a : Nat} (C : CT p s m args meth c RX4 cX4_frontOnes 3 (some .int) wsX4_frontOnes D A tys Es) (B : DB D A ws s H locs) (q0 : Nat) {fs : List Value} {v : Value} (he : ws[q0]? = some (a, .inr (1, fs))) (hv : fs[3]? = some v) (hdg : decode cX4_frontOnes pc = .ok (.getfield 38, 3)) (kk : W p l e R s m args below meth c H locs cells slots Q (F0 m (pc + 3) ls (v :: rest))) : W p l e R s m args below meth c H locs cells slots Q (F0 m pc ls (.ref a :: rest)) :=
  k_get (Cn := RX1) (T := TX1) (N := 5) (index := 38) C B iX4_frontOnes_X1 rfl 3 (by decide) (by decide +kernel) q0 he hv hdg kk
theorem gfX4_frontOnes_9 {p : Program} {l : Launch} {e : Env} {R : Room} {s : State} {m : MethodId} {args : Array Value} {below : List Frame} {meth : Method} {c : Code} {H : Heap} {locs : List Loc} {cells slots : Nat} {Q : State → Prop} {D : va_G} {A : Nat → Prop} {tys : List (ClassId × FieldType)} {Es : (Nat → Nat) × (Nat → Nat)} {ws : va_W} {pc : Nat} {ls : Array Slot} {rest : List Value} {a : Nat} (C : CT p s m args meth c RX4 cX4_frontOnes 3 (some .int) wsX4_frontOnes D A tys Es) (B : DB D A ws s H locs) (q0 : Nat) {fs : List Value} {v : Value} (he : ws[q0]? = some (a, .inr (4, fs))) (hv : fs[0]? = some v) (hdg : decode cX4_frontOnes pc = .ok (.getfield 9, 3)) (kk : W p l e R s m args below meth c H locs cells slots Q (F0 m (pc + 3) ls (v :: rest))) : W p l e R s m args below meth c H locs cells slots Q (F0 m pc ls (.ref a :: rest)) :=
  k_get (Cn := RX4) (T := TX4) (N := 7) (index := 9) C B iX4_frontOnes_X4 rfl 0 (by decide) (by decide +kernel) q0 he hv hdg kk
section
variable {p : Program} {l : Launch} {e : Env} {s : State} {m : MethodId} {args : Array Value} {below : List Frame} {meth : Method} {c : Code} {D : va_G} {A : Nat → Prop} {Es : (Nat → Nat) × (Nat → Nat)} {a b : Nat → Nat} {cI cJ cT : ClassId}
set_option maxHeartbeats 4000000 in
set_option maxRecDepth 100000 in
theorem qX4_frontOnes_4 (C : CT p s m args meth c RX4 cX4_frontOnes 3 (some .int) wsX4_frontOnes D A (tyl cI cJ cT) Es) {N : Nat} {ch_nodes : Nat → Int32} {ch_signs : Nat → Int32} {ch_felt : Nat → Int32} {ch_count : Int32} {no_bits : Nat → Int32} {no_wishedInputs : Int32} {no_wishedMany : Int32} {no_hiddenUnlike : Nat → Int64} {z_r : Int32} : ∀ (n : Nat) (x1 : Int32) (x2 : Int32), bX4_frontOnes_4 N ch_count no_bits n x1 x2 = some z_r → ∀ (H : Heap) (locs : List Loc) (ls : Array Slot), DB D A (wd_ch_no a b cI cJ cT ch_nodes ch_signs ch_felt ch_count no_bits no_wishedInputs no_wishedMany no_hiddenUnlike) s H locs → lv_has ls 3 [(0, .ref (a 35)), (1, .int x1), (2, .int x2)] → W p l e rmX4_frontOnes s m args below meth c H locs 0 0 (ZI below args s D A (tyl cI cJ cT) z_r (wd_ch_no a b cI cJ cT ch_nodes ch_signs ch_felt ch_count no_bits no_wishedInputs no_wishedMany no_hiddenUnlike) 0 0) (F0 m 4 ls []) := by
  have hx := C.1.1
  have hb := C.1.2.1
  have hown := C.1.2.2.2.1
  have hts := C.1.2.2.2.2
  intro n
  induction n with
  | zero => intro x1 x2 h; cases h
  | succ n ih =>
    intro x1 x2 h H locs ls B hl
    rw [bX4_frontOnes_4] at h
    refine lv_iload_n hx hb dX4_frontOnes_4 rfl (lv_at hl 2 rfl) ?_
    refine lv_aload_n hx hb dX4_frontOnes_5 rfl (lv_at hl 0 rfl) ?_
    refine gfX4_frontOnes_26 C B 4 rfl rfl dX4_frontOnes_6 ?_
    refine gfX4_frontOnes_38 C B 0 rfl rfl dX4_frontOnes_9 ?_
    refine lv_icmp_ge (tgt := 46) hx hb dX4_frontOnes_12 (by decide) (fun c_1 => ?_) (fun c_1 => ?_)
    · rw [if_pos c_1] at h
      refine lv_iload_n hx hb dX4_frontOnes_46 rfl (lv_at hl 1 rfl) ?_
      cases h
      exact k_iret C B dX4_frontOnes_47
    · rw [if_neg c_1] at h
      refine lv_iload_n hx hb dX4_frontOnes_15 rfl (lv_at hl 1 rfl) ?_
      refine lv_aload_n hx hb dX4_frontOnes_16 rfl (lv_at hl 0 rfl) ?_
      refine gfX4_frontOnes_9 C B 4 rfl rfl dX4_frontOnes_17 ?_
      refine lv_iload_n hx hb dX4_frontOnes_20 rfl (lv_at hl 2 rfl) ?_
      obtain ⟨b_2, h⟩ := bnd_some h
      refine k_iald C B 5 0 rfl rfl b_2 dX4_frontOnes_21 ?_
      refine lv_if_eq (tgt := 37) hx hb dX4_frontOnes_22 (by decide) (fun c_3 => ?_) (fun c_3 => ?_)
      · rw [if_pos c_3] at h
        refine lv_iconst (v := 0) hx hb dX4_frontOnes_37 (by decide) ?_
        refine lv_iadd hx hb dX4_frontOnes_38 ?_
        refine lv_istore_n (lv' := [(1, .int (x1 + (0 : Int32))), (0, .ref (a 35)), (2, .int x2)]) hx hb dX4_frontOnes_39 rfl hl (by decide) rfl (fun ls hl => ?_)
        refine lv_iinc (v := (x2 + 1)) (lv' := [(2, .int (x2 + 1)), (1, .int (x1 + (0 : Int32))), (0, .ref (a 35))]) hx hb dX4_frontOnes_40 hl (k := 2) rfl rfl (by decide) rfl (fun ls hl => ?_)
        refine lv_goto (tgt := 4) hx hb dX4_frontOnes_43 (by decide) ?_
        exact ih (x1 + (0 : Int32)) (x2 + 1) h H locs ls B (lv_sub hl [2, 1, 0] rfl)
      · rw [if_neg c_3] at h
        refine lv_aload_n hx hb dX4_frontOnes_25 rfl (lv_at hl 0 rfl) ?_
        refine lv_iload_n hx hb dX4_frontOnes_26 rfl (lv_at hl 2 rfl) ?_
        obtain ⟨r_4, g_6, h⟩ := ob_some h
        try dsimp only at h
        refine kc_VI C B (q0 := 4) (ci := 4) (As := [.int x2]) (rest := [.int x1]) (w2 := (wd_ch_no a b cI cJ cT ch_nodes ch_signs ch_felt ch_count no_bits no_wishedInputs no_wishedMany no_hiddenUnlike)) (tX4_behindHowMany (a := a) (b := b) N g_6) gX4_frontOnes_X4_behindHowMany rfl ⟨rfl, rfl⟩ ⟨rfl, hdX4_behindHowMany⟩ ⟨Nat.le_of_ble_eq_true rfl, Nat.le_of_ble_eq_true rfl⟩ rfl rfl [0, 1, 2, 3, 4, 5, 6] [] [0, 1, 2, 3, 4, 5, 6] rfl rfl rfl rfl rfl rfl rfl rfl hl.1 rfl (Nat.le_of_ble_eq_true rfl) ⟨Nat.zero_le _, Nat.zero_le _⟩ dX4_frontOnes_27 (fun H locs B => ?_)
        refine lv_if_ne (tgt := 37) hx hb dX4_frontOnes_30 (by decide) (fun c_5 => ?_) (fun c_5 => ?_)
        · rw [if_neg c_5] at h
          refine lv_iconst (v := 0) hx hb dX4_frontOnes_37 (by decide) ?_
          refine lv_iadd hx hb dX4_frontOnes_38 ?_
          refine lv_istore_n (lv' := [(1, .int (x1 + (0 : Int32))), (0, .ref (a 35)), (2, .int x2)]) hx hb dX4_frontOnes_39 rfl hl (by decide) rfl (fun ls hl => ?_)
          refine lv_iinc (v := (x2 + 1)) (lv' := [(2, .int (x2 + 1)), (1, .int (x1 + (0 : Int32))), (0, .ref (a 35))]) hx hb dX4_frontOnes_40 hl (k := 2) rfl rfl (by decide) rfl (fun ls hl => ?_)
          refine lv_goto (tgt := 4) hx hb dX4_frontOnes_43 (by decide) ?_
          exact ih (x1 + (0 : Int32)) (x2 + 1) h H locs ls B (lv_sub hl [2, 1, 0] rfl)
        · rw [if_pos c_5] at h
          refine lv_iconst (v := 1) hx hb dX4_frontOnes_33 (by decide) ?_
          refine lv_goto (tgt := 38) hx hb dX4_frontOnes_34 (by decide) ?_
          refine lv_iadd hx hb dX4_frontOnes_38 ?_
          refine lv_istore_n (lv' := [(1, .int (x1 + (1 : Int32))), (0, .ref (a 35)), (2, .int x2)]) hx hb dX4_frontOnes_39 rfl hl (by decide) rfl (fun ls hl => ?_)
          refine lv_iinc (v := (x2 + 1)) (lv' := [(2, .int (x2 + 1)), (1, .int (x1 + (1 : Int32))), (0, .ref (a 35))]) hx hb dX4_frontOnes_40 hl (k := 2) rfl rfl (by decide) rfl (fun ls hl => ?_)
          refine lv_goto (tgt := 4) hx hb dX4_frontOnes_43 (by decide) ?_
          exact ih (x1 + (1 : Int32)) (x2 + 1) h H locs ls B (lv_sub hl [2, 1, 0] rfl)
set_option maxHeartbeats 4000000 in
set_option maxRecDepth 100000 in
theorem qX4_frontOnes_0 (C : CT p s m args meth c RX4 cX4_frontOnes 3 (some .int) wsX4_frontOnes D A (tyl cI cJ cT) Es) {N : Nat} {ch_nodes : Nat → Int32} {ch_signs : Nat → Int32} {ch_felt : Nat → Int32} {ch_count : Int32} {no_bits : Nat → Int32} {no_wishedInputs : Int32} {no_wishedMany : Int32} {no_hiddenUnlike : Nat → Int64} {z_r : Int32} : fX4_frontOnes N ch_count no_bits = some z_r → ∀ (H : Heap) (locs : List Loc) (ls : Array Slot), DB D A (wd_ch_no a b cI cJ cT ch_nodes ch_signs ch_felt ch_count no_bits no_wishedInputs no_wishedMany no_hiddenUnlike) s H locs → lv_has ls 3 [(0, .ref (a 35))] → W p l e rmX4_frontOnes s m args below meth c H locs 0 0 (ZI below args s D A (tyl cI cJ cT) z_r (wd_ch_no a b cI cJ cT ch_nodes ch_signs ch_felt ch_count no_bits no_wishedInputs no_wishedMany no_hiddenUnlike) 0 0) (F0 m 0 ls []) := by
  have hx := C.1.1
  have hb := C.1.2.1
  have hown := C.1.2.2.2.1
  have hts := C.1.2.2.2.2
  intro h H locs ls B hl
  rw [fX4_frontOnes] at h
  refine lv_iconst (v := 0) hx hb dX4_frontOnes_0 (by decide) ?_
  refine lv_istore_n (lv' := [(1, .int (0 : Int32)), (0, .ref (a 35))]) hx hb dX4_frontOnes_1 rfl hl (by decide) rfl (fun ls hl => ?_)
  refine lv_iconst (v := 0) hx hb dX4_frontOnes_2 (by decide) ?_
  refine lv_istore_n (lv' := [(2, .int (0 : Int32)), (1, .int (0 : Int32)), (0, .ref (a 35))]) hx hb dX4_frontOnes_3 rfl hl (by decide) rfl (fun ls hl => ?_)
  exact qX4_frontOnes_4 C N (0 : Int32) (0 : Int32) h H locs ls B (lv_sub hl [2, 1, 0] rfl)
end
theorem tX4_frontOnes {l : Launch} {D : va_G} {Es : (Nat → Nat) × (Nat → Nat)} {a b : Nat → Nat} {cI cJ cT : ClassId} {ch_nodes : Nat → Int32} {ch_signs : Nat → Int32} {ch_felt : Nat → Int32} {ch_count : Int32} {no_bits : Nat → Int32} {no_wishedInputs : Int32} {no_wishedMany : Int32} {no_hiddenUnlike : Nat → Int64} {z_r : Int32} (N : Nat) (h : fX4_frontOnes N ch_count no_bits = some z_r) : CtI l yX4_frontOnes wsX4_frontOnes rmX4_frontOnes D (tyl cI cJ cT) Es [.ref (a 35)] (wd_ch_no a b cI cJ cT ch_nodes ch_signs ch_felt ch_count no_bits no_wishedInputs no_wishedMany no_hiddenUnlike) z_r (wd_ch_no a b cI cJ cT ch_nodes ch_signs ch_felt ch_count no_bits no_wishedInputs no_wishedMany no_hiddenUnlike) :=
  CtI.of (own := RX4) (cc := cX4_frontOnes) (nL := 3) (ret := (some .int)) (by decide +kernel) rfl rfl (Nat.le_of_ble_eq_true rfl) rfl (fun p e s m below meth c A ls C B hl => qX4_frontOnes_0 C (N := N) h _ _ _ B hl)

abbrev rmX4_gatherHidden : Room := { frames := 1, cells := 0, slots := 0, locals := 25 }
theorem hdX4_gatherHidden : yX4_gatherHidden.cls ≠ "java/lang/invoke/MethodHandle" ∧ yX4_gatherHidden.cls ≠ "java/lang/invoke/VarHandle" ∧ (parseMethodDescriptor yX4_gatherHidden.desc).map (fun d => d.parameters.length) = some 1 := by decide +kernel
theorem iX4_gatherHidden_X4 : ∀ w ∈ wsX40, w ∈ wsX4_gatherHidden := by decide +kernel
theorem gfX4_gatherHidden_26 {p : Program} {l : Launch} {e : Env} {R : Room} {s : State} {m : MethodId} {args : Array Value} {below : List Frame} {meth : Method} {c : Code} {H : Heap} {locs : List Loc} {cells slots : Nat} {Q : State → Prop} {D : va_G} {A : Nat → Prop} {tys : List (ClassId × FieldType)} {Es : (Nat → Nat) × (Nat → Nat)} {ws : va_W} {pc : Nat} {ls : Array Slot} {rest : List Value} {a : Nat} (C : CT p s m args meth c RX4 cX4_gatherHidden 4 (some .int) wsX4_gatherHidden D A tys Es) (B : DB D A ws s H locs) (q0 : Nat) {fs : List Value} {v : Value} (he : ws[q0]? = some (a, .inr (4, fs))) (hv : fs[4]? = some v) (hdg : decode cX4_gatherHidden pc = .ok (.getfield 26, 3)) (kk : W p l e R s m args below meth c H locs cells slots Q (F0 m (pc + 3) ls (v :: rest))) : W p l e R s m args below meth c H locs cells slots Q (F0 m pc ls (.ref a :: rest)) :=
  k_get (Cn := RX4) (T := TX4) (N := 7) (index := 26) C B iX4_gatherHidden_X4 rfl 4 (by decide) (by decide +kernel) q0 he hv hdg kk
theorem iX4_gatherHidden_X1 : ∀ w ∈ wsX10, w ∈ wsX4_gatherHidden := by decide +kernel
theorem gfX4_gatherHidden_38 {p : Program} {l : Launch} {e : Env} {R : Room} {s : State} {m : MethodId} {args : Array Value} {below : List Frame} {meth : Method} {c : Code} {H : Heap} {locs : List Loc} {cells slots : Nat} {Q : State → Prop} {D : va_G} {A : Nat → Prop} {tys : List (ClassId × FieldType)} {Es : (Nat → Nat) × (Nat → Nat)} {ws : va_W} {pc : Nat} {ls : Array Slot} {rest : List Value} {a : Nat} (C : CT p s m args meth c RX4 cX4_gatherHidden 4 (some .int) wsX4_gatherHidden D A tys Es) (B : DB D A ws s H locs) (q0 : Nat) {fs : List Value} {v : Value} (he : ws[q0]? = some (a, .inr (1, fs))) (hv : fs[3]? = some v) (hdg : decode cX4_gatherHidden pc = .ok (.getfield 38, 3)) (kk : W p l e R s m args below meth c H locs cells slots Q (F0 m (pc + 3) ls (v :: rest))) : W p l e R s m args below meth c H locs cells slots Q (F0 m pc ls (.ref a :: rest)) :=
  k_get (Cn := RX1) (T := TX1) (N := 5) (index := 38) C B iX4_gatherHidden_X1 rfl 3 (by decide) (by decide +kernel) q0 he hv hdg kk
theorem gfX4_gatherHidden_22 {p : Program} {l : Launch} {e : Env} {R : Room} {s : State} {m : MethodId} {args : Array Value} {below : List Frame} {meth : Method} {c : Code} {H : Heap} {locs : List Loc} {cells slots : Nat} {Q : State → Prop} {D : va_G} {A : Nat → Prop} {tys : List (ClassId × FieldType)} {Es : (Nat → Nat) × (Nat → Nat)} {ws : va_W} {pc : Nat} {ls : Array Slot} {rest : List Value} {a : Nat} (C : CT p s m args meth c RX4 cX4_gatherHidden 4 (some .int) wsX4_gatherHidden D A tys Es) (B : DB D A ws s H locs) (q0 : Nat) {fs : List Value} {v : Value} (he : ws[q0]? = some (a, .inr (4, fs))) (hv : fs[3]? = some v) (hdg : decode cX4_gatherHidden pc = .ok (.getfield 22, 3)) (kk : W p l e R s m args below meth c H locs cells slots Q (F0 m (pc + 3) ls (v :: rest))) : W p l e R s m args below meth c H locs cells slots Q (F0 m pc ls (.ref a :: rest)) :=
  k_get (Cn := RX4) (T := TX4) (N := 7) (index := 22) C B iX4_gatherHidden_X4 rfl 3 (by decide) (by decide +kernel) q0 he hv hdg kk
theorem gfX4_gatherHidden_34 {p : Program} {l : Launch} {e : Env} {R : Room} {s : State} {m : MethodId} {args : Array Value} {below : List Frame} {meth : Method} {c : Code} {H : Heap} {locs : List Loc} {cells slots : Nat} {Q : State → Prop} {D : va_G} {A : Nat → Prop} {tys : List (ClassId × FieldType)} {Es : (Nat → Nat) × (Nat → Nat)} {ws : va_W} {pc : Nat} {ls : Array Slot} {rest : List Value} {a : Nat} (C : CT p s m args meth c RX4 cX4_gatherHidden 4 (some .int) wsX4_gatherHidden D A tys Es) (B : DB D A ws s H locs) (q0 : Nat) {fs : List Value} {v : Value} (he : ws[q0]? = some (a, .inr (4, fs))) (hv : fs[6]? = some v) (hdg : decode cX4_gatherHidden pc = .ok (.getfield 34, 3)) (kk : W p l e R s m args below meth c H locs cells slots Q (F0 m (pc + 3) ls (v :: rest))) : W p l e R s m args below meth c H locs cells slots Q (F0 m pc ls (.ref a :: rest)) :=
  k_get (Cn := RX4) (T := TX4) (N := 7) (index := 34) C B iX4_gatherHidden_X4 rfl 6 (by decide) (by decide +kernel) q0 he hv hdg kk
section
variable {p : Program} {l : Launch} {e : Env} {s : State} {m : MethodId} {args : Array Value} {below : List Frame} {meth : Method} {c : Code} {D : va_G} {A : Nat → Prop} {Es : (Nat → Nat) × (Nat → Nat)} {a b : Nat → Nat} {cI cJ cT : ClassId}
set_option maxHeartbeats 4000000 in
set_option maxRecDepth 100000 in
theorem qX4_gatherHidden_4 (C : CT p s m args meth c RX4 cX4_gatherHidden 4 (some .int) wsX4_gatherHidden D A (tyl cI cJ cT) Es) {N : Nat} {rs_low : Nat → Int64} {rs_mid : Nat → Int64} {rs_high : Nat → Int64} {ch_nodes : Nat → Int32} {ch_signs : Nat → Int32} {ch_felt : Nat → Int32} {ch_count : Int32} {no_bits : Nat → Int32} {no_wishedInputs : Int32} {no_wishedMany : Int32} {z_r : Int32} {z_no_hiddenUnlike : Nat → Int64} : ∀ (n : Nat) (x1 : Int32) (x2 : Int32) (x3 : Int32) (no_hiddenUnlike : Nat → Int64), bX4_gatherHidden_4 N rs_low rs_mid rs_high ch_felt ch_count no_bits n x1 x2 x3 no_hiddenUnlike = some (z_r, z_no_hiddenUnlike) → ∀ (H : Heap) (locs : List Loc) (ls : Array Slot), DB D A (wd_rs_ch_no a b cI cJ cT rs_low rs_mid rs_high ch_nodes ch_signs ch_felt ch_count no_bits no_wishedInputs no_wishedMany no_hiddenUnlike) s H locs → lv_has ls 4 [(0, .ref (a 35)), (1, .int x1), (2, .int x2), (3, .int x3)] → W p l e rmX4_gatherHidden s m args below meth c H locs 0 0 (ZI below args s D A (tyl cI cJ cT) z_r (wd_rs_ch_no a b cI cJ cT rs_low rs_mid rs_high ch_nodes ch_signs ch_felt ch_count no_bits no_wishedInputs no_wishedMany z_no_hiddenUnlike) 0 0) (F0 m 4 ls []) := by
  have hx := C.1.1
  have hb := C.1.2.1
  have hown := C.1.2.2.2.1
  have hts := C.1.2.2.2.2
  intro n
  induction n with
  | zero => intro x1 x2 x3 no_hiddenUnlike h; cases h
  | succ n ih =>
    intro x1 x2 x3 no_hiddenUnlike h H locs ls B hl
    rw [bX4_gatherHidden_4] at h
    refine lv_iload_n hx hb dX4_gatherHidden_4 rfl (lv_at hl 3 rfl) ?_
    refine lv_aload_n hx hb dX4_gatherHidden_5 rfl (lv_at hl 0 rfl) ?_
    refine gfX4_gatherHidden_26 C B 8 rfl rfl dX4_gatherHidden_6 ?_
    refine gfX4_gatherHidden_38 C B 4 rfl rfl dX4_gatherHidden_9 ?_
    refine lv_icmp_ge (tgt := 50) hx hb dX4_gatherHidden_12 (by decide) (fun c_1 => ?_) (fun c_1 => ?_)
    · rw [if_pos c_1] at h
      refine lv_iload_n hx hb dX4_gatherHidden_50 rfl (lv_at hl 2 rfl) ?_
      cases h
      exact k_iret C B dX4_gatherHidden_51
    · rw [if_neg c_1] at h
      refine lv_aload_n hx hb dX4_gatherHidden_15 rfl (lv_at hl 0 rfl) ?_
      refine lv_iload_n hx hb dX4_gatherHidden_16 rfl (lv_at hl 3 rfl) ?_
      obtain ⟨r_2, g_7, h⟩ := ob_some h
      try dsimp only at h
      refine kc_VI C B (q0 := 4) (ci := 4) (As := [.int x3]) (rest := []) (w2 := (wd_rs_ch_no a b cI cJ cT rs_low rs_mid rs_high ch_nodes ch_signs ch_felt ch_count no_bits no_wishedInputs no_wishedMany no_hiddenUnlike)) (tX4_isHidden (a := a) (b := b) N g_7) gX4_gatherHidden_X4_isHidden rfl ⟨rfl, rfl⟩ ⟨rfl, hdX4_isHidden⟩ ⟨Nat.le_of_ble_eq_true rfl, Nat.le_of_ble_eq_true rfl⟩ rfl rfl [4, 5, 6, 7, 8, 9, 10] [0, 1, 2, 3] [0, 1, 2, 3, 4, 5, 6, 7, 8, 9, 10] rfl rfl rfl rfl rfl rfl rfl rfl hl.1 rfl (Nat.le_of_ble_eq_true rfl) ⟨Nat.zero_le _, Nat.zero_le _⟩ dX4_gatherHidden_17 (fun H locs B => ?_)
      refine lv_if_eq (tgt := 44) hx hb dX4_gatherHidden_20 (by decide) (fun c_3 => ?_) (fun c_3 => ?_)
      · rw [if_pos c_3] at h
        refine lv_iinc (v := (x3 + 1)) (lv' := [(3, .int (x3 + 1)), (0, .ref (a 35)), (1, .int x1), (2, .int x2)]) hx hb dX4_gatherHidden_44 hl (k := 3) rfl rfl (by decide) rfl (fun ls hl => ?_)
        refine lv_goto (tgt := 4) hx hb dX4_gatherHidden_47 (by decide) ?_
        exact ih x1 x2 (x3 + 1) no_hiddenUnlike h H locs ls B (lv_sub hl [1, 2, 3, 0] rfl)
      · rw [if_neg c_3] at h
        refine lv_aload_n hx hb dX4_gatherHidden_23 rfl (lv_at hl 0 rfl) ?_
        refine gfX4_gatherHidden_22 C B 8 rfl rfl dX4_gatherHidden_24 ?_
        refine lv_iload_n hx hb dX4_gatherHidden_27 rfl (lv_at hl 2 rfl) ?_
        refine lv_aload_n hx hb dX4_gatherHidden_28 rfl (lv_at hl 0 rfl) ?_
        refine gfX4_gatherHidden_34 C B 8 rfl rfl dX4_gatherHidden_29 ?_
        refine lv_iconst (v := 2) hx hb dX4_gatherHidden_32 (by decide) ?_
        refine lv_iload_n hx hb dX4_gatherHidden_33 rfl (lv_at hl 3 rfl) ?_
        refine lv_iadd hx hb dX4_gatherHidden_34 ?_
        refine lv_iconst (v := 0) hx hb dX4_gatherHidden_35 (by decide) ?_
        refine lv_iload_n hx hb dX4_gatherHidden_36 rfl (lv_at hl 1 rfl) ?_
        obtain ⟨r_4, g_6, h⟩ := ob_some h
        try dsimp only at h
        refine kc_VL C B (q0 := 0) (ci := 7) (As := [.int ((2 : Int32) + x3), .int (0 : Int32), .int x1]) (rest := [.int x2, .ref (a 37)]) (w2 := (wd_rs_ch_no a b cI cJ cT rs_low rs_mid rs_high ch_nodes ch_signs ch_felt ch_count no_bits no_wishedInputs no_wishedMany no_hiddenUnlike)) (tX7_unlike (a := a) (b := b) N g_6) gX4_gatherHidden_X7_unlike rfl ⟨rfl, rfl⟩ ⟨rfl, hdX7_unlike⟩ ⟨Nat.le_of_ble_eq_true rfl, Nat.le_of_ble_eq_true rfl⟩ rfl rfl [0, 1, 2, 3] [4, 5, 6, 7, 8, 9, 10] [7, 8, 9, 10, 0, 1, 2, 3, 4, 5, 6] rfl rfl rfl rfl rfl rfl rfl rfl hl.1 rfl (Nat.le_of_ble_eq_true rfl) ⟨Nat.zero_le _, Nat.zero_le _⟩ dX4_gatherHidden_37 (fun H locs B => ?_)
        obtain ⟨b_5, h⟩ := bnd_some h
        refine k_last C B 10 1 rfl rfl b_5 dX4_gatherHidden_40 (fun H locs B => ?_)
        have B : DB D A (wd_rs_ch_no a b cI cJ cT rs_low rs_mid rs_high ch_nodes ch_signs ch_felt ch_count no_bits no_wishedInputs no_wishedMany (vp_updL no_hiddenUnlike (Int32.toNatClampNeg x2) r_4)) s H locs := B
        refine lv_iinc (v := (x2 + 1)) (lv' := [(2, .int (x2 + 1)), (0, .ref (a 35)), (1, .int x1), (3, .int x3)]) hx hb dX4_gatherHidden_41 hl (k := 2) rfl rfl (by decide) rfl (fun ls hl => ?_)
        refine lv_iinc (v := (x3 + 1)) (lv' := [(3, .int (x3 + 1)), (2, .int (x2 + 1)), (0, .ref (a 35)), (1, .int x1)]) hx hb dX4_gatherHidden_44 hl (k := 3) rfl rfl (by decide) rfl (fun ls hl => ?_)
        refine lv_goto (tgt := 4) hx hb dX4_gatherHidden_47 (by decide) ?_
        exact ih x1 (x2 + 1) (x3 + 1) (vp_updL no_hiddenUnlike (Int32.toNatClampNeg x2) r_4) h H locs ls B (lv_sub hl [2, 3, 1, 0] rfl)
set_option maxHeartbeats 4000000 in
set_option maxRecDepth 100000 in
theorem qX4_gatherHidden_0 (C : CT p s m args meth c RX4 cX4_gatherHidden 4 (some .int) wsX4_gatherHidden D A (tyl cI cJ cT) Es) {N : Nat} {rs_low : Nat → Int64} {rs_mid : Nat → Int64} {rs_high : Nat → Int64} {ch_nodes : Nat → Int32} {ch_signs : Nat → Int32} {ch_felt : Nat → Int32} {ch_count : Int32} {no_bits : Nat → Int32} {no_wishedInputs : Int32} {no_wishedMany : Int32} {z_r : Int32} {z_no_hiddenUnlike : Nat → Int64} : ∀ (x1 : Int32) (no_hiddenUnlike : Nat → Int64), fX4_gatherHidden N rs_low rs_mid rs_high ch_felt ch_count no_bits x1 no_hiddenUnlike = some (z_r, z_no_hiddenUnlike) → ∀ (H : Heap) (locs : List Loc) (ls : Array Slot), DB D A (wd_rs_ch_no a b cI cJ cT rs_low rs_mid rs_high ch_nodes ch_signs ch_felt ch_count no_bits no_wishedInputs no_wishedMany no_hiddenUnlike) s H locs → lv_has ls 4 [(0, .ref (a 35)), (1, .int x1)] → W p l e rmX4_gatherHidden s m args below meth c H locs 0 0 (ZI below args s D A (tyl cI cJ cT) z_r (wd_rs_ch_no a b cI cJ cT rs_low rs_mid rs_high ch_nodes ch_signs ch_felt ch_count no_bits no_wishedInputs no_wishedMany z_no_hiddenUnlike) 0 0) (F0 m 0 ls []) := by
  have hx := C.1.1
  have hb := C.1.2.1
  have hown := C.1.2.2.2.1
  have hts := C.1.2.2.2.2
  intro x1 no_hiddenUnlike h H locs ls B hl
  rw [fX4_gatherHidden] at h
  refine lv_iconst (v := 0) hx hb dX4_gatherHidden_0 (by decide) ?_
  refine lv_istore_n (lv' := [(2, .int (0 : Int32)), (0, .ref (a 35)), (1, .int x1)]) hx hb dX4_gatherHidden_1 rfl hl (by decide) rfl (fun ls hl => ?_)
  refine lv_iconst (v := 0) hx hb dX4_gatherHidden_2 (by decide) ?_
  refine lv_istore_n (lv' := [(3, .int (0 : Int32)), (2, .int (0 : Int32)), (0, .ref (a 35)), (1, .int x1)]) hx hb dX4_gatherHidden_3 rfl hl (by decide) rfl (fun ls hl => ?_)
  exact qX4_gatherHidden_4 C N x1 (0 : Int32) (0 : Int32) no_hiddenUnlike h H locs ls B (lv_sub hl [2, 3, 1, 0] rfl)
end
theorem tX4_gatherHidden {l : Launch} {D : va_G} {Es : (Nat → Nat) × (Nat → Nat)} {a b : Nat → Nat} {cI cJ cT : ClassId} {rs_low : Nat → Int64} {rs_mid : Nat → Int64} {rs_high : Nat → Int64} {ch_nodes : Nat → Int32} {ch_signs : Nat → Int32} {ch_felt : Nat → Int32} {ch_count : Int32} {no_bits : Nat → Int32} {no_wishedInputs : Int32} {no_wishedMany : Int32} {no_hiddenUnlike : Nat → Int64} {x1 : Int32} {z_r : Int32} {z_no_hiddenUnlike : Nat → Int64} (N : Nat) (h : fX4_gatherHidden N rs_low rs_mid rs_high ch_felt ch_count no_bits x1 no_hiddenUnlike = some (z_r, z_no_hiddenUnlike)) : CtI l yX4_gatherHidden wsX4_gatherHidden rmX4_gatherHidden D (tyl cI cJ cT) Es [.ref (a 35), .int x1] (wd_rs_ch_no a b cI cJ cT rs_low rs_mid rs_high ch_nodes ch_signs ch_felt ch_count no_bits no_wishedInputs no_wishedMany no_hiddenUnlike) z_r (wd_rs_ch_no a b cI cJ cT rs_low rs_mid rs_high ch_nodes ch_signs ch_felt ch_count no_bits no_wishedInputs no_wishedMany z_no_hiddenUnlike) :=
  CtI.of (own := RX4) (cc := cX4_gatherHidden) (nL := 4) (ret := (some .int)) (by decide +kernel) rfl rfl (Nat.le_of_ble_eq_true rfl) rfl (fun p e s m below meth c A ls C B hl => qX4_gatherHidden_0 C (N := N) x1 no_hiddenUnlike h _ _ _ B hl)

abbrev rmX4_findWishedIn : Room := { frames := 1, cells := 0, slots := 0, locals := 22 }
theorem hdX4_findWishedIn : yX4_findWishedIn.cls ≠ "java/lang/invoke/MethodHandle" ∧ yX4_findWishedIn.cls ≠ "java/lang/invoke/VarHandle" ∧ (parseMethodDescriptor yX4_findWishedIn.desc).map (fun d => d.parameters.length) = some 2 := by decide +kernel
theorem iX4_findWishedIn_X4 : ∀ w ∈ wsX40, w ∈ wsX4_findWishedIn := by decide +kernel
theorem gfX4_findWishedIn_19 {p : Program} {l : Launch} {e : Env} {R : Room} {s : State} {m : MethodId} {args : Array Value} {below : List Frame} {meth : Method} {c : Code} {H : Heap} {locs : List Loc} {cells slots : Nat} {Q : State → Prop} {D : va_G} {A : Nat → Prop} {tys : List (ClassId × FieldType)} {Es : (Nat → Nat) × (Nat → Nat)} {ws : va_W} {pc : Nat} {ls : Array Slot} {rest : List Value} {a : Nat} (C : CT p s m args meth c RX4 cX4_findWishedIn 6 none wsX4_findWishedIn D A tys Es) (B : DB D A ws s H locs) (q0 : Nat) {fs : List Value} {v : Value} (he : ws[q0]? = some (a, .inr (4, fs))) (hv : fs[2]? = some v) (hdg : decode cX4_findWishedIn pc = .ok (.getfield 19, 3)) (kk : W p l e R s m args below meth c H locs cells slots Q (F0 m (pc + 3) ls (v :: rest))) : W p l e R s m args below meth c H locs cells slots Q (F0 m pc ls (.ref a :: rest)) :=
  k_get (Cn := RX4) (T := TX4) (N := 7) (index := 19) C B iX4_findWishedIn_X4 rfl 2 (by decide) (by decide +kernel) q0 he hv hdg kk
theorem pfX4_findWishedIn_15 {p : Program} {l : Launch} {e : Env} {R : Room} {s : State} {m : MethodId} {args : Array Value} {below : List Frame} {meth : Method} {c : Code} {H : Heap} {locs : List Loc} {cells slots : Nat} {Q : State → Prop} {D : va_G} {A : Nat → Prop} {tys : List (ClassId × FieldType)} {Es : (Nat → Nat) × (Nat → Nat)} {ws : va_W} {pc : Nat} {ls : Array Slot} {rest : List Value} {a : Nat} (C : CT p s m args meth c RX4 cX4_findWishedIn 6 none wsX4_findWishedIn D A tys Es) (B : DB D A ws s H locs) (q0 : Nat) {fs : List Value} {v : Value} (hn : narrow .int v = v) (hfit : fits .int v = true) (he : ws[q0]? = some (a, .inr (4, fs))) (hl : 1 < fs.length) (hdg : decode cX4_findWishedIn pc = .ok (.putfield 15, 3)) (kk : ∀ (H1 : Heap) (locs1 : List Loc), DB D A (ws.set q0 (a, .inr (4, fs.set 1 v))) s H1 locs1 → W p l e R s m args below meth c H1 locs1 cells slots Q (F0 m (pc + 3) ls rest)) : W p l e R s m args below meth c H locs cells slots Q (F0 m pc ls (v :: .ref a :: rest)) :=
  k_put (Cn := RX4) (T := TX4) (N := 7) (index := 15) C B iX4_findWishedIn_X4 rfl tyX4 tyX4_ok nmX4 1 (by decide) (by decide +kernel) rfl q0 (by decide +kernel) hn hfit he hl hdg kk
theorem pfX4_findWishedIn_19 {p : Program} {l : Launch} {e : Env} {R : Room} {s : State} {m : MethodId} {args : Array Value} {below : List Frame} {meth : Method} {c : Code} {H : Heap} {locs : List Loc} {cells slots : Nat} {Q : State → Prop} {D : va_G} {A : Nat → Prop} {tys : List (ClassId × FieldType)} {Es : (Nat → Nat) × (Nat → Nat)} {ws : va_W} {pc : Nat} {ls : Array Slot} {rest : List Value} {a : Nat} (C : CT p s m args meth c RX4 cX4_findWishedIn 6 none wsX4_findWishedIn D A tys Es) (B : DB D A ws s H locs) (q0 : Nat) {fs : List Value} {v : Value} (hn : narrow .int v = v) (hfit : fits .int v = true) (he : ws[q0]? = some (a, .inr (4, fs))) (hl : 2 < fs.length) (hdg : decode cX4_findWishedIn pc = .ok (.putfield 19, 3)) (kk : ∀ (H1 : Heap) (locs1 : List Loc), DB D A (ws.set q0 (a, .inr (4, fs.set 2 v))) s H1 locs1 → W p l e R s m args below meth c H1 locs1 cells slots Q (F0 m (pc + 3) ls rest)) : W p l e R s m args below meth c H locs cells slots Q (F0 m pc ls (v :: .ref a :: rest)) :=
  k_put (Cn := RX4) (T := TX4) (N := 7) (index := 19) C B iX4_findWishedIn_X4 rfl tyX4 tyX4_ok nmX4 2 (by decide) (by decide +kernel) rfl q0 (by decide +kernel) hn hfit he hl hdg kk
theorem gfX4_findWishedIn_22 {p : Program} {l : Launch} {e : Env} {R : Room} {s : State} {m : MethodId} {args : Array Value} {below : List Frame} {meth : Method} {c : Code} {H : Heap} {locs : List Loc} {cells slots : Nat} {Q : State → Prop} {D : va_G} {A : Nat → Prop} {tys : List (ClassId × FieldType)} {Es : (Nat → Nat) × (Nat → Nat)} {ws : va_W} {pc : Nat} {ls : Array Slot} {rest : List Value} {a : Nat} (C : CT p s m args meth c RX4 cX4_findWishedIn 6 none wsX4_findWishedIn D A tys Es) (B : DB D A ws s H locs) (q0 : Nat) {fs : List Value} {v : Value} (he : ws[q0]? = some (a, .inr (4, fs))) (hv : fs[3]? = some v) (hdg : decode cX4_findWishedIn pc = .ok (.getfield 22, 3)) (kk : W p l e R s m args below meth c H locs cells slots Q (F0 m (pc + 3) ls (v :: rest))) : W p l e R s m args below meth c H locs cells slots Q (F0 m pc ls (.ref a :: rest)) :=
  k_get (Cn := RX4) (T := TX4) (N := 7) (index := 22) C B iX4_findWishedIn_X4 rfl 3 (by decide) (by decide +kernel) q0 he hv hdg kk
section
variable {p : Program} {l : Launch} {e : Env} {s : State} {m : MethodId} {args : Array Value} {below : List Frame} {meth : Method} {c : Code} {D : va_G} {A : Nat → Prop} {Es : (Nat → Nat) × (Nat → Nat)} {a b : Nat → Nat} {cI cJ cT : ClassId}
set_option maxHeartbeats 4000000 in
set_option maxRecDepth 100000 in
theorem qX4_findWishedIn_14 (C : CT p s m args meth c RX4 cX4_findWishedIn 6 none wsX4_findWishedIn D A (tyl cI cJ cT) Es) {N : Nat} {no_bits : Nat → Int32} {no_hiddenUnlike : Nat → Int64} {z_no_wishedInputs : Int32} {z_no_wishedMany : Int32} {k2 : Int32 → Int32 → Int32 → (Int32) → (Int32) → Option ((Int32) × (Int32))} (hk2 : ∀ (x1 : Int32) (x2 : Int32) (x3 : Int32) (no_wishedInputs : Int32) (no_wishedMany : Int32), k2 x1 x2 x3 no_wishedInputs no_wishedMany = some (z_no_wishedInputs, z_no_wishedMany) → ∀ (H : Heap) (locs : List Loc) (ls : Array Slot), DB D A (wd_no a b cI cJ cT no_bits no_wishedInputs no_wishedMany no_hiddenUnlike) s H locs → lv_has ls 6 [(0, .ref (a 35)), (1, .int x1), (2, .int x2), (3, .int x3)] → W p l e rmX4_findWishedIn s m args below meth c H locs 0 0 (ZV below args s D A (tyl cI cJ cT) (wd_no a b cI cJ cT no_bits z_no_wishedInputs z_no_wishedMany no_hiddenUnlike) 0 0) (F0 m 2 ls [])) : ∀ (n : Nat) (x1 : Int32) (x2 : Int32) (x3 : Int32) (x4 : Int32) (x5 : Int32) (no_wishedInputs : Int32) (no_wishedMany : Int32), bX4_findWishedIn_14 N no_hiddenUnlike k2 n x1 x2 x3 x4 x5 no_wishedInputs no_wishedMany = some (z_no_wishedInputs, z_no_wishedMany) → ∀ (H : Heap) (locs : List Loc) (ls : Array Slot), DB D A (wd_no a b cI cJ cT no_bits no_wishedInputs no_wishedMany no_hiddenUnlike) s H locs → lv_has ls 6 [(0, .ref (a 35)), (1, .int x1), (2, .int x2), (3, .int x3), (4, .int x4), (5, .int x5)] → W p l e rmX4_findWishedIn s m args below meth c H locs 0 0 (ZV below args s D A (tyl cI cJ cT) (wd_no a b cI cJ cT no_bits z_no_wishedInputs z_no_wishedMany no_hiddenUnlike) 0 0) (F0 m 14 ls []) := by
  have hx := C.1.1
  have hb := C.1.2.1
  have hown := C.1.2.2.2.1
  have hts := C.1.2.2.2.2
  intro n
  induction n with
  | zero => intro x1 x2 x3 x4 x5 no_wishedInputs no_wishedMany h; cases h
  | succ n ih =>
    intro x1 x2 x3 x4 x5 no_wishedInputs no_wishedMany h H locs ls B hl
    rw [bX4_findWishedIn_14] at h
    refine lv_iload hx hb dX4_findWishedIn_14 (lv_at hl 5 rfl) ?_
    refine lv_iload_n hx hb dX4_findWishedIn_16 rfl (lv_at hl 2 rfl) ?_
    refine lv_icmp_ge (tgt := 42) hx hb dX4_findWishedIn_17 (by decide) (fun c_1 => ?_) (fun c_1 => ?_)
    · rw [if_pos c_1] at h
      refine lv_iload hx hb dX4_findWishedIn_42 (lv_at hl 4 rfl) ?_
      refine lv_aload_n hx hb dX4_findWishedIn_44 rfl (lv_at hl 0 rfl) ?_
      refine gfX4_findWishedIn_19 C B 0 rfl rfl dX4_findWishedIn_45 ?_
      refine lv_icmp_le (tgt := 67) hx hb dX4_findWishedIn_48 (by decide) (fun c_2 => ?_) (fun c_2 => ?_)
      · rw [if_pos c_2] at h
        refine lv_iinc (v := (x3 + 1)) (lv' := [(3, .int (x3 + 1)), (0, .ref (a 35)), (1, .int x1), (2, .int x2), (4, .int x4), (5, .int x5)]) hx hb dX4_findWishedIn_67 hl (k := 3) rfl rfl (by decide) rfl (fun ls hl => ?_)
        refine lv_goto (tgt := 2) hx hb dX4_findWishedIn_70 (by decide) ?_
        exact hk2 x1 x2 (x3 + 1) no_wishedInputs no_wishedMany h H locs ls B (lv_sub hl [1, 2, 3, 0] rfl)
      · rw [if_neg c_2] at h
        refine lv_aload_n hx hb dX4_findWishedIn_51 rfl (lv_at hl 0 rfl) ?_
        refine lv_iload hx hb dX4_findWishedIn_52 (lv_at hl 4 rfl) ?_
        refine pfX4_findWishedIn_19 C B 0 rfl (by rfl) rfl (Nat.le_of_ble_eq_true rfl) dX4_findWishedIn_54 (fun H locs B => ?_)
        have B : DB D A (wd_no a b cI cJ cT no_bits no_wishedInputs x4 no_hiddenUnlike) s H locs := B
        refine lv_aload_n hx hb dX4_findWishedIn_57 rfl (lv_at hl 0 rfl) ?_
        refine lv_iload_n hx hb dX4_findWishedIn_58 rfl (lv_at hl 1 rfl) ?_
        refine lv_bipush (v := 64) hx hb dX4_findWishedIn_59 (by decide) ?_
        refine lv_imul hx hb dX4_findWishedIn_61 ?_
        refine lv_iload_n hx hb dX4_findWishedIn_62 rfl (lv_at hl 3 rfl) ?_
        refine lv_iadd hx hb dX4_findWishedIn_63 ?_
        refine pfX4_findWishedIn_15 C B 0 rfl (by rfl) rfl (Nat.le_of_ble_eq_true rfl) dX4_findWishedIn_64 (fun H locs B => ?_)
        have B : DB D A (wd_no a b cI cJ cT no_bits ((x1 * (64 : Int32)) + x3) x4 no_hiddenUnlike) s H locs := B
        refine lv_iinc (v := (x3 + 1)) (lv' := [(3, .int (x3 + 1)), (0, .ref (a 35)), (1, .int x1), (2, .int x2), (4, .int x4), (5, .int x5)]) hx hb dX4_findWishedIn_67 hl (k := 3) rfl rfl (by decide) rfl (fun ls hl => ?_)
        refine lv_goto (tgt := 2) hx hb dX4_findWishedIn_70 (by decide) ?_
        exact hk2 x1 x2 (x3 + 1) ((x1 * (64 : Int32)) + x3) x4 h H locs ls B (lv_sub hl [1, 2, 3, 0] rfl)
    · rw [if_neg c_1] at h
      refine lv_iload hx hb dX4_findWishedIn_20 (lv_at hl 4 rfl) ?_
      refine lv_aload_n hx hb dX4_findWishedIn_22 rfl (lv_at hl 0 rfl) ?_
      refine gfX4_findWishedIn_22 C B 0 rfl rfl dX4_findWishedIn_23 ?_
      refine lv_iload hx hb dX4_findWishedIn_26 (lv_at hl 5 rfl) ?_
      obtain ⟨b_3, h⟩ := bnd_some h
      refine k_lald C B 2 1 rfl rfl b_3 dX4_findWishedIn_28 ?_
      refine lv_iload_n hx hb dX4_findWishedIn_29 rfl (lv_at hl 3 rfl) ?_
      obtain ⟨r_4, g_5, h⟩ := ob_some h
      try dsimp only at h
      refine kc_SI C B (As := [.long (no_hiddenUnlike (Int32.toNatClampNeg x5)), .int x3]) (rest := [.int x4]) (w2 := (wd_no a b cI cJ cT no_bits no_wishedInputs no_wishedMany no_hiddenUnlike)) (tX7_bitAt N g_5) gX4_findWishedIn_X7_bitAt rfl ⟨rfl, rfl⟩ hdX7_bitAt ⟨Nat.le_of_ble_eq_true rfl, Nat.le_of_ble_eq_true rfl⟩ [] [0, 1, 2] [0, 1, 2] rfl rfl rfl rfl rfl rfl rfl rfl hl.1 rfl (Nat.le_of_ble_eq_true rfl) ⟨Nat.zero_le _, Nat.zero_le _⟩ dX4_findWishedIn_30 (fun H locs B => ?_)
      refine lv_iadd hx hb dX4_findWishedIn_33 ?_
      refine lv_istore (lv' := [(4, .int (x4 + r_4)), (0, .ref (a 35)), (1, .int x1), (2, .int x2), (3, .int x3), (5, .int x5)]) hx hb dX4_findWishedIn_34 hl (by decide) rfl (fun ls hl => ?_)
      refine lv_iinc (v := (x5 + 1)) (lv' := [(5, .int (x5 + 1)), (4, .int (x4 + r_4)), (0, .ref (a 35)), (1, .int x1), (2, .int x2), (3, .int x3)]) hx hb dX4_findWishedIn_36 hl (k := 5) rfl rfl (by decide) rfl (fun ls hl => ?_)
      refine lv_goto (tgt := 14) hx hb dX4_findWishedIn_39 (by decide) ?_
      exact ih x1 x2 x3 (x4 + r_4) (x5 + 1) no_wishedInputs no_wishedMany h H locs ls B (lv_sub hl [2, 3, 4, 5, 1, 0] rfl)
set_option maxHeartbeats 4000000 in
set_option maxRecDepth 100000 in
theorem qX4_findWishedIn_2 (C : CT p s m args meth c RX4 cX4_findWishedIn 6 none wsX4_findWishedIn D A (tyl cI cJ cT) Es) {N : Nat} {no_bits : Nat → Int32} {no_hiddenUnlike : Nat → Int64} {z_no_wishedInputs : Int32} {z_no_wishedMany : Int32} : ∀ (n : Nat) (x1 : Int32) (x2 : Int32) (x3 : Int32) (no_wishedInputs : Int32) (no_wishedMany : Int32), bX4_findWishedIn_2 N no_hiddenUnlike n x1 x2 x3 no_wishedInputs no_wishedMany = some (z_no_wishedInputs, z_no_wishedMany) → ∀ (H : Heap) (locs : List Loc) (ls : Array Slot), DB D A (wd_no a b cI cJ cT no_bits no_wishedInputs no_wishedMany no_hiddenUnlike) s H locs → lv_has ls 6 [(0, .ref (a 35)), (1, .int x1), (2, .int x2), (3, .int x3)] → W p l e rmX4_findWishedIn s m args below meth c H locs 0 0 (ZV below args s D A (tyl cI cJ cT) (wd_no a b cI cJ cT no_bits z_no_wishedInputs z_no_wishedMany no_hiddenUnlike) 0 0) (F0 m 2 ls []) := by
  have hx := C.1.1
  have hb := C.1.2.1
  have hown := C.1.2.2.2.1
  have hts := C.1.2.2.2.2
  intro n
  induction n with
  | zero => intro x1 x2 x3 no_wishedInputs no_wishedMany h; cases h
  | succ n ih =>
    intro x1 x2 x3 no_wishedInputs no_wishedMany h H locs ls B hl
    rw [bX4_findWishedIn_2] at h
    refine lv_iload_n hx hb dX4_findWishedIn_2 rfl (lv_at hl 3 rfl) ?_
    refine lv_bipush (v := 64) hx hb dX4_findWishedIn_3 (by decide) ?_
    refine lv_icmp_ge (tgt := 73) hx hb dX4_findWishedIn_5 (by decide) (fun c_1 => ?_) (fun c_1 => ?_)
    · rw [if_pos c_1] at h
      cases h
      exact k_vret C B dX4_findWishedIn_73
    · rw [if_neg c_1] at h
      refine lv_iconst (v := 0) hx hb dX4_findWishedIn_8 (by decide) ?_
      refine lv_istore (lv' := [(4, .int (0 : Int32)), (0, .ref (a 35)), (1, .int x1), (2, .int x2), (3, .int x3)]) hx hb dX4_findWishedIn_9 hl (by decide) rfl (fun ls hl => ?_)
      refine lv_iconst (v := 0) hx hb dX4_findWishedIn_11 (by decide) ?_
      refine lv_istore (lv' := [(5, .int (0 : Int32)), (4, .int (0 : Int32)), (0, .ref (a 35)), (1, .int x1), (2, .int x2), (3, .int x3)]) hx hb dX4_findWishedIn_12 hl (by decide) rfl (fun ls hl => ?_)
      exact qX4_findWishedIn_14 C ih N x1 x2 x3 (0 : Int32) (0 : Int32) no_wishedInputs no_wishedMany h H locs ls B (lv_sub hl [2, 3, 4, 5, 1, 0] rfl)
set_option maxHeartbeats 4000000 in
set_option maxRecDepth 100000 in
theorem qX4_findWishedIn_0 (C : CT p s m args meth c RX4 cX4_findWishedIn 6 none wsX4_findWishedIn D A (tyl cI cJ cT) Es) {N : Nat} {no_bits : Nat → Int32} {no_hiddenUnlike : Nat → Int64} {z_no_wishedInputs : Int32} {z_no_wishedMany : Int32} : ∀ (x1 : Int32) (x2 : Int32) (no_wishedInputs : Int32) (no_wishedMany : Int32), fX4_findWishedIn N no_hiddenUnlike x1 x2 no_wishedInputs no_wishedMany = some (z_no_wishedInputs, z_no_wishedMany) → ∀ (H : Heap) (locs : List Loc) (ls : Array Slot), DB D A (wd_no a b cI cJ cT no_bits no_wishedInputs no_wishedMany no_hiddenUnlike) s H locs → lv_has ls 6 [(0, .ref (a 35)), (1, .int x1), (2, .int x2)] → W p l e rmX4_findWishedIn s m args below meth c H locs 0 0 (ZV below args s D A (tyl cI cJ cT) (wd_no a b cI cJ cT no_bits z_no_wishedInputs z_no_wishedMany no_hiddenUnlike) 0 0) (F0 m 0 ls []) := by
  have hx := C.1.1
  have hb := C.1.2.1
  have hown := C.1.2.2.2.1
  have hts := C.1.2.2.2.2
  intro x1 x2 no_wishedInputs no_wishedMany h H locs ls B hl
  rw [fX4_findWishedIn] at h
  refine lv_iconst (v := 0) hx hb dX4_findWishedIn_0 (by decide) ?_
  refine lv_istore_n (lv' := [(3, .int (0 : Int32)), (0, .ref (a 35)), (1, .int x1), (2, .int x2)]) hx hb dX4_findWishedIn_1 rfl hl (by decide) rfl (fun ls hl => ?_)
  exact qX4_findWishedIn_2 C N x1 x2 (0 : Int32) no_wishedInputs no_wishedMany h H locs ls B (lv_sub hl [1, 2, 3, 0] rfl)
end
theorem tX4_findWishedIn {l : Launch} {D : va_G} {Es : (Nat → Nat) × (Nat → Nat)} {a b : Nat → Nat} {cI cJ cT : ClassId} {no_bits : Nat → Int32} {no_wishedInputs : Int32} {no_wishedMany : Int32} {no_hiddenUnlike : Nat → Int64} {x1 : Int32} {x2 : Int32} {z_no_wishedInputs : Int32} {z_no_wishedMany : Int32} (N : Nat) (h : fX4_findWishedIn N no_hiddenUnlike x1 x2 no_wishedInputs no_wishedMany = some (z_no_wishedInputs, z_no_wishedMany)) : CtV l yX4_findWishedIn wsX4_findWishedIn rmX4_findWishedIn D (tyl cI cJ cT) Es [.ref (a 35), .int x1, .int x2] (wd_no a b cI cJ cT no_bits no_wishedInputs no_wishedMany no_hiddenUnlike) (wd_no a b cI cJ cT no_bits z_no_wishedInputs z_no_wishedMany no_hiddenUnlike) :=
  CtV.of (own := RX4) (cc := cX4_findWishedIn) (nL := 6) (ret := none) (by decide +kernel) rfl rfl (Nat.le_of_ble_eq_true rfl) rfl (fun p e s m below meth c A ls C B hl => qX4_findWishedIn_0 C (N := N) x1 x2 no_wishedInputs no_wishedMany h _ _ _ B hl)

abbrev rmX4_findWished : Room := { frames := 2, cells := 0, slots := 0, locals := 48 }
theorem hdX4_findWished : yX4_findWished.cls ≠ "java/lang/invoke/MethodHandle" ∧ yX4_findWished.cls ≠ "java/lang/invoke/VarHandle" ∧ (parseMethodDescriptor yX4_findWished.desc).map (fun d => d.parameters.length) = some 0 := by decide +kernel
theorem iX4_findWished_X4 : ∀ w ∈ wsX40, w ∈ wsX4_findWished := by decide +kernel
theorem pfX4_findWished_19 {p : Program} {l : Launch} {e : Env} {R : Room} {s : State} {m : MethodId} {args : Array Value} {below : List Frame} {meth : Method} {c : Code} {H : Heap} {locs : List Loc} {cells slots : Nat} {Q : State → Prop} {D : va_G} {A : Nat → Prop} {tys : List (ClassId × FieldType)} {Es : (Nat → Nat) × (Nat → Nat)} {ws : va_W} {pc : Nat} {ls : Array Slot} {rest : List Value} {a : Nat} (C : CT p s m args meth c RX4 cX4_findWished 2 none wsX4_findWished D A tys Es) (B : DB D A ws s H locs) (q0 : Nat) {fs : List Value} {v : Value} (hn : narrow .int v = v) (hfit : fits .int v = true) (he : ws[q0]? = some (a, .inr (4, fs))) (hl : 2 < fs.length) (hdg : decode cX4_findWished pc = .ok (.putfield 19, 3)) (kk : ∀ (H1 : Heap) (locs1 : List Loc), DB D A (ws.set q0 (a, .inr (4, fs.set 2 v))) s H1 locs1 → W p l e R s m args below meth c H1 locs1 cells slots Q (F0 m (pc + 3) ls rest)) : W p l e R s m args below meth c H locs cells slots Q (F0 m pc ls (v :: .ref a :: rest)) :=
  k_put (Cn := RX4) (T := TX4) (N := 7) (index := 19) C B iX4_findWished_X4 rfl tyX4 tyX4_ok nmX4 2 (by decide) (by decide +kernel) rfl q0 (by decide +kernel) hn hfit he hl hdg kk
theorem pfX4_findWished_15 {p : Program} {l : Launch} {e : Env} {R : Room} {s : State} {m : MethodId} {args : Array Value} {below : List Frame} {meth : Method} {c : Code} {H : Heap} {locs : List Loc} {cells slots : Nat} {Q : State → Prop} {D : va_G} {A : Nat → Prop} {tys : List (ClassId × FieldType)} {Es : (Nat → Nat) × (Nat → Nat)} {ws : va_W} {pc : Nat} {ls : Array Slot} {rest : List Value} {a : Nat} (C : CT p s m args meth c RX4 cX4_findWished 2 none wsX4_findWished D A tys Es) (B : DB D A ws s H locs) (q0 : Nat) {fs : List Value} {v : Value} (hn : narrow .int v = v) (hfit : fits .int v = true) (he : ws[q0]? = some (a, .inr (4, fs))) (hl : 1 < fs.length) (hdg : decode cX4_findWished pc = .ok (.putfield 15, 3)) (kk : ∀ (H1 : Heap) (locs1 : List Loc), DB D A (ws.set q0 (a, .inr (4, fs.set 1 v))) s H1 locs1 → W p l e R s m args below meth c H1 locs1 cells slots Q (F0 m (pc + 3) ls rest)) : W p l e R s m args below meth c H locs cells slots Q (F0 m pc ls (v :: .ref a :: rest)) :=
  k_put (Cn := RX4) (T := TX4) (N := 7) (index := 15) C B iX4_findWished_X4 rfl tyX4 tyX4_ok nmX4 1 (by decide) (by decide +kernel) rfl q0 (by decide +kernel) hn hfit he hl hdg kk
section
variable {p : Program} {l : Launch} {e : Env} {s : State} {m : MethodId} {args : Array Value} {below : List Frame} {meth : Method} {c : Code} {D : va_G} {A : Nat → Prop} {Es : (Nat → Nat) × (Nat → Nat)} {a b : Nat → Nat} {cI cJ cT : ClassId}
set_option maxHeartbeats 4000000 in
set_option maxRecDepth 100000 in
theorem qX4_findWished_13 (C : CT p s m args meth c RX4 cX4_findWished 2 none wsX4_findWished D A (tyl cI cJ cT) Es) {N : Nat} {rs_low : Nat → Int64} {rs_mid : Nat → Int64} {rs_high : Nat → Int64} {ch_nodes : Nat → Int32} {ch_signs : Nat → Int32} {ch_felt : Nat → Int32} {ch_count : Int32} {no_bits : Nat → Int32} {z_no_wishedInputs : Int32} {z_no_wishedMany : Int32} {z_no_hiddenUnlike : Nat → Int64} : ∀ (n : Nat) (x1 : Int32) (no_wishedInputs : Int32) (no_wishedMany : Int32) (no_hiddenUnlike : Nat → Int64), bX4_findWished_13 N rs_low rs_mid rs_high ch_felt ch_count no_bits n x1 no_wishedInputs no_wishedMany no_hiddenUnlike = some (z_no_wishedInputs, z_no_wishedMany, z_no_hiddenUnlike) → ∀ (H : Heap) (locs : List Loc) (ls : Array Slot), DB D A (wd_rs_ch_no a b cI cJ cT rs_low rs_mid rs_high ch_nodes ch_signs ch_felt ch_count no_bits no_wishedInputs no_wishedMany no_hiddenUnlike) s H locs → lv_has ls 2 [(0, .ref (a 35)), (1, .int x1)] → W p l e rmX4_findWished s m args below meth c H locs 0 0 (ZV below args s D A (tyl cI cJ cT) (wd_rs_ch_no a b cI cJ cT rs_low rs_mid rs_high ch_nodes ch_signs ch_felt ch_count no_bits z_no_wishedInputs z_no_wishedMany z_no_hiddenUnlike) 0 0) (F0 m 13 ls []) := by
  have hx := C.1.1
  have hb := C.1.2.1
  have hown := C.1.2.2.2.1
  have hts := C.1.2.2.2.2
  intro n
  induction n with
  | zero => intro x1 no_wishedInputs no_wishedMany no_hiddenUnlike h; cases h
  | succ n ih =>
    intro x1 no_wishedInputs no_wishedMany no_hiddenUnlike h H locs ls B hl
    rw [bX4_findWished_13] at h
    refine lv_iload_n hx hb dX4_findWished_13 rfl (lv_at hl 1 rfl) ?_
    refine lv_bipush (v := 8) hx hb dX4_findWished_14 (by decide) ?_
    refine lv_icmp_ge (tgt := 35) hx hb dX4_findWished_16 (by decide) (fun c_1 => ?_) (fun c_1 => ?_)
    · rw [if_pos c_1] at h
      cases h
      exact k_vret C B dX4_findWished_35
    · rw [if_neg c_1] at h
      refine lv_aload_n hx hb dX4_findWished_19 rfl (lv_at hl 0 rfl) ?_
      refine lv_iload_n hx hb dX4_findWished_20 rfl (lv_at hl 1 rfl) ?_
      refine lv_aload_n hx hb dX4_findWished_21 rfl (lv_at hl 0 rfl) ?_
      refine lv_iload_n hx hb dX4_findWished_22 rfl (lv_at hl 1 rfl) ?_
      obtain ⟨⟨r_2, no_hiddenUnlike_3⟩, g_7, h⟩ := ob_some h
      try dsimp only at h
      refine kc_VI C B (q0 := 8) (ci := 4) (As := [.int x1]) (rest := [.int x1, .ref (a 35)]) (w2 := (wd_rs_ch_no a b cI cJ cT rs_low rs_mid rs_high ch_nodes ch_signs ch_felt ch_count no_bits no_wishedInputs no_wishedMany no_hiddenUnlike_3)) (tX4_gatherHidden (a := a) (b := b) N g_7) gX4_findWished_X4_gatherHidden rfl ⟨rfl, rfl⟩ ⟨rfl, hdX4_gatherHidden⟩ ⟨Nat.le_of_ble_eq_true rfl, Nat.le_of_ble_eq_true rfl⟩ rfl rfl [0, 1, 2, 3, 4, 5, 6, 7, 8, 9, 10] [] [0, 1, 2, 3, 4, 5, 6, 7, 8, 9, 10] rfl rfl rfl rfl rfl rfl rfl rfl hl.1 rfl (Nat.le_of_ble_eq_true rfl) ⟨Nat.zero_le _, Nat.zero_le _⟩ dX4_findWished_23 (fun H locs B => ?_)
      obtain ⟨⟨no_wishedInputs_4, no_wishedMany_5⟩, g_6, h⟩ := ob_some h
      try dsimp only at h
      refine kc_VV C B (q0 := 0) (ci := 4) (As := [.int x1, .int r_2]) (rest := []) (w2 := (wd_rs_ch_no a b cI cJ cT rs_low rs_mid rs_high ch_nodes ch_signs ch_felt ch_count no_bits no_wishedInputs_4 no_wishedMany_5 no_hiddenUnlike_3)) (tX4_findWishedIn (a := a) (b := b) N g_6) gX4_findWished_X4_findWishedIn rfl ⟨rfl, rfl⟩ ⟨rfl, hdX4_findWishedIn⟩ ⟨Nat.le_of_ble_eq_true rfl, Nat.le_of_ble_eq_true rfl⟩ rfl rfl [8, 9, 10] [0, 1, 2, 3, 4, 5, 6, 7] [0, 1, 2, 3, 4, 5, 6, 7, 8, 9, 10] rfl rfl rfl rfl rfl rfl rfl rfl hl.1 rfl (Nat.le_of_ble_eq_true rfl) ⟨Nat.zero_le _, Nat.zero_le _⟩ dX4_findWished_26 (fun H locs B => ?_)
      refine lv_iinc (v := (x1 + 1)) (lv' := [(1, .int (x1 + 1)), (0, .ref (a 35))]) hx hb dX4_findWished_29 hl (k := 1) rfl rfl (by decide) rfl (fun ls hl => ?_)
      refine lv_goto (tgt := 13) hx hb dX4_findWished_32 (by decide) ?_
      exact ih (x1 + 1) no_wishedInputs_4 no_wishedMany_5 no_hiddenUnlike_3 h H locs ls B (lv_sub hl [1, 0] rfl)
set_option maxHeartbeats 4000000 in
set_option maxRecDepth 100000 in
theorem qX4_findWished_0 (C : CT p s m args meth c RX4 cX4_findWished 2 none wsX4_findWished D A (tyl cI cJ cT) Es) {N : Nat} {rs_low : Nat → Int64} {rs_mid : Nat → Int64} {rs_high : Nat → Int64} {ch_nodes : Nat → Int32} {ch_signs : Nat → Int32} {ch_felt : Nat → Int32} {ch_count : Int32} {no_bits : Nat → Int32} {z_no_wishedInputs : Int32} {z_no_wishedMany : Int32} {z_no_hiddenUnlike : Nat → Int64} : ∀ (no_wishedInputs : Int32) (no_wishedMany : Int32) (no_hiddenUnlike : Nat → Int64), fX4_findWished N rs_low rs_mid rs_high ch_felt ch_count no_bits no_wishedInputs no_wishedMany no_hiddenUnlike = some (z_no_wishedInputs, z_no_wishedMany, z_no_hiddenUnlike) → ∀ (H : Heap) (locs : List Loc) (ls : Array Slot), DB D A (wd_rs_ch_no a b cI cJ cT rs_low rs_mid rs_high ch_nodes ch_signs ch_felt ch_count no_bits no_wishedInputs no_wishedMany no_hiddenUnlike) s H locs → lv_has ls 2 [(0, .ref (a 35))] → W p l e rmX4_findWished s m args below meth c H locs 0 0 (ZV below args s D A (tyl cI cJ cT) (wd_rs_ch_no a b cI cJ cT rs_low rs_mid rs_high ch_nodes ch_signs ch_felt ch_count no_bits z_no_wishedInputs z_no_wishedMany z_no_hiddenUnlike) 0 0) (F0 m 0 ls []) := by
  have hx := C.1.1
  have hb := C.1.2.1
  have hown := C.1.2.2.2.1
  have hts := C.1.2.2.2.2
  intro no_wishedInputs no_wishedMany no_hiddenUnlike h H locs ls B hl
  rw [fX4_findWished] at h
  refine lv_aload_n hx hb dX4_findWished_0 rfl (lv_at hl 0 rfl) ?_
  refine lv_bipush (v := -6) hx hb dX4_findWished_1 (by decide) ?_
  refine pfX4_findWished_15 C B 8 rfl (by rfl) rfl (Nat.le_of_ble_eq_true rfl) dX4_findWished_3 (fun H locs B => ?_)
  have B : DB D A (wd_rs_ch_no a b cI cJ cT rs_low rs_mid rs_high ch_nodes ch_signs ch_felt ch_count no_bits (-6 : Int32) no_wishedMany no_hiddenUnlike) s H locs := B
  refine lv_aload_n hx hb dX4_findWished_6 rfl (lv_at hl 0 rfl) ?_
  refine lv_iconst (v := 0) hx hb dX4_findWished_7 (by decide) ?_
  refine pfX4_findWished_19 C B 8 rfl (by rfl) rfl (Nat.le_of_ble_eq_true rfl) dX4_findWished_8 (fun H locs B => ?_)
  have B : DB D A (wd_rs_ch_no a b cI cJ cT rs_low rs_mid rs_high ch_nodes ch_signs ch_felt ch_count no_bits (-6 : Int32) (0 : Int32) no_hiddenUnlike) s H locs := B
  refine lv_iconst (v := 0) hx hb dX4_findWished_11 (by decide) ?_
  refine lv_istore_n (lv' := [(1, .int (0 : Int32)), (0, .ref (a 35))]) hx hb dX4_findWished_12 rfl hl (by decide) rfl (fun ls hl => ?_)
  exact qX4_findWished_13 C N (0 : Int32) (-6 : Int32) (0 : Int32) no_hiddenUnlike h H locs ls B (lv_sub hl [1, 0] rfl)
end
theorem tX4_findWished {l : Launch} {D : va_G} {Es : (Nat → Nat) × (Nat → Nat)} {a b : Nat → Nat} {cI cJ cT : ClassId} {rs_low : Nat → Int64} {rs_mid : Nat → Int64} {rs_high : Nat → Int64} {ch_nodes : Nat → Int32} {ch_signs : Nat → Int32} {ch_felt : Nat → Int32} {ch_count : Int32} {no_bits : Nat → Int32} {no_wishedInputs : Int32} {no_wishedMany : Int32} {no_hiddenUnlike : Nat → Int64} {z_no_wishedInputs : Int32} {z_no_wishedMany : Int32} {z_no_hiddenUnlike : Nat → Int64} (N : Nat) (h : fX4_findWished N rs_low rs_mid rs_high ch_felt ch_count no_bits no_wishedInputs no_wishedMany no_hiddenUnlike = some (z_no_wishedInputs, z_no_wishedMany, z_no_hiddenUnlike)) : CtV l yX4_findWished wsX4_findWished rmX4_findWished D (tyl cI cJ cT) Es [.ref (a 35)] (wd_rs_ch_no a b cI cJ cT rs_low rs_mid rs_high ch_nodes ch_signs ch_felt ch_count no_bits no_wishedInputs no_wishedMany no_hiddenUnlike) (wd_rs_ch_no a b cI cJ cT rs_low rs_mid rs_high ch_nodes ch_signs ch_felt ch_count no_bits z_no_wishedInputs z_no_wishedMany z_no_hiddenUnlike) :=
  CtV.of (own := RX4) (cc := cX4_findWished) (nL := 2) (ret := none) (by decide +kernel) rfl rfl (Nat.le_of_ble_eq_true rfl) rfl (fun p e s m below meth c A ls C B hl => qX4_findWished_0 C (N := N) no_wishedInputs no_wishedMany no_hiddenUnlike h _ _ _ B hl)

abbrev rmX7_workOutText : Room := { frames := 5, cells := 0, slots := 0, locals := 132 }
theorem hdX7_workOutText : yX7_workOutText.cls ≠ "java/lang/invoke/MethodHandle" ∧ yX7_workOutText.cls ≠ "java/lang/invoke/VarHandle" ∧ (parseMethodDescriptor yX7_workOutText.desc).map (fun d => d.parameters.length) = some 2 := by decide +kernel
section
variable {p : Program} {l : Launch} {e : Env} {s : State} {m : MethodId} {args : Array Value} {below : List Frame} {meth : Method} {c : Code} {D : va_G} {A : Nat → Prop} {Es : (Nat → Nat) × (Nat → Nat)} {a b : Nat → Nat} {cI cJ cT : ClassId}
set_option maxHeartbeats 4000000 in
set_option maxRecDepth 100000 in
theorem qX7_workOutText_0 (C : CT p s m args meth c RX7 cX7_workOutText 3 none wsX7_workOutText D A (tyl cI cJ cT) Es) {N : Nat} {tx_signs : Nat → Int32} {tx_wanted : Nat → Int32} {tx_owners : Nat → Int32} {tx_places : Nat → Int32} {tx_spans : Nat → Int32} {tx_partNodes : Nat → Int32} {tx_count : Int32} {z_wk_low : Nat → Int64} {z_wk_mid : Nat → Int64} {z_wk_high : Nat → Int64} {z_wk_holds : Nat → Int64} {z_rs_low : Nat → Int64} {z_rs_mid : Nat → Int64} {z_rs_high : Nat → Int64} : ∀ (x1 : Int32) (wk_low : Nat → Int64) (wk_mid : Nat → Int64) (wk_high : Nat → Int64) (wk_holds : Nat → Int64) (rs_low : Nat → Int64) (rs_mid : Nat → Int64) (rs_high : Nat → Int64), fX7_workOutText N tx_signs tx_wanted tx_partNodes tx_count x1 wk_low wk_mid wk_high wk_holds rs_low rs_mid rs_high = some (z_wk_low, z_wk_mid, z_wk_high, z_wk_holds, z_rs_low, z_rs_mid, z_rs_high) → ∀ (H : Heap) (locs : List Loc) (ls : Array Slot), DB D A (wd_tx_wk_rs a b cI cJ cT tx_signs tx_wanted tx_owners tx_places tx_spans tx_partNodes tx_count wk_low wk_mid wk_high wk_holds rs_low rs_mid rs_high) s H locs → lv_has ls 3 [(0, .ref (a 24)), (1, .int x1), (2, .ref (b 0))] → W p l e rmX7_workOutText s m args below meth c H locs 0 0 (ZV below args s D A (tyl cI cJ cT) (wd_tx_wk_rs a b cI cJ cT tx_signs tx_wanted tx_owners tx_places tx_spans tx_partNodes tx_count z_wk_low z_wk_mid z_wk_high z_wk_holds z_rs_low z_rs_mid z_rs_high) 0 0) (F0 m 0 ls []) := by
  have hx := C.1.1
  have hb := C.1.2.1
  have hown := C.1.2.2.2.1
  have hts := C.1.2.2.2.2
  intro x1 wk_low wk_mid wk_high wk_holds rs_low rs_mid rs_high h H locs ls B hl
  rw [fX7_workOutText] at h
  refine lv_aload_n hx hb dX7_workOutText_0 rfl (lv_at hl 0 rfl) ?_
  refine lv_iload_n hx hb dX7_workOutText_1 rfl (lv_at hl 1 rfl) ?_
  refine lv_aload_n hx hb dX7_workOutText_2 rfl (lv_at hl 2 rfl) ?_
  refine lv_bipush (v := -6) hx hb dX7_workOutText_3 (by decide) ?_
  refine lv_iconst (v := 0) hx hb dX7_workOutText_5 (by decide) ?_
  obtain ⟨⟨wk_low_1, wk_mid_2, wk_high_3, wk_holds_4, rs_low_5, rs_mid_6, rs_high_7⟩, g_8, h⟩ := ob_some h
  try dsimp only at h
  refine kc_VV C B (q0 := 12) (ci := 7) (As := [.int x1, .ref (b 0), .int (-6 : Int32), .int (0 : Int32)]) (rest := []) (w2 := (wd_tx_wk_rs a b cI cJ cT tx_signs tx_wanted tx_owners tx_places tx_spans tx_partNodes tx_count wk_low_1 wk_mid_2 wk_high_3 wk_holds_4 rs_low_5 rs_mid_6 rs_high_7)) (tX7_workOutChanged (a := a) (b := b) N g_8) gX7_workOutText_X7_workOutChanged rfl ⟨rfl, rfl⟩ ⟨rfl, hdX7_workOutChanged⟩ ⟨Nat.le_of_ble_eq_true rfl, Nat.le_of_ble_eq_true rfl⟩ rfl rfl [0, 1, 2, 3, 4, 5, 6, 7, 8, 9, 10, 11, 12, 13, 14, 15] [] [0, 1, 2, 3, 4, 5, 6, 7, 8, 9, 10, 11, 12, 13, 14, 15] rfl rfl rfl rfl rfl rfl rfl rfl hl.1 rfl (Nat.le_of_ble_eq_true rfl) ⟨Nat.zero_le _, Nat.zero_le _⟩ dX7_workOutText_6 (fun H locs B => ?_)
  cases h
  exact k_vret C B dX7_workOutText_9
end
theorem tX7_workOutText {l : Launch} {D : va_G} {Es : (Nat → Nat) × (Nat → Nat)} {a b : Nat → Nat} {cI cJ cT : ClassId} {tx_signs : Nat → Int32} {tx_wanted : Nat → Int32} {tx_owners : Nat → Int32} {tx_places : Nat → Int32} {tx_spans : Nat → Int32} {tx_partNodes : Nat → Int32} {tx_count : Int32} {wk_low : Nat → Int64} {wk_mid : Nat → Int64} {wk_high : Nat → Int64} {wk_holds : Nat → Int64} {rs_low : Nat → Int64} {rs_mid : Nat → Int64} {rs_high : Nat → Int64} {x1 : Int32} {z_wk_low : Nat → Int64} {z_wk_mid : Nat → Int64} {z_wk_high : Nat → Int64} {z_wk_holds : Nat → Int64} {z_rs_low : Nat → Int64} {z_rs_mid : Nat → Int64} {z_rs_high : Nat → Int64} (N : Nat) (h : fX7_workOutText N tx_signs tx_wanted tx_partNodes tx_count x1 wk_low wk_mid wk_high wk_holds rs_low rs_mid rs_high = some (z_wk_low, z_wk_mid, z_wk_high, z_wk_holds, z_rs_low, z_rs_mid, z_rs_high)) : CtV l yX7_workOutText wsX7_workOutText rmX7_workOutText D (tyl cI cJ cT) Es [.ref (a 24), .int x1, .ref (b 0)] (wd_tx_wk_rs a b cI cJ cT tx_signs tx_wanted tx_owners tx_places tx_spans tx_partNodes tx_count wk_low wk_mid wk_high wk_holds rs_low rs_mid rs_high) (wd_tx_wk_rs a b cI cJ cT tx_signs tx_wanted tx_owners tx_places tx_spans tx_partNodes tx_count z_wk_low z_wk_mid z_wk_high z_wk_holds z_rs_low z_rs_mid z_rs_high) :=
  CtV.of (own := RX7) (cc := cX7_workOutText) (nL := 3) (ret := none) (by decide +kernel) rfl rfl (Nat.le_of_ble_eq_true rfl) rfl (fun p e s m below meth c A ls C B hl => qX7_workOutText_0 C (N := N) x1 wk_low wk_mid wk_high wk_holds rs_low rs_mid rs_high h _ _ _ B hl)

abbrev rmX8_append : Room := { frames := 0, cells := 0, slots := 0, locals := 0 }
theorem hdX8_append : yX8_append.cls ≠ "java/lang/invoke/MethodHandle" ∧ yX8_append.cls ≠ "java/lang/invoke/VarHandle" ∧ (parseMethodDescriptor yX8_append.desc).map (fun d => d.parameters.length) = some 2 := by decide +kernel
theorem iX8_append_X8 : ∀ w ∈ wsX80, w ∈ wsX8_append := by decide +kernel
theorem gfX8_append_18 {p : Program} {l : Launch} {e : Env} {R : Room} {s : State} {m : MethodId} {args : Array Value} {below : List Frame} {meth : Method} {c : Code} {H : Heap} {locs : List Loc} {cells slots : Nat} {Q : State → Prop} {D : va_G} {A : Nat → Prop} {tys : List (ClassId × FieldType)} {Es : (Nat → Nat) × (Nat → Nat)} {ws : va_W} {pc : Nat} {ls : Array Slot} {rest : List Value} {a : Nat} (C : CT p s m args meth c RX8 cX8_append 3 none wsX8_append D A tys Es) (B : DB D A ws s H locs) (q0 : Nat) {fs : List Value} {v : Value} (he : ws[q0]? = some (a, .inr (8, fs))) (hv : fs[2]? = some v) (hdg : decode cX8_append pc = .ok (.getfield 18, 3)) (kk : W p l e R s m args below meth c H locs cells slots Q (F0 m (pc + 3) ls (v :: rest))) : W p l e R s m args below meth c H locs cells slots Q (F0 m pc ls (.ref a :: rest)) :=
  k_get (Cn := RX8) (T := TX8) (N := 4) (index := 18) C B iX8_append_X8 rfl 2 (by decide) (by decide +kernel) q0 he hv hdg kk
theorem gfX8_append_9 {p : Program} {l : Launch} {e : Env} {R : Room} {s : State} {m : MethodId} {args : Array Value} {below : List Frame} {meth : Method} {c : Code} {H : Heap} {locs : List Loc} {cells slots : Nat} {Q : State → Prop} {D : va_G} {A : Nat → Prop} {tys : List (ClassId × FieldType)} {Es : (Nat → Nat) × (Nat → Nat)} {ws : va_W} {pc : Nat} {ls : Array Slot} {rest : List Value} {a : Nat} (C : CT p s m args meth c RX8 cX8_append 3 none wsX8_append D A tys Es) (B : DB D A ws s H locs) (q0 : Nat) {fs : List Value} {v : Value} (he : ws[q0]? = some (a, .inr (8, fs))) (hv : fs[0]? = some v) (hdg : decode cX8_append pc = .ok (.getfield 9, 3)) (kk : W p l e R s m args below meth c H locs cells slots Q (F0 m (pc + 3) ls (v :: rest))) : W p l e R s m args below meth c H locs cells slots Q (F0 m pc ls (.ref a :: rest)) :=
  k_get (Cn := RX8) (T := TX8) (N := 4) (index := 9) C B iX8_append_X8 rfl 0 (by decide) (by decide +kernel) q0 he hv hdg kk
theorem gfX8_append_15 {p : Program} {l : Launch} {e : Env} {R : Room} {s : State} {m : MethodId} {args : Array Value} {below : List Frame} {meth : Method} {c : Code} {H : Heap} {locs : List Loc} {cells slots : Nat} {Q : State → Prop} {D : va_G} {A : Nat → Prop} {tys : List (ClassId × FieldType)} {Es : (Nat → Nat) × (Nat → Nat)} {ws : va_W} {pc : Nat} {ls : Array Slot} {rest : List Value} {a : Nat} (C : CT p s m args meth c RX8 cX8_append 3 none wsX8_append D A tys Es) (B : DB D A ws s H locs) (q0 : Nat) {fs : List Value} {v : Value} (he : ws[q0]? = some (a, .inr (8, fs))) (hv : fs[1]? = some v) (hdg : decode cX8_append pc = .ok (.getfield 15, 3)) (kk : W p l e R s m args below meth c H locs cells slots Q (F0 m (pc + 3) ls (v :: rest))) : W p l e R s m args below meth c H locs cells slots Q (F0 m pc ls (.ref a :: rest)) :=
  k_get (Cn := RX8) (T := TX8) (N := 4) (index := 15) C B iX8_append_X8 rfl 1 (by decide) (by decide +kernel) q0 he hv hdg kk
theorem pfX8_append_18 {p : Program} {l : Launch} {e : Env} {R : Room} {s : State} {m : MethodId} {args : Array Value} {below : List Frame} {meth : Method} {c : Code} {H : Heap} {locs : List Loc} {cells slots : Nat} {Q : State → Prop} {D : va_G} {A : Nat → Prop} {tys : List (ClassId × FieldType)} {Es : (Nat → Nat) × (Nat → Nat)} {ws : va_W} {pc : Nat} {ls : Array Slot} {rest : List Value} {a : Nat} (C : CT p s m args meth c RX8 cX8_append 3 none wsX8_append D A tys Es) (B : DB D A ws s H locs) (q0 : Nat) {fs : List Value} {v : Value} (hn : narrow .int v = v) (hfit : fits .int v = true) (he : ws[q0]? = some (a, .inr (8, fs))) (hl : 2 < fs.length) (hdg : decode cX8_append pc = .ok (.putfield 18, 3)) (kk : ∀ (H1 : Heap) (locs1 : List Loc), DB D A (ws.set q0 (a, .inr (8, fs.set 2 v))) s H1 locs1 → W p l e R s m args below meth c H1 locs1 cells slots Q (F0 m (pc + 3) ls rest)) : W p l e R s m args below meth c H locs cells slots Q (F0 m pc ls (v :: .ref a :: rest)) :=
  k_put (Cn := RX8) (T := TX8) (N := 4) (index := 18) C B iX8_append_X8 rfl tyX8 tyX8_ok nmX8 2 (by decide) (by decide +kernel) rfl q0 (by decide +kernel) hn hfit he hl hdg kk
section
variable {p : Program} {l : Launch} {e : Env} {s : State} {m : MethodId} {args : Array Value} {below : List Frame} {meth : Method} {c : Code} {D : va_G} {A : Nat → Prop} {Es : (Nat → Nat) × (Nat → Nat)} {a b : Nat → Nat} {cI cJ cT : ClassId}
set_option maxHeartbeats 4000000 in
set_option maxRecDepth 100000 in
theorem qX8_append_0 (C : CT p s m args meth c RX8 cX8_append 3 none wsX8_append D A (tyl cI cJ cT) Es) {N : Nat} {z_te_inputs : Nat → Int32} {z_te_dues : Nat → Int32} {z_te_count : Int32} : ∀ (x1 : Int32) (x2 : Int32) (te_inputs : Nat → Int32) (te_dues : Nat → Int32) (te_count : Int32), fX8_append N x1 x2 te_inputs te_dues te_count = some (z_te_inputs, z_te_dues, z_te_count) → ∀ (H : Heap) (locs : List Loc) (ls : Array Slot), DB D A (wd_te a b cI cJ cT te_inputs te_dues te_count) s H locs → lv_has ls 3 [(0, .ref (a 32)), (1, .int x1), (2, .int x2)] → W p l e rmX8_append s m args below meth c H locs 0 0 (ZV below args s D A (tyl cI cJ cT) (wd_te a b cI cJ cT z_te_inputs z_te_dues z_te_count) 0 0) (F0 m 0 ls []) := by
  have hx := C.1.1
  have hb := C.1.2.1
  have hown := C.1.2.2.2.1
  have hts := C.1.2.2.2.2
  intro x1 x2 te_inputs te_dues te_count h H locs ls B hl
  rw [fX8_append] at h
  refine lv_aload_n hx hb dX8_append_0 rfl (lv_at hl 0 rfl) ?_
  refine gfX8_append_18 C B 0 rfl rfl dX8_append_1 ?_
  refine lv_bipush (v := 14) hx hb dX8_append_4 (by decide) ?_
  refine lv_icmp_ge (tgt := 39) hx hb dX8_append_6 (by decide) (fun c_1 => ?_) (fun c_1 => ?_)
  · rw [if_pos c_1] at h
    cases h
    exact k_vret C B dX8_append_39
  · rw [if_neg c_1] at h
    refine lv_aload_n hx hb dX8_append_9 rfl (lv_at hl 0 rfl) ?_
    refine gfX8_append_9 C B 0 rfl rfl dX8_append_10 ?_
    refine lv_aload_n hx hb dX8_append_13 rfl (lv_at hl 0 rfl) ?_
    refine gfX8_append_18 C B 0 rfl rfl dX8_append_14 ?_
    refine lv_iload_n hx hb dX8_append_17 rfl (lv_at hl 1 rfl) ?_
    obtain ⟨b_2, h⟩ := bnd_some h
    refine k_iast C B 1 0 rfl rfl b_2 dX8_append_18 (fun H locs B => ?_)
    have B : DB D A (wd_te a b cI cJ cT (upd te_inputs (Int32.toNatClampNeg te_count) x1) te_dues te_count) s H locs := B
    refine lv_aload_n hx hb dX8_append_19 rfl (lv_at hl 0 rfl) ?_
    refine gfX8_append_15 C B 0 rfl rfl dX8_append_20 ?_
    refine lv_aload_n hx hb dX8_append_23 rfl (lv_at hl 0 rfl) ?_
    refine gfX8_append_18 C B 0 rfl rfl dX8_append_24 ?_
    refine lv_iload_n hx hb dX8_append_27 rfl (lv_at hl 2 rfl) ?_
    refine k_iast C B 2 0 rfl rfl b_2 dX8_append_28 (fun H locs B => ?_)
    have B : DB D A (wd_te a b cI cJ cT (upd te_inputs (Int32.toNatClampNeg te_count) x1) (upd te_dues (Int32.toNatClampNeg te_count) x2) te_count) s H locs := B
    refine lv_aload_n hx hb dX8_append_29 rfl (lv_at hl 0 rfl) ?_
    refine lv_dup hx hb dX8_append_30 rfl ?_
    refine gfX8_append_18 C B 0 rfl rfl dX8_append_31 ?_
    refine lv_iconst (v := 1) hx hb dX8_append_34 (by decide) ?_
    refine lv_iadd hx hb dX8_append_35 ?_
    refine pfX8_append_18 C B 0 rfl (by rfl) rfl (Nat.le_of_ble_eq_true rfl) dX8_append_36 (fun H locs B => ?_)
    have B : DB D A (wd_te a b cI cJ cT (upd te_inputs (Int32.toNatClampNeg te_count) x1) (upd te_dues (Int32.toNatClampNeg te_count) x2) (te_count + (1 : Int32))) s H locs := B
    cases h
    exact k_vret C B dX8_append_39
end
theorem tX8_append {l : Launch} {D : va_G} {Es : (Nat → Nat) × (Nat → Nat)} {a b : Nat → Nat} {cI cJ cT : ClassId} {te_inputs : Nat → Int32} {te_dues : Nat → Int32} {te_count : Int32} {x1 : Int32} {x2 : Int32} {z_te_inputs : Nat → Int32} {z_te_dues : Nat → Int32} {z_te_count : Int32} (N : Nat) (h : fX8_append N x1 x2 te_inputs te_dues te_count = some (z_te_inputs, z_te_dues, z_te_count)) : CtV l yX8_append wsX8_append rmX8_append D (tyl cI cJ cT) Es [.ref (a 32), .int x1, .int x2] (wd_te a b cI cJ cT te_inputs te_dues te_count) (wd_te a b cI cJ cT z_te_inputs z_te_dues z_te_count) :=
  CtV.of (own := RX8) (cc := cX8_append) (nL := 3) (ret := none) (by decide +kernel) rfl rfl (Nat.le_of_ble_eq_true rfl) rfl (fun p e s m below meth c A ls C B hl => qX8_append_0 C (N := N) x1 x2 te_inputs te_dues te_count h _ _ _ B hl)

abbrev rmX8_remove : Room := { frames := 0, cells := 0, slots := 0, locals := 0 }
theorem hdX8_remove : yX8_remove.cls ≠ "java/lang/invoke/MethodHandle" ∧ yX8_remove.cls ≠ "java/lang/invoke/VarHandle" ∧ (parseMethodDescriptor yX8_remove.desc).map (fun d => d.parameters.length) = some 1 := by decide +kernel
theorem iX8_remove_X8 : ∀ w ∈ wsX80, w ∈ wsX8_remove := by decide +kernel
theorem gfX8_remove_18 {p : Program} {l : Launch} {e : Env} {R : Room} {s : State} {m : MethodId} {args : Array Value} {below : List Frame} {meth : Method} {c : Code} {H : Heap} {locs : List Loc} {cells slots : Nat} {Q : State → Prop} {D : va_G} {A : Nat → Prop} {tys : List (ClassId × FieldType)} {Es : (Nat → Nat) × (Nat → Nat)} {ws : va_W} {pc : Nat} {ls : Array Slot} {rest : List Value} {a : Nat} (C : CT p s m args meth c RX8 cX8_remove 3 none wsX8_remove D A tys Es) (B : DB D A ws s H locs) (q0 : Nat) {fs : List Value} {v : Value} (he : ws[q0]? = some (a, .inr (8, fs))) (hv : fs[2]? = some v) (hdg : decode cX8_remove pc = .ok (.getfield 18, 3)) (kk : W p l e R s m args below meth c H locs cells slots Q (F0 m (pc + 3) ls (v :: rest))) : W p l e R s m args below meth c H locs cells slots Q (F0 m pc ls (.ref a :: rest)) :=
  k_get (Cn := RX8) (T := TX8) (N := 4) (index := 18) C B iX8_remove_X8 rfl 2 (by decide) (by decide +kernel) q0 he hv hdg kk
theorem pfX8_remove_18 {p : Program} {l : Launch} {e : Env} {R : Room} {s : State} {m : MethodId} {args : Array Value} {below : List Frame} {meth : Method} {c : Code} {H : Heap} {locs : List Loc} {cells slots : Nat} {Q : State → Prop} {D : va_G} {A : Nat → Prop} {tys : List (ClassId × FieldType)} {Es : (Nat → Nat) × (Nat → Nat)} {ws : va_W} {pc : Nat} {ls : Array Slot} {rest : List Value} {a : Nat} (C : CT p s m args meth c RX8 cX8_remove 3 none wsX8_remove D A tys Es) (B : DB D A ws s H locs) (q0 : Nat) {fs : List Value} {v : Value} (hn : narrow .int v = v) (hfit : fits .int v = true) (he : ws[q0]? = some (a, .inr (8, fs))) (hl : 2 < fs.length) (hdg : decode cX8_remove pc = .ok (.putfield 18, 3)) (kk : ∀ (H1 : Heap) (locs1 : List Loc), DB D A (ws.set q0 (a, .inr (8, fs.set 2 v))) s H1 locs1 → W p l e R s m args below meth c H1 locs1 cells slots Q (F0 m (pc + 3) ls rest)) : W p l e R s m args below meth c H locs cells slots Q (F0 m pc ls (v :: .ref a :: rest)) :=
  k_put (Cn := RX8) (T := TX8) (N := 4) (index := 18) C B iX8_remove_X8 rfl tyX8 tyX8_ok nmX8 2 (by decide) (by decide +kernel) rfl q0 (by decide +kernel) hn hfit he hl hdg kk
theorem gfX8_remove_9 {p : Program} {l : Launch} {e : Env} {R : Room} {s : State} {m : MethodId} {args : Array Value} {below : List Frame} {meth : Method} {c : Code} {H : Heap} {locs : List Loc} {cells slots : Nat} {Q : State → Prop} {D : va_G} {A : Nat → Prop} {tys : List (ClassId × FieldType)} {Es : (Nat → Nat) × (Nat → Nat)} {ws : va_W} {pc : Nat} {ls : Array Slot} {rest : List Value} {a : Nat} (C : CT p s m args meth c RX8 cX8_remove 3 none wsX8_remove D A tys Es) (B : DB D A ws s H locs) (q0 : Nat) {fs : List Value} {v : Value} (he : ws[q0]? = some (a, .inr (8, fs))) (hv : fs[0]? = some v) (hdg : decode cX8_remove pc = .ok (.getfield 9, 3)) (kk : W p l e R s m args below meth c H locs cells slots Q (F0 m (pc + 3) ls (v :: rest))) : W p l e R s m args below meth c H locs cells slots Q (F0 m pc ls (.ref a :: rest)) :=
  k_get (Cn := RX8) (T := TX8) (N := 4) (index := 9) C B iX8_remove_X8 rfl 0 (by decide) (by decide +kernel) q0 he hv hdg kk
theorem gfX8_remove_15 {p : Program} {l : Launch} {e : Env} {R : Room} {s : State} {m : MethodId} {args : Array Value} {below : List Frame} {meth : Method} {c : Code} {H : Heap} {locs : List Loc} {cells slots : Nat} {Q : State → Prop} {D : va_G} {A : Nat → Prop} {tys : List (ClassId × FieldType)} {Es : (Nat → Nat) × (Nat → Nat)} {ws : va_W} {pc : Nat} {ls : Array Slot} {rest : List Value} {a : Nat} (C : CT p s m args meth c RX8 cX8_remove 3 none wsX8_remove D A tys Es) (B : DB D A ws s H locs) (q0 : Nat) {fs : List Value} {v : Value} (he : ws[q0]? = some (a, .inr (8, fs))) (hv : fs[1]? = some v) (hdg : decode cX8_remove pc = .ok (.getfield 15, 3)) (kk : W p l e R s m args below meth c H locs cells slots Q (F0 m (pc + 3) ls (v :: rest))) : W p l e R s m args below meth c H locs cells slots Q (F0 m pc ls (.ref a :: rest)) :=
  k_get (Cn := RX8) (T := TX8) (N := 4) (index := 15) C B iX8_remove_X8 rfl 1 (by decide) (by decide +kernel) q0 he hv hdg kk
section
variable {p : Program} {l : Launch} {e : Env} {s : State} {m : MethodId} {args : Array Value} {below : List Frame} {meth : Method} {c : Code} {D : va_G} {A : Nat → Prop} {Es : (Nat → Nat) × (Nat → Nat)} {a b : Nat → Nat} {cI cJ cT : ClassId}
set_option maxHeartbeats 4000000 in
set_option maxRecDepth 100000 in
theorem qX8_remove_2 (C : CT p s m args meth c RX8 cX8_remove 3 none wsX8_remove D A (tyl cI cJ cT) Es) {N : Nat} {z_te_inputs : Nat → Int32} {z_te_dues : Nat → Int32} {z_te_count : Int32} : ∀ (n : Nat) (x2 : Int32) (te_inputs : Nat → Int32) (te_dues : Nat → Int32) (te_count : Int32), bX8_remove_2 N n x2 te_inputs te_dues te_count = some (z_te_inputs, z_te_dues, z_te_count) → ∀ (H : Heap) (locs : List Loc) (ls : Array Slot), DB D A (wd_te a b cI cJ cT te_inputs te_dues te_count) s H locs → lv_has ls 3 [(0, .ref (a 32)), (2, .int x2)] → W p l e rmX8_remove s m args below meth c H locs 0 0 (ZV below args s D A (tyl cI cJ cT) (wd_te a b cI cJ cT z_te_inputs z_te_dues z_te_count) 0 0) (F0 m 2 ls []) := by
  have hx := C.1.1
  have hb := C.1.2.1
  have hown := C.1.2.2.2.1
  have hts := C.1.2.2.2.2
  intro n
  induction n with
  | zero => intro x2 te_inputs te_dues te_count h; cases h
  | succ n ih =>
    intro x2 te_inputs te_dues te_count h H locs ls B hl
    rw [bX8_remove_2] at h
    refine lv_iload_n hx hb dX8_remove_2 rfl (lv_at hl 1 rfl) ?_
    refine lv_iconst (v := 1) hx hb dX8_remove_3 (by decide) ?_
    refine lv_iadd hx hb dX8_remove_4 ?_
    refine lv_aload_n hx hb dX8_remove_5 rfl (lv_at hl 0 rfl) ?_
    refine gfX8_remove_18 C B 0 rfl rfl dX8_remove_6 ?_
    refine lv_icmp_ge (tgt := 46) hx hb dX8_remove_9 (by decide) (fun c_1 => ?_) (fun c_1 => ?_)
    · rw [if_pos c_1] at h
      refine lv_aload_n hx hb dX8_remove_46 rfl (lv_at hl 0 rfl) ?_
      refine lv_dup hx hb dX8_remove_47 rfl ?_
      refine gfX8_remove_18 C B 0 rfl rfl dX8_remove_48 ?_
      refine lv_iconst (v := 1) hx hb dX8_remove_51 (by decide) ?_
      refine lv_isub hx hb dX8_remove_52 ?_
      refine pfX8_remove_18 C B 0 rfl (by rfl) rfl (Nat.le_of_ble_eq_true rfl) dX8_remove_53 (fun H locs B => ?_)
      have B : DB D A (wd_te a b cI cJ cT te_inputs te_dues (te_count - (1 : Int32))) s H locs := B
      cases h
      exact k_vret C B dX8_remove_56
    · rw [if_neg c_1] at h
      refine lv_aload_n hx hb dX8_remove_12 rfl (lv_at hl 0 rfl) ?_
      refine gfX8_remove_9 C B 0 rfl rfl dX8_remove_13 ?_
      refine lv_iload_n hx hb dX8_remove_16 rfl (lv_at hl 1 rfl) ?_
      refine lv_aload_n hx hb dX8_remove_17 rfl (lv_at hl 0 rfl) ?_
      refine gfX8_remove_9 C B 0 rfl rfl dX8_remove_18 ?_
      refine lv_iload_n hx hb dX8_remove_21 rfl (lv_at hl 1 rfl) ?_
      refine lv_iconst (v := 1) hx hb dX8_remove_22 (by decide) ?_
      refine lv_iadd hx hb dX8_remove_23 ?_
      obtain ⟨b_2, h⟩ := bnd_some h
      refine k_iald C B 1 0 rfl rfl b_2 dX8_remove_24 ?_
      obtain ⟨b_3, h⟩ := bnd_some h
      refine k_iast C B 1 0 rfl rfl b_3 dX8_remove_25 (fun H locs B => ?_)
      have B : DB D A (wd_te a b cI cJ cT (upd te_inputs (Int32.toNatClampNeg x2) (te_inputs (Int32.toNatClampNeg (x2 + (1 : Int32))))) te_dues te_count) s H locs := B
      refine lv_aload_n hx hb dX8_remove_26 rfl (lv_at hl 0 rfl) ?_
      refine gfX8_remove_15 C B 0 rfl rfl dX8_remove_27 ?_
      refine lv_iload_n hx hb dX8_remove_30 rfl (lv_at hl 1 rfl) ?_
      refine lv_aload_n hx hb dX8_remove_31 rfl (lv_at hl 0 rfl) ?_
      refine gfX8_remove_15 C B 0 rfl rfl dX8_remove_32 ?_
      refine lv_iload_n hx hb dX8_remove_35 rfl (lv_at hl 1 rfl) ?_
      refine lv_iconst (v := 1) hx hb dX8_remove_36 (by decide) ?_
      refine lv_iadd hx hb dX8_remove_37 ?_
      refine k_iald C B 2 0 rfl rfl b_2 dX8_remove_38 ?_
      refine k_iast C B 2 0 rfl rfl b_3 dX8_remove_39 (fun H locs B => ?_)
      have B : DB D A (wd_te a b cI cJ cT (upd te_inputs (Int32.toNatClampNeg x2) (te_inputs (Int32.toNatClampNeg (x2 + (1 : Int32))))) (upd te_dues (Int32.toNatClampNeg x2) (te_dues (Int32.toNatClampNeg (x2 + (1 : Int32))))) te_count) s H locs := B
      refine lv_iinc (v := (x2 + 1)) (lv' := [(2, .int (x2 + 1)), (0, .ref (a 32))]) hx hb dX8_remove_40 hl (k := 1) rfl rfl (by decide) rfl (fun ls hl => ?_)
      refine lv_goto (tgt := 2) hx hb dX8_remove_43 (by decide) ?_
      exact ih (x2 + 1) (upd te_inputs (Int32.toNatClampNeg x2) (te_inputs (Int32.toNatClampNeg (x2 + (1 : Int32))))) (upd te_dues (Int32.toNatClampNeg x2) (te_dues (Int32.toNatClampNeg (x2 + (1 : Int32))))) te_count h H locs ls B (lv_sub hl [1, 0] rfl)
set_option maxHeartbeats 4000000 in
set_option maxRecDepth 100000 in
theorem qX8_remove_0 (C : CT p s m args meth c RX8 cX8_remove 3 none wsX8_remove D A (tyl cI cJ cT) Es) {N : Nat} {z_te_inputs : Nat → Int32} {z_te_dues : Nat → Int32} {z_te_count : Int32} : ∀ (x1 : Int32) (te_inputs : Nat → Int32) (te_dues : Nat → Int32) (te_count : Int32), fX8_remove N x1 te_inputs te_dues te_count = some (z_te_inputs, z_te_dues, z_te_count) → ∀ (H : Heap) (locs : List Loc) (ls : Array Slot), DB D A (wd_te a b cI cJ cT te_inputs te_dues te_count) s H locs → lv_has ls 3 [(0, .ref (a 32)), (1, .int x1)] → W p l e rmX8_remove s m args below meth c H locs 0 0 (ZV below args s D A (tyl cI cJ cT) (wd_te a b cI cJ cT z_te_inputs z_te_dues z_te_count) 0 0) (F0 m 0 ls []) := by
  have hx := C.1.1
  have hb := C.1.2.1
  have hown := C.1.2.2.2.1
  have hts := C.1.2.2.2.2
  intro x1 te_inputs te_dues te_count h H locs ls B hl
  rw [fX8_remove] at h
  refine lv_iload_n hx hb dX8_remove_0 rfl (lv_at hl 1 rfl) ?_
  refine lv_istore_n (lv' := [(2, .int x1), (0, .ref (a 32)), (1, .int x1)]) hx hb dX8_remove_1 rfl hl (by decide) rfl (fun ls hl => ?_)
  exact qX8_remove_2 C N x1 te_inputs te_dues te_count h H locs ls B (lv_sub hl [1, 0] rfl)
end
theorem tX8_remove {l : Launch} {D : va_G} {Es : (Nat → Nat) × (Nat → Nat)} {a b : Nat → Nat} {cI cJ cT : ClassId} {te_inputs : Nat → Int32} {te_dues : Nat → Int32} {te_count : Int32} {x1 : Int32} {z_te_inputs : Nat → Int32} {z_te_dues : Nat → Int32} {z_te_count : Int32} (N : Nat) (h : fX8_remove N x1 te_inputs te_dues te_count = some (z_te_inputs, z_te_dues, z_te_count)) : CtV l yX8_remove wsX8_remove rmX8_remove D (tyl cI cJ cT) Es [.ref (a 32), .int x1] (wd_te a b cI cJ cT te_inputs te_dues te_count) (wd_te a b cI cJ cT z_te_inputs z_te_dues z_te_count) :=
  CtV.of (own := RX8) (cc := cX8_remove) (nL := 3) (ret := none) (by decide +kernel) rfl rfl (Nat.le_of_ble_eq_true rfl) rfl (fun p e s m below meth c A ls C B hl => qX8_remove_0 C (N := N) x1 te_inputs te_dues te_count h _ _ _ B hl)
