abbrev rmX10_put : Room := { frames := 0, cells := 0, slots := 0, locals := 0 }
theorem hdX10_put : yX10_put.cls ≠ "java/lang/invoke/MethodHandle" ∧ yX10_put.cls ≠ "java/lang/invoke/VarHandle" ∧ (parseMethodDescriptor yX10_put.desc).map (fun d => d.parameters.length) = some 4 := by decide +kernel
theorem iX10_put_X10 : ∀ w ∈ wsX100, w ∈ wsX10_put := by decide +kernel
theorem gfX10_put_9 {p : Program} {l : Launch} {e : Env} {R : Room} {s : State} {m : MethodId} {args : Array Value} {below : List Frame} {meth : Method} {c : Code} {H : Heap} {locs : List Loc} {cells slots : Nat} {Q : State → Prop} {D : va_G} {A : Nat → Prop} {tys : List (ClassId × FieldType)} {Es : (Nat → Nat) × (Nat → Nat)} {ws : va_W} {pc : Nat} {ls : Array Slot} {rest : List Value} {a : Nat} (C : CT p s m args meth c RX10 cX10_put 8 none wsX10_put D A tys Es) (B : DB D A ws s H locs) (q0 : Nat) {fs : List Value} {v : Value} (he : ws[q0]? = some (a, .inr (10, fs))) (hv : fs[0]? = some v) (hdg : decode cX10_put pc = .ok (.getfield 9, 3)) (kk : W p l e R s m args below meth c H locs cells slots Q (F0 m (pc + 3) ls (v :: rest))) : W p l e R s m args below meth c H locs cells slots Q (F0 m pc ls (.ref a :: rest)) :=
  k_get (Cn := RX10) (T := TX10) (N := 4) (index := 9) C B iX10_put_X10 rfl 0 (by decide) (by decide +kernel) q0 he hv hdg kk
theorem gfX10_put_15 {p : Program} {l : Launch} {e : Env} {R : Room} {s : State} {m : MethodId} {args : Array Value} {below : List Frame} {meth : Method} {c : Code} {H : Heap} {locs : List Loc} {cells slots : Nat} {Q : State → Prop} {D : va_G} {A : Nat → Prop} {tys : List (ClassId × FieldType)} {Es : (Nat → Nat) × (Nat → Nat)} {ws : va_W} {pc : Nat} {ls : Array Slot} {rest : List Value} {a : Nat} (C : CT p s m args meth c RX10 cX10_put 8 none wsX10_put D A tys Es) (B : DB D A ws s H locs) (q0 : Nat) {fs : List Value} {v : Value} (he : ws[q0]? = some (a, .inr (10, fs))) (hv : fs[1]? = some v) (hdg : decode cX10_put pc = .ok (.getfield 15, 3)) (kk : W p l e R s m args below meth c H locs cells slots Q (F0 m (pc + 3) ls (v :: rest))) : W p l e R s m args below meth c H locs cells slots Q (F0 m pc ls (.ref a :: rest)) :=
  k_get (Cn := RX10) (T := TX10) (N := 4) (index := 15) C B iX10_put_X10 rfl 1 (by decide) (by decide +kernel) q0 he hv hdg kk
theorem gfX10_put_18 {p : Program} {l : Launch} {e : Env} {R : Room} {s : State} {m : MethodId} {args : Array Value} {below : List Frame} {meth : Method} {c : Code} {H : Heap} {locs : List Loc} {cells slots : Nat} {Q : State → Prop} {D : va_G} {A : Nat → Prop} {tys : List (ClassId × FieldType)} {Es : (Nat → Nat) × (Nat → Nat)} {ws : va_W} {pc : Nat} {ls : Array Slot} {rest : List Value} {a : Nat} (C : CT p s m args meth c RX10 cX10_put 8 none wsX10_put D A tys Es) (B : DB D A ws s H locs) (q0 : Nat) {fs : List Value} {v : Value} (he : ws[q0]? = some (a, .inr (10, fs))) (hv : fs[2]? = some v) (hdg : decode cX10_put pc = .ok (.getfield 18, 3)) (kk : W p l e R s m args below meth c H locs cells slots Q (F0 m (pc + 3) ls (v :: rest))) : W p l e R s m args below meth c H locs cells slots Q (F0 m pc ls (.ref a :: rest)) :=
  k_get (Cn := RX10) (T := TX10) (N := 4) (index := 18) C B iX10_put_X10 rfl 2 (by decide) (by decide +kernel) q0 he hv hdg kk
section
variable {p : Program} {l : Launch} {e : Env} {s : State} {m : MethodId} {args : Array Value} {below : List Frame} {meth : Method} {c : Code} {D : va_G} {A : Nat → Prop} {Es : (Nat → Nat) × (Nat → Nat)} {a b : Nat → Nat} {cI cJ cT : ClassId}
set_option maxHeartbeats 4000000 in
set_option maxRecDepth 100000 in
theorem qX10_put_0 (C : CT p s m args meth c RX10 cX10_put 8 none wsX10_put D A (tyl cI cJ cT) Es) {N : Nat} {wk_holds : Nat → Int64} {z_wk_low : Nat → Int64} {z_wk_mid : Nat → Int64} {z_wk_high : Nat → Int64} : ∀ (x1 : Int32) (x2 : Int64) (x4 : Int64) (x6 : Int64) (wk_low : Nat → Int64) (wk_mid : Nat → Int64) (wk_high : Nat → Int64), fX10_put N x1 x2 x4 x6 wk_low wk_mid wk_high = some (z_wk_low, z_wk_mid, z_wk_high) → ∀ (H : Heap) (locs : List Loc) (ls : Array Slot), DB D A (wd_wk a b cI cJ cT wk_low wk_mid wk_high wk_holds) s H locs → lv_has ls 8 [(0, .ref (a 19)), (1, .int x1), (2, .long x2), (4, .long x4), (6, .long x6)] → W p l e rmX10_put s m args below meth c H locs 0 0 (ZV below args s D A (tyl cI cJ cT) (wd_wk a b cI cJ cT z_wk_low z_wk_mid z_wk_high wk_holds) 0 0) (F0 m 0 ls []) := by
  have hx := C.1.1
  have hb := C.1.2.1
  have hown := C.1.2.2.2.1
  have hts := C.1.2.2.2.2
  intro x1 x2 x4 x6 wk_low wk_mid wk_high h H locs ls B hl
  rw [fX10_put] at h
  refine lv_aload_n hx hb dX10_put_0 rfl (lv_at hl 0 rfl) ?_
  refine gfX10_put_9 C B 0 rfl rfl dX10_put_1 ?_
  refine lv_iload_n hx hb dX10_put_4 rfl (lv_at hl 1 rfl) ?_
  refine lv_lload_n hx hb dX10_put_5 rfl (lv_at hl 2 rfl) ?_
  obtain ⟨b_1, h⟩ := bnd_some h
  refine k_last C B 1 1 rfl rfl b_1 dX10_put_6 (fun H locs B => ?_)
  have B : DB D A (wd_wk a b cI cJ cT (vp_updL wk_low (Int32.toNatClampNeg x1) x2) wk_mid wk_high wk_holds) s H locs := B
  refine lv_aload_n hx hb dX10_put_7 rfl (lv_at hl 0 rfl) ?_
  refine gfX10_put_15 C B 0 rfl rfl dX10_put_8 ?_
  refine lv_iload_n hx hb dX10_put_11 rfl (lv_at hl 1 rfl) ?_
  refine lv_lload hx hb dX10_put_12 (lv_at hl 3 rfl) ?_
  refine k_last C B 2 1 rfl rfl b_1 dX10_put_14 (fun H locs B => ?_)
  have B : DB D A (wd_wk a b cI cJ cT (vp_updL wk_low (Int32.toNatClampNeg x1) x2) (vp_updL wk_mid (Int32.toNatClampNeg x1) x4) wk_high wk_holds) s H locs := B
  refine lv_aload_n hx hb dX10_put_15 rfl (lv_at hl 0 rfl) ?_
  refine gfX10_put_18 C B 0 rfl rfl dX10_put_16 ?_
  refine lv_iload_n hx hb dX10_put_19 rfl (lv_at hl 1 rfl) ?_
  refine lv_lload hx hb dX10_put_20 (lv_at hl 4 rfl) ?_
  refine k_last C B 3 1 rfl rfl b_1 dX10_put_22 (fun H locs B => ?_)
  have B : DB D A (wd_wk a b cI cJ cT (vp_updL wk_low (Int32.toNatClampNeg x1) x2) (vp_updL wk_mid (Int32.toNatClampNeg x1) x4) (vp_updL wk_high (Int32.toNatClampNeg x1) x6) wk_holds) s H locs := B
  cases h
  exact k_vret C B dX10_put_23
end
theorem tX10_put {l : Launch} {D : va_G} {Es : (Nat → Nat) × (Nat → Nat)} {a b : Nat → Nat} {cI cJ cT : ClassId} {wk_low : Nat → Int64} {wk_mid : Nat → Int64} {wk_high : Nat → Int64} {wk_holds : Nat → Int64} {x1 : Int32} {x2 : Int64} {x4 : Int64} {x6 : Int64} {z_wk_low : Nat → Int64} {z_wk_mid : Nat → Int64} {z_wk_high : Nat → Int64} (N : Nat) (h : fX10_put N x1 x2 x4 x6 wk_low wk_mid wk_high = some (z_wk_low, z_wk_mid, z_wk_high)) : CtV l yX10_put wsX10_put rmX10_put D (tyl cI cJ cT) Es [.ref (a 19), .int x1, .long x2, .long x4, .long x6] (wd_wk a b cI cJ cT wk_low wk_mid wk_high wk_holds) (wd_wk a b cI cJ cT z_wk_low z_wk_mid z_wk_high wk_holds) :=
  CtV.of (own := RX10) (cc := cX10_put) (nL := 8) (ret := none) (by decide +kernel) rfl rfl (Nat.le_of_ble_eq_true rfl) rfl (fun p e s m below meth c A ls C B hl => qX10_put_0 C (N := N) x1 x2 x4 x6 wk_low wk_mid wk_high h _ _ _ B hl)

abbrev rmX10_putNumber : Room := { frames := 1, cells := 0, slots := 0, locals := 27 }
theorem hdX10_putNumber : yX10_putNumber.cls ≠ "java/lang/invoke/MethodHandle" ∧ yX10_putNumber.cls ≠ "java/lang/invoke/VarHandle" ∧ (parseMethodDescriptor yX10_putNumber.desc).map (fun d => d.parameters.length) = some 2 := by decide +kernel
section
variable {p : Program} {l : Launch} {e : Env} {s : State} {m : MethodId} {args : Array Value} {below : List Frame} {meth : Method} {c : Code} {D : va_G} {A : Nat → Prop} {Es : (Nat → Nat) × (Nat → Nat)} {a b : Nat → Nat} {cI cJ cT : ClassId}
set_option maxHeartbeats 4000000 in
set_option maxRecDepth 100000 in
theorem qX10_putNumber_0 (C : CT p s m args meth c RX10 cX10_putNumber 3 none wsX10_putNumber D A (tyl cI cJ cT) Es) {N : Nat} {wk_holds : Nat → Int64} {z_wk_low : Nat → Int64} {z_wk_mid : Nat → Int64} {z_wk_high : Nat → Int64} : ∀ (x1 : Int32) (x2 : Int32) (wk_low : Nat → Int64) (wk_mid : Nat → Int64) (wk_high : Nat → Int64), fX10_putNumber N x1 x2 wk_low wk_mid wk_high = some (z_wk_low, z_wk_mid, z_wk_high) → ∀ (H : Heap) (locs : List Loc) (ls : Array Slot), DB D A (wd_wk a b cI cJ cT wk_low wk_mid wk_high wk_holds) s H locs → lv_has ls 3 [(0, .ref (a 19)), (1, .int x1), (2, .int x2)] → W p l e rmX10_putNumber s m args below meth c H locs 0 0 (ZV below args s D A (tyl cI cJ cT) (wd_wk a b cI cJ cT z_wk_low z_wk_mid z_wk_high wk_holds) 0 0) (F0 m 0 ls []) := by
  have hx := C.1.1
  have hb := C.1.2.1
  have hown := C.1.2.2.2.1
  have hts := C.1.2.2.2.2
  intro x1 x2 wk_low wk_mid wk_high h H locs ls B hl
  rw [fX10_putNumber] at h
  refine lv_aload_n hx hb dX10_putNumber_0 rfl (lv_at hl 0 rfl) ?_
  refine lv_iload_n hx hb dX10_putNumber_1 rfl (lv_at hl 1 rfl) ?_
  refine lv_iload_n hx hb dX10_putNumber_2 rfl (lv_at hl 2 rfl) ?_
  refine lv_i2l (v := (Int32.toInt64 x2)) hx hb dX10_putNumber_3 rfl ?_
  refine lv_lconst (v := 1) hx hb dX10_putNumber_4 (by decide) ?_
  refine lv_land hx hb dX10_putNumber_5 ?_
  refine lv_lneg hx hb dX10_putNumber_6 ?_
  refine lv_iload_n hx hb dX10_putNumber_7 rfl (lv_at hl 2 rfl) ?_
  refine lv_iconst (v := 1) hx hb dX10_putNumber_8 (by decide) ?_
  refine lv_ishr hx hb dX10_putNumber_9 ?_
  refine lv_i2l (v := (Int32.toInt64 (x2 >>> ((1 : Int32) &&& 31)))) hx hb dX10_putNumber_10 rfl ?_
  refine lv_lconst (v := 1) hx hb dX10_putNumber_11 (by decide) ?_
  refine lv_land hx hb dX10_putNumber_12 ?_
  refine lv_lneg hx hb dX10_putNumber_13 ?_
  refine lv_iload_n hx hb dX10_putNumber_14 rfl (lv_at hl 2 rfl) ?_
  refine lv_iconst (v := 2) hx hb dX10_putNumber_15 (by decide) ?_
  refine lv_ishr hx hb dX10_putNumber_16 ?_
  refine lv_i2l (v := (Int32.toInt64 (x2 >>> ((2 : Int32) &&& 31)))) hx hb dX10_putNumber_17 rfl ?_
  refine lv_lconst (v := 1) hx hb dX10_putNumber_18 (by decide) ?_
  refine lv_land hx hb dX10_putNumber_19 ?_
  refine lv_lneg hx hb dX10_putNumber_20 ?_
  obtain ⟨⟨wk_low_1, wk_mid_2, wk_high_3⟩, g_4, h⟩ := ob_some h
  try dsimp only at h
  refine kc_VV C B (q0 := 0) (ci := 10) (As := [.int x1, .long (-((Int32.toInt64 x2) &&& (1 : Int64))), .long (-((Int32.toInt64 (x2 >>> ((1 : Int32) &&& 31))) &&& (1 : Int64))), .long (-((Int32.toInt64 (x2 >>> ((2 : Int32) &&& 31))) &&& (1 : Int64)))]) (rest := []) (w2 := (wd_wk a b cI cJ cT wk_low_1 wk_mid_2 wk_high_3 wk_holds)) (tX10_put (a := a) (b := b) N g_4) gX10_putNumber_X10_put rfl ⟨rfl, rfl⟩ ⟨rfl, hdX10_put⟩ ⟨Nat.le_of_ble_eq_true rfl, Nat.le_of_ble_eq_true rfl⟩ rfl rfl [0, 1, 2, 3, 4] [] [0, 1, 2, 3, 4] rfl rfl rfl rfl rfl rfl rfl rfl hl.1 rfl (Nat.le_of_ble_eq_true rfl) ⟨Nat.zero_le _, Nat.zero_le _⟩ dX10_putNumber_21 (fun H locs B => ?_)
  cases h
  exact k_vret C B dX10_putNumber_24
end
theorem tX10_putNumber {l : Launch} {D : va_G} {Es : (Nat → Nat) × (Nat → Nat)} {a b : Nat → Nat} {cI cJ cT : ClassId} {wk_low : Nat → Int64} {wk_mid : Nat → Int64} {wk_high : Nat → Int64} {wk_holds : Nat → Int64} {x1 : Int32} {x2 : Int32} {z_wk_low : Nat → Int64} {z_wk_mid : Nat → Int64} {z_wk_high : Nat → Int64} (N : Nat) (h : fX10_putNumber N x1 x2 wk_low wk_mid wk_high = some (z_wk_low, z_wk_mid, z_wk_high)) : CtV l yX10_putNumber wsX10_putNumber rmX10_putNumber D (tyl cI cJ cT) Es [.ref (a 19), .int x1, .int x2] (wd_wk a b cI cJ cT wk_low wk_mid wk_high wk_holds) (wd_wk a b cI cJ cT z_wk_low z_wk_mid z_wk_high wk_holds) :=
  CtV.of (own := RX10) (cc := cX10_putNumber) (nL := 3) (ret := none) (by decide +kernel) rfl rfl (Nat.le_of_ble_eq_true rfl) rfl (fun p e s m below meth c A ls C B hl => qX10_putNumber_0 C (N := N) x1 x2 wk_low wk_mid wk_high h _ _ _ B hl)

abbrev rmX10_putLeaf : Room := { frames := 2, cells := 0, slots := 0, locals := 49 }
theorem hdX10_putLeaf : yX10_putLeaf.cls ≠ "java/lang/invoke/MethodHandle" ∧ yX10_putLeaf.cls ≠ "java/lang/invoke/VarHandle" ∧ (parseMethodDescriptor yX10_putLeaf.desc).map (fun d => d.parameters.length) = some 3 := by decide +kernel
theorem mX10_putLeaf_l57 : (Cond.constantLong RX10 57 (-71777214294589696)) ∈ wsX10_putLeaf := by decide +kernel
theorem mX10_putLeaf_l59 : (Cond.constantLong RX10 59 (-281470681808896)) ∈ wsX10_putLeaf := by decide +kernel
theorem mX10_putLeaf_l61 : (Cond.constantLong RX10 61 (-4294967296)) ∈ wsX10_putLeaf := by decide +kernel
theorem mX10_putLeaf_l67 : (Cond.constantLong RX10 67 (-6148914691236517206)) ∈ wsX10_putLeaf := by decide +kernel
theorem mX10_putLeaf_l69 : (Cond.constantLong RX10 69 (-3689348814741910324)) ∈ wsX10_putLeaf := by decide +kernel
theorem mX10_putLeaf_l71 : (Cond.constantLong RX10 71 (-1085102592571150096)) ∈ wsX10_putLeaf := by decide +kernel
section
variable {p : Program} {l : Launch} {e : Env} {s : State} {m : MethodId} {args : Array Value} {below : List Frame} {meth : Method} {c : Code} {D : va_G} {A : Nat → Prop} {Es : (Nat → Nat) × (Nat → Nat)} {a b : Nat → Nat} {cI cJ cT : ClassId}
set_option maxHeartbeats 4000000 in
set_option maxRecDepth 100000 in
theorem qX10_putLeaf_0 (C : CT p s m args meth c RX10 cX10_putLeaf 4 none wsX10_putLeaf D A (tyl cI cJ cT) Es) {N : Nat} {wk_holds : Nat → Int64} {z_wk_low : Nat → Int64} {z_wk_mid : Nat → Int64} {z_wk_high : Nat → Int64} : ∀ (x1 : Int32) (x2 : Int32) (x3 : Int32) (wk_low : Nat → Int64) (wk_mid : Nat → Int64) (wk_high : Nat → Int64), fX10_putLeaf N x1 x2 x3 wk_low wk_mid wk_high = some (z_wk_low, z_wk_mid, z_wk_high) → ∀ (H : Heap) (locs : List Loc) (ls : Array Slot), DB D A (wd_wk a b cI cJ cT wk_low wk_mid wk_high wk_holds) s H locs → lv_has ls 4 [(0, .ref (a 19)), (1, .int x1), (2, .int x2), (3, .int x3)] → W p l e rmX10_putLeaf s m args below meth c H locs 0 0 (ZV below args s D A (tyl cI cJ cT) (wd_wk a b cI cJ cT z_wk_low z_wk_mid z_wk_high wk_holds) 0 0) (F0 m 0 ls []) := by
  have hx := C.1.1
  have hb := C.1.2.1
  have hown := C.1.2.2.2.1
  have hts := C.1.2.2.2.2
  intro x1 x2 x3 wk_low wk_mid wk_high h H locs ls B hl
  rw [fX10_putLeaf] at h
  refine lv_iload_n hx hb dX10_putLeaf_0 rfl (lv_at hl 2 rfl) ?_
  by_cases c_1 : x2 = 97
  · rw [if_pos c_1] at h
    refine lv_tableIn (off := 27) (tgt := 28) hx hb dX10_putLeaf_1 (by rw [c_1]; decide) (by rw [c_1]; decide) (by rw [c_1]; try rfl) (by decide) ?_
    refine lv_aload_n hx hb dX10_putLeaf_28 rfl (lv_at hl 0 rfl) ?_
    refine lv_iload_n hx hb dX10_putLeaf_29 rfl (lv_at hl 1 rfl) ?_
    refine lv_iload_n hx hb dX10_putLeaf_30 rfl (lv_at hl 3 rfl) ?_
    obtain ⟨⟨wk_low_2, wk_mid_3, wk_high_4⟩, g_5, h⟩ := ob_some h
    try dsimp only at h
    refine kc_VV C B (q0 := 0) (ci := 10) (As := [.int x1, .int x3]) (rest := []) (w2 := (wd_wk a b cI cJ cT wk_low_2 wk_mid_3 wk_high_4 wk_holds)) (tX10_putNumber (a := a) (b := b) N g_5) gX10_putLeaf_X10_putNumber rfl ⟨rfl, rfl⟩ ⟨rfl, hdX10_putNumber⟩ ⟨Nat.le_of_ble_eq_true rfl, Nat.le_of_ble_eq_true rfl⟩ rfl rfl [0, 1, 2, 3, 4] [] [0, 1, 2, 3, 4] rfl rfl rfl rfl rfl rfl rfl rfl hl.1 rfl (Nat.le_of_ble_eq_true rfl) ⟨Nat.zero_le _, Nat.zero_le _⟩ dX10_putLeaf_31 (fun H locs B => ?_)
    refine lv_goto (tgt := 80) hx hb dX10_putLeaf_34 (by decide) ?_
    cases h
    exact k_vret C B dX10_putLeaf_80
  · rw [if_neg c_1] at h
    by_cases c_6 : x2 = 98
    · rw [if_pos c_6] at h
      refine lv_tableIn (off := 36) (tgt := 37) hx hb dX10_putLeaf_1 (by rw [c_6]; decide) (by rw [c_6]; decide) (by rw [c_6]; try rfl) (by decide) ?_
      refine lv_aload_n hx hb dX10_putLeaf_37 rfl (lv_at hl 0 rfl) ?_
      refine lv_iload_n hx hb dX10_putLeaf_38 rfl (lv_at hl 1 rfl) ?_
      refine lv_ldc2 (v := -71777214294589696) hx hb hown (hts _ mX10_putLeaf_l57) dX10_putLeaf_39 ?_
      refine lv_ldc2 (v := -281470681808896) hx hb hown (hts _ mX10_putLeaf_l59) dX10_putLeaf_42 ?_
      refine lv_ldc2 (v := -4294967296) hx hb hown (hts _ mX10_putLeaf_l61) dX10_putLeaf_45 ?_
      obtain ⟨⟨wk_low_7, wk_mid_8, wk_high_9⟩, g_10, h⟩ := ob_some h
      try dsimp only at h
      refine kc_VV C B (q0 := 0) (ci := 10) (As := [.int x1, .long (-71777214294589696 : Int64), .long (-281470681808896 : Int64), .long (-4294967296 : Int64)]) (rest := []) (w2 := (wd_wk a b cI cJ cT wk_low_7 wk_mid_8 wk_high_9 wk_holds)) (tX10_put (a := a) (b := b) N g_10) gX10_putLeaf_X10_put rfl ⟨rfl, rfl⟩ ⟨rfl, hdX10_put⟩ ⟨Nat.le_of_ble_eq_true rfl, Nat.le_of_ble_eq_true rfl⟩ rfl rfl [0, 1, 2, 3, 4] [] [0, 1, 2, 3, 4] rfl rfl rfl rfl rfl rfl rfl rfl hl.1 rfl (Nat.le_of_ble_eq_true rfl) ⟨Nat.zero_le _, Nat.zero_le _⟩ dX10_putLeaf_48 (fun H locs B => ?_)
      refine lv_goto (tgt := 80) hx hb dX10_putLeaf_51 (by decide) ?_
      cases h
      exact k_vret C B dX10_putLeaf_80
    · rw [if_neg c_6] at h
      by_cases c_11 : x2 = 99
      · rw [if_pos c_11] at h
        refine lv_tableIn (off := 53) (tgt := 54) hx hb dX10_putLeaf_1 (by rw [c_11]; decide) (by rw [c_11]; decide) (by rw [c_11]; try rfl) (by decide) ?_
        refine lv_aload_n hx hb dX10_putLeaf_54 rfl (lv_at hl 0 rfl) ?_
        refine lv_iload_n hx hb dX10_putLeaf_55 rfl (lv_at hl 1 rfl) ?_
        refine lv_ldc2 (v := -6148914691236517206) hx hb hown (hts _ mX10_putLeaf_l67) dX10_putLeaf_56 ?_
        refine lv_ldc2 (v := -3689348814741910324) hx hb hown (hts _ mX10_putLeaf_l69) dX10_putLeaf_59 ?_
        refine lv_ldc2 (v := -1085102592571150096) hx hb hown (hts _ mX10_putLeaf_l71) dX10_putLeaf_62 ?_
        obtain ⟨⟨wk_low_12, wk_mid_13, wk_high_14⟩, g_15, h⟩ := ob_some h
        try dsimp only at h
        refine kc_VV C B (q0 := 0) (ci := 10) (As := [.int x1, .long (-6148914691236517206 : Int64), .long (-3689348814741910324 : Int64), .long (-1085102592571150096 : Int64)]) (rest := []) (w2 := (wd_wk a b cI cJ cT wk_low_12 wk_mid_13 wk_high_14 wk_holds)) (tX10_put (a := a) (b := b) N g_15) gX10_putLeaf_X10_put rfl ⟨rfl, rfl⟩ ⟨rfl, hdX10_put⟩ ⟨Nat.le_of_ble_eq_true rfl, Nat.le_of_ble_eq_true rfl⟩ rfl rfl [0, 1, 2, 3, 4] [] [0, 1, 2, 3, 4] rfl rfl rfl rfl rfl rfl rfl rfl hl.1 rfl (Nat.le_of_ble_eq_true rfl) ⟨Nat.zero_le _, Nat.zero_le _⟩ dX10_putLeaf_65 (fun H locs B => ?_)
        refine lv_goto (tgt := 80) hx hb dX10_putLeaf_68 (by decide) ?_
        cases h
        exact k_vret C B dX10_putLeaf_80
      · rw [if_neg c_11] at h
        refine lv_tableOut (tgt := 71) hx hb dX10_putLeaf_1 (tb_out 97 99 (by have := tb_ne c_1 (a := 97) rfl; have := tb_ne c_6 (a := 98) rfl; have := tb_ne c_11 (a := 99) rfl; omega)) (by decide) ?_
        refine lv_aload_n hx hb dX10_putLeaf_71 rfl (lv_at hl 0 rfl) ?_
        refine lv_iload_n hx hb dX10_putLeaf_72 rfl (lv_at hl 1 rfl) ?_
        refine lv_iload_n hx hb dX10_putLeaf_73 rfl (lv_at hl 2 rfl) ?_
        refine lv_bipush (v := 48) hx hb dX10_putLeaf_74 (by decide) ?_
        refine lv_isub hx hb dX10_putLeaf_76 ?_
        obtain ⟨⟨wk_low_16, wk_mid_17, wk_high_18⟩, g_19, h⟩ := ob_some h
        try dsimp only at h
        refine kc_VV C B (q0 := 0) (ci := 10) (As := [.int x1, .int (x2 - (48 : Int32))]) (rest := []) (w2 := (wd_wk a b cI cJ cT wk_low_16 wk_mid_17 wk_high_18 wk_holds)) (tX10_putNumber (a := a) (b := b) N g_19) gX10_putLeaf_X10_putNumber rfl ⟨rfl, rfl⟩ ⟨rfl, hdX10_putNumber⟩ ⟨Nat.le_of_ble_eq_true rfl, Nat.le_of_ble_eq_true rfl⟩ rfl rfl [0, 1, 2, 3, 4] [] [0, 1, 2, 3, 4] rfl rfl rfl rfl rfl rfl rfl rfl hl.1 rfl (Nat.le_of_ble_eq_true rfl) ⟨Nat.zero_le _, Nat.zero_le _⟩ dX10_putLeaf_77 (fun H locs B => ?_)
        cases h
        exact k_vret C B dX10_putLeaf_80
end
theorem tX10_putLeaf {l : Launch} {D : va_G} {Es : (Nat → Nat) × (Nat → Nat)} {a b : Nat → Nat} {cI cJ cT : ClassId} {wk_low : Nat → Int64} {wk_mid : Nat → Int64} {wk_high : Nat → Int64} {wk_holds : Nat → Int64} {x1 : Int32} {x2 : Int32} {x3 : Int32} {z_wk_low : Nat → Int64} {z_wk_mid : Nat → Int64} {z_wk_high : Nat → Int64} (N : Nat) (h : fX10_putLeaf N x1 x2 x3 wk_low wk_mid wk_high = some (z_wk_low, z_wk_mid, z_wk_high)) : CtV l yX10_putLeaf wsX10_putLeaf rmX10_putLeaf D (tyl cI cJ cT) Es [.ref (a 19), .int x1, .int x2, .int x3] (wd_wk a b cI cJ cT wk_low wk_mid wk_high wk_holds) (wd_wk a b cI cJ cT z_wk_low z_wk_mid z_wk_high wk_holds) :=
  CtV.of (own := RX10) (cc := cX10_putLeaf) (nL := 4) (ret := none) (by decide +kernel) rfl rfl (Nat.le_of_ble_eq_true rfl) rfl (fun p e s m below meth c A ls C B hl => qX10_putLeaf_0 C (N := N) x1 x2 x3 wk_low wk_mid wk_high h _ _ _ B hl)

abbrev rmX10_putSum : Room := { frames := 1, cells := 0, slots := 0, locals := 27 }
theorem hdX10_putSum : yX10_putSum.cls ≠ "java/lang/invoke/MethodHandle" ∧ yX10_putSum.cls ≠ "java/lang/invoke/VarHandle" ∧ (parseMethodDescriptor yX10_putSum.desc).map (fun d => d.parameters.length) = some 3 := by decide +kernel
theorem iX10_putSum_X10 : ∀ w ∈ wsX100, w ∈ wsX10_putSum := by decide +kernel
theorem gfX10_putSum_9 {p : Program} {l : Launch} {e : Env} {R : Room} {s : State} {m : MethodId} {args : Array Value} {below : List Frame} {meth : Method} {c : Code} {H : Heap} {locs : List Loc} {cells slots : Nat} {Q : State → Prop} {D : va_G} {A : Nat → Prop} {tys : List (ClassId × FieldType)} {Es : (Nat → Nat) × (Nat → Nat)} {ws : va_W} {pc : Nat} {ls : Array Slot} {rest : List Value} {a : Nat} (C : CT p s m args meth c RX10 cX10_putSum 8 none wsX10_putSum D A tys Es) (B : DB D A ws s H locs) (q0 : Nat) {fs : List Value} {v : Value} (he : ws[q0]? = some (a, .inr (10, fs))) (hv : fs[0]? = some v) (hdg : decode cX10_putSum pc = .ok (.getfield 9, 3)) (kk : W p l e R s m args below meth c H locs cells slots Q (F0 m (pc + 3) ls (v :: rest))) : W p l e R s m args below meth c H locs cells slots Q (F0 m pc ls (.ref a :: rest)) :=
  k_get (Cn := RX10) (T := TX10) (N := 4) (index := 9) C B iX10_putSum_X10 rfl 0 (by decide) (by decide +kernel) q0 he hv hdg kk
theorem gfX10_putSum_15 {p : Program} {l : Launch} {e : Env} {R : Room} {s : State} {m : MethodId} {args : Array Value} {below : List Frame} {meth : Method} {c : Code} {H : Heap} {locs : List Loc} {cells slots : Nat} {Q : State → Prop} {D : va_G} {A : Nat → Prop} {tys : List (ClassId × FieldType)} {Es : (Nat → Nat) × (Nat → Nat)} {ws : va_W} {pc : Nat} {ls : Array Slot} {rest : List Value} {a : Nat} (C : CT p s m args meth c RX10 cX10_putSum 8 none wsX10_putSum D A tys Es) (B : DB D A ws s H locs) (q0 : Nat) {fs : List Value} {v : Value} (he : ws[q0]? = some (a, .inr (10, fs))) (hv : fs[1]? = some v) (hdg : decode cX10_putSum pc = .ok (.getfield 15, 3)) (kk : W p l e R s m args below meth c H locs cells slots Q (F0 m (pc + 3) ls (v :: rest))) : W p l e R s m args below meth c H locs cells slots Q (F0 m pc ls (.ref a :: rest)) :=
  k_get (Cn := RX10) (T := TX10) (N := 4) (index := 15) C B iX10_putSum_X10 rfl 1 (by decide) (by decide +kernel) q0 he hv hdg kk
theorem gfX10_putSum_18 {p : Program} {l : Launch} {e : Env} {R : Room} {s : State} {m : MethodId} {args : Array Value} {below : List Frame} {meth : Method} {c : Code} {H : Heap} {locs : List Loc} {cells slots : Nat} {Q : State → Prop} {D : va_G} {A : Nat → Prop} {tys : List (ClassId × FieldType)} {Es : (Nat → Nat) × (Nat → Nat)} {ws : va_W} {pc : Nat} {ls : Array Slot} {rest : List Value} {a : Nat} (C : CT p s m args meth c RX10 cX10_putSum 8 none wsX10_putSum D A tys Es) (B : DB D A ws s H locs) (q0 : Nat) {fs : List Value} {v : Value} (he : ws[q0]? = some (a, .inr (10, fs))) (hv : fs[2]? = some v) (hdg : decode cX10_putSum pc = .ok (.getfield 18, 3)) (kk : W p l e R s m args below meth c H locs cells slots Q (F0 m (pc + 3) ls (v :: rest))) : W p l e R s m args below meth c H locs cells slots Q (F0 m pc ls (.ref a :: rest)) :=
  k_get (Cn := RX10) (T := TX10) (N := 4) (index := 18) C B iX10_putSum_X10 rfl 2 (by decide) (by decide +kernel) q0 he hv hdg kk
section
variable {p : Program} {l : Launch} {e : Env} {s : State} {m : MethodId} {args : Array Value} {below : List Frame} {meth : Method} {c : Code} {D : va_G} {A : Nat → Prop} {Es : (Nat → Nat) × (Nat → Nat)} {a b : Nat → Nat} {cI cJ cT : ClassId}
set_option maxHeartbeats 4000000 in
set_option maxRecDepth 100000 in
theorem qX10_putSum_47 (C : CT p s m args meth c RX10 cX10_putSum 8 none wsX10_putSum D A (tyl cI cJ cT) Es) {N : Nat} {wk_holds : Nat → Int64} {z_wk_low : Nat → Int64} {z_wk_mid : Nat → Int64} {z_wk_high : Nat → Int64} : ∀ (x1 : Int32) (x2 : Int32) (x3 : Int32) (x4 : Int64) (x6 : Int64) (wk_low : Nat → Int64) (wk_mid : Nat → Int64) (wk_high : Nat → Int64), bX10_putSum_47 N x1 x2 x3 x4 x6 wk_low wk_mid wk_high = some (z_wk_low, z_wk_mid, z_wk_high) → ∀ (H : Heap) (locs : List Loc) (ls : Array Slot), DB D A (wd_wk a b cI cJ cT wk_low wk_mid wk_high wk_holds) s H locs → lv_has ls 8 [(0, .ref (a 19)), (1, .int x1), (2, .int x2), (3, .int x3), (4, .long x4), (6, .long x6)] → W p l e rmX10_putSum s m args below meth c H locs 0 0 (ZV below args s D A (tyl cI cJ cT) (wd_wk a b cI cJ cT z_wk_low z_wk_mid z_wk_high wk_holds) 0 0) (F0 m 47 ls []) := by
  have hx := C.1.1
  have hb := C.1.2.1
  have hown := C.1.2.2.2.1
  have hts := C.1.2.2.2.2
  intro x1 x2 x3 x4 x6 wk_low wk_mid wk_high h H locs ls B hl
  rw [bX10_putSum_47] at h
  refine lv_aload_n hx hb dX10_putSum_47 rfl (lv_at hl 0 rfl) ?_
  refine lv_iload_n hx hb dX10_putSum_48 rfl (lv_at hl 1 rfl) ?_
  refine lv_aload_n hx hb dX10_putSum_49 rfl (lv_at hl 0 rfl) ?_
  refine gfX10_putSum_9 C B 0 rfl rfl dX10_putSum_50 ?_
  refine lv_iload_n hx hb dX10_putSum_53 rfl (lv_at hl 2 rfl) ?_
  obtain ⟨b_1, h⟩ := bnd_some h
  refine k_lald C B 1 1 rfl rfl b_1 dX10_putSum_54 ?_
  refine lv_aload_n hx hb dX10_putSum_55 rfl (lv_at hl 0 rfl) ?_
  refine gfX10_putSum_9 C B 0 rfl rfl dX10_putSum_56 ?_
  refine lv_iload_n hx hb dX10_putSum_59 rfl (lv_at hl 3 rfl) ?_
  obtain ⟨b_2, h⟩ := bnd_some h
  refine k_lald C B 1 1 rfl rfl b_2 dX10_putSum_60 ?_
  refine lv_lxor hx hb dX10_putSum_61 ?_
  refine lv_aload_n hx hb dX10_putSum_62 rfl (lv_at hl 0 rfl) ?_
  refine gfX10_putSum_15 C B 0 rfl rfl dX10_putSum_63 ?_
  refine lv_iload_n hx hb dX10_putSum_66 rfl (lv_at hl 2 rfl) ?_
  refine k_lald C B 2 1 rfl rfl b_1 dX10_putSum_67 ?_
  refine lv_aload_n hx hb dX10_putSum_68 rfl (lv_at hl 0 rfl) ?_
  refine gfX10_putSum_15 C B 0 rfl rfl dX10_putSum_69 ?_
  refine lv_iload_n hx hb dX10_putSum_72 rfl (lv_at hl 3 rfl) ?_
  refine k_lald C B 2 1 rfl rfl b_2 dX10_putSum_73 ?_
  refine lv_lxor hx hb dX10_putSum_74 ?_
  refine lv_lload hx hb dX10_putSum_75 (lv_at hl 4 rfl) ?_
  refine lv_lxor hx hb dX10_putSum_77 ?_
  refine lv_aload_n hx hb dX10_putSum_78 rfl (lv_at hl 0 rfl) ?_
  refine gfX10_putSum_18 C B 0 rfl rfl dX10_putSum_79 ?_
  refine lv_iload_n hx hb dX10_putSum_82 rfl (lv_at hl 2 rfl) ?_
  refine k_lald C B 3 1 rfl rfl b_1 dX10_putSum_83 ?_
  refine lv_aload_n hx hb dX10_putSum_84 rfl (lv_at hl 0 rfl) ?_
  refine gfX10_putSum_18 C B 0 rfl rfl dX10_putSum_85 ?_
  refine lv_iload_n hx hb dX10_putSum_88 rfl (lv_at hl 3 rfl) ?_
  refine k_lald C B 3 1 rfl rfl b_2 dX10_putSum_89 ?_
  refine lv_lxor hx hb dX10_putSum_90 ?_
  refine lv_lload hx hb dX10_putSum_91 (lv_at hl 5 rfl) ?_
  refine lv_lxor hx hb dX10_putSum_93 ?_
  obtain ⟨⟨wk_low_3, wk_mid_4, wk_high_5⟩, g_6, h⟩ := ob_some h
  try dsimp only at h
  refine kc_VV C B (q0 := 0) (ci := 10) (As := [.int x1, .long ((wk_low (Int32.toNatClampNeg x2)) ^^^ (wk_low (Int32.toNatClampNeg x3))), .long (((wk_mid (Int32.toNatClampNeg x2)) ^^^ (wk_mid (Int32.toNatClampNeg x3))) ^^^ x4), .long (((wk_high (Int32.toNatClampNeg x2)) ^^^ (wk_high (Int32.toNatClampNeg x3))) ^^^ x6)]) (rest := []) (w2 := (wd_wk a b cI cJ cT wk_low_3 wk_mid_4 wk_high_5 wk_holds)) (tX10_put (a := a) (b := b) N g_6) gX10_putSum_X10_put rfl ⟨rfl, rfl⟩ ⟨rfl, hdX10_put⟩ ⟨Nat.le_of_ble_eq_true rfl, Nat.le_of_ble_eq_true rfl⟩ rfl rfl [0, 1, 2, 3, 4] [] [0, 1, 2, 3, 4] rfl rfl rfl rfl rfl rfl rfl rfl hl.1 rfl (Nat.le_of_ble_eq_true rfl) ⟨Nat.zero_le _, Nat.zero_le _⟩ dX10_putSum_94 (fun H locs B => ?_)
  cases h
  exact k_vret C B dX10_putSum_97
set_option maxHeartbeats 4000000 in
set_option maxRecDepth 100000 in
theorem qX10_putSum_15 (C : CT p s m args meth c RX10 cX10_putSum 8 none wsX10_putSum D A (tyl cI cJ cT) Es) {N : Nat} {wk_holds : Nat → Int64} {z_wk_low : Nat → Int64} {z_wk_mid : Nat → Int64} {z_wk_high : Nat → Int64} : ∀ (x1 : Int32) (x2 : Int32) (x3 : Int32) (x4 : Int64) (wk_low : Nat → Int64) (wk_mid : Nat → Int64) (wk_high : Nat → Int64), bX10_putSum_15 N x1 x2 x3 x4 wk_low wk_mid wk_high = some (z_wk_low, z_wk_mid, z_wk_high) → ∀ (H : Heap) (locs : List Loc) (ls : Array Slot), DB D A (wd_wk a b cI cJ cT wk_low wk_mid wk_high wk_holds) s H locs → lv_has ls 8 [(0, .ref (a 19)), (1, .int x1), (2, .int x2), (3, .int x3), (4, .long x4)] → W p l e rmX10_putSum s m args below meth c H locs 0 0 (ZV below args s D A (tyl cI cJ cT) (wd_wk a b cI cJ cT z_wk_low z_wk_mid z_wk_high wk_holds) 0 0) (F0 m 15 ls []) := by
  have hx := C.1.1
  have hb := C.1.2.1
  have hown := C.1.2.2.2.1
  have hts := C.1.2.2.2.2
  intro x1 x2 x3 x4 wk_low wk_mid wk_high h H locs ls B hl
  rw [bX10_putSum_15] at h
  refine lv_aload_n hx hb dX10_putSum_15 rfl (lv_at hl 0 rfl) ?_
  refine gfX10_putSum_15 C B 0 rfl rfl dX10_putSum_16 ?_
  refine lv_iload_n hx hb dX10_putSum_19 rfl (lv_at hl 2 rfl) ?_
  obtain ⟨b_1, h⟩ := bnd_some h
  refine k_lald C B 2 1 rfl rfl b_1 dX10_putSum_20 ?_
  refine lv_aload_n hx hb dX10_putSum_21 rfl (lv_at hl 0 rfl) ?_
  refine gfX10_putSum_15 C B 0 rfl rfl dX10_putSum_22 ?_
  refine lv_iload_n hx hb dX10_putSum_25 rfl (lv_at hl 3 rfl) ?_
  obtain ⟨b_2, h⟩ := bnd_some h
  refine k_lald C B 2 1 rfl rfl b_2 dX10_putSum_26 ?_
  refine lv_land hx hb dX10_putSum_27 ?_
  refine lv_aload_n hx hb dX10_putSum_28 rfl (lv_at hl 0 rfl) ?_
  refine gfX10_putSum_15 C B 0 rfl rfl dX10_putSum_29 ?_
  refine lv_iload_n hx hb dX10_putSum_32 rfl (lv_at hl 2 rfl) ?_
  refine k_lald C B 2 1 rfl rfl b_1 dX10_putSum_33 ?_
  refine lv_aload_n hx hb dX10_putSum_34 rfl (lv_at hl 0 rfl) ?_
  refine gfX10_putSum_15 C B 0 rfl rfl dX10_putSum_35 ?_
  refine lv_iload_n hx hb dX10_putSum_38 rfl (lv_at hl 3 rfl) ?_
  refine k_lald C B 2 1 rfl rfl b_2 dX10_putSum_39 ?_
  refine lv_lxor hx hb dX10_putSum_40 ?_
  refine lv_lload hx hb dX10_putSum_41 (lv_at hl 4 rfl) ?_
  refine lv_land hx hb dX10_putSum_43 ?_
  refine lv_lor hx hb dX10_putSum_44 ?_
  refine lv_lstore (lv' := [(6, .long (((wk_mid (Int32.toNatClampNeg x2)) &&& (wk_mid (Int32.toNatClampNeg x3))) ||| (((wk_mid (Int32.toNatClampNeg x2)) ^^^ (wk_mid (Int32.toNatClampNeg x3))) &&& x4))), (0, .ref (a 19)), (1, .int x1), (2, .int x2), (3, .int x3), (4, .long x4)]) hx hb dX10_putSum_45 hl (by decide) rfl (fun ls hl => ?_)
  exact qX10_putSum_47 C x1 x2 x3 x4 (((wk_mid (Int32.toNatClampNeg x2)) &&& (wk_mid (Int32.toNatClampNeg x3))) ||| (((wk_mid (Int32.toNatClampNeg x2)) ^^^ (wk_mid (Int32.toNatClampNeg x3))) &&& x4)) wk_low wk_mid wk_high h H locs ls B (lv_sub hl [1, 2, 3, 4, 5, 0] rfl)
set_option maxHeartbeats 4000000 in
set_option maxRecDepth 100000 in
theorem qX10_putSum_0 (C : CT p s m args meth c RX10 cX10_putSum 8 none wsX10_putSum D A (tyl cI cJ cT) Es) {N : Nat} {wk_holds : Nat → Int64} {z_wk_low : Nat → Int64} {z_wk_mid : Nat → Int64} {z_wk_high : Nat → Int64} : ∀ (x1 : Int32) (x2 : Int32) (x3 : Int32) (wk_low : Nat → Int64) (wk_mid : Nat → Int64) (wk_high : Nat → Int64), fX10_putSum N x1 x2 x3 wk_low wk_mid wk_high = some (z_wk_low, z_wk_mid, z_wk_high) → ∀ (H : Heap) (locs : List Loc) (ls : Array Slot), DB D A (wd_wk a b cI cJ cT wk_low wk_mid wk_high wk_holds) s H locs → lv_has ls 8 [(0, .ref (a 19)), (1, .int x1), (2, .int x2), (3, .int x3)] → W p l e rmX10_putSum s m args below meth c H locs 0 0 (ZV below args s D A (tyl cI cJ cT) (wd_wk a b cI cJ cT z_wk_low z_wk_mid z_wk_high wk_holds) 0 0) (F0 m 0 ls []) := by
  have hx := C.1.1
  have hb := C.1.2.1
  have hown := C.1.2.2.2.1
  have hts := C.1.2.2.2.2
  intro x1 x2 x3 wk_low wk_mid wk_high h H locs ls B hl
  rw [fX10_putSum] at h
  refine lv_aload_n hx hb dX10_putSum_0 rfl (lv_at hl 0 rfl) ?_
  refine gfX10_putSum_9 C B 0 rfl rfl dX10_putSum_1 ?_
  refine lv_iload_n hx hb dX10_putSum_4 rfl (lv_at hl 2 rfl) ?_
  obtain ⟨b_1, h⟩ := bnd_some h
  refine k_lald C B 1 1 rfl rfl b_1 dX10_putSum_5 ?_
  refine lv_aload_n hx hb dX10_putSum_6 rfl (lv_at hl 0 rfl) ?_
  refine gfX10_putSum_9 C B 0 rfl rfl dX10_putSum_7 ?_
  refine lv_iload_n hx hb dX10_putSum_10 rfl (lv_at hl 3 rfl) ?_
  obtain ⟨b_2, h⟩ := bnd_some h
  refine k_lald C B 1 1 rfl rfl b_2 dX10_putSum_11 ?_
  refine lv_land hx hb dX10_putSum_12 ?_
  refine lv_lstore (lv' := [(4, .long ((wk_low (Int32.toNatClampNeg x2)) &&& (wk_low (Int32.toNatClampNeg x3)))), (0, .ref (a 19)), (1, .int x1), (2, .int x2), (3, .int x3)]) hx hb dX10_putSum_13 hl (by decide) rfl (fun ls hl => ?_)
  exact qX10_putSum_15 C x1 x2 x3 ((wk_low (Int32.toNatClampNeg x2)) &&& (wk_low (Int32.toNatClampNeg x3))) wk_low wk_mid wk_high h H locs ls B (lv_sub hl [1, 2, 3, 4, 0] rfl)
end
theorem tX10_putSum {l : Launch} {D : va_G} {Es : (Nat → Nat) × (Nat → Nat)} {a b : Nat → Nat} {cI cJ cT : ClassId} {wk_low : Nat → Int64} {wk_mid : Nat → Int64} {wk_high : Nat → Int64} {wk_holds : Nat → Int64} {x1 : Int32} {x2 : Int32} {x3 : Int32} {z_wk_low : Nat → Int64} {z_wk_mid : Nat → Int64} {z_wk_high : Nat → Int64} (N : Nat) (h : fX10_putSum N x1 x2 x3 wk_low wk_mid wk_high = some (z_wk_low, z_wk_mid, z_wk_high)) : CtV l yX10_putSum wsX10_putSum rmX10_putSum D (tyl cI cJ cT) Es [.ref (a 19), .int x1, .int x2, .int x3] (wd_wk a b cI cJ cT wk_low wk_mid wk_high wk_holds) (wd_wk a b cI cJ cT z_wk_low z_wk_mid z_wk_high wk_holds) :=
  CtV.of (own := RX10) (cc := cX10_putSum) (nL := 8) (ret := none) (by decide +kernel) rfl rfl (Nat.le_of_ble_eq_true rfl) rfl (fun p e s m below meth c A ls C B hl => qX10_putSum_0 C (N := N) x1 x2 x3 wk_low wk_mid wk_high h _ _ _ B hl)

abbrev rmX10_putDifference : Room := { frames := 1, cells := 0, slots := 0, locals := 27 }
theorem hdX10_putDifference : yX10_putDifference.cls ≠ "java/lang/invoke/MethodHandle" ∧ yX10_putDifference.cls ≠ "java/lang/invoke/VarHandle" ∧ (parseMethodDescriptor yX10_putDifference.desc).map (fun d => d.parameters.length) = some 3 := by decide +kernel
theorem iX10_putDifference_X10 : ∀ w ∈ wsX100, w ∈ wsX10_putDifference := by decide +kernel
theorem gfX10_putDifference_9 {p : Program} {l : Launch} {e : Env} {R : Room} {s : State} {m : MethodId} {args : Array Value} {below : List Frame} {meth : Method} {c : Code} {H : Heap} {locs : List Loc} {cells slots : Nat} {Q : State → Prop} {D : va_G} {A : Nat → Prop} {tys : List (ClassId × FieldType)} {Es : (Nat → Nat) × (Nat → Nat)} {ws : va_W} {pc : Nat} {ls : Array Slot} {rest : List Value} {a : Nat} (C : CT p s m args meth c RX10 cX10_putDifference 8 none wsX10_putDifference D A tys Es) (B : DB D A ws s H locs) (q0 : Nat) {fs : List Value} {v : Value} (he : ws[q0]? = some (a, .inr (10, fs))) (hv : fs[0]? = some v) (hdg : decode cX10_putDifference pc = .ok (.getfield 9, 3)) (kk : W p l e R s m args below meth c H locs cells slots Q (F0 m (pc + 3) ls (v :: rest))) : W p l e R s m args below meth c H locs cells slots Q (F0 m pc ls (.ref a :: rest)) :=
  k_get (Cn := RX10) (T := TX10) (N := 4) (index := 9) C B iX10_putDifference_X10 rfl 0 (by decide) (by decide +kernel) q0 he hv hdg kk
theorem gfX10_putDifference_15 {p : Program} {l : Launch} {e : Env} {R : Room} {s : State} {m : MethodId} {args : Array Value} {below : List Frame} {meth : Method} {c : Code} {H : Heap} {locs : List Loc} {cells slots : Nat} {Q : State → Prop} {D : va_G} {A : Nat → Prop} {tys : List (ClassId × FieldType)} {Es : (Nat → Nat) × (Nat → Nat)} {ws : va_W} {pc : Nat} {ls : Array Slot} {rest : List Value} {a : Nat} (C : CT p s m args meth c RX10 cX10_putDifference 8 none wsX10_putDifference D A tys Es) (B : DB D A ws s H locs) (q0 : Nat) {fs : List Value} {v : Value} (he : ws[q0]? = some (a, .inr (10, fs))) (hv : fs[1]? = some v) (hdg : decode cX10_putDifference pc = .ok (.getfield 15, 3)) (kk : W p l e R s m args below meth c H locs cells slots Q (F0 m (pc + 3) ls (v :: rest))) : W p l e R s m args below meth c H locs cells slots Q (F0 m pc ls (.ref a :: rest)) :=
  k_get (Cn := RX10) (T := TX10) (N := 4) (index := 15) C B iX10_putDifference_X10 rfl 1 (by decide) (by decide +kernel) q0 he hv hdg kk
theorem gfX10_putDifference_18 {p : Program} {l : Launch} {e : Env} {R : Room} {s : State} {m : MethodId} {args : Array Value} {below : List Frame} {meth : Method} {c : Code} {H : Heap} {locs : List Loc} {cells slots : Nat} {Q : State → Prop} {D : va_G} {A : Nat → Prop} {tys : List (ClassId × FieldType)} {Es : (Nat → Nat) × (Nat → Nat)} {ws : va_W} {pc : Nat} {ls : Array Slot} {rest : List Value} {a : Nat} (C : CT p s m args meth c RX10 cX10_putDifference 8 none wsX10_putDifference D A tys Es) (B : DB D A ws s H locs) (q0 : Nat) {fs : List Value} {v : Value} (he : ws[q0]? = some (a, .inr (10, fs))) (hv : fs[2]? = some v) (hdg : decode cX10_putDifference pc = .ok (.getfield 18, 3)) (kk : W p l e R s m args below meth c H locs cells slots Q (F0 m (pc + 3) ls (v :: rest))) : W p l e R s m args below meth c H locs cells slots Q (F0 m pc ls (.ref a :: rest)) :=
  k_get (Cn := RX10) (T := TX10) (N := 4) (index := 18) C B iX10_putDifference_X10 rfl 2 (by decide) (by decide +kernel) q0 he hv hdg kk
theorem mX10_putDifference_l93 : (Cond.constantLong RX10 93 (-1)) ∈ wsX10_putDifference := by decide +kernel
section
variable {p : Program} {l : Launch} {e : Env} {s : State} {m : MethodId} {args : Array Value} {below : List Frame} {meth : Method} {c : Code} {D : va_G} {A : Nat → Prop} {Es : (Nat → Nat) × (Nat → Nat)} {a b : Nat → Nat} {cI cJ cT : ClassId}
set_option maxHeartbeats 4000000 in
set_option maxRecDepth 100000 in
theorem qX10_putDifference_59 (C : CT p s m args meth c RX10 cX10_putDifference 8 none wsX10_putDifference D A (tyl cI cJ cT) Es) {N : Nat} {wk_holds : Nat → Int64} {z_wk_low : Nat → Int64} {z_wk_mid : Nat → Int64} {z_wk_high : Nat → Int64} : ∀ (x1 : Int32) (x2 : Int32) (x3 : Int32) (x4 : Int64) (x6 : Int64) (wk_low : Nat → Int64) (wk_mid : Nat → Int64) (wk_high : Nat → Int64), bX10_putDifference_59 N x1 x2 x3 x4 x6 wk_low wk_mid wk_high = some (z_wk_low, z_wk_mid, z_wk_high) → ∀ (H : Heap) (locs : List Loc) (ls : Array Slot), DB D A (wd_wk a b cI cJ cT wk_low wk_mid wk_high wk_holds) s H locs → lv_has ls 8 [(0, .ref (a 19)), (1, .int x1), (2, .int x2), (3, .int x3), (4, .long x4), (6, .long x6)] → W p l e rmX10_putDifference s m args below meth c H locs 0 0 (ZV below args s D A (tyl cI cJ cT) (wd_wk a b cI cJ cT z_wk_low z_wk_mid z_wk_high wk_holds) 0 0) (F0 m 59 ls []) := by
  have hx := C.1.1
  have hb := C.1.2.1
  have hown := C.1.2.2.2.1
  have hts := C.1.2.2.2.2
  intro x1 x2 x3 x4 x6 wk_low wk_mid wk_high h H locs ls B hl
  rw [bX10_putDifference_59] at h
  refine lv_aload_n hx hb dX10_putDifference_59 rfl (lv_at hl 0 rfl) ?_
  refine lv_iload_n hx hb dX10_putDifference_60 rfl (lv_at hl 1 rfl) ?_
  refine lv_aload_n hx hb dX10_putDifference_61 rfl (lv_at hl 0 rfl) ?_
  refine gfX10_putDifference_9 C B 0 rfl rfl dX10_putDifference_62 ?_
  refine lv_iload_n hx hb dX10_putDifference_65 rfl (lv_at hl 2 rfl) ?_
  obtain ⟨b_1, h⟩ := bnd_some h
  refine k_lald C B 1 1 rfl rfl b_1 dX10_putDifference_66 ?_
  refine lv_aload_n hx hb dX10_putDifference_67 rfl (lv_at hl 0 rfl) ?_
  refine gfX10_putDifference_9 C B 0 rfl rfl dX10_putDifference_68 ?_
  refine lv_iload_n hx hb dX10_putDifference_71 rfl (lv_at hl 3 rfl) ?_
  obtain ⟨b_2, h⟩ := bnd_some h
  refine k_lald C B 1 1 rfl rfl b_2 dX10_putDifference_72 ?_
  refine lv_lxor hx hb dX10_putDifference_73 ?_
  refine lv_aload_n hx hb dX10_putDifference_74 rfl (lv_at hl 0 rfl) ?_
  refine gfX10_putDifference_15 C B 0 rfl rfl dX10_putDifference_75 ?_
  refine lv_iload_n hx hb dX10_putDifference_78 rfl (lv_at hl 2 rfl) ?_
  refine k_lald C B 2 1 rfl rfl b_1 dX10_putDifference_79 ?_
  refine lv_aload_n hx hb dX10_putDifference_80 rfl (lv_at hl 0 rfl) ?_
  refine gfX10_putDifference_15 C B 0 rfl rfl dX10_putDifference_81 ?_
  refine lv_iload_n hx hb dX10_putDifference_84 rfl (lv_at hl 3 rfl) ?_
  refine k_lald C B 2 1 rfl rfl b_2 dX10_putDifference_85 ?_
  refine lv_lxor hx hb dX10_putDifference_86 ?_
  refine lv_lload hx hb dX10_putDifference_87 (lv_at hl 4 rfl) ?_
  refine lv_lxor hx hb dX10_putDifference_89 ?_
  refine lv_aload_n hx hb dX10_putDifference_90 rfl (lv_at hl 0 rfl) ?_
  refine gfX10_putDifference_18 C B 0 rfl rfl dX10_putDifference_91 ?_
  refine lv_iload_n hx hb dX10_putDifference_94 rfl (lv_at hl 2 rfl) ?_
  refine k_lald C B 3 1 rfl rfl b_1 dX10_putDifference_95 ?_
  refine lv_aload_n hx hb dX10_putDifference_96 rfl (lv_at hl 0 rfl) ?_
  refine gfX10_putDifference_18 C B 0 rfl rfl dX10_putDifference_97 ?_
  refine lv_iload_n hx hb dX10_putDifference_100 rfl (lv_at hl 3 rfl) ?_
  refine k_lald C B 3 1 rfl rfl b_2 dX10_putDifference_101 ?_
  refine lv_lxor hx hb dX10_putDifference_102 ?_
  refine lv_lload hx hb dX10_putDifference_103 (lv_at hl 5 rfl) ?_
  refine lv_lxor hx hb dX10_putDifference_105 ?_
  obtain ⟨⟨wk_low_3, wk_mid_4, wk_high_5⟩, g_6, h⟩ := ob_some h
  try dsimp only at h
  refine kc_VV C B (q0 := 0) (ci := 10) (As := [.int x1, .long ((wk_low (Int32.toNatClampNeg x2)) ^^^ (wk_low (Int32.toNatClampNeg x3))), .long (((wk_mid (Int32.toNatClampNeg x2)) ^^^ (wk_mid (Int32.toNatClampNeg x3))) ^^^ x4), .long (((wk_high (Int32.toNatClampNeg x2)) ^^^ (wk_high (Int32.toNatClampNeg x3))) ^^^ x6)]) (rest := []) (w2 := (wd_wk a b cI cJ cT wk_low_3 wk_mid_4 wk_high_5 wk_holds)) (tX10_put (a := a) (b := b) N g_6) gX10_putDifference_X10_put rfl ⟨rfl, rfl⟩ ⟨rfl, hdX10_put⟩ ⟨Nat.le_of_ble_eq_true rfl, Nat.le_of_ble_eq_true rfl⟩ rfl rfl [0, 1, 2, 3, 4] [] [0, 1, 2, 3, 4] rfl rfl rfl rfl rfl rfl rfl rfl hl.1 rfl (Nat.le_of_ble_eq_true rfl) ⟨Nat.zero_le _, Nat.zero_le _⟩ dX10_putDifference_106 (fun H locs B => ?_)
  cases h
  exact k_vret C B dX10_putDifference_109
set_option maxHeartbeats 4000000 in
set_option maxRecDepth 100000 in
theorem qX10_putDifference_19 (C : CT p s m args meth c RX10 cX10_putDifference 8 none wsX10_putDifference D A (tyl cI cJ cT) Es) {N : Nat} {wk_holds : Nat → Int64} {z_wk_low : Nat → Int64} {z_wk_mid : Nat → Int64} {z_wk_high : Nat → Int64} : ∀ (x1 : Int32) (x2 : Int32) (x3 : Int32) (x4 : Int64) (wk_low : Nat → Int64) (wk_mid : Nat → Int64) (wk_high : Nat → Int64), bX10_putDifference_19 N x1 x2 x3 x4 wk_low wk_mid wk_high = some (z_wk_low, z_wk_mid, z_wk_high) → ∀ (H : Heap) (locs : List Loc) (ls : Array Slot), DB D A (wd_wk a b cI cJ cT wk_low wk_mid wk_high wk_holds) s H locs → lv_has ls 8 [(0, .ref (a 19)), (1, .int x1), (2, .int x2), (3, .int x3), (4, .long x4)] → W p l e rmX10_putDifference s m args below meth c H locs 0 0 (ZV below args s D A (tyl cI cJ cT) (wd_wk a b cI cJ cT z_wk_low z_wk_mid z_wk_high wk_holds) 0 0) (F0 m 19 ls []) := by
  have hx := C.1.1
  have hb := C.1.2.1
  have hown := C.1.2.2.2.1
  have hts := C.1.2.2.2.2
  intro x1 x2 x3 x4 wk_low wk_mid wk_high h H locs ls B hl
  rw [bX10_putDifference_19] at h
  refine lv_aload_n hx hb dX10_putDifference_19 rfl (lv_at hl 0 rfl) ?_
  refine gfX10_putDifference_15 C B 0 rfl rfl dX10_putDifference_20 ?_
  refine lv_iload_n hx hb dX10_putDifference_23 rfl (lv_at hl 2 rfl) ?_
  obtain ⟨b_1, h⟩ := bnd_some h
  refine k_lald C B 2 1 rfl rfl b_1 dX10_putDifference_24 ?_
  refine lv_ldc2 (v := -1) hx hb hown (hts _ mX10_putDifference_l93) dX10_putDifference_25 ?_
  refine lv_lxor hx hb dX10_putDifference_28 ?_
  refine lv_aload_n hx hb dX10_putDifference_29 rfl (lv_at hl 0 rfl) ?_
  refine gfX10_putDifference_15 C B 0 rfl rfl dX10_putDifference_30 ?_
  refine lv_iload_n hx hb dX10_putDifference_33 rfl (lv_at hl 3 rfl) ?_
  obtain ⟨b_2, h⟩ := bnd_some h
  refine k_lald C B 2 1 rfl rfl b_2 dX10_putDifference_34 ?_
  refine lv_land hx hb dX10_putDifference_35 ?_
  refine lv_aload_n hx hb dX10_putDifference_36 rfl (lv_at hl 0 rfl) ?_
  refine gfX10_putDifference_15 C B 0 rfl rfl dX10_putDifference_37 ?_
  refine lv_iload_n hx hb dX10_putDifference_40 rfl (lv_at hl 2 rfl) ?_
  refine k_lald C B 2 1 rfl rfl b_1 dX10_putDifference_41 ?_
  refine lv_aload_n hx hb dX10_putDifference_42 rfl (lv_at hl 0 rfl) ?_
  refine gfX10_putDifference_15 C B 0 rfl rfl dX10_putDifference_43 ?_
  refine lv_iload_n hx hb dX10_putDifference_46 rfl (lv_at hl 3 rfl) ?_
  refine k_lald C B 2 1 rfl rfl b_2 dX10_putDifference_47 ?_
  refine lv_lxor hx hb dX10_putDifference_48 ?_
  refine lv_ldc2 (v := -1) hx hb hown (hts _ mX10_putDifference_l93) dX10_putDifference_49 ?_
  refine lv_lxor hx hb dX10_putDifference_52 ?_
  refine lv_lload hx hb dX10_putDifference_53 (lv_at hl 4 rfl) ?_
  refine lv_land hx hb dX10_putDifference_55 ?_
  refine lv_lor hx hb dX10_putDifference_56 ?_
  refine lv_lstore (lv' := [(6, .long ((((wk_mid (Int32.toNatClampNeg x2)) ^^^ (-1 : Int64)) &&& (wk_mid (Int32.toNatClampNeg x3))) ||| ((((wk_mid (Int32.toNatClampNeg x2)) ^^^ (wk_mid (Int32.toNatClampNeg x3))) ^^^ (-1 : Int64)) &&& x4))), (0, .ref (a 19)), (1, .int x1), (2, .int x2), (3, .int x3), (4, .long x4)]) hx hb dX10_putDifference_57 hl (by decide) rfl (fun ls hl => ?_)
  exact qX10_putDifference_59 C x1 x2 x3 x4 ((((wk_mid (Int32.toNatClampNeg x2)) ^^^ (-1 : Int64)) &&& (wk_mid (Int32.toNatClampNeg x3))) ||| ((((wk_mid (Int32.toNatClampNeg x2)) ^^^ (wk_mid (Int32.toNatClampNeg x3))) ^^^ (-1 : Int64)) &&& x4)) wk_low wk_mid wk_high h H locs ls B (lv_sub hl [1, 2, 3, 4, 5, 0] rfl)
set_option maxHeartbeats 4000000 in
set_option maxRecDepth 100000 in
theorem qX10_putDifference_0 (C : CT p s m args meth c RX10 cX10_putDifference 8 none wsX10_putDifference D A (tyl cI cJ cT) Es) {N : Nat} {wk_holds : Nat → Int64} {z_wk_low : Nat → Int64} {z_wk_mid : Nat → Int64} {z_wk_high : Nat → Int64} : ∀ (x1 : Int32) (x2 : Int32) (x3 : Int32) (wk_low : Nat → Int64) (wk_mid : Nat → Int64) (wk_high : Nat → Int64), fX10_putDifference N x1 x2 x3 wk_low wk_mid wk_high = some (z_wk_low, z_wk_mid, z_wk_high) → ∀ (H : Heap) (locs : List Loc) (ls : Array Slot), DB D A (wd_wk a b cI cJ cT wk_low wk_mid wk_high wk_holds) s H locs → lv_has ls 8 [(0, .ref (a 19)), (1, .int x1), (2, .int x2), (3, .int x3)] → W p l e rmX10_putDifference s m args below meth c H locs 0 0 (ZV below args s D A (tyl cI cJ cT) (wd_wk a b cI cJ cT z_wk_low z_wk_mid z_wk_high wk_holds) 0 0) (F0 m 0 ls []) := by
  have hx := C.1.1
  have hb := C.1.2.1
  have hown := C.1.2.2.2.1
  have hts := C.1.2.2.2.2
  intro x1 x2 x3 wk_low wk_mid wk_high h H locs ls B hl
  rw [fX10_putDifference] at h
  refine lv_aload_n hx hb dX10_putDifference_0 rfl (lv_at hl 0 rfl) ?_
  refine gfX10_putDifference_9 C B 0 rfl rfl dX10_putDifference_1 ?_
  refine lv_iload_n hx hb dX10_putDifference_4 rfl (lv_at hl 2 rfl) ?_
  obtain ⟨b_1, h⟩ := bnd_some h
  refine k_lald C B 1 1 rfl rfl b_1 dX10_putDifference_5 ?_
  refine lv_ldc2 (v := -1) hx hb hown (hts _ mX10_putDifference_l93) dX10_putDifference_6 ?_
  refine lv_lxor hx hb dX10_putDifference_9 ?_
  refine lv_aload_n hx hb dX10_putDifference_10 rfl (lv_at hl 0 rfl) ?_
  refine gfX10_putDifference_9 C B 0 rfl rfl dX10_putDifference_11 ?_
  refine lv_iload_n hx hb dX10_putDifference_14 rfl (lv_at hl 3 rfl) ?_
  obtain ⟨b_2, h⟩ := bnd_some h
  refine k_lald C B 1 1 rfl rfl b_2 dX10_putDifference_15 ?_
  refine lv_land hx hb dX10_putDifference_16 ?_
  refine lv_lstore (lv' := [(4, .long (((wk_low (Int32.toNatClampNeg x2)) ^^^ (-1 : Int64)) &&& (wk_low (Int32.toNatClampNeg x3)))), (0, .ref (a 19)), (1, .int x1), (2, .int x2), (3, .int x3)]) hx hb dX10_putDifference_17 hl (by decide) rfl (fun ls hl => ?_)
  exact qX10_putDifference_19 C x1 x2 x3 (((wk_low (Int32.toNatClampNeg x2)) ^^^ (-1 : Int64)) &&& (wk_low (Int32.toNatClampNeg x3))) wk_low wk_mid wk_high h H locs ls B (lv_sub hl [1, 2, 3, 4, 0] rfl)
end
theorem tX10_putDifference {l : Launch} {D : va_G} {Es : (Nat → Nat) × (Nat → Nat)} {a b : Nat → Nat} {cI cJ cT : ClassId} {wk_low : Nat → Int64} {wk_mid : Nat → Int64} {wk_high : Nat → Int64} {wk_holds : Nat → Int64} {x1 : Int32} {x2 : Int32} {x3 : Int32} {z_wk_low : Nat → Int64} {z_wk_mid : Nat → Int64} {z_wk_high : Nat → Int64} (N : Nat) (h : fX10_putDifference N x1 x2 x3 wk_low wk_mid wk_high = some (z_wk_low, z_wk_mid, z_wk_high)) : CtV l yX10_putDifference wsX10_putDifference rmX10_putDifference D (tyl cI cJ cT) Es [.ref (a 19), .int x1, .int x2, .int x3] (wd_wk a b cI cJ cT wk_low wk_mid wk_high wk_holds) (wd_wk a b cI cJ cT z_wk_low z_wk_mid z_wk_high wk_holds) :=
  CtV.of (own := RX10) (cc := cX10_putDifference) (nL := 8) (ret := none) (by decide +kernel) rfl rfl (Nat.le_of_ble_eq_true rfl) rfl (fun p e s m below meth c A ls C B hl => qX10_putDifference_0 C (N := N) x1 x2 x3 wk_low wk_mid wk_high h _ _ _ B hl)

abbrev rmX10_putProduct : Room := { frames := 1, cells := 0, slots := 0, locals := 27 }
theorem hdX10_putProduct : yX10_putProduct.cls ≠ "java/lang/invoke/MethodHandle" ∧ yX10_putProduct.cls ≠ "java/lang/invoke/VarHandle" ∧ (parseMethodDescriptor yX10_putProduct.desc).map (fun d => d.parameters.length) = some 3 := by decide +kernel
theorem iX10_putProduct_X10 : ∀ w ∈ wsX100, w ∈ wsX10_putProduct := by decide +kernel
theorem gfX10_putProduct_9 {p : Program} {l : Launch} {e : Env} {R : Room} {s : State} {m : MethodId} {args : Array Value} {below : List Frame} {meth : Method} {c : Code} {H : Heap} {locs : List Loc} {cells slots : Nat} {Q : State → Prop} {D : va_G} {A : Nat → Prop} {tys : List (ClassId × FieldType)} {Es : (Nat → Nat) × (Nat → Nat)} {ws : va_W} {pc : Nat} {ls : Array Slot} {rest : List Value} {a : Nat} (C : CT p s m args meth c RX10 cX10_putProduct 10 none wsX10_putProduct D A tys Es) (B : DB D A ws s H locs) (q0 : Nat) {fs : List Value} {v : Value} (he : ws[q0]? = some (a, .inr (10, fs))) (hv : fs[0]? = some v) (hdg : decode cX10_putProduct pc = .ok (.getfield 9, 3)) (kk : W p l e R s m args below meth c H locs cells slots Q (F0 m (pc + 3) ls (v :: rest))) : W p l e R s m args below meth c H locs cells slots Q (F0 m pc ls (.ref a :: rest)) :=
  k_get (Cn := RX10) (T := TX10) (N := 4) (index := 9) C B iX10_putProduct_X10 rfl 0 (by decide) (by decide +kernel) q0 he hv hdg kk
theorem gfX10_putProduct_18 {p : Program} {l : Launch} {e : Env} {R : Room} {s : State} {m : MethodId} {args : Array Value} {below : List Frame} {meth : Method} {c : Code} {H : Heap} {locs : List Loc} {cells slots : Nat} {Q : State → Prop} {D : va_G} {A : Nat → Prop} {tys : List (ClassId × FieldType)} {Es : (Nat → Nat) × (Nat → Nat)} {ws : va_W} {pc : Nat} {ls : Array Slot} {rest : List Value} {a : Nat} (C : CT p s m args meth c RX10 cX10_putProduct 10 none wsX10_putProduct D A tys Es) (B : DB D A ws s H locs) (q0 : Nat) {fs : List Value} {v : Value} (he : ws[q0]? = some (a, .inr (10, fs))) (hv : fs[2]? = some v) (hdg : decode cX10_putProduct pc = .ok (.getfield 18, 3)) (kk : W p l e R s m args below meth c H locs cells slots Q (F0 m (pc + 3) ls (v :: rest))) : W p l e R s m args below meth c H locs cells slots Q (F0 m pc ls (.ref a :: rest)) :=
  k_get (Cn := RX10) (T := TX10) (N := 4) (index := 18) C B iX10_putProduct_X10 rfl 2 (by decide) (by decide +kernel) q0 he hv hdg kk
theorem gfX10_putProduct_15 {p : Program} {l : Launch} {e : Env} {R : Room} {s : State} {m : MethodId} {args : Array Value} {below : List Frame} {meth : Method} {c : Code} {H : Heap} {locs : List Loc} {cells slots : Nat} {Q : State → Prop} {D : va_G} {A : Nat → Prop} {tys : List (ClassId × FieldType)} {Es : (Nat → Nat) × (Nat → Nat)} {ws : va_W} {pc : Nat} {ls : Array Slot} {rest : List Value} {a : Nat} (C : CT p s m args meth c RX10 cX10_putProduct 10 none wsX10_putProduct D A tys Es) (B : DB D A ws s H locs) (q0 : Nat) {fs : List Value} {v : Value} (he : ws[q0]? = some (a, .inr (10, fs))) (hv : fs[1]? = some v) (hdg : decode cX10_putProduct pc = .ok (.getfield 15, 3)) (kk : W p l e R s m args below meth c H locs cells slots Q (F0 m (pc + 3) ls (v :: rest))) : W p l e R s m args below meth c H locs cells slots Q (F0 m pc ls (.ref a :: rest)) :=
  k_get (Cn := RX10) (T := TX10) (N := 4) (index := 15) C B iX10_putProduct_X10 rfl 1 (by decide) (by decide +kernel) q0 he hv hdg kk
section
variable {p : Program} {l : Launch} {e : Env} {s : State} {m : MethodId} {args : Array Value} {below : List Frame} {meth : Method} {c : Code} {D : va_G} {A : Nat → Prop} {Es : (Nat → Nat) × (Nat → Nat)} {a b : Nat → Nat} {cI cJ cT : ClassId}
set_option maxHeartbeats 4000000 in
set_option maxRecDepth 100000 in
theorem qX10_putProduct_73 (C : CT p s m args meth c RX10 cX10_putProduct 10 none wsX10_putProduct D A (tyl cI cJ cT) Es) {N : Nat} {wk_holds : Nat → Int64} {z_wk_low : Nat → Int64} {z_wk_mid : Nat → Int64} {z_wk_high : Nat → Int64} : ∀ (x1 : Int32) (x2 : Int32) (x3 : Int32) (x4 : Int64) (x6 : Int64) (x8 : Int64) (wk_low : Nat → Int64) (wk_mid : Nat → Int64) (wk_high : Nat → Int64), bX10_putProduct_73 N x1 x2 x3 x4 x6 x8 wk_low wk_mid wk_high = some (z_wk_low, z_wk_mid, z_wk_high) → ∀ (H : Heap) (locs : List Loc) (ls : Array Slot), DB D A (wd_wk a b cI cJ cT wk_low wk_mid wk_high wk_holds) s H locs → lv_has ls 10 [(0, .ref (a 19)), (1, .int x1), (2, .int x2), (3, .int x3), (4, .long x4), (6, .long x6), (8, .long x8)] → W p l e rmX10_putProduct s m args below meth c H locs 0 0 (ZV below args s D A (tyl cI cJ cT) (wd_wk a b cI cJ cT z_wk_low z_wk_mid z_wk_high wk_holds) 0 0) (F0 m 73 ls []) := by
  have hx := C.1.1
  have hb := C.1.2.1
  have hown := C.1.2.2.2.1
  have hts := C.1.2.2.2.2
  intro x1 x2 x3 x4 x6 x8 wk_low wk_mid wk_high h H locs ls B hl
  rw [bX10_putProduct_73] at h
  refine lv_aload_n hx hb dX10_putProduct_73 rfl (lv_at hl 0 rfl) ?_
  refine lv_iload_n hx hb dX10_putProduct_74 rfl (lv_at hl 1 rfl) ?_
  refine lv_aload_n hx hb dX10_putProduct_75 rfl (lv_at hl 0 rfl) ?_
  refine gfX10_putProduct_9 C B 0 rfl rfl dX10_putProduct_76 ?_
  refine lv_iload_n hx hb dX10_putProduct_79 rfl (lv_at hl 2 rfl) ?_
  obtain ⟨b_1, h⟩ := bnd_some h
  refine k_lald C B 1 1 rfl rfl b_1 dX10_putProduct_80 ?_
  refine lv_aload_n hx hb dX10_putProduct_81 rfl (lv_at hl 0 rfl) ?_
  refine gfX10_putProduct_9 C B 0 rfl rfl dX10_putProduct_82 ?_
  refine lv_iload_n hx hb dX10_putProduct_85 rfl (lv_at hl 3 rfl) ?_
  obtain ⟨b_2, h⟩ := bnd_some h
  refine k_lald C B 1 1 rfl rfl b_2 dX10_putProduct_86 ?_
  refine lv_land hx hb dX10_putProduct_87 ?_
  refine lv_lload hx hb dX10_putProduct_88 (lv_at hl 4 rfl) ?_
  refine lv_lload hx hb dX10_putProduct_90 (lv_at hl 5 rfl) ?_
  refine lv_lxor hx hb dX10_putProduct_92 ?_
  refine lv_lload hx hb dX10_putProduct_93 (lv_at hl 6 rfl) ?_
  refine lv_lload hx hb dX10_putProduct_95 (lv_at hl 4 rfl) ?_
  refine lv_lload hx hb dX10_putProduct_97 (lv_at hl 5 rfl) ?_
  refine lv_land hx hb dX10_putProduct_99 ?_
  refine lv_lxor hx hb dX10_putProduct_100 ?_
  obtain ⟨⟨wk_low_3, wk_mid_4, wk_high_5⟩, g_6, h⟩ := ob_some h
  try dsimp only at h
  refine kc_VV C B (q0 := 0) (ci := 10) (As := [.int x1, .long ((wk_low (Int32.toNatClampNeg x2)) &&& (wk_low (Int32.toNatClampNeg x3))), .long (x4 ^^^ x6), .long (x8 ^^^ (x4 &&& x6))]) (rest := []) (w2 := (wd_wk a b cI cJ cT wk_low_3 wk_mid_4 wk_high_5 wk_holds)) (tX10_put (a := a) (b := b) N g_6) gX10_putProduct_X10_put rfl ⟨rfl, rfl⟩ ⟨rfl, hdX10_put⟩ ⟨Nat.le_of_ble_eq_true rfl, Nat.le_of_ble_eq_true rfl⟩ rfl rfl [0, 1, 2, 3, 4] [] [0, 1, 2, 3, 4] rfl rfl rfl rfl rfl rfl rfl rfl hl.1 rfl (Nat.le_of_ble_eq_true rfl) ⟨Nat.zero_le _, Nat.zero_le _⟩ dX10_putProduct_101 (fun H locs B => ?_)
  cases h
  exact k_vret C B dX10_putProduct_104
set_option maxHeartbeats 4000000 in
set_option maxRecDepth 100000 in
theorem qX10_putProduct_30 (C : CT p s m args meth c RX10 cX10_putProduct 10 none wsX10_putProduct D A (tyl cI cJ cT) Es) {N : Nat} {wk_holds : Nat → Int64} {z_wk_low : Nat → Int64} {z_wk_mid : Nat → Int64} {z_wk_high : Nat → Int64} : ∀ (x1 : Int32) (x2 : Int32) (x3 : Int32) (x4 : Int64) (x6 : Int64) (wk_low : Nat → Int64) (wk_mid : Nat → Int64) (wk_high : Nat → Int64), bX10_putProduct_30 N x1 x2 x3 x4 x6 wk_low wk_mid wk_high = some (z_wk_low, z_wk_mid, z_wk_high) → ∀ (H : Heap) (locs : List Loc) (ls : Array Slot), DB D A (wd_wk a b cI cJ cT wk_low wk_mid wk_high wk_holds) s H locs → lv_has ls 10 [(0, .ref (a 19)), (1, .int x1), (2, .int x2), (3, .int x3), (4, .long x4), (6, .long x6)] → W p l e rmX10_putProduct s m args below meth c H locs 0 0 (ZV below args s D A (tyl cI cJ cT) (wd_wk a b cI cJ cT z_wk_low z_wk_mid z_wk_high wk_holds) 0 0) (F0 m 30 ls []) := by
  have hx := C.1.1
  have hb := C.1.2.1
  have hown := C.1.2.2.2.1
  have hts := C.1.2.2.2.2
  intro x1 x2 x3 x4 x6 wk_low wk_mid wk_high h H locs ls B hl
  rw [bX10_putProduct_30] at h
  refine lv_aload_n hx hb dX10_putProduct_30 rfl (lv_at hl 0 rfl) ?_
  refine gfX10_putProduct_18 C B 0 rfl rfl dX10_putProduct_31 ?_
  refine lv_iload_n hx hb dX10_putProduct_34 rfl (lv_at hl 2 rfl) ?_
  obtain ⟨b_1, h⟩ := bnd_some h
  refine k_lald C B 3 1 rfl rfl b_1 dX10_putProduct_35 ?_
  refine lv_aload_n hx hb dX10_putProduct_36 rfl (lv_at hl 0 rfl) ?_
  refine gfX10_putProduct_9 C B 0 rfl rfl dX10_putProduct_37 ?_
  refine lv_iload_n hx hb dX10_putProduct_40 rfl (lv_at hl 3 rfl) ?_
  obtain ⟨b_2, h⟩ := bnd_some h
  refine k_lald C B 1 1 rfl rfl b_2 dX10_putProduct_41 ?_
  refine lv_land hx hb dX10_putProduct_42 ?_
  refine lv_aload_n hx hb dX10_putProduct_43 rfl (lv_at hl 0 rfl) ?_
  refine gfX10_putProduct_15 C B 0 rfl rfl dX10_putProduct_44 ?_
  refine lv_iload_n hx hb dX10_putProduct_47 rfl (lv_at hl 2 rfl) ?_
  refine k_lald C B 2 1 rfl rfl b_1 dX10_putProduct_48 ?_
  refine lv_aload_n hx hb dX10_putProduct_49 rfl (lv_at hl 0 rfl) ?_
  refine gfX10_putProduct_15 C B 0 rfl rfl dX10_putProduct_50 ?_
  refine lv_iload_n hx hb dX10_putProduct_53 rfl (lv_at hl 3 rfl) ?_
  refine k_lald C B 2 1 rfl rfl b_2 dX10_putProduct_54 ?_
  refine lv_land hx hb dX10_putProduct_55 ?_
  refine lv_lxor hx hb dX10_putProduct_56 ?_
  refine lv_aload_n hx hb dX10_putProduct_57 rfl (lv_at hl 0 rfl) ?_
  refine gfX10_putProduct_9 C B 0 rfl rfl dX10_putProduct_58 ?_
  refine lv_iload_n hx hb dX10_putProduct_61 rfl (lv_at hl 2 rfl) ?_
  refine k_lald C B 1 1 rfl rfl b_1 dX10_putProduct_62 ?_
  refine lv_aload_n hx hb dX10_putProduct_63 rfl (lv_at hl 0 rfl) ?_
  refine gfX10_putProduct_18 C B 0 rfl rfl dX10_putProduct_64 ?_
  refine lv_iload_n hx hb dX10_putProduct_67 rfl (lv_at hl 3 rfl) ?_
  refine k_lald C B 3 1 rfl rfl b_2 dX10_putProduct_68 ?_
  refine lv_land hx hb dX10_putProduct_69 ?_
  refine lv_lxor hx hb dX10_putProduct_70 ?_
  refine lv_lstore (lv' := [(8, .long ((((wk_high (Int32.toNatClampNeg x2)) &&& (wk_low (Int32.toNatClampNeg x3))) ^^^ ((wk_mid (Int32.toNatClampNeg x2)) &&& (wk_mid (Int32.toNatClampNeg x3)))) ^^^ ((wk_low (Int32.toNatClampNeg x2)) &&& (wk_high (Int32.toNatClampNeg x3))))), (0, .ref (a 19)), (1, .int x1), (2, .int x2), (3, .int x3), (4, .long x4), (6, .long x6)]) hx hb dX10_putProduct_71 hl (by decide) rfl (fun ls hl => ?_)
  exact qX10_putProduct_73 C x1 x2 x3 x4 x6 ((((wk_high (Int32.toNatClampNeg x2)) &&& (wk_low (Int32.toNatClampNeg x3))) ^^^ ((wk_mid (Int32.toNatClampNeg x2)) &&& (wk_mid (Int32.toNatClampNeg x3)))) ^^^ ((wk_low (Int32.toNatClampNeg x2)) &&& (wk_high (Int32.toNatClampNeg x3)))) wk_low wk_mid wk_high h H locs ls B (lv_sub hl [1, 2, 3, 4, 5, 6, 0] rfl)
set_option maxHeartbeats 4000000 in
set_option maxRecDepth 100000 in
theorem qX10_putProduct_15 (C : CT p s m args meth c RX10 cX10_putProduct 10 none wsX10_putProduct D A (tyl cI cJ cT) Es) {N : Nat} {wk_holds : Nat → Int64} {z_wk_low : Nat → Int64} {z_wk_mid : Nat → Int64} {z_wk_high : Nat → Int64} : ∀ (x1 : Int32) (x2 : Int32) (x3 : Int32) (x4 : Int64) (wk_low : Nat → Int64) (wk_mid : Nat → Int64) (wk_high : Nat → Int64), bX10_putProduct_15 N x1 x2 x3 x4 wk_low wk_mid wk_high = some (z_wk_low, z_wk_mid, z_wk_high) → ∀ (H : Heap) (locs : List Loc) (ls : Array Slot), DB D A (wd_wk a b cI cJ cT wk_low wk_mid wk_high wk_holds) s H locs → lv_has ls 10 [(0, .ref (a 19)), (1, .int x1), (2, .int x2), (3, .int x3), (4, .long x4)] → W p l e rmX10_putProduct s m args below meth c H locs 0 0 (ZV below args s D A (tyl cI cJ cT) (wd_wk a b cI cJ cT z_wk_low z_wk_mid z_wk_high wk_holds) 0 0) (F0 m 15 ls []) := by
  have hx := C.1.1
  have hb := C.1.2.1
  have hown := C.1.2.2.2.1
  have hts := C.1.2.2.2.2
  intro x1 x2 x3 x4 wk_low wk_mid wk_high h H locs ls B hl
  rw [bX10_putProduct_15] at h
  refine lv_aload_n hx hb dX10_putProduct_15 rfl (lv_at hl 0 rfl) ?_
  refine gfX10_putProduct_9 C B 0 rfl rfl dX10_putProduct_16 ?_
  refine lv_iload_n hx hb dX10_putProduct_19 rfl (lv_at hl 2 rfl) ?_
  obtain ⟨b_1, h⟩ := bnd_some h
  refine k_lald C B 1 1 rfl rfl b_1 dX10_putProduct_20 ?_
  refine lv_aload_n hx hb dX10_putProduct_21 rfl (lv_at hl 0 rfl) ?_
  refine gfX10_putProduct_15 C B 0 rfl rfl dX10_putProduct_22 ?_
  refine lv_iload_n hx hb dX10_putProduct_25 rfl (lv_at hl 3 rfl) ?_
  obtain ⟨b_2, h⟩ := bnd_some h
  refine k_lald C B 2 1 rfl rfl b_2 dX10_putProduct_26 ?_
  refine lv_land hx hb dX10_putProduct_27 ?_
  refine lv_lstore (lv' := [(6, .long ((wk_low (Int32.toNatClampNeg x2)) &&& (wk_mid (Int32.toNatClampNeg x3)))), (0, .ref (a 19)), (1, .int x1), (2, .int x2), (3, .int x3), (4, .long x4)]) hx hb dX10_putProduct_28 hl (by decide) rfl (fun ls hl => ?_)
  exact qX10_putProduct_30 C x1 x2 x3 x4 ((wk_low (Int32.toNatClampNeg x2)) &&& (wk_mid (Int32.toNatClampNeg x3))) wk_low wk_mid wk_high h H locs ls B (lv_sub hl [1, 2, 3, 4, 5, 0] rfl)
set_option maxHeartbeats 4000000 in
set_option maxRecDepth 100000 in
theorem qX10_putProduct_0 (C : CT p s m args meth c RX10 cX10_putProduct 10 none wsX10_putProduct D A (tyl cI cJ cT) Es) {N : Nat} {wk_holds : Nat → Int64} {z_wk_low : Nat → Int64} {z_wk_mid : Nat → Int64} {z_wk_high : Nat → Int64} : ∀ (x1 : Int32) (x2 : Int32) (x3 : Int32) (wk_low : Nat → Int64) (wk_mid : Nat → Int64) (wk_high : Nat → Int64), fX10_putProduct N x1 x2 x3 wk_low wk_mid wk_high = some (z_wk_low, z_wk_mid, z_wk_high) → ∀ (H : Heap) (locs : List Loc) (ls : Array Slot), DB D A (wd_wk a b cI cJ cT wk_low wk_mid wk_high wk_holds) s H locs → lv_has ls 10 [(0, .ref (a 19)), (1, .int x1), (2, .int x2), (3, .int x3)] → W p l e rmX10_putProduct s m args below meth c H locs 0 0 (ZV below args s D A (tyl cI cJ cT) (wd_wk a b cI cJ cT z_wk_low z_wk_mid z_wk_high wk_holds) 0 0) (F0 m 0 ls []) := by
  have hx := C.1.1
  have hb := C.1.2.1
  have hown := C.1.2.2.2.1
  have hts := C.1.2.2.2.2
  intro x1 x2 x3 wk_low wk_mid wk_high h H locs ls B hl
  rw [fX10_putProduct] at h
  refine lv_aload_n hx hb dX10_putProduct_0 rfl (lv_at hl 0 rfl) ?_
  refine gfX10_putProduct_15 C B 0 rfl rfl dX10_putProduct_1 ?_
  refine lv_iload_n hx hb dX10_putProduct_4 rfl (lv_at hl 2 rfl) ?_
  obtain ⟨b_1, h⟩ := bnd_some h
  refine k_lald C B 2 1 rfl rfl b_1 dX10_putProduct_5 ?_
  refine lv_aload_n hx hb dX10_putProduct_6 rfl (lv_at hl 0 rfl) ?_
  refine gfX10_putProduct_9 C B 0 rfl rfl dX10_putProduct_7 ?_
  refine lv_iload_n hx hb dX10_putProduct_10 rfl (lv_at hl 3 rfl) ?_
  obtain ⟨b_2, h⟩ := bnd_some h
  refine k_lald C B 1 1 rfl rfl b_2 dX10_putProduct_11 ?_
  refine lv_land hx hb dX10_putProduct_12 ?_
  refine lv_lstore (lv' := [(4, .long ((wk_mid (Int32.toNatClampNeg x2)) &&& (wk_low (Int32.toNatClampNeg x3)))), (0, .ref (a 19)), (1, .int x1), (2, .int x2), (3, .int x3)]) hx hb dX10_putProduct_13 hl (by decide) rfl (fun ls hl => ?_)
  exact qX10_putProduct_15 C x1 x2 x3 ((wk_mid (Int32.toNatClampNeg x2)) &&& (wk_low (Int32.toNatClampNeg x3))) wk_low wk_mid wk_high h H locs ls B (lv_sub hl [1, 2, 3, 4, 0] rfl)
end
theorem tX10_putProduct {l : Launch} {D : va_G} {Es : (Nat → Nat) × (Nat → Nat)} {a b : Nat → Nat} {cI cJ cT : ClassId} {wk_low : Nat → Int64} {wk_mid : Nat → Int64} {wk_high : Nat → Int64} {wk_holds : Nat → Int64} {x1 : Int32} {x2 : Int32} {x3 : Int32} {z_wk_low : Nat → Int64} {z_wk_mid : Nat → Int64} {z_wk_high : Nat → Int64} (N : Nat) (h : fX10_putProduct N x1 x2 x3 wk_low wk_mid wk_high = some (z_wk_low, z_wk_mid, z_wk_high)) : CtV l yX10_putProduct wsX10_putProduct rmX10_putProduct D (tyl cI cJ cT) Es [.ref (a 19), .int x1, .int x2, .int x3] (wd_wk a b cI cJ cT wk_low wk_mid wk_high wk_holds) (wd_wk a b cI cJ cT z_wk_low z_wk_mid z_wk_high wk_holds) :=
  CtV.of (own := RX10) (cc := cX10_putProduct) (nL := 10) (ret := none) (by decide +kernel) rfl rfl (Nat.le_of_ble_eq_true rfl) rfl (fun p e s m below meth c A ls C B hl => qX10_putProduct_0 C (N := N) x1 x2 x3 wk_low wk_mid wk_high h _ _ _ B hl)

abbrev rmX10_below : Room := { frames := 0, cells := 0, slots := 0, locals := 0 }
theorem hdX10_below : yX10_below.cls ≠ "java/lang/invoke/MethodHandle" ∧ yX10_below.cls ≠ "java/lang/invoke/VarHandle" ∧ (parseMethodDescriptor yX10_below.desc).map (fun d => d.parameters.length) = some 2 := by decide +kernel
theorem iX10_below_X10 : ∀ w ∈ wsX100, w ∈ wsX10_below := by decide +kernel
theorem gfX10_below_18 {p : Program} {l : Launch} {e : Env} {R : Room} {s : State} {m : MethodId} {args : Array Value} {below : List Frame} {meth : Method} {c : Code} {H : Heap} {locs : List Loc} {cells slots : Nat} {Q : State → Prop} {D : va_G} {A : Nat → Prop} {tys : List (ClassId × FieldType)} {Es : (Nat → Nat) × (Nat → Nat)} {ws : va_W} {pc : Nat} {ls : Array Slot} {rest : List Value} {a : Nat} (C : CT p s m args meth c RX10 cX10_below 7 (some .long) wsX10_below D A tys Es) (B : DB D A ws s H locs) (q0 : Nat) {fs : List Value} {v : Value} (he : ws[q0]? = some (a, .inr (10, fs))) (hv : fs[2]? = some v) (hdg : decode cX10_below pc = .ok (.getfield 18, 3)) (kk : W p l e R s m args below meth c H locs cells slots Q (F0 m (pc + 3) ls (v :: rest))) : W p l e R s m args below meth c H locs cells slots Q (F0 m pc ls (.ref a :: rest)) :=
  k_get (Cn := RX10) (T := TX10) (N := 4) (index := 18) C B iX10_below_X10 rfl 2 (by decide) (by decide +kernel) q0 he hv hdg kk
theorem mX10_below_l93 : (Cond.constantLong RX10 93 (-1)) ∈ wsX10_below := by decide +kernel
theorem gfX10_below_15 {p : Program} {l : Launch} {e : Env} {R : Room} {s : State} {m : MethodId} {args : Array Value} {below : List Frame} {meth : Method} {c : Code} {H : Heap} {locs : List Loc} {cells slots : Nat} {Q : State → Prop} {D : va_G} {A : Nat → Prop} {tys : List (ClassId × FieldType)} {Es : (Nat → Nat) × (Nat → Nat)} {ws : va_W} {pc : Nat} {ls : Array Slot} {rest : List Value} {a : Nat} (C : CT p s m args meth c RX10 cX10_below 7 (some .long) wsX10_below D A tys Es) (B : DB D A ws s H locs) (q0 : Nat) {fs : List Value} {v : Value} (he : ws[q0]? = some (a, .inr (10, fs))) (hv : fs[1]? = some v) (hdg : decode cX10_below pc = .ok (.getfield 15, 3)) (kk : W p l e R s m args below meth c H locs cells slots Q (F0 m (pc + 3) ls (v :: rest))) : W p l e R s m args below meth c H locs cells slots Q (F0 m pc ls (.ref a :: rest)) :=
  k_get (Cn := RX10) (T := TX10) (N := 4) (index := 15) C B iX10_below_X10 rfl 1 (by decide) (by decide +kernel) q0 he hv hdg kk
theorem gfX10_below_9 {p : Program} {l : Launch} {e : Env} {R : Room} {s : State} {m : MethodId} {args : Array Value} {below : List Frame} {meth : Method} {c : Code} {H : Heap} {locs : List Loc} {cells slots : Nat} {Q : State → Prop} {D : va_G} {A : Nat → Prop} {tys : List (ClassId × FieldType)} {Es : (Nat → Nat) × (Nat → Nat)} {ws : va_W} {pc : Nat} {ls : Array Slot} {rest : List Value} {a : Nat} (C : CT p s m args meth c RX10 cX10_below 7 (some .long) wsX10_below D A tys Es) (B : DB D A ws s H locs) (q0 : Nat) {fs : List Value} {v : Value} (he : ws[q0]? = some (a, .inr (10, fs))) (hv : fs[0]? = some v) (hdg : decode cX10_below pc = .ok (.getfield 9, 3)) (kk : W p l e R s m args below meth c H locs cells slots Q (F0 m (pc + 3) ls (v :: rest))) : W p l e R s m args below meth c H locs cells slots Q (F0 m pc ls (.ref a :: rest)) :=
  k_get (Cn := RX10) (T := TX10) (N := 4) (index := 9) C B iX10_below_X10 rfl 0 (by decide) (by decide +kernel) q0 he hv hdg kk
section
variable {p : Program} {l : Launch} {e : Env} {s : State} {m : MethodId} {args : Array Value} {below : List Frame} {meth : Method} {c : Code} {D : va_G} {A : Nat → Prop} {Es : (Nat → Nat) × (Nat → Nat)} {a b : Nat → Nat} {cI cJ cT : ClassId}
set_option maxHeartbeats 4000000 in
set_option maxRecDepth 100000 in
theorem qX10_below_57 (C : CT p s m args meth c RX10 cX10_below 7 (some .long) wsX10_below D A (tyl cI cJ cT) Es) {N : Nat} {wk_low : Nat → Int64} {wk_mid : Nat → Int64} {wk_high : Nat → Int64} {wk_holds : Nat → Int64} {z_r : Int64} : ∀ (x1 : Int32) (x2 : Int32) (x5 : Int64), bX10_below_57 N wk_low wk_mid wk_high x1 x2 x5 = some z_r → ∀ (H : Heap) (locs : List Loc) (ls : Array Slot), DB D A (wd_wk a b cI cJ cT wk_low wk_mid wk_high wk_holds) s H locs → lv_has ls 7 [(0, .ref (a 19)), (1, .int x1), (2, .int x2), (5, .long x5)] → W p l e rmX10_below s m args below meth c H locs 0 0 (ZL below args s D A (tyl cI cJ cT) z_r (wd_wk a b cI cJ cT wk_low wk_mid wk_high wk_holds) 0 0) (F0 m 57 ls []) := by
  have hx := C.1.1
  have hb := C.1.2.1
  have hown := C.1.2.2.2.1
  have hts := C.1.2.2.2.2
  intro x1 x2 x5 h H locs ls B hl
  rw [bX10_below_57] at h
  refine lv_aload_n hx hb dX10_below_57 rfl (lv_at hl 0 rfl) ?_
  refine gfX10_below_18 C B 0 rfl rfl dX10_below_58 ?_
  refine lv_iload_n hx hb dX10_below_61 rfl (lv_at hl 1 rfl) ?_
  obtain ⟨b_1, h⟩ := bnd_some h
  refine k_lald C B 3 1 rfl rfl b_1 dX10_below_62 ?_
  refine lv_ldc2 (v := -1) hx hb hown (hts _ mX10_below_l93) dX10_below_63 ?_
  refine lv_lxor hx hb dX10_below_66 ?_
  refine lv_aload_n hx hb dX10_below_67 rfl (lv_at hl 0 rfl) ?_
  refine gfX10_below_18 C B 0 rfl rfl dX10_below_68 ?_
  refine lv_iload_n hx hb dX10_below_71 rfl (lv_at hl 2 rfl) ?_
  obtain ⟨b_2, h⟩ := bnd_some h
  refine k_lald C B 3 1 rfl rfl b_2 dX10_below_72 ?_
  refine lv_land hx hb dX10_below_73 ?_
  refine lv_aload_n hx hb dX10_below_74 rfl (lv_at hl 0 rfl) ?_
  refine gfX10_below_18 C B 0 rfl rfl dX10_below_75 ?_
  refine lv_iload_n hx hb dX10_below_78 rfl (lv_at hl 1 rfl) ?_
  refine k_lald C B 3 1 rfl rfl b_1 dX10_below_79 ?_
  refine lv_aload_n hx hb dX10_below_80 rfl (lv_at hl 0 rfl) ?_
  refine gfX10_below_18 C B 0 rfl rfl dX10_below_81 ?_
  refine lv_iload_n hx hb dX10_below_84 rfl (lv_at hl 2 rfl) ?_
  refine k_lald C B 3 1 rfl rfl b_2 dX10_below_85 ?_
  refine lv_lxor hx hb dX10_below_86 ?_
  refine lv_ldc2 (v := -1) hx hb hown (hts _ mX10_below_l93) dX10_below_87 ?_
  refine lv_lxor hx hb dX10_below_90 ?_
  refine lv_lload hx hb dX10_below_91 (lv_at hl 3 rfl) ?_
  refine lv_land hx hb dX10_below_93 ?_
  refine lv_lor hx hb dX10_below_94 ?_
  cases h
  exact k_lret C B dX10_below_95
set_option maxHeartbeats 4000000 in
set_option maxRecDepth 100000 in
theorem qX10_below_18 (C : CT p s m args meth c RX10 cX10_below 7 (some .long) wsX10_below D A (tyl cI cJ cT) Es) {N : Nat} {wk_low : Nat → Int64} {wk_mid : Nat → Int64} {wk_high : Nat → Int64} {wk_holds : Nat → Int64} {z_r : Int64} : ∀ (x1 : Int32) (x2 : Int32) (x3 : Int64), bX10_below_18 N wk_low wk_mid wk_high x1 x2 x3 = some z_r → ∀ (H : Heap) (locs : List Loc) (ls : Array Slot), DB D A (wd_wk a b cI cJ cT wk_low wk_mid wk_high wk_holds) s H locs → lv_has ls 7 [(0, .ref (a 19)), (1, .int x1), (2, .int x2), (3, .long x3)] → W p l e rmX10_below s m args below meth c H locs 0 0 (ZL below args s D A (tyl cI cJ cT) z_r (wd_wk a b cI cJ cT wk_low wk_mid wk_high wk_holds) 0 0) (F0 m 18 ls []) := by
  have hx := C.1.1
  have hb := C.1.2.1
  have hown := C.1.2.2.2.1
  have hts := C.1.2.2.2.2
  intro x1 x2 x3 h H locs ls B hl
  rw [bX10_below_18] at h
  refine lv_aload_n hx hb dX10_below_18 rfl (lv_at hl 0 rfl) ?_
  refine gfX10_below_15 C B 0 rfl rfl dX10_below_19 ?_
  refine lv_iload_n hx hb dX10_below_22 rfl (lv_at hl 1 rfl) ?_
  obtain ⟨b_1, h⟩ := bnd_some h
  refine k_lald C B 2 1 rfl rfl b_1 dX10_below_23 ?_
  refine lv_ldc2 (v := -1) hx hb hown (hts _ mX10_below_l93) dX10_below_24 ?_
  refine lv_lxor hx hb dX10_below_27 ?_
  refine lv_aload_n hx hb dX10_below_28 rfl (lv_at hl 0 rfl) ?_
  refine gfX10_below_15 C B 0 rfl rfl dX10_below_29 ?_
  refine lv_iload_n hx hb dX10_below_32 rfl (lv_at hl 2 rfl) ?_
  obtain ⟨b_2, h⟩ := bnd_some h
  refine k_lald C B 2 1 rfl rfl b_2 dX10_below_33 ?_
  refine lv_land hx hb dX10_below_34 ?_
  refine lv_aload_n hx hb dX10_below_35 rfl (lv_at hl 0 rfl) ?_
  refine gfX10_below_15 C B 0 rfl rfl dX10_below_36 ?_
  refine lv_iload_n hx hb dX10_below_39 rfl (lv_at hl 1 rfl) ?_
  refine k_lald C B 2 1 rfl rfl b_1 dX10_below_40 ?_
  refine lv_aload_n hx hb dX10_below_41 rfl (lv_at hl 0 rfl) ?_
  refine gfX10_below_15 C B 0 rfl rfl dX10_below_42 ?_
  refine lv_iload_n hx hb dX10_below_45 rfl (lv_at hl 2 rfl) ?_
  refine k_lald C B 2 1 rfl rfl b_2 dX10_below_46 ?_
  refine lv_lxor hx hb dX10_below_47 ?_
  refine lv_ldc2 (v := -1) hx hb hown (hts _ mX10_below_l93) dX10_below_48 ?_
  refine lv_lxor hx hb dX10_below_51 ?_
  refine lv_lload_n hx hb dX10_below_52 rfl (lv_at hl 3 rfl) ?_
  refine lv_land hx hb dX10_below_53 ?_
  refine lv_lor hx hb dX10_below_54 ?_
  refine lv_lstore (lv' := [(5, .long ((((wk_mid (Int32.toNatClampNeg x1)) ^^^ (-1 : Int64)) &&& (wk_mid (Int32.toNatClampNeg x2))) ||| ((((wk_mid (Int32.toNatClampNeg x1)) ^^^ (wk_mid (Int32.toNatClampNeg x2))) ^^^ (-1 : Int64)) &&& x3))), (0, .ref (a 19)), (1, .int x1), (2, .int x2), (3, .long x3)]) hx hb dX10_below_55 hl (by decide) rfl (fun ls hl => ?_)
  exact qX10_below_57 C x1 x2 ((((wk_mid (Int32.toNatClampNeg x1)) ^^^ (-1 : Int64)) &&& (wk_mid (Int32.toNatClampNeg x2))) ||| ((((wk_mid (Int32.toNatClampNeg x1)) ^^^ (wk_mid (Int32.toNatClampNeg x2))) ^^^ (-1 : Int64)) &&& x3)) h H locs ls B (lv_sub hl [1, 2, 3, 0] rfl)
set_option maxHeartbeats 4000000 in
set_option maxRecDepth 100000 in
theorem qX10_below_0 (C : CT p s m args meth c RX10 cX10_below 7 (some .long) wsX10_below D A (tyl cI cJ cT) Es) {N : Nat} {wk_low : Nat → Int64} {wk_mid : Nat → Int64} {wk_high : Nat → Int64} {wk_holds : Nat → Int64} {z_r : Int64} : ∀ (x1 : Int32) (x2 : Int32), fX10_below N wk_low wk_mid wk_high x1 x2 = some z_r → ∀ (H : Heap) (locs : List Loc) (ls : Array Slot), DB D A (wd_wk a b cI cJ cT wk_low wk_mid wk_high wk_holds) s H locs → lv_has ls 7 [(0, .ref (a 19)), (1, .int x1), (2, .int x2)] → W p l e rmX10_below s m args below meth c H locs 0 0 (ZL below args s D A (tyl cI cJ cT) z_r (wd_wk a b cI cJ cT wk_low wk_mid wk_high wk_holds) 0 0) (F0 m 0 ls []) := by
  have hx := C.1.1
  have hb := C.1.2.1
  have hown := C.1.2.2.2.1
  have hts := C.1.2.2.2.2
  intro x1 x2 h H locs ls B hl
  rw [fX10_below] at h
  refine lv_aload_n hx hb dX10_below_0 rfl (lv_at hl 0 rfl) ?_
  refine gfX10_below_9 C B 0 rfl rfl dX10_below_1 ?_
  refine lv_iload_n hx hb dX10_below_4 rfl (lv_at hl 1 rfl) ?_
  obtain ⟨b_1, h⟩ := bnd_some h
  refine k_lald C B 1 1 rfl rfl b_1 dX10_below_5 ?_
  refine lv_ldc2 (v := -1) hx hb hown (hts _ mX10_below_l93) dX10_below_6 ?_
  refine lv_lxor hx hb dX10_below_9 ?_
  refine lv_aload_n hx hb dX10_below_10 rfl (lv_at hl 0 rfl) ?_
  refine gfX10_below_9 C B 0 rfl rfl dX10_below_11 ?_
  refine lv_iload_n hx hb dX10_below_14 rfl (lv_at hl 2 rfl) ?_
  obtain ⟨b_2, h⟩ := bnd_some h
  refine k_lald C B 1 1 rfl rfl b_2 dX10_below_15 ?_
  refine lv_land hx hb dX10_below_16 ?_
  refine lv_lstore_n (lv' := [(3, .long (((wk_low (Int32.toNatClampNeg x1)) ^^^ (-1 : Int64)) &&& (wk_low (Int32.toNatClampNeg x2)))), (0, .ref (a 19)), (1, .int x1), (2, .int x2)]) hx hb dX10_below_17 rfl hl (by decide) rfl (fun ls hl => ?_)
  exact qX10_below_18 C x1 x2 (((wk_low (Int32.toNatClampNeg x1)) ^^^ (-1 : Int64)) &&& (wk_low (Int32.toNatClampNeg x2))) h H locs ls B (lv_sub hl [1, 2, 3, 0] rfl)
end
theorem tX10_below {l : Launch} {D : va_G} {Es : (Nat → Nat) × (Nat → Nat)} {a b : Nat → Nat} {cI cJ cT : ClassId} {wk_low : Nat → Int64} {wk_mid : Nat → Int64} {wk_high : Nat → Int64} {wk_holds : Nat → Int64} {x1 : Int32} {x2 : Int32} {z_r : Int64} (N : Nat) (h : fX10_below N wk_low wk_mid wk_high x1 x2 = some z_r) : CtL l yX10_below wsX10_below rmX10_below D (tyl cI cJ cT) Es [.ref (a 19), .int x1, .int x2] (wd_wk a b cI cJ cT wk_low wk_mid wk_high wk_holds) z_r (wd_wk a b cI cJ cT wk_low wk_mid wk_high wk_holds) :=
  CtL.of (own := RX10) (cc := cX10_below) (nL := 7) (ret := (some .long)) (by decide +kernel) rfl rfl (Nat.le_of_ble_eq_true rfl) rfl (fun p e s m below meth c A ls C B hl => qX10_below_0 C (N := N) x1 x2 h _ _ _ B hl)

abbrev rmX10_putChoice : Room := { frames := 1, cells := 0, slots := 0, locals := 27 }
theorem hdX10_putChoice : yX10_putChoice.cls ≠ "java/lang/invoke/MethodHandle" ∧ yX10_putChoice.cls ≠ "java/lang/invoke/VarHandle" ∧ (parseMethodDescriptor yX10_putChoice.desc).map (fun d => d.parameters.length) = some 4 := by decide +kernel
theorem iX10_putChoice_X10 : ∀ w ∈ wsX100, w ∈ wsX10_putChoice := by decide +kernel
theorem gfX10_putChoice_9 {p : Program} {l : Launch} {e : Env} {R : Room} {s : State} {m : MethodId} {args : Array Value} {below : List Frame} {meth : Method} {c : Code} {H : Heap} {locs : List Loc} {cells slots : Nat} {Q : State → Prop} {D : va_G} {A : Nat → Prop} {tys : List (ClassId × FieldType)} {Es : (Nat → Nat) × (Nat → Nat)} {ws : va_W} {pc : Nat} {ls : Array Slot} {rest : List Value} {a : Nat} (C : CT p s m args meth c RX10 cX10_putChoice 6 none wsX10_putChoice D A tys Es) (B : DB D A ws s H locs) (q0 : Nat) {fs : List Value} {v : Value} (he : ws[q0]? = some (a, .inr (10, fs))) (hv : fs[0]? = some v) (hdg : decode cX10_putChoice pc = .ok (.getfield 9, 3)) (kk : W p l e R s m args below meth c H locs cells slots Q (F0 m (pc + 3) ls (v :: rest))) : W p l e R s m args below meth c H locs cells slots Q (F0 m pc ls (.ref a :: rest)) :=
  k_get (Cn := RX10) (T := TX10) (N := 4) (index := 9) C B iX10_putChoice_X10 rfl 0 (by decide) (by decide +kernel) q0 he hv hdg kk
theorem mX10_putChoice_l93 : (Cond.constantLong RX10 93 (-1)) ∈ wsX10_putChoice := by decide +kernel
theorem gfX10_putChoice_15 {p : Program} {l : Launch} {e : Env} {R : Room} {s : State} {m : MethodId} {args : Array Value} {below : List Frame} {meth : Method} {c : Code} {H : Heap} {locs : List Loc} {cells slots : Nat} {Q : State → Prop} {D : va_G} {A : Nat → Prop} {tys : List (ClassId × FieldType)} {Es : (Nat → Nat) × (Nat → Nat)} {ws : va_W} {pc : Nat} {ls : Array Slot} {rest : List Value} {a : Nat} (C : CT p s m args meth c RX10 cX10_putChoice 6 none wsX10_putChoice D A tys Es) (B : DB D A ws s H locs) (q0 : Nat) {fs : List Value} {v : Value} (he : ws[q0]? = some (a, .inr (10, fs))) (hv : fs[1]? = some v) (hdg : decode cX10_putChoice pc = .ok (.getfield 15, 3)) (kk : W p l e R s m args below meth c H locs cells slots Q (F0 m (pc + 3) ls (v :: rest))) : W p l e R s m args below meth c H locs cells slots Q (F0 m pc ls (.ref a :: rest)) :=
  k_get (Cn := RX10) (T := TX10) (N := 4) (index := 15) C B iX10_putChoice_X10 rfl 1 (by decide) (by decide +kernel) q0 he hv hdg kk
theorem gfX10_putChoice_18 {p : Program} {l : Launch} {e : Env} {R : Room} {s : State} {m : MethodId} {args : Array Value} {below : List Frame} {meth : Method} {c : Code} {H : Heap} {locs : List Loc} {cells slots : Nat} {Q : State → Prop} {D : va_G} {A : Nat → Prop} {tys : List (ClassId × FieldType)} {Es : (Nat → Nat) × (Nat → Nat)} {ws : va_W} {pc : Nat} {ls : Array Slot} {rest : List Value} {a : Nat} (C : CT p s m args meth c RX10 cX10_putChoice 6 none wsX10_putChoice D A tys Es) (B : DB D A ws s H locs) (q0 : Nat) {fs : List Value} {v : Value} (he : ws[q0]? = some (a, .inr (10, fs))) (hv : fs[2]? = some v) (hdg : decode cX10_putChoice pc = .ok (.getfield 18, 3)) (kk : W p l e R s m args below meth c H locs cells slots Q (F0 m (pc + 3) ls (v :: rest))) : W p l e R s m args below meth c H locs cells slots Q (F0 m pc ls (.ref a :: rest)) :=
  k_get (Cn := RX10) (T := TX10) (N := 4) (index := 18) C B iX10_putChoice_X10 rfl 2 (by decide) (by decide +kernel) q0 he hv hdg kk
section
variable {p : Program} {l : Launch} {e : Env} {s : State} {m : MethodId} {args : Array Value} {below : List Frame} {meth : Method} {c : Code} {D : va_G} {A : Nat → Prop} {Es : (Nat → Nat) × (Nat → Nat)} {a b : Nat → Nat} {cI cJ cT : ClassId}
set_option maxHeartbeats 4000000 in
set_option maxRecDepth 100000 in
theorem qX10_putChoice_0 (C : CT p s m args meth c RX10 cX10_putChoice 6 none wsX10_putChoice D A (tyl cI cJ cT) Es) {N : Nat} {wk_holds : Nat → Int64} {z_wk_low : Nat → Int64} {z_wk_mid : Nat → Int64} {z_wk_high : Nat → Int64} : ∀ (x1 : Int32) (x2 : Int64) (x4 : Int32) (x5 : Int32) (wk_low : Nat → Int64) (wk_mid : Nat → Int64) (wk_high : Nat → Int64), fX10_putChoice N x1 x2 x4 x5 wk_low wk_mid wk_high = some (z_wk_low, z_wk_mid, z_wk_high) → ∀ (H : Heap) (locs : List Loc) (ls : Array Slot), DB D A (wd_wk a b cI cJ cT wk_low wk_mid wk_high wk_holds) s H locs → lv_has ls 6 [(0, .ref (a 19)), (1, .int x1), (2, .long x2), (4, .int x4), (5, .int x5)] → W p l e rmX10_putChoice s m args below meth c H locs 0 0 (ZV below args s D A (tyl cI cJ cT) (wd_wk a b cI cJ cT z_wk_low z_wk_mid z_wk_high wk_holds) 0 0) (F0 m 0 ls []) := by
  have hx := C.1.1
  have hb := C.1.2.1
  have hown := C.1.2.2.2.1
  have hts := C.1.2.2.2.2
  intro x1 x2 x4 x5 wk_low wk_mid wk_high h H locs ls B hl
  rw [fX10_putChoice] at h
  refine lv_aload_n hx hb dX10_putChoice_0 rfl (lv_at hl 0 rfl) ?_
  refine lv_iload_n hx hb dX10_putChoice_1 rfl (lv_at hl 1 rfl) ?_
  refine lv_lload_n hx hb dX10_putChoice_2 rfl (lv_at hl 2 rfl) ?_
  refine lv_aload_n hx hb dX10_putChoice_3 rfl (lv_at hl 0 rfl) ?_
  refine gfX10_putChoice_9 C B 0 rfl rfl dX10_putChoice_4 ?_
  refine lv_iload hx hb dX10_putChoice_7 (lv_at hl 3 rfl) ?_
  obtain ⟨b_1, h⟩ := bnd_some h
  refine k_lald C B 1 1 rfl rfl b_1 dX10_putChoice_9 ?_
  refine lv_land hx hb dX10_putChoice_10 ?_
  refine lv_lload_n hx hb dX10_putChoice_11 rfl (lv_at hl 2 rfl) ?_
  refine lv_ldc2 (v := -1) hx hb hown (hts _ mX10_putChoice_l93) dX10_putChoice_12 ?_
  refine lv_lxor hx hb dX10_putChoice_15 ?_
  refine lv_aload_n hx hb dX10_putChoice_16 rfl (lv_at hl 0 rfl) ?_
  refine gfX10_putChoice_9 C B 0 rfl rfl dX10_putChoice_17 ?_
  refine lv_iload hx hb dX10_putChoice_20 (lv_at hl 4 rfl) ?_
  obtain ⟨b_2, h⟩ := bnd_some h
  refine k_lald C B 1 1 rfl rfl b_2 dX10_putChoice_22 ?_
  refine lv_land hx hb dX10_putChoice_23 ?_
  refine lv_lor hx hb dX10_putChoice_24 ?_
  refine lv_lload_n hx hb dX10_putChoice_25 rfl (lv_at hl 2 rfl) ?_
  refine lv_aload_n hx hb dX10_putChoice_26 rfl (lv_at hl 0 rfl) ?_
  refine gfX10_putChoice_15 C B 0 rfl rfl dX10_putChoice_27 ?_
  refine lv_iload hx hb dX10_putChoice_30 (lv_at hl 3 rfl) ?_
  refine k_lald C B 2 1 rfl rfl b_1 dX10_putChoice_32 ?_
  refine lv_land hx hb dX10_putChoice_33 ?_
  refine lv_lload_n hx hb dX10_putChoice_34 rfl (lv_at hl 2 rfl) ?_
  refine lv_ldc2 (v := -1) hx hb hown (hts _ mX10_putChoice_l93) dX10_putChoice_35 ?_
  refine lv_lxor hx hb dX10_putChoice_38 ?_
  refine lv_aload_n hx hb dX10_putChoice_39 rfl (lv_at hl 0 rfl) ?_
  refine gfX10_putChoice_15 C B 0 rfl rfl dX10_putChoice_40 ?_
  refine lv_iload hx hb dX10_putChoice_43 (lv_at hl 4 rfl) ?_
  refine k_lald C B 2 1 rfl rfl b_2 dX10_putChoice_45 ?_
  refine lv_land hx hb dX10_putChoice_46 ?_
  refine lv_lor hx hb dX10_putChoice_47 ?_
  refine lv_lload_n hx hb dX10_putChoice_48 rfl (lv_at hl 2 rfl) ?_
  refine lv_aload_n hx hb dX10_putChoice_49 rfl (lv_at hl 0 rfl) ?_
  refine gfX10_putChoice_18 C B 0 rfl rfl dX10_putChoice_50 ?_
  refine lv_iload hx hb dX10_putChoice_53 (lv_at hl 3 rfl) ?_
  refine k_lald C B 3 1 rfl rfl b_1 dX10_putChoice_55 ?_
  refine lv_land hx hb dX10_putChoice_56 ?_
  refine lv_lload_n hx hb dX10_putChoice_57 rfl (lv_at hl 2 rfl) ?_
  refine lv_ldc2 (v := -1) hx hb hown (hts _ mX10_putChoice_l93) dX10_putChoice_58 ?_
  refine lv_lxor hx hb dX10_putChoice_61 ?_
  refine lv_aload_n hx hb dX10_putChoice_62 rfl (lv_at hl 0 rfl) ?_
  refine gfX10_putChoice_18 C B 0 rfl rfl dX10_putChoice_63 ?_
  refine lv_iload hx hb dX10_putChoice_66 (lv_at hl 4 rfl) ?_
  refine k_lald C B 3 1 rfl rfl b_2 dX10_putChoice_68 ?_
  refine lv_land hx hb dX10_putChoice_69 ?_
  refine lv_lor hx hb dX10_putChoice_70 ?_
  obtain ⟨⟨wk_low_3, wk_mid_4, wk_high_5⟩, g_6, h⟩ := ob_some h
  try dsimp only at h
  refine kc_VV C B (q0 := 0) (ci := 10) (As := [.int x1, .long ((x2 &&& (wk_low (Int32.toNatClampNeg x4))) ||| ((x2 ^^^ (-1 : Int64)) &&& (wk_low (Int32.toNatClampNeg x5)))), .long ((x2 &&& (wk_mid (Int32.toNatClampNeg x4))) ||| ((x2 ^^^ (-1 : Int64)) &&& (wk_mid (Int32.toNatClampNeg x5)))), .long ((x2 &&& (wk_high (Int32.toNatClampNeg x4))) ||| ((x2 ^^^ (-1 : Int64)) &&& (wk_high (Int32.toNatClampNeg x5))))]) (rest := []) (w2 := (wd_wk a b cI cJ cT wk_low_3 wk_mid_4 wk_high_5 wk_holds)) (tX10_put (a := a) (b := b) N g_6) gX10_putChoice_X10_put rfl ⟨rfl, rfl⟩ ⟨rfl, hdX10_put⟩ ⟨Nat.le_of_ble_eq_true rfl, Nat.le_of_ble_eq_true rfl⟩ rfl rfl [0, 1, 2, 3, 4] [] [0, 1, 2, 3, 4] rfl rfl rfl rfl rfl rfl rfl rfl hl.1 rfl (Nat.le_of_ble_eq_true rfl) ⟨Nat.zero_le _, Nat.zero_le _⟩ dX10_putChoice_71 (fun H locs B => ?_)
  cases h
  exact k_vret C B dX10_putChoice_74
end
theorem tX10_putChoice {l : Launch} {D : va_G} {Es : (Nat → Nat) × (Nat → Nat)} {a b : Nat → Nat} {cI cJ cT : ClassId} {wk_low : Nat → Int64} {wk_mid : Nat → Int64} {wk_high : Nat → Int64} {wk_holds : Nat → Int64} {x1 : Int32} {x2 : Int64} {x4 : Int32} {x5 : Int32} {z_wk_low : Nat → Int64} {z_wk_mid : Nat → Int64} {z_wk_high : Nat → Int64} (N : Nat) (h : fX10_putChoice N x1 x2 x4 x5 wk_low wk_mid wk_high = some (z_wk_low, z_wk_mid, z_wk_high)) : CtV l yX10_putChoice wsX10_putChoice rmX10_putChoice D (tyl cI cJ cT) Es [.ref (a 19), .int x1, .long x2, .int x4, .int x5] (wd_wk a b cI cJ cT wk_low wk_mid wk_high wk_holds) (wd_wk a b cI cJ cT z_wk_low z_wk_mid z_wk_high wk_holds) :=
  CtV.of (own := RX10) (cc := cX10_putChoice) (nL := 6) (ret := none) (by decide +kernel) rfl rfl (Nat.le_of_ble_eq_true rfl) rfl (fun p e s m below meth c A ls C B hl => qX10_putChoice_0 C (N := N) x1 x2 x4 x5 wk_low wk_mid wk_high h _ _ _ B hl)

abbrev rmX10_putAct : Room := { frames := 2, cells := 0, slots := 0, locals := 56 }
theorem hdX10_putAct : yX10_putAct.cls ≠ "java/lang/invoke/MethodHandle" ∧ yX10_putAct.cls ≠ "java/lang/invoke/VarHandle" ∧ (parseMethodDescriptor yX10_putAct.desc).map (fun d => d.parameters.length) = some 4 := by decide +kernel
section
variable {p : Program} {l : Launch} {e : Env} {s : State} {m : MethodId} {args : Array Value} {below : List Frame} {meth : Method} {c : Code} {D : va_G} {A : Nat → Prop} {Es : (Nat → Nat) × (Nat → Nat)} {a b : Nat → Nat} {cI cJ cT : ClassId}
set_option maxHeartbeats 4000000 in
set_option maxRecDepth 100000 in
theorem qX10_putAct_0 (C : CT p s m args meth c RX10 cX10_putAct 5 none wsX10_putAct D A (tyl cI cJ cT) Es) {N : Nat} {wk_holds : Nat → Int64} {z_wk_low : Nat → Int64} {z_wk_mid : Nat → Int64} {z_wk_high : Nat → Int64} : ∀ (x1 : Int32) (x2 : Int32) (x3 : Int32) (x4 : Int32) (wk_low : Nat → Int64) (wk_mid : Nat → Int64) (wk_high : Nat → Int64), fX10_putAct N x1 x2 x3 x4 wk_low wk_mid wk_high = some (z_wk_low, z_wk_mid, z_wk_high) → ∀ (H : Heap) (locs : List Loc) (ls : Array Slot), DB D A (wd_wk a b cI cJ cT wk_low wk_mid wk_high wk_holds) s H locs → lv_has ls 5 [(0, .ref (a 19)), (1, .int x1), (2, .int x2), (3, .int x3), (4, .int x4)] → W p l e rmX10_putAct s m args below meth c H locs 0 0 (ZV below args s D A (tyl cI cJ cT) (wd_wk a b cI cJ cT z_wk_low z_wk_mid z_wk_high wk_holds) 0 0) (F0 m 0 ls []) := by
  have hx := C.1.1
  have hb := C.1.2.1
  have hown := C.1.2.2.2.1
  have hts := C.1.2.2.2.2
  intro x1 x2 x3 x4 wk_low wk_mid wk_high h H locs ls B hl
  rw [fX10_putAct] at h
  refine lv_iload_n hx hb dX10_putAct_0 rfl (lv_at hl 2 rfl) ?_
  by_cases c_1 : x2 = 42
  · rw [if_pos c_1] at h
    refine lv_lookup (off := 65) (tgt := 66) hx hb dX10_putAct_1 (by decide) (by rw [c_1]; try rfl) (by decide) ?_
    refine lv_aload_n hx hb dX10_putAct_66 rfl (lv_at hl 0 rfl) ?_
    refine lv_iload_n hx hb dX10_putAct_67 rfl (lv_at hl 1 rfl) ?_
    refine lv_iload_n hx hb dX10_putAct_68 rfl (lv_at hl 3 rfl) ?_
    refine lv_iload hx hb dX10_putAct_69 (lv_at hl 4 rfl) ?_
    obtain ⟨⟨wk_low_2, wk_mid_3, wk_high_4⟩, g_5, h⟩ := ob_some h
    try dsimp only at h
    refine kc_VV C B (q0 := 0) (ci := 10) (As := [.int x1, .int x3, .int x4]) (rest := []) (w2 := (wd_wk a b cI cJ cT wk_low_2 wk_mid_3 wk_high_4 wk_holds)) (tX10_putProduct (a := a) (b := b) N g_5) gX10_putAct_X10_putProduct rfl ⟨rfl, rfl⟩ ⟨rfl, hdX10_putProduct⟩ ⟨Nat.le_of_ble_eq_true rfl, Nat.le_of_ble_eq_true rfl⟩ rfl rfl [0, 1, 2, 3, 4] [] [0, 1, 2, 3, 4] rfl rfl rfl rfl rfl rfl rfl rfl hl.1 rfl (Nat.le_of_ble_eq_true rfl) ⟨Nat.zero_le _, Nat.zero_le _⟩ dX10_putAct_71 (fun H locs B => ?_)
    refine lv_goto (tgt := 110) hx hb dX10_putAct_74 (by decide) ?_
    cases h
    exact k_vret C B dX10_putAct_110
  · rw [if_neg c_1] at h
    by_cases c_6 : x2 = 43
    · rw [if_pos c_6] at h
      refine lv_lookup (off := 43) (tgt := 44) hx hb dX10_putAct_1 (by decide) (by rw [c_6]; try rfl) (by decide) ?_
      refine lv_aload_n hx hb dX10_putAct_44 rfl (lv_at hl 0 rfl) ?_
      refine lv_iload_n hx hb dX10_putAct_45 rfl (lv_at hl 1 rfl) ?_
      refine lv_iload_n hx hb dX10_putAct_46 rfl (lv_at hl 3 rfl) ?_
      refine lv_iload hx hb dX10_putAct_47 (lv_at hl 4 rfl) ?_
      obtain ⟨⟨wk_low_7, wk_mid_8, wk_high_9⟩, g_10, h⟩ := ob_some h
      try dsimp only at h
      refine kc_VV C B (q0 := 0) (ci := 10) (As := [.int x1, .int x3, .int x4]) (rest := []) (w2 := (wd_wk a b cI cJ cT wk_low_7 wk_mid_8 wk_high_9 wk_holds)) (tX10_putSum (a := a) (b := b) N g_10) gX10_putAct_X10_putSum rfl ⟨rfl, rfl⟩ ⟨rfl, hdX10_putSum⟩ ⟨Nat.le_of_ble_eq_true rfl, Nat.le_of_ble_eq_true rfl⟩ rfl rfl [0, 1, 2, 3, 4] [] [0, 1, 2, 3, 4] rfl rfl rfl rfl rfl rfl rfl rfl hl.1 rfl (Nat.le_of_ble_eq_true rfl) ⟨Nat.zero_le _, Nat.zero_le _⟩ dX10_putAct_49 (fun H locs B => ?_)
      refine lv_goto (tgt := 110) hx hb dX10_putAct_52 (by decide) ?_
      cases h
      exact k_vret C B dX10_putAct_110
    · rw [if_neg c_6] at h
      by_cases c_11 : x2 = 45
      · rw [if_pos c_11] at h
        refine lv_lookup (off := 54) (tgt := 55) hx hb dX10_putAct_1 (by decide) (by rw [c_11]; try rfl) (by decide) ?_
        refine lv_aload_n hx hb dX10_putAct_55 rfl (lv_at hl 0 rfl) ?_
        refine lv_iload_n hx hb dX10_putAct_56 rfl (lv_at hl 1 rfl) ?_
        refine lv_iload_n hx hb dX10_putAct_57 rfl (lv_at hl 3 rfl) ?_
        refine lv_iload hx hb dX10_putAct_58 (lv_at hl 4 rfl) ?_
        obtain ⟨⟨wk_low_12, wk_mid_13, wk_high_14⟩, g_15, h⟩ := ob_some h
        try dsimp only at h
        refine kc_VV C B (q0 := 0) (ci := 10) (As := [.int x1, .int x3, .int x4]) (rest := []) (w2 := (wd_wk a b cI cJ cT wk_low_12 wk_mid_13 wk_high_14 wk_holds)) (tX10_putDifference (a := a) (b := b) N g_15) gX10_putAct_X10_putDifference rfl ⟨rfl, rfl⟩ ⟨rfl, hdX10_putDifference⟩ ⟨Nat.le_of_ble_eq_true rfl, Nat.le_of_ble_eq_true rfl⟩ rfl rfl [0, 1, 2, 3, 4] [] [0, 1, 2, 3, 4] rfl rfl rfl rfl rfl rfl rfl rfl hl.1 rfl (Nat.le_of_ble_eq_true rfl) ⟨Nat.zero_le _, Nat.zero_le _⟩ dX10_putAct_60 (fun H locs B => ?_)
        refine lv_goto (tgt := 110) hx hb dX10_putAct_63 (by decide) ?_
        cases h
        exact k_vret C B dX10_putAct_110
      · rw [if_neg c_11] at h
        by_cases c_16 : x2 = 109
        · rw [if_pos c_16] at h
          refine lv_lookup (off := 76) (tgt := 77) hx hb dX10_putAct_1 (by decide) (by rw [c_16]; try rfl) (by decide) ?_
          refine lv_aload_n hx hb dX10_putAct_77 rfl (lv_at hl 0 rfl) ?_
          refine lv_iload_n hx hb dX10_putAct_78 rfl (lv_at hl 1 rfl) ?_
          refine lv_aload_n hx hb dX10_putAct_79 rfl (lv_at hl 0 rfl) ?_
          refine lv_iload_n hx hb dX10_putAct_80 rfl (lv_at hl 3 rfl) ?_
          refine lv_iload hx hb dX10_putAct_81 (lv_at hl 4 rfl) ?_
          obtain ⟨r_17, g_22, h⟩ := ob_some h
          try dsimp only at h
          refine kc_VL C B (q0 := 0) (ci := 10) (As := [.int x3, .int x4]) (rest := [.int x1, .ref (a 19)]) (w2 := (wd_wk a b cI cJ cT wk_low wk_mid wk_high wk_holds)) (tX10_below (a := a) (b := b) N g_22) gX10_putAct_X10_below rfl ⟨rfl, rfl⟩ ⟨rfl, hdX10_below⟩ ⟨Nat.le_of_ble_eq_true rfl, Nat.le_of_ble_eq_true rfl⟩ rfl rfl [0, 1, 2, 3, 4] [] [0, 1, 2, 3, 4] rfl rfl rfl rfl rfl rfl rfl rfl hl.1 rfl (Nat.le_of_ble_eq_true rfl) ⟨Nat.zero_le _, Nat.zero_le _⟩ dX10_putAct_83 (fun H locs B => ?_)
          refine lv_iload_n hx hb dX10_putAct_86 rfl (lv_at hl 3 rfl) ?_
          refine lv_iload hx hb dX10_putAct_87 (lv_at hl 4 rfl) ?_
          obtain ⟨⟨wk_low_18, wk_mid_19, wk_high_20⟩, g_21, h⟩ := ob_some h
          try dsimp only at h
          refine kc_VV C B (q0 := 0) (ci := 10) (As := [.int x1, .long r_17, .int x3, .int x4]) (rest := []) (w2 := (wd_wk a b cI cJ cT wk_low_18 wk_mid_19 wk_high_20 wk_holds)) (tX10_putChoice (a := a) (b := b) N g_21) gX10_putAct_X10_putChoice rfl ⟨rfl, rfl⟩ ⟨rfl, hdX10_putChoice⟩ ⟨Nat.le_of_ble_eq_true rfl, Nat.le_of_ble_eq_true rfl⟩ rfl rfl [0, 1, 2, 3, 4] [] [0, 1, 2, 3, 4] rfl rfl rfl rfl rfl rfl rfl rfl hl.1 rfl (Nat.le_of_ble_eq_true rfl) ⟨Nat.zero_le _, Nat.zero_le _⟩ dX10_putAct_89 (fun H locs B => ?_)
          refine lv_goto (tgt := 110) hx hb dX10_putAct_92 (by decide) ?_
          cases h
          exact k_vret C B dX10_putAct_110
        · rw [if_neg c_16] at h
          refine lv_lookup (off := 94) (tgt := 95) hx hb dX10_putAct_1 (by decide) ((lv_osw c_1 (k := 42) rfl).trans ((lv_osw c_6 (k := 43) rfl).trans ((lv_osw c_11 (k := 45) rfl).trans ((lv_osw c_16 (k := 109) rfl).trans rfl)))) (by decide) ?_
          refine lv_aload_n hx hb dX10_putAct_95 rfl (lv_at hl 0 rfl) ?_
          refine lv_iload_n hx hb dX10_putAct_96 rfl (lv_at hl 1 rfl) ?_
          refine lv_aload_n hx hb dX10_putAct_97 rfl (lv_at hl 0 rfl) ?_
          refine lv_iload_n hx hb dX10_putAct_98 rfl (lv_at hl 3 rfl) ?_
          refine lv_iload hx hb dX10_putAct_99 (lv_at hl 4 rfl) ?_
          obtain ⟨r_23, g_28, h⟩ := ob_some h
          try dsimp only at h
          refine kc_VL C B (q0 := 0) (ci := 10) (As := [.int x3, .int x4]) (rest := [.int x1, .ref (a 19)]) (w2 := (wd_wk a b cI cJ cT wk_low wk_mid wk_high wk_holds)) (tX10_below (a := a) (b := b) N g_28) gX10_putAct_X10_below rfl ⟨rfl, rfl⟩ ⟨rfl, hdX10_below⟩ ⟨Nat.le_of_ble_eq_true rfl, Nat.le_of_ble_eq_true rfl⟩ rfl rfl [0, 1, 2, 3, 4] [] [0, 1, 2, 3, 4] rfl rfl rfl rfl rfl rfl rfl rfl hl.1 rfl (Nat.le_of_ble_eq_true rfl) ⟨Nat.zero_le _, Nat.zero_le _⟩ dX10_putAct_101 (fun H locs B => ?_)
          refine lv_iload hx hb dX10_putAct_104 (lv_at hl 4 rfl) ?_
          refine lv_iload_n hx hb dX10_putAct_106 rfl (lv_at hl 3 rfl) ?_
          obtain ⟨⟨wk_low_24, wk_mid_25, wk_high_26⟩, g_27, h⟩ := ob_some h
          try dsimp only at h
          refine kc_VV C B (q0 := 0) (ci := 10) (As := [.int x1, .long r_23, .int x4, .int x3]) (rest := []) (w2 := (wd_wk a b cI cJ cT wk_low_24 wk_mid_25 wk_high_26 wk_holds)) (tX10_putChoice (a := a) (b := b) N g_27) gX10_putAct_X10_putChoice rfl ⟨rfl, rfl⟩ ⟨rfl, hdX10_putChoice⟩ ⟨Nat.le_of_ble_eq_true rfl, Nat.le_of_ble_eq_true rfl⟩ rfl rfl [0, 1, 2, 3, 4] [] [0, 1, 2, 3, 4] rfl rfl rfl rfl rfl rfl rfl rfl hl.1 rfl (Nat.le_of_ble_eq_true rfl) ⟨Nat.zero_le _, Nat.zero_le _⟩ dX10_putAct_107 (fun H locs B => ?_)
          cases h
          exact k_vret C B dX10_putAct_110
end
theorem tX10_putAct {l : Launch} {D : va_G} {Es : (Nat → Nat) × (Nat → Nat)} {a b : Nat → Nat} {cI cJ cT : ClassId} {wk_low : Nat → Int64} {wk_mid : Nat → Int64} {wk_high : Nat → Int64} {wk_holds : Nat → Int64} {x1 : Int32} {x2 : Int32} {x3 : Int32} {x4 : Int32} {z_wk_low : Nat → Int64} {z_wk_mid : Nat → Int64} {z_wk_high : Nat → Int64} (N : Nat) (h : fX10_putAct N x1 x2 x3 x4 wk_low wk_mid wk_high = some (z_wk_low, z_wk_mid, z_wk_high)) : CtV l yX10_putAct wsX10_putAct rmX10_putAct D (tyl cI cJ cT) Es [.ref (a 19), .int x1, .int x2, .int x3, .int x4] (wd_wk a b cI cJ cT wk_low wk_mid wk_high wk_holds) (wd_wk a b cI cJ cT z_wk_low z_wk_mid z_wk_high wk_holds) :=
  CtV.of (own := RX10) (cc := cX10_putAct) (nL := 5) (ret := none) (by decide +kernel) rfl rfl (Nat.le_of_ble_eq_true rfl) rfl (fun p e s m below meth c A ls C B hl => qX10_putAct_0 C (N := N) x1 x2 x3 x4 wk_low wk_mid wk_high h _ _ _ B hl)

abbrev rmX10_same : Room := { frames := 0, cells := 0, slots := 0, locals := 0 }
theorem hdX10_same : yX10_same.cls ≠ "java/lang/invoke/MethodHandle" ∧ yX10_same.cls ≠ "java/lang/invoke/VarHandle" ∧ (parseMethodDescriptor yX10_same.desc).map (fun d => d.parameters.length) = some 2 := by decide +kernel
theorem iX10_same_X10 : ∀ w ∈ wsX100, w ∈ wsX10_same := by decide +kernel
theorem gfX10_same_9 {p : Program} {l : Launch} {e : Env} {R : Room} {s : State} {m : MethodId} {args : Array Value} {below : List Frame} {meth : Method} {c : Code} {H : Heap} {locs : List Loc} {cells slots : Nat} {Q : State → Prop} {D : va_G} {A : Nat → Prop} {tys : List (ClassId × FieldType)} {Es : (Nat → Nat) × (Nat → Nat)} {ws : va_W} {pc : Nat} {ls : Array Slot} {rest : List Value} {a : Nat} (C : CT p s m args meth c RX10 cX10_same 3 (some .long) wsX10_same D A tys Es) (B : DB D A ws s H locs) (q0 : Nat) {fs : List Value} {v : Value} (he : ws[q0]? = some (a, .inr (10, fs))) (hv : fs[0]? = some v) (hdg : decode cX10_same pc = .ok (.getfield 9, 3)) (kk : W p l e R s m args below meth c H locs cells slots Q (F0 m (pc + 3) ls (v :: rest))) : W p l e R s m args below meth c H locs cells slots Q (F0 m pc ls (.ref a :: rest)) :=
  k_get (Cn := RX10) (T := TX10) (N := 4) (index := 9) C B iX10_same_X10 rfl 0 (by decide) (by decide +kernel) q0 he hv hdg kk
theorem gfX10_same_15 {p : Program} {l : Launch} {e : Env} {R : Room} {s : State} {m : MethodId} {args : Array Value} {below : List Frame} {meth : Method} {c : Code} {H : Heap} {locs : List Loc} {cells slots : Nat} {Q : State → Prop} {D : va_G} {A : Nat → Prop} {tys : List (ClassId × FieldType)} {Es : (Nat → Nat) × (Nat → Nat)} {ws : va_W} {pc : Nat} {ls : Array Slot} {rest : List Value} {a : Nat} (C : CT p s m args meth c RX10 cX10_same 3 (some .long) wsX10_same D A tys Es) (B : DB D A ws s H locs) (q0 : Nat) {fs : List Value} {v : Value} (he : ws[q0]? = some (a, .inr (10, fs))) (hv : fs[1]? = some v) (hdg : decode cX10_same pc = .ok (.getfield 15, 3)) (kk : W p l e R s m args below meth c H locs cells slots Q (F0 m (pc + 3) ls (v :: rest))) : W p l e R s m args below meth c H locs cells slots Q (F0 m pc ls (.ref a :: rest)) :=
  k_get (Cn := RX10) (T := TX10) (N := 4) (index := 15) C B iX10_same_X10 rfl 1 (by decide) (by decide +kernel) q0 he hv hdg kk
theorem gfX10_same_18 {p : Program} {l : Launch} {e : Env} {R : Room} {s : State} {m : MethodId} {args : Array Value} {below : List Frame} {meth : Method} {c : Code} {H : Heap} {locs : List Loc} {cells slots : Nat} {Q : State → Prop} {D : va_G} {A : Nat → Prop} {tys : List (ClassId × FieldType)} {Es : (Nat → Nat) × (Nat → Nat)} {ws : va_W} {pc : Nat} {ls : Array Slot} {rest : List Value} {a : Nat} (C : CT p s m args meth c RX10 cX10_same 3 (some .long) wsX10_same D A tys Es) (B : DB D A ws s H locs) (q0 : Nat) {fs : List Value} {v : Value} (he : ws[q0]? = some (a, .inr (10, fs))) (hv : fs[2]? = some v) (hdg : decode cX10_same pc = .ok (.getfield 18, 3)) (kk : W p l e R s m args below meth c H locs cells slots Q (F0 m (pc + 3) ls (v :: rest))) : W p l e R s m args below meth c H locs cells slots Q (F0 m pc ls (.ref a :: rest)) :=
  k_get (Cn := RX10) (T := TX10) (N := 4) (index := 18) C B iX10_same_X10 rfl 2 (by decide) (by decide +kernel) q0 he hv hdg kk
theorem mX10_same_l93 : (Cond.constantLong RX10 93 (-1)) ∈ wsX10_same := by decide +kernel
section
variable {p : Program} {l : Launch} {e : Env} {s : State} {m : MethodId} {args : Array Value} {below : List Frame} {meth : Method} {c : Code} {D : va_G} {A : Nat → Prop} {Es : (Nat → Nat) × (Nat → Nat)} {a b : Nat → Nat} {cI cJ cT : ClassId}
set_option maxHeartbeats 4000000 in
set_option maxRecDepth 100000 in
theorem qX10_same_0 (C : CT p s m args meth c RX10 cX10_same 3 (some .long) wsX10_same D A (tyl cI cJ cT) Es) {N : Nat} {wk_low : Nat → Int64} {wk_mid : Nat → Int64} {wk_high : Nat → Int64} {wk_holds : Nat → Int64} {z_r : Int64} : ∀ (x1 : Int32) (x2 : Int32), fX10_same N wk_low wk_mid wk_high x1 x2 = some z_r → ∀ (H : Heap) (locs : List Loc) (ls : Array Slot), DB D A (wd_wk a b cI cJ cT wk_low wk_mid wk_high wk_holds) s H locs → lv_has ls 3 [(0, .ref (a 19)), (1, .int x1), (2, .int x2)] → W p l e rmX10_same s m args below meth c H locs 0 0 (ZL below args s D A (tyl cI cJ cT) z_r (wd_wk a b cI cJ cT wk_low wk_mid wk_high wk_holds) 0 0) (F0 m 0 ls []) := by
  have hx := C.1.1
  have hb := C.1.2.1
  have hown := C.1.2.2.2.1
  have hts := C.1.2.2.2.2
  intro x1 x2 h H locs ls B hl
  rw [fX10_same] at h
  refine lv_aload_n hx hb dX10_same_0 rfl (lv_at hl 0 rfl) ?_
  refine gfX10_same_9 C B 0 rfl rfl dX10_same_1 ?_
  refine lv_iload_n hx hb dX10_same_4 rfl (lv_at hl 1 rfl) ?_
  obtain ⟨b_1, h⟩ := bnd_some h
  refine k_lald C B 1 1 rfl rfl b_1 dX10_same_5 ?_
  refine lv_aload_n hx hb dX10_same_6 rfl (lv_at hl 0 rfl) ?_
  refine gfX10_same_9 C B 0 rfl rfl dX10_same_7 ?_
  refine lv_iload_n hx hb dX10_same_10 rfl (lv_at hl 2 rfl) ?_
  obtain ⟨b_2, h⟩ := bnd_some h
  refine k_lald C B 1 1 rfl rfl b_2 dX10_same_11 ?_
  refine lv_lxor hx hb dX10_same_12 ?_
  refine lv_aload_n hx hb dX10_same_13 rfl (lv_at hl 0 rfl) ?_
  refine gfX10_same_15 C B 0 rfl rfl dX10_same_14 ?_
  refine lv_iload_n hx hb dX10_same_17 rfl (lv_at hl 1 rfl) ?_
  refine k_lald C B 2 1 rfl rfl b_1 dX10_same_18 ?_
  refine lv_aload_n hx hb dX10_same_19 rfl (lv_at hl 0 rfl) ?_
  refine gfX10_same_15 C B 0 rfl rfl dX10_same_20 ?_
  refine lv_iload_n hx hb dX10_same_23 rfl (lv_at hl 2 rfl) ?_
  refine k_lald C B 2 1 rfl rfl b_2 dX10_same_24 ?_
  refine lv_lxor hx hb dX10_same_25 ?_
  refine lv_lor hx hb dX10_same_26 ?_
  refine lv_aload_n hx hb dX10_same_27 rfl (lv_at hl 0 rfl) ?_
  refine gfX10_same_18 C B 0 rfl rfl dX10_same_28 ?_
  refine lv_iload_n hx hb dX10_same_31 rfl (lv_at hl 1 rfl) ?_
  refine k_lald C B 3 1 rfl rfl b_1 dX10_same_32 ?_
  refine lv_aload_n hx hb dX10_same_33 rfl (lv_at hl 0 rfl) ?_
  refine gfX10_same_18 C B 0 rfl rfl dX10_same_34 ?_
  refine lv_iload_n hx hb dX10_same_37 rfl (lv_at hl 2 rfl) ?_
  refine k_lald C B 3 1 rfl rfl b_2 dX10_same_38 ?_
  refine lv_lxor hx hb dX10_same_39 ?_
  refine lv_lor hx hb dX10_same_40 ?_
  refine lv_ldc2 (v := -1) hx hb hown (hts _ mX10_same_l93) dX10_same_41 ?_
  refine lv_lxor hx hb dX10_same_44 ?_
  cases h
  exact k_lret C B dX10_same_45
end
theorem tX10_same {l : Launch} {D : va_G} {Es : (Nat → Nat) × (Nat → Nat)} {a b : Nat → Nat} {cI cJ cT : ClassId} {wk_low : Nat → Int64} {wk_mid : Nat → Int64} {wk_high : Nat → Int64} {wk_holds : Nat → Int64} {x1 : Int32} {x2 : Int32} {z_r : Int64} (N : Nat) (h : fX10_same N wk_low wk_mid wk_high x1 x2 = some z_r) : CtL l yX10_same wsX10_same rmX10_same D (tyl cI cJ cT) Es [.ref (a 19), .int x1, .int x2] (wd_wk a b cI cJ cT wk_low wk_mid wk_high wk_holds) z_r (wd_wk a b cI cJ cT wk_low wk_mid wk_high wk_holds) :=
  CtL.of (own := RX10) (cc := cX10_same) (nL := 3) (ret := (some .long)) (by decide +kernel) rfl rfl (Nat.le_of_ble_eq_true rfl) rfl (fun p e s m below meth c A ls C B hl => qX10_same_0 C (N := N) x1 x2 h _ _ _ B hl)

abbrev rmX10_putRel : Room := { frames := 2, cells := 0, slots := 0, locals := 52 }
theorem hdX10_putRel : yX10_putRel.cls ≠ "java/lang/invoke/MethodHandle" ∧ yX10_putRel.cls ≠ "java/lang/invoke/VarHandle" ∧ (parseMethodDescriptor yX10_putRel.desc).map (fun d => d.parameters.length) = some 3 := by decide +kernel
theorem iX10_putRel_X10 : ∀ w ∈ wsX100, w ∈ wsX10_putRel := by decide +kernel
theorem gfX10_putRel_21 {p : Program} {l : Launch} {e : Env} {R : Room} {s : State} {m : MethodId} {args : Array Value} {below : List Frame} {meth : Method} {c : Code} {H : Heap} {locs : List Loc} {cells slots : Nat} {Q : State → Prop} {D : va_G} {A : Nat → Prop} {tys : List (ClassId × FieldType)} {Es : (Nat → Nat) × (Nat → Nat)} {ws : va_W} {pc : Nat} {ls : Array Slot} {rest : List Value} {a : Nat} (C : CT p s m args meth c RX10 cX10_putRel 6 none wsX10_putRel D A tys Es) (B : DB D A ws s H locs) (q0 : Nat) {fs : List Value} {v : Value} (he : ws[q0]? = some (a, .inr (10, fs))) (hv : fs[3]? = some v) (hdg : decode cX10_putRel pc = .ok (.getfield 21, 3)) (kk : W p l e R s m args below meth c H locs cells slots Q (F0 m (pc + 3) ls (v :: rest))) : W p l e R s m args below meth c H locs cells slots Q (F0 m pc ls (.ref a :: rest)) :=
  k_get (Cn := RX10) (T := TX10) (N := 4) (index := 21) C B iX10_putRel_X10 rfl 3 (by decide) (by decide +kernel) q0 he hv hdg kk
section
variable {p : Program} {l : Launch} {e : Env} {s : State} {m : MethodId} {args : Array Value} {below : List Frame} {meth : Method} {c : Code} {D : va_G} {A : Nat → Prop} {Es : (Nat → Nat) × (Nat → Nat)} {a b : Nat → Nat} {cI cJ cT : ClassId}
set_option maxHeartbeats 4000000 in
set_option maxRecDepth 100000 in
theorem qX10_putRel_63 (C : CT p s m args meth c RX10 cX10_putRel 6 none wsX10_putRel D A (tyl cI cJ cT) Es) {N : Nat} {tx_signs : Nat → Int32} {tx_wanted : Nat → Int32} {tx_owners : Nat → Int32} {tx_places : Nat → Int32} {tx_spans : Nat → Int32} {tx_partNodes : Nat → Int32} {tx_count : Int32} {z_wk_low : Nat → Int64} {z_wk_mid : Nat → Int64} {z_wk_high : Nat → Int64} {z_wk_holds : Nat → Int64} : ∀ (x2 : Int32) (y1 : Int32) (y2 : Int64) (wk_low : Nat → Int64) (wk_mid : Nat → Int64) (wk_high : Nat → Int64) (wk_holds : Nat → Int64), bX10_putRel_63 N tx_partNodes x2 y1 y2 wk_low wk_mid wk_high wk_holds = some (z_wk_low, z_wk_mid, z_wk_high, z_wk_holds) → ∀ (H : Heap) (locs : List Loc) (ls : Array Slot), DB D A (wd_tx_wk a b cI cJ cT tx_signs tx_wanted tx_owners tx_places tx_spans tx_partNodes tx_count wk_low wk_mid wk_high wk_holds) s H locs → lv_has ls 6 [(0, .ref (a 19)), (1, .ref (b 0)), (2, .int x2)] → W p l e rmX10_putRel s m args below meth c H locs 0 0 (ZV below args s D A (tyl cI cJ cT) (wd_tx_wk a b cI cJ cT tx_signs tx_wanted tx_owners tx_places tx_spans tx_partNodes tx_count z_wk_low z_wk_mid z_wk_high z_wk_holds) 0 0) (F0 m 63 ls [.long y2, .int y1, .ref (a 23)]) := by
  have hx := C.1.1
  have hb := C.1.2.1
  have hown := C.1.2.2.2.1
  have hts := C.1.2.2.2.2
  intro x2 y1 y2 wk_low wk_mid wk_high wk_holds h H locs ls B hl
  rw [bX10_putRel_63] at h
  obtain ⟨b_1, h⟩ := bnd_some h
  refine k_last C B 11 1 rfl rfl b_1 dX10_putRel_63 (fun H locs B => ?_)
  have B : DB D A (wd_tx_wk a b cI cJ cT tx_signs tx_wanted tx_owners tx_places tx_spans tx_partNodes tx_count wk_low wk_mid wk_high (vp_updL wk_holds (Int32.toNatClampNeg y1) y2)) s H locs := B
  refine lv_aload_n hx hb dX10_putRel_64 rfl (lv_at hl 0 rfl) ?_
  refine lv_iload_n hx hb dX10_putRel_65 rfl (lv_at hl 2 rfl) ?_
  refine lv_aload_n hx hb dX10_putRel_66 rfl (lv_at hl 0 rfl) ?_
  refine gfX10_putRel_21 C B 7 rfl rfl dX10_putRel_67 ?_
  refine lv_iload_n hx hb dX10_putRel_70 rfl (lv_at hl 2 rfl) ?_
  obtain ⟨b_2, h⟩ := bnd_some h
  refine k_lald C B 11 1 rfl rfl b_2 dX10_putRel_71 ?_
  refine lv_aload_n hx hb dX10_putRel_72 rfl (lv_at hl 1 rfl) ?_
  refine lv_iload_n hx hb dX10_putRel_73 rfl (lv_at hl 2 rfl) ?_
  refine lv_iconst (v := 2) hx hb dX10_putRel_74 (by decide) ?_
  obtain ⟨r_3, g_10, h⟩ := ob_some h
  try dsimp only at h
  refine kc_VI C B (q0 := 0) (ci := 9) (As := [.int x2, .int (2 : Int32)]) (rest := [.long ((vp_updL wk_holds (Int32.toNatClampNeg y1) y2) (Int32.toNatClampNeg x2)), .int x2, .ref (a 19)]) (w2 := (wd_tx_wk a b cI cJ cT tx_signs tx_wanted tx_owners tx_places tx_spans tx_partNodes tx_count wk_low wk_mid wk_high (vp_updL wk_holds (Int32.toNatClampNeg y1) y2))) (tX9_partOf (a := a) (b := b) N g_10) gX10_putRel_X9_partOf rfl ⟨rfl, rfl⟩ ⟨rfl, hdX9_partOf⟩ ⟨Nat.le_of_ble_eq_true rfl, Nat.le_of_ble_eq_true rfl⟩ rfl rfl [0, 1, 2, 3, 4, 5, 6] [7, 8, 9, 10, 11] [5, 6, 7, 8, 9, 10, 11, 0, 1, 2, 3, 4] rfl rfl rfl rfl rfl rfl rfl rfl hl.1 rfl (Nat.le_of_ble_eq_true rfl) ⟨Nat.zero_le _, Nat.zero_le _⟩ dX10_putRel_75 (fun H locs B => ?_)
  refine lv_aload_n hx hb dX10_putRel_78 rfl (lv_at hl 1 rfl) ?_
  refine lv_iload_n hx hb dX10_putRel_79 rfl (lv_at hl 2 rfl) ?_
  refine lv_iconst (v := 3) hx hb dX10_putRel_80 (by decide) ?_
  obtain ⟨r_4, g_9, h⟩ := ob_some h
  try dsimp only at h
  refine kc_VI C B (q0 := 0) (ci := 9) (As := [.int x2, .int (3 : Int32)]) (rest := [.int r_3, .long ((vp_updL wk_holds (Int32.toNatClampNeg y1) y2) (Int32.toNatClampNeg x2)), .int x2, .ref (a 19)]) (w2 := (wd_tx_wk a b cI cJ cT tx_signs tx_wanted tx_owners tx_places tx_spans tx_partNodes tx_count wk_low wk_mid wk_high (vp_updL wk_holds (Int32.toNatClampNeg y1) y2))) (tX9_partOf (a := a) (b := b) N g_9) gX10_putRel_X9_partOf rfl ⟨rfl, rfl⟩ ⟨rfl, hdX9_partOf⟩ ⟨Nat.le_of_ble_eq_true rfl, Nat.le_of_ble_eq_true rfl⟩ rfl rfl [0, 1, 2, 3, 4, 5, 6] [7, 8, 9, 10, 11] [5, 6, 7, 8, 9, 10, 11, 0, 1, 2, 3, 4] rfl rfl rfl rfl rfl rfl rfl rfl hl.1 rfl (Nat.le_of_ble_eq_true rfl) ⟨Nat.zero_le _, Nat.zero_le _⟩ dX10_putRel_81 (fun H locs B => ?_)
  obtain ⟨⟨wk_low_5, wk_mid_6, wk_high_7⟩, g_8, h⟩ := ob_some h
  try dsimp only at h
  refine kc_VV C B (q0 := 0) (ci := 10) (As := [.int x2, .long ((vp_updL wk_holds (Int32.toNatClampNeg y1) y2) (Int32.toNatClampNeg x2)), .int r_3, .int r_4]) (rest := []) (w2 := (wd_tx_wk a b cI cJ cT tx_signs tx_wanted tx_owners tx_places tx_spans tx_partNodes tx_count wk_low_5 wk_mid_6 wk_high_7 (vp_updL wk_holds (Int32.toNatClampNeg y1) y2))) (tX10_putChoice (a := a) (b := b) N g_8) gX10_putRel_X10_putChoice rfl ⟨rfl, rfl⟩ ⟨rfl, hdX10_putChoice⟩ ⟨Nat.le_of_ble_eq_true rfl, Nat.le_of_ble_eq_true rfl⟩ rfl rfl [7, 8, 9, 10, 11] [0, 1, 2, 3, 4, 5, 6] [0, 1, 2, 3, 4, 5, 6, 7, 8, 9, 10, 11] rfl rfl rfl rfl rfl rfl rfl rfl hl.1 rfl (Nat.le_of_ble_eq_true rfl) ⟨Nat.zero_le _, Nat.zero_le _⟩ dX10_putRel_84 (fun H locs B => ?_)
  cases h
  exact k_vret C B dX10_putRel_87
set_option maxHeartbeats 4000000 in
set_option maxRecDepth 100000 in
theorem qX10_putRel_0 (C : CT p s m args meth c RX10 cX10_putRel 6 none wsX10_putRel D A (tyl cI cJ cT) Es) {N : Nat} {tx_signs : Nat → Int32} {tx_wanted : Nat → Int32} {tx_owners : Nat → Int32} {tx_places : Nat → Int32} {tx_spans : Nat → Int32} {tx_partNodes : Nat → Int32} {tx_count : Int32} {z_wk_low : Nat → Int64} {z_wk_mid : Nat → Int64} {z_wk_high : Nat → Int64} {z_wk_holds : Nat → Int64} : ∀ (x2 : Int32) (x3 : Int32) (wk_low : Nat → Int64) (wk_mid : Nat → Int64) (wk_high : Nat → Int64) (wk_holds : Nat → Int64), fX10_putRel N tx_partNodes x2 x3 wk_low wk_mid wk_high wk_holds = some (z_wk_low, z_wk_mid, z_wk_high, z_wk_holds) → ∀ (H : Heap) (locs : List Loc) (ls : Array Slot), DB D A (wd_tx_wk a b cI cJ cT tx_signs tx_wanted tx_owners tx_places tx_spans tx_partNodes tx_count wk_low wk_mid wk_high wk_holds) s H locs → lv_has ls 6 [(0, .ref (a 19)), (1, .ref (b 0)), (2, .int x2), (3, .int x3)] → W p l e rmX10_putRel s m args below meth c H locs 0 0 (ZV below args s D A (tyl cI cJ cT) (wd_tx_wk a b cI cJ cT tx_signs tx_wanted tx_owners tx_places tx_spans tx_partNodes tx_count z_wk_low z_wk_mid z_wk_high z_wk_holds) 0 0) (F0 m 0 ls []) := by
  have hx := C.1.1
  have hb := C.1.2.1
  have hown := C.1.2.2.2.1
  have hts := C.1.2.2.2.2
  intro x2 x3 wk_low wk_mid wk_high wk_holds h H locs ls B hl
  rw [fX10_putRel] at h
  refine lv_aload_n hx hb dX10_putRel_0 rfl (lv_at hl 1 rfl) ?_
  refine lv_iload_n hx hb dX10_putRel_1 rfl (lv_at hl 2 rfl) ?_
  refine lv_iconst (v := 0) hx hb dX10_putRel_2 (by decide) ?_
  obtain ⟨r_1, g_12, h⟩ := ob_some h
  try dsimp only at h
  refine kc_VI C B (q0 := 0) (ci := 9) (As := [.int x2, .int (0 : Int32)]) (rest := []) (w2 := (wd_tx_wk a b cI cJ cT tx_signs tx_wanted tx_owners tx_places tx_spans tx_partNodes tx_count wk_low wk_mid wk_high wk_holds)) (tX9_partOf (a := a) (b := b) N g_12) gX10_putRel_X9_partOf rfl ⟨rfl, rfl⟩ ⟨rfl, hdX9_partOf⟩ ⟨Nat.le_of_ble_eq_true rfl, Nat.le_of_ble_eq_true rfl⟩ rfl rfl [0, 1, 2, 3, 4, 5, 6] [7, 8, 9, 10, 11] [5, 6, 7, 8, 9, 10, 11, 0, 1, 2, 3, 4] rfl rfl rfl rfl rfl rfl rfl rfl hl.1 rfl (Nat.le_of_ble_eq_true rfl) ⟨Nat.zero_le _, Nat.zero_le _⟩ dX10_putRel_3 (fun H locs B => ?_)
  refine lv_istore (lv' := [(4, .int r_1), (0, .ref (a 19)), (1, .ref (b 0)), (2, .int x2), (3, .int x3)]) hx hb dX10_putRel_6 hl (by decide) rfl (fun ls hl => ?_)
  refine lv_aload_n hx hb dX10_putRel_8 rfl (lv_at hl 2 rfl) ?_
  refine lv_iload_n hx hb dX10_putRel_9 rfl (lv_at hl 3 rfl) ?_
  refine lv_iconst (v := 1) hx hb dX10_putRel_10 (by decide) ?_
  obtain ⟨r_2, g_11, h⟩ := ob_some h
  try dsimp only at h
  refine kc_VI C B (q0 := 0) (ci := 9) (As := [.int x2, .int (1 : Int32)]) (rest := []) (w2 := (wd_tx_wk a b cI cJ cT tx_signs tx_wanted tx_owners tx_places tx_spans tx_partNodes tx_count wk_low wk_mid wk_high wk_holds)) (tX9_partOf (a := a) (b := b) N g_11) gX10_putRel_X9_partOf rfl ⟨rfl, rfl⟩ ⟨rfl, hdX9_partOf⟩ ⟨Nat.le_of_ble_eq_true rfl, Nat.le_of_ble_eq_true rfl⟩ rfl rfl [0, 1, 2, 3, 4, 5, 6] [7, 8, 9, 10, 11] [5, 6, 7, 8, 9, 10, 11, 0, 1, 2, 3, 4] rfl rfl rfl rfl rfl rfl rfl rfl hl.1 rfl (Nat.le_of_ble_eq_true rfl) ⟨Nat.zero_le _, Nat.zero_le _⟩ dX10_putRel_11 (fun H locs B => ?_)
  refine lv_istore (lv' := [(5, .int r_2), (4, .int r_1), (0, .ref (a 19)), (1, .ref (b 0)), (2, .int x2), (3, .int x3)]) hx hb dX10_putRel_14 hl (by decide) rfl (fun ls hl => ?_)
  refine lv_aload_n hx hb dX10_putRel_16 rfl (lv_at hl 2 rfl) ?_
  refine gfX10_putRel_21 C B 7 rfl rfl dX10_putRel_17 ?_
  refine lv_iload_n hx hb dX10_putRel_20 rfl (lv_at hl 4 rfl) ?_
  refine lv_iload_n hx hb dX10_putRel_21 rfl (lv_at hl 5 rfl) ?_
  refine lv_bipush (v := 60) hx hb dX10_putRel_22 (by decide) ?_
  refine lv_icmp_ne (tgt := 38) hx hb dX10_putRel_24 (by decide) (fun c_3 => ?_) (fun c_3 => ?_)
  · rw [if_neg c_3] at h
    refine lv_iload_n hx hb dX10_putRel_38 rfl (lv_at hl 5 rfl) ?_
    refine lv_bipush (v := 62) hx hb dX10_putRel_39 (by decide) ?_
    refine lv_icmp_ne (tgt := 55) hx hb dX10_putRel_41 (by decide) (fun c_4 => ?_) (fun c_4 => ?_)
    · rw [if_neg c_4] at h
      refine lv_aload_n hx hb dX10_putRel_55 rfl (lv_at hl 2 rfl) ?_
      refine lv_iload hx hb dX10_putRel_56 (lv_at hl 1 rfl) ?_
      refine lv_iload hx hb dX10_putRel_58 (lv_at hl 0 rfl) ?_
      obtain ⟨r_5, g_6, h⟩ := ob_some h
      try dsimp only at h
      refine kc_VL C B (q0 := 0) (ci := 10) (As := [.int r_1, .int r_2]) (rest := [.int x2, .ref (a 23)]) (w2 := (wd_tx_wk a b cI cJ cT tx_signs tx_wanted tx_owners tx_places tx_spans tx_partNodes tx_count wk_low wk_mid wk_high wk_holds)) (tX10_same (a := a) (b := b) N g_6) gX10_putRel_X10_same rfl ⟨rfl, rfl⟩ ⟨rfl, hdX10_same⟩ ⟨Nat.le_of_ble_eq_true rfl, Nat.le_of_ble_eq_true rfl⟩ rfl rfl [7, 8, 9, 10, 11] [0, 1, 2, 3, 4, 5, 6] [0, 1, 2, 3, 4, 5, 6, 7, 8, 9, 10, 11] rfl rfl rfl rfl rfl rfl rfl rfl hl.1 rfl (Nat.le_of_ble_eq_true rfl) ⟨Nat.zero_le _, Nat.zero_le _⟩ dX10_putRel_60 (fun H locs B => ?_)
      exact qX10_putRel_63 C x2 x2 r_5 wk_low wk_mid wk_high wk_holds h H locs ls B (lv_sub hl [2, 3, 4] rfl)
    · rw [if_pos c_4] at h
      refine lv_aload_n hx hb dX10_putRel_44 rfl (lv_at hl 2 rfl) ?_
      refine lv_iload hx hb dX10_putRel_45 (lv_at hl 0 rfl) ?_
      refine lv_iload hx hb dX10_putRel_47 (lv_at hl 1 rfl) ?_
      obtain ⟨r_7, g_8, h⟩ := ob_some h
      try dsimp only at h
      refine kc_VL C B (q0 := 0) (ci := 10) (As := [.int r_2, .int r_1]) (rest := [.int x2, .ref (a 23)]) (w2 := (wd_tx_wk a b cI cJ cT tx_signs tx_wanted tx_owners tx_places tx_spans tx_partNodes tx_count wk_low wk_mid wk_high wk_holds)) (tX10_below (a := a) (b := b) N g_8) gX10_putRel_X10_below rfl ⟨rfl, rfl⟩ ⟨rfl, hdX10_below⟩ ⟨Nat.le_of_ble_eq_true rfl, Nat.le_of_ble_eq_true rfl⟩ rfl rfl [7, 8, 9, 10, 11] [0, 1, 2, 3, 4, 5, 6] [0, 1, 2, 3, 4, 5, 6, 7, 8, 9, 10, 11] rfl rfl rfl rfl rfl rfl rfl rfl hl.1 rfl (Nat.le_of_ble_eq_true rfl) ⟨Nat.zero_le _, Nat.zero_le _⟩ dX10_putRel_49 (fun H locs B => ?_)
      refine lv_goto (tgt := 63) hx hb dX10_putRel_52 (by decide) ?_
      exact qX10_putRel_63 C x2 x2 r_7 wk_low wk_mid wk_high wk_holds h H locs ls B (lv_sub hl [2, 3, 4] rfl)
  · rw [if_pos c_3] at h
    refine lv_aload_n hx hb dX10_putRel_27 rfl (lv_at hl 2 rfl) ?_
    refine lv_iload hx hb dX10_putRel_28 (lv_at hl 1 rfl) ?_
    refine lv_iload hx hb dX10_putRel_30 (lv_at hl 0 rfl) ?_
    obtain ⟨r_9, g_10, h⟩ := ob_some h
    try dsimp only at h
    refine kc_VL C B (q0 := 0) (ci := 10) (As := [.int r_1, .int r_2]) (rest := [.int x2, .ref (a 23)]) (w2 := (wd_tx_wk a b cI cJ cT tx_signs tx_wanted tx_owners tx_places tx_spans tx_partNodes tx_count wk_low wk_mid wk_high wk_holds)) (tX10_below (a := a) (b := b) N g_10) gX10_putRel_X10_below rfl ⟨rfl, rfl⟩ ⟨rfl, hdX10_below⟩ ⟨Nat.le_of_ble_eq_true rfl, Nat.le_of_ble_eq_true rfl⟩ rfl rfl [7, 8, 9, 10, 11] [0, 1, 2, 3, 4, 5, 6] [0, 1, 2, 3, 4, 5, 6, 7, 8, 9, 10, 11] rfl rfl rfl rfl rfl rfl rfl rfl hl.1 rfl (Nat.le_of_ble_eq_true rfl) ⟨Nat.zero_le _, Nat.zero_le _⟩ dX10_putRel_32 (fun H locs B => ?_)
    refine lv_goto (tgt := 63) hx hb dX10_putRel_35 (by decide) ?_
    exact qX10_putRel_63 C x2 x2 r_9 wk_low wk_mid wk_high wk_holds h H locs ls B (lv_sub hl [2, 3, 4] rfl)
end
theorem tX10_putRel {l : Launch} {D : va_G} {Es : (Nat → Nat) × (Nat → Nat)} {a b : Nat → Nat} {cI cJ cT : ClassId} {tx_signs : Nat → Int32} {tx_wanted : Nat → Int32} {tx_owners : Nat → Int32} {tx_places : Nat → Int32} {tx_spans : Nat → Int32} {tx_partNodes : Nat → Int32} {tx_count : Int32} {wk_low : Nat → Int64} {wk_mid : Nat → Int64} {wk_high : Nat → Int64} {wk_holds : Nat → Int64} {x2 : Int32} {x3 : Int32} {z_wk_low : Nat → Int64} {z_wk_mid : Nat → Int64} {z_wk_high : Nat → Int64} {z_wk_holds : Nat → Int64} (N : Nat) (h : fX10_putRel N tx_partNodes x2 x3 wk_low wk_mid wk_high wk_holds = some (z_wk_low, z_wk_mid, z_wk_high, z_wk_holds)) : CtV l yX10_putRel wsX10_putRel rmX10_putRel D (tyl cI cJ cT) Es [.ref (a 19), .ref (b 0), .int x2, .int x3] (wd_tx_wk a b cI cJ cT tx_signs tx_wanted tx_owners tx_places tx_spans tx_partNodes tx_count wk_low wk_mid wk_high wk_holds) (wd_tx_wk a b cI cJ cT tx_signs tx_wanted tx_owners tx_places tx_spans tx_partNodes tx_count z_wk_low z_wk_mid z_wk_high z_wk_holds) :=
  CtV.of (own := RX10) (cc := cX10_putRel) (nL := 6) (ret := none) (by decide +kernel) rfl rfl (Nat.le_of_ble_eq_true rfl) rfl (fun p e s m below meth c A ls C B hl => qX10_putRel_0 C (N := N) x2 x3 wk_low wk_mid wk_high wk_holds h _ _ _ B hl)

abbrev rmX10_workOut : Room := { frames := 3, cells := 0, slots := 0, locals := 80 }
theorem hdX10_workOut : yX10_workOut.cls ≠ "java/lang/invoke/MethodHandle" ∧ yX10_workOut.cls ≠ "java/lang/invoke/VarHandle" ∧ (parseMethodDescriptor yX10_workOut.desc).map (fun d => d.parameters.length) = some 4 := by decide +kernel
theorem iX10_workOut_X9 : ∀ w ∈ wsX90, w ∈ wsX10_workOut := by decide +kernel
theorem gfX10_workOut_34 {p : Program} {l : Launch} {e : Env} {R : Room} {s : State} {m : MethodId} {args : Array Value} {below : List Frame} {meth : Method} {c : Code} {H : Heap} {locs : List Loc} {cells slots : Nat} {Q : State → Prop} {D : va_G} {A : Nat → Prop} {tys : List (ClassId × FieldType)} {Es : (Nat → Nat) × (Nat → Nat)} {ws : va_W} {pc : Nat} {ls : Array Slot} {rest : List Value} {a : Nat} (C : CT p s m args meth c RX10 cX10_workOut 7 none wsX10_workOut D A tys Es) (B : DB D A ws s H locs) (q0 : Nat) {fs : List Value} {v : Value} (he : ws[q0]? = some (a, .inr (9, fs))) (hv : fs[1]? = some v) (hdg : decode cX10_workOut pc = .ok (.getfield 34, 3)) (kk : W p l e R s m args below meth c H locs cells slots Q (F0 m (pc + 3) ls (v :: rest))) : W p l e R s m args below meth c H locs cells slots Q (F0 m pc ls (.ref a :: rest)) :=
  k_get (Cn := RX9) (T := TX9) (N := 7) (index := 34) C B iX10_workOut_X9 rfl 1 (by decide) (by decide +kernel) q0 he hv hdg kk
theorem gfX10_workOut_30 {p : Program} {l : Launch} {e : Env} {R : Room} {s : State} {m : MethodId} {args : Array Value} {below : List Frame} {meth : Method} {c : Code} {H : Heap} {locs : List Loc} {cells slots : Nat} {Q : State → Prop} {D : va_G} {A : Nat → Prop} {tys : List (ClassId × FieldType)} {Es : (Nat → Nat) × (Nat → Nat)} {ws : va_W} {pc : Nat} {ls : Array Slot} {rest : List Value} {a : Nat} (C : CT p s m args meth c RX10 cX10_workOut 7 none wsX10_workOut D A tys Es) (B : DB D A ws s H locs) (q0 : Nat) {fs : List Value} {v : Value} (he : ws[q0]? = some (a, .inr (9, fs))) (hv : fs[0]? = some v) (hdg : decode cX10_workOut pc = .ok (.getfield 30, 3)) (kk : W p l e R s m args below meth c H locs cells slots Q (F0 m (pc + 3) ls (v :: rest))) : W p l e R s m args below meth c H locs cells slots Q (F0 m pc ls (.ref a :: rest)) :=
  k_get (Cn := RX9) (T := TX9) (N := 7) (index := 30) C B iX10_workOut_X9 rfl 0 (by decide) (by decide +kernel) q0 he hv hdg kk
theorem gfX10_workOut_24 {p : Program} {l : Launch} {e : Env} {R : Room} {s : State} {m : MethodId} {args : Array Value} {below : List Frame} {meth : Method} {c : Code} {H : Heap} {locs : List Loc} {cells slots : Nat} {Q : State → Prop} {D : va_G} {A : Nat → Prop} {tys : List (ClassId × FieldType)} {Es : (Nat → Nat) × (Nat → Nat)} {ws : va_W} {pc : Nat} {ls : Array Slot} {rest : List Value} {a : Nat} (C : CT p s m args meth c RX10 cX10_workOut 7 none wsX10_workOut D A tys Es) (B : DB D A ws s H locs) (q0 : Nat) {fs : List Value} {v : Value} (he : ws[q0]? = some (a, .inr (9, fs))) (hv : fs[6]? = some v) (hdg : decode cX10_workOut pc = .ok (.getfield 24, 3)) (kk : W p l e R s m args below meth c H locs cells slots Q (F0 m (pc + 3) ls (v :: rest))) : W p l e R s m args below meth c H locs cells slots Q (F0 m pc ls (.ref a :: rest)) :=
  k_get (Cn := RX9) (T := TX9) (N := 7) (index := 24) C B iX10_workOut_X9 rfl 6 (by decide) (by decide +kernel) q0 he hv hdg kk
section
variable {p : Program} {l : Launch} {e : Env} {s : State} {m : MethodId} {args : Array Value} {below : List Frame} {meth : Method} {c : Code} {D : va_G} {A : Nat → Prop} {Es : (Nat → Nat) × (Nat → Nat)} {a b : Nat → Nat} {cI cJ cT : ClassId}
set_option maxHeartbeats 4000000 in
set_option maxRecDepth 100000 in
theorem qX10_workOut_30 (C : CT p s m args meth c RX10 cX10_workOut 7 none wsX10_workOut D A (tyl cI cJ cT) Es) {N : Nat} {tx_signs : Nat → Int32} {tx_wanted : Nat → Int32} {tx_owners : Nat → Int32} {tx_places : Nat → Int32} {tx_spans : Nat → Int32} {tx_partNodes : Nat → Int32} {tx_count : Int32} {z_wk_low : Nat → Int64} {z_wk_mid : Nat → Int64} {z_wk_high : Nat → Int64} {z_wk_holds : Nat → Int64} {k8 : Int32 → Int32 → Int32 → Int32 → (Nat → Int64) → (Nat → Int64) → (Nat → Int64) → (Nat → Int64) → Option ((Nat → Int64) × (Nat → Int64) × (Nat → Int64) × (Nat → Int64))} (hk8 : ∀ (x2 : Int32) (x3 : Int32) (x4 : Int32) (x5 : Int32) (wk_low : Nat → Int64) (wk_mid : Nat → Int64) (wk_high : Nat → Int64) (wk_holds : Nat → Int64), k8 x2 x3 x4 x5 wk_low wk_mid wk_high wk_holds = some (z_wk_low, z_wk_mid, z_wk_high, z_wk_holds) → ∀ (H : Heap) (locs : List Loc) (ls : Array Slot), DB D A (wd_tx_wk a b cI cJ cT tx_signs tx_wanted tx_owners tx_places tx_spans tx_partNodes tx_count wk_low wk_mid wk_high wk_holds) s H locs → lv_has ls 7 [(0, .ref (a 19)), (1, .ref (b 0)), (2, .int x2), (3, .int x3), (4, .int x4), (5, .int x5)] → W p l e rmX10_workOut s m args below meth c H locs 0 0 (ZV below args s D A (tyl cI cJ cT) (wd_tx_wk a b cI cJ cT tx_signs tx_wanted tx_owners tx_places tx_spans tx_partNodes tx_count z_wk_low z_wk_mid z_wk_high z_wk_holds) 0 0) (F0 m 8 ls [])) : ∀ (x2 : Int32) (x3 : Int32) (x4 : Int32) (x5 : Int32) (y0 : Int32) (wk_low : Nat → Int64) (wk_mid : Nat → Int64) (wk_high : Nat → Int64) (wk_holds : Nat → Int64), bX10_workOut_30 N tx_signs tx_wanted tx_partNodes tx_count k8 x2 x3 x4 x5 y0 wk_low wk_mid wk_high wk_holds = some (z_wk_low, z_wk_mid, z_wk_high, z_wk_holds) → ∀ (H : Heap) (locs : List Loc) (ls : Array Slot), DB D A (wd_tx_wk a b cI cJ cT tx_signs tx_wanted tx_owners tx_places tx_spans tx_partNodes tx_count wk_low wk_mid wk_high wk_holds) s H locs → lv_has ls 7 [(0, .ref (a 19)), (1, .ref (b 0)), (2, .int x2), (3, .int x3), (4, .int x4), (5, .int x5)] → W p l e rmX10_workOut s m args below meth c H locs 0 0 (ZV below args s D A (tyl cI cJ cT) (wd_tx_wk a b cI cJ cT tx_signs tx_wanted tx_owners tx_places tx_spans tx_partNodes tx_count z_wk_low z_wk_mid z_wk_high z_wk_holds) 0 0) (F0 m 30 ls [.int y0]) := by
  have hx := C.1.1
  have hb := C.1.2.1
  have hown := C.1.2.2.2.1
  have hts := C.1.2.2.2.2
  intro x2 x3 x4 x5 y0 wk_low wk_mid wk_high wk_holds h H locs ls B hl
  rw [bX10_workOut_30] at h
  refine lv_istore (lv' := [(6, .int y0), (0, .ref (a 19)), (1, .ref (b 0)), (2, .int x2), (3, .int x3), (4, .int x4), (5, .int x5)]) hx hb dX10_workOut_30 hl (by decide) rfl (fun ls hl => ?_)
  refine lv_aload_n hx hb dX10_workOut_32 rfl (lv_at hl 2 rfl) ?_
  refine gfX10_workOut_34 C B 0 rfl rfl dX10_workOut_33 ?_
  refine lv_iload hx hb dX10_workOut_36 (lv_at hl 6 rfl) ?_
  obtain ⟨b_1, h⟩ := bnd_some h
  refine k_iald C B 2 0 rfl rfl b_1 dX10_workOut_38 ?_
  by_cases c_2 : (tx_wanted (Int32.toNatClampNeg x5)) = 0
  · rw [if_pos c_2] at h
    refine lv_lookup (off := 25) (tgt := 64) hx hb dX10_workOut_39 (by decide) (by rw [c_2]; try rfl) (by decide) ?_
    refine lv_aload_n hx hb dX10_workOut_64 rfl (lv_at hl 1 rfl) ?_
    refine lv_iload hx hb dX10_workOut_65 (lv_at hl 6 rfl) ?_
    refine lv_iload hx hb dX10_workOut_67 (lv_at hl 0 rfl) ?_
    refine lv_iload hx hb dX10_workOut_69 (lv_at hl 5 rfl) ?_
    obtain ⟨⟨wk_low_3, wk_mid_4, wk_high_5⟩, g_6, h⟩ := ob_some h
    try dsimp only at h
    refine kc_VV C B (q0 := 0) (ci := 10) (As := [.int x5, .int y0, .int x4]) (rest := []) (w2 := (wd_tx_wk a b cI cJ cT tx_signs tx_wanted tx_owners tx_places tx_spans tx_partNodes tx_count wk_low_3 wk_mid_4 wk_high_5 wk_holds)) (tX10_putLeaf (a := a) (b := b) N g_6) gX10_workOut_X10_putLeaf rfl ⟨rfl, rfl⟩ ⟨rfl, hdX10_putLeaf⟩ ⟨Nat.le_of_ble_eq_true rfl, Nat.le_of_ble_eq_true rfl⟩ rfl rfl [7, 8, 9, 10, 11] [0, 1, 2, 3, 4, 5, 6] [0, 1, 2, 3, 4, 5, 6, 7, 8, 9, 10, 11] rfl rfl rfl rfl rfl rfl rfl rfl hl.1 rfl (Nat.le_of_ble_eq_true rfl) ⟨Nat.zero_le _, Nat.zero_le _⟩ dX10_workOut_71 (fun H locs B => ?_)
    refine lv_goto (tgt := 111) hx hb dX10_workOut_74 (by decide) ?_
    refine lv_iinc (v := (x5 + (-1))) (lv' := [(5, .int (x5 + (-1))), (6, .int y0), (0, .ref (a 19)), (1, .ref (b 0)), (2, .int x2), (3, .int x3), (4, .int x4)]) hx hb dX10_workOut_111 hl (k := 6) rfl rfl (by decide) rfl (fun ls hl => ?_)
    refine lv_goto (tgt := 8) hx hb dX10_workOut_114 (by decide) ?_
    exact hk8 x2 x3 x4 (x5 + (-1)) wk_low_3 wk_mid_4 wk_high_5 wk_holds h H locs ls B (lv_sub hl [2, 3, 4, 5, 6, 0] rfl)
  · rw [if_neg c_2] at h
    by_cases c_7 : (tx_wanted (Int32.toNatClampNeg x5)) = 2
    · rw [if_pos c_7] at h
      refine lv_lookup (off := 38) (tgt := 77) hx hb dX10_workOut_39 (by decide) (by rw [c_7]; try rfl) (by decide) ?_
      refine lv_aload_n hx hb dX10_workOut_77 rfl (lv_at hl 1 rfl) ?_
      refine lv_iload hx hb dX10_workOut_78 (lv_at hl 6 rfl) ?_
      refine lv_iload hx hb dX10_workOut_80 (lv_at hl 0 rfl) ?_
      refine lv_aload_n hx hb dX10_workOut_82 rfl (lv_at hl 2 rfl) ?_
      refine lv_iload hx hb dX10_workOut_83 (lv_at hl 6 rfl) ?_
      refine lv_iconst (v := 0) hx hb dX10_workOut_85 (by decide) ?_
      obtain ⟨r_8, g_15, h⟩ := ob_some h
      try dsimp only at h
      refine kc_VI C B (q0 := 0) (ci := 9) (As := [.int x5, .int (0 : Int32)]) (rest := [.int y0, .int x5, .ref (a 19)]) (w2 := (wd_tx_wk a b cI cJ cT tx_signs tx_wanted tx_owners tx_places tx_spans tx_partNodes tx_count wk_low wk_mid wk_high wk_holds)) (tX9_partOf (a := a) (b := b) N g_15) gX10_workOut_X9_partOf rfl ⟨rfl, rfl⟩ ⟨rfl, hdX9_partOf⟩ ⟨Nat.le_of_ble_eq_true rfl, Nat.le_of_ble_eq_true rfl⟩ rfl rfl [0, 1, 2, 3, 4, 5, 6] [7, 8, 9, 10, 11] [5, 6, 7, 8, 9, 10, 11, 0, 1, 2, 3, 4] rfl rfl rfl rfl rfl rfl rfl rfl hl.1 rfl (Nat.le_of_ble_eq_true rfl) ⟨Nat.zero_le _, Nat.zero_le _⟩ dX10_workOut_86 (fun H locs B => ?_)
      refine lv_aload_n hx hb dX10_workOut_89 rfl (lv_at hl 2 rfl) ?_
      refine lv_iload hx hb dX10_workOut_90 (lv_at hl 6 rfl) ?_
      refine lv_iconst (v := 1) hx hb dX10_workOut_92 (by decide) ?_
      obtain ⟨r_9, g_14, h⟩ := ob_some h
      try dsimp only at h
      refine kc_VI C B (q0 := 0) (ci := 9) (As := [.int x5, .int (1 : Int32)]) (rest := [.int r_8, .int y0, .int x5, .ref (a 19)]) (w2 := (wd_tx_wk a b cI cJ cT tx_signs tx_wanted tx_owners tx_places tx_spans tx_partNodes tx_count wk_low wk_mid wk_high wk_holds)) (tX9_partOf (a := a) (b := b) N g_14) gX10_workOut_X9_partOf rfl ⟨rfl, rfl⟩ ⟨rfl, hdX9_partOf⟩ ⟨Nat.le_of_ble_eq_true rfl, Nat.le_of_ble_eq_true rfl⟩ rfl rfl [0, 1, 2, 3, 4, 5, 6] [7, 8, 9, 10, 11] [5, 6, 7, 8, 9, 10, 11, 0, 1, 2, 3, 4] rfl rfl rfl rfl rfl rfl rfl rfl hl.1 rfl (Nat.le_of_ble_eq_true rfl) ⟨Nat.zero_le _, Nat.zero_le _⟩ dX10_workOut_93 (fun H locs B => ?_)
      obtain ⟨⟨wk_low_10, wk_mid_11, wk_high_12⟩, g_13, h⟩ := ob_some h
      try dsimp only at h
      refine kc_VV C B (q0 := 0) (ci := 10) (As := [.int x5, .int y0, .int r_8, .int r_9]) (rest := []) (w2 := (wd_tx_wk a b cI cJ cT tx_signs tx_wanted tx_owners tx_places tx_spans tx_partNodes tx_count wk_low_10 wk_mid_11 wk_high_12 wk_holds)) (tX10_putAct (a := a) (b := b) N g_13) gX10_workOut_X10_putAct rfl ⟨rfl, rfl⟩ ⟨rfl, hdX10_putAct⟩ ⟨Nat.le_of_ble_eq_true rfl, Nat.le_of_ble_eq_true rfl⟩ rfl rfl [7, 8, 9, 10, 11] [0, 1, 2, 3, 4, 5, 6] [0, 1, 2, 3, 4, 5, 6, 7, 8, 9, 10, 11] rfl rfl rfl rfl rfl rfl rfl rfl hl.1 rfl (Nat.le_of_ble_eq_true rfl) ⟨Nat.zero_le _, Nat.zero_le _⟩ dX10_workOut_96 (fun H locs B => ?_)
      refine lv_goto (tgt := 111) hx hb dX10_workOut_99 (by decide) ?_
      refine lv_iinc (v := (x5 + (-1))) (lv' := [(5, .int (x5 + (-1))), (6, .int y0), (0, .ref (a 19)), (1, .ref (b 0)), (2, .int x2), (3, .int x3), (4, .int x4)]) hx hb dX10_workOut_111 hl (k := 6) rfl rfl (by decide) rfl (fun ls hl => ?_)
      refine lv_goto (tgt := 8) hx hb dX10_workOut_114 (by decide) ?_
      exact hk8 x2 x3 x4 (x5 + (-1)) wk_low_10 wk_mid_11 wk_high_12 wk_holds h H locs ls B (lv_sub hl [2, 3, 4, 5, 6, 0] rfl)
    · rw [if_neg c_7] at h
      refine lv_lookup (off := 63) (tgt := 102) hx hb dX10_workOut_39 (by decide) ((lv_osw c_2 (k := 0) rfl).trans ((lv_osw c_7 (k := 2) rfl).trans rfl)) (by decide) ?_
      refine lv_aload_n hx hb dX10_workOut_102 rfl (lv_at hl 1 rfl) ?_
      refine lv_aload_n hx hb dX10_workOut_103 rfl (lv_at hl 2 rfl) ?_
      refine lv_iload hx hb dX10_workOut_104 (lv_at hl 6 rfl) ?_
      refine lv_iload hx hb dX10_workOut_106 (lv_at hl 0 rfl) ?_
      obtain ⟨⟨wk_low_16, wk_mid_17, wk_high_18, wk_holds_19⟩, g_20, h⟩ := ob_some h
      try dsimp only at h
      refine kc_VV C B (q0 := 7) (ci := 10) (As := [.ref (b 0), .int x5, .int y0]) (rest := []) (w2 := (wd_tx_wk a b cI cJ cT tx_signs tx_wanted tx_owners tx_places tx_spans tx_partNodes tx_count wk_low_16 wk_mid_17 wk_high_18 wk_holds_19)) (tX10_putRel (a := a) (b := b) N g_20) gX10_workOut_X10_putRel rfl ⟨rfl, rfl⟩ ⟨rfl, hdX10_putRel⟩ ⟨Nat.le_of_ble_eq_true rfl, Nat.le_of_ble_eq_true rfl⟩ rfl rfl [0, 1, 2, 3, 4, 5, 6, 7, 8, 9, 10, 11] [] [0, 1, 2, 3, 4, 5, 6, 7, 8, 9, 10, 11] rfl rfl rfl rfl rfl rfl rfl rfl hl.1 rfl (Nat.le_of_ble_eq_true rfl) ⟨Nat.zero_le _, Nat.zero_le _⟩ dX10_workOut_108 (fun H locs B => ?_)
      refine lv_iinc (v := (x5 + (-1))) (lv' := [(5, .int (x5 + (-1))), (6, .int y0), (0, .ref (a 19)), (1, .ref (b 0)), (2, .int x2), (3, .int x3), (4, .int x4)]) hx hb dX10_workOut_111 hl (k := 6) rfl rfl (by decide) rfl (fun ls hl => ?_)
      refine lv_goto (tgt := 8) hx hb dX10_workOut_114 (by decide) ?_
      exact hk8 x2 x3 x4 (x5 + (-1)) wk_low_16 wk_mid_17 wk_high_18 wk_holds_19 h H locs ls B (lv_sub hl [2, 3, 4, 5, 6, 0] rfl)
set_option maxHeartbeats 4000000 in
set_option maxRecDepth 100000 in
theorem qX10_workOut_8 (C : CT p s m args meth c RX10 cX10_workOut 7 none wsX10_workOut D A (tyl cI cJ cT) Es) {N : Nat} {tx_signs : Nat → Int32} {tx_wanted : Nat → Int32} {tx_owners : Nat → Int32} {tx_places : Nat → Int32} {tx_spans : Nat → Int32} {tx_partNodes : Nat → Int32} {tx_count : Int32} {z_wk_low : Nat → Int64} {z_wk_mid : Nat → Int64} {z_wk_high : Nat → Int64} {z_wk_holds : Nat → Int64} : ∀ (n : Nat) (x2 : Int32) (x3 : Int32) (x4 : Int32) (x5 : Int32) (wk_low : Nat → Int64) (wk_mid : Nat → Int64) (wk_high : Nat → Int64) (wk_holds : Nat → Int64), bX10_workOut_8 N tx_signs tx_wanted tx_partNodes tx_count n x2 x3 x4 x5 wk_low wk_mid wk_high wk_holds = some (z_wk_low, z_wk_mid, z_wk_high, z_wk_holds) → ∀ (H : Heap) (locs : List Loc) (ls : Array Slot), DB D A (wd_tx_wk a b cI cJ cT tx_signs tx_wanted tx_owners tx_places tx_spans tx_partNodes tx_count wk_low wk_mid wk_high wk_holds) s H locs → lv_has ls 7 [(0, .ref (a 19)), (1, .ref (b 0)), (2, .int x2), (3, .int x3), (4, .int x4), (5, .int x5)] → W p l e rmX10_workOut s m args below meth c H locs 0 0 (ZV below args s D A (tyl cI cJ cT) (wd_tx_wk a b cI cJ cT tx_signs tx_wanted tx_owners tx_places tx_spans tx_partNodes tx_count z_wk_low z_wk_mid z_wk_high z_wk_holds) 0 0) (F0 m 8 ls []) := by
  have hx := C.1.1
  have hb := C.1.2.1
  have hown := C.1.2.2.2.1
  have hts := C.1.2.2.2.2
  intro n
  induction n with
  | zero => intro x2 x3 x4 x5 wk_low wk_mid wk_high wk_holds h; cases h
  | succ n ih =>
    intro x2 x3 x4 x5 wk_low wk_mid wk_high wk_holds h H locs ls B hl
    rw [bX10_workOut_8] at h
    refine lv_iload hx hb dX10_workOut_8 (lv_at hl 5 rfl) ?_
    refine lv_if_lt (tgt := 117) hx hb dX10_workOut_10 (by decide) (fun c_1 => ?_) (fun c_1 => ?_)
    · rw [if_pos c_1] at h
      cases h
      exact k_vret C B dX10_workOut_117
    · rw [if_neg c_1] at h
      refine lv_iload hx hb dX10_workOut_13 (lv_at hl 5 rfl) ?_
      refine lv_iload_n hx hb dX10_workOut_15 rfl (lv_at hl 2 rfl) ?_
      refine lv_icmp_ne (tgt := 23) hx hb dX10_workOut_16 (by decide) (fun c_2 => ?_) (fun c_2 => ?_)
      · rw [if_neg c_2] at h
        refine lv_aload_n hx hb dX10_workOut_23 rfl (lv_at hl 1 rfl) ?_
        refine gfX10_workOut_30 C B 0 rfl rfl dX10_workOut_24 ?_
        refine lv_iload hx hb dX10_workOut_27 (lv_at hl 5 rfl) ?_
        obtain ⟨b_3, h⟩ := bnd_some h
        refine k_iald C B 1 0 rfl rfl b_3 dX10_workOut_29 ?_
        exact qX10_workOut_30 C ih x2 x3 x4 x5 (tx_signs (Int32.toNatClampNeg x5)) wk_low wk_mid wk_high wk_holds h H locs ls B (lv_sub hl [0, 1, 2, 3, 4, 5] rfl)
      · rw [if_pos c_2] at h
        refine lv_iload_n hx hb dX10_workOut_19 rfl (lv_at hl 3 rfl) ?_
        refine lv_goto (tgt := 30) hx hb dX10_workOut_20 (by decide) ?_
        exact qX10_workOut_30 C ih x2 x3 x4 x5 x3 wk_low wk_mid wk_high wk_holds h H locs ls B (lv_sub hl [0, 1, 2, 3, 4, 5] rfl)
set_option maxHeartbeats 4000000 in
set_option maxRecDepth 100000 in
theorem qX10_workOut_0 (C : CT p s m args meth c RX10 cX10_workOut 7 none wsX10_workOut D A (tyl cI cJ cT) Es) {N : Nat} {tx_signs : Nat → Int32} {tx_wanted : Nat → Int32} {tx_owners : Nat → Int32} {tx_places : Nat → Int32} {tx_spans : Nat → Int32} {tx_partNodes : Nat → Int32} {tx_count : Int32} {z_wk_low : Nat → Int64} {z_wk_mid : Nat → Int64} {z_wk_high : Nat → Int64} {z_wk_holds : Nat → Int64} : ∀ (x2 : Int32) (x3 : Int32) (x4 : Int32) (wk_low : Nat → Int64) (wk_mid : Nat → Int64) (wk_high : Nat → Int64) (wk_holds : Nat → Int64), fX10_workOut N tx_signs tx_wanted tx_partNodes tx_count x2 x3 x4 wk_low wk_mid wk_high wk_holds = some (z_wk_low, z_wk_mid, z_wk_high, z_wk_holds) → ∀ (H : Heap) (locs : List Loc) (ls : Array Slot), DB D A (wd_tx_wk a b cI cJ cT tx_signs tx_wanted tx_owners tx_places tx_spans tx_partNodes tx_count wk_low wk_mid wk_high wk_holds) s H locs → lv_has ls 7 [(0, .ref (a 19)), (1, .ref (b 0)), (2, .int x2), (3, .int x3), (4, .int x4)] → W p l e rmX10_workOut s m args below meth c H locs 0 0 (ZV below args s D A (tyl cI cJ cT) (wd_tx_wk a b cI cJ cT tx_signs tx_wanted tx_owners tx_places tx_spans tx_partNodes tx_count z_wk_low z_wk_mid z_wk_high z_wk_holds) 0 0) (F0 m 0 ls []) := by
  have hx := C.1.1
  have hb := C.1.2.1
  have hown := C.1.2.2.2.1
  have hts := C.1.2.2.2.2
  intro x2 x3 x4 wk_low wk_mid wk_high wk_holds h H locs ls B hl
  rw [fX10_workOut] at h
  refine lv_aload_n hx hb dX10_workOut_0 rfl (lv_at hl 1 rfl) ?_
  refine gfX10_workOut_24 C B 0 rfl rfl dX10_workOut_1 ?_
  refine lv_iconst (v := 1) hx hb dX10_workOut_4 (by decide) ?_
  refine lv_isub hx hb dX10_workOut_5 ?_
  refine lv_istore (lv' := [(5, .int (tx_count - (1 : Int32))), (0, .ref (a 19)), (1, .ref (b 0)), (2, .int x2), (3, .int x3), (4, .int x4)]) hx hb dX10_workOut_6 hl (by decide) rfl (fun ls hl => ?_)
  exact qX10_workOut_8 C N x2 x3 x4 (tx_count - (1 : Int32)) wk_low wk_mid wk_high wk_holds h H locs ls B (lv_sub hl [1, 2, 3, 4, 5, 0] rfl)
end
theorem tX10_workOut {l : Launch} {D : va_G} {Es : (Nat → Nat) × (Nat → Nat)} {a b : Nat → Nat} {cI cJ cT : ClassId} {tx_signs : Nat → Int32} {tx_wanted : Nat → Int32} {tx_owners : Nat → Int32} {tx_places : Nat → Int32} {tx_spans : Nat → Int32} {tx_partNodes : Nat → Int32} {tx_count : Int32} {wk_low : Nat → Int64} {wk_mid : Nat → Int64} {wk_high : Nat → Int64} {wk_holds : Nat → Int64} {x2 : Int32} {x3 : Int32} {x4 : Int32} {z_wk_low : Nat → Int64} {z_wk_mid : Nat → Int64} {z_wk_high : Nat → Int64} {z_wk_holds : Nat → Int64} (N : Nat) (h : fX10_workOut N tx_signs tx_wanted tx_partNodes tx_count x2 x3 x4 wk_low wk_mid wk_high wk_holds = some (z_wk_low, z_wk_mid, z_wk_high, z_wk_holds)) : CtV l yX10_workOut wsX10_workOut rmX10_workOut D (tyl cI cJ cT) Es [.ref (a 19), .ref (b 0), .int x2, .int x3, .int x4] (wd_tx_wk a b cI cJ cT tx_signs tx_wanted tx_owners tx_places tx_spans tx_partNodes tx_count wk_low wk_mid wk_high wk_holds) (wd_tx_wk a b cI cJ cT tx_signs tx_wanted tx_owners tx_places tx_spans tx_partNodes tx_count z_wk_low z_wk_mid z_wk_high z_wk_holds) :=
  CtV.of (own := RX10) (cc := cX10_workOut) (nL := 7) (ret := none) (by decide +kernel) rfl rfl (Nat.le_of_ble_eq_true rfl) rfl (fun p e s m below meth c A ls C B hl => qX10_workOut_0 C (N := N) x2 x3 x4 wk_low wk_mid wk_high wk_holds h _ _ _ B hl)

abbrev rmX10_isTaken : Room := { frames := 0, cells := 0, slots := 0, locals := 0 }
theorem hdX10_isTaken : yX10_isTaken.cls ≠ "java/lang/invoke/MethodHandle" ∧ yX10_isTaken.cls ≠ "java/lang/invoke/VarHandle" ∧ (parseMethodDescriptor yX10_isTaken.desc).map (fun d => d.parameters.length) = some 3 := by decide +kernel
theorem iX10_isTaken_X9 : ∀ w ∈ wsX90, w ∈ wsX10_isTaken := by decide +kernel
theorem gfX10_isTaken_106 {p : Program} {l : Launch} {e : Env} {R : Room} {s : State} {m : MethodId} {args : Array Value} {below : List Frame} {meth : Method} {c : Code} {H : Heap} {locs : List Loc} {cells slots : Nat} {Q : State → Prop} {D : va_G} {A : Nat → Prop} {tys : List (ClassId × FieldType)} {Es : (Nat → Nat) × (Nat → Nat)} {ws : va_W} {pc : Nat} {ls : Array Slot} {rest : List Value} {a : Nat} (C : CT p s m args meth c RX10 cX10_isTaken 5 (some .boolean) wsX10_isTaken D A tys Es) (B : DB D A ws s H locs) (q0 : Nat) {fs : List Value} {v : Value} (he : ws[q0]? = some (a, .inr (9, fs))) (hv : fs[3]? = some v) (hdg : decode cX10_isTaken pc = .ok (.getfield 106, 3)) (kk : W p l e R s m args below meth c H locs cells slots Q (F0 m (pc + 3) ls (v :: rest))) : W p l e R s m args below meth c H locs cells slots Q (F0 m pc ls (.ref a :: rest)) :=
  k_get (Cn := RX9) (T := TX9) (N := 7) (index := 106) C B iX10_isTaken_X9 rfl 3 (by decide) (by decide +kernel) q0 he hv hdg kk
theorem iX10_isTaken_X10 : ∀ w ∈ wsX100, w ∈ wsX10_isTaken := by decide +kernel
theorem gfX10_isTaken_21 {p : Program} {l : Launch} {e : Env} {R : Room} {s : State} {m : MethodId} {args : Array Value} {below : List Frame} {meth : Method} {c : Code} {H : Heap} {locs : List Loc} {cells slots : Nat} {Q : State → Prop} {D : va_G} {A : Nat → Prop} {tys : List (ClassId × FieldType)} {Es : (Nat → Nat) × (Nat → Nat)} {ws : va_W} {pc : Nat} {ls : Array Slot} {rest : List Value} {a : Nat} (C : CT p s m args meth c RX10 cX10_isTaken 5 (some .boolean) wsX10_isTaken D A tys Es) (B : DB D A ws s H locs) (q0 : Nat) {fs : List Value} {v : Value} (he : ws[q0]? = some (a, .inr (10, fs))) (hv : fs[3]? = some v) (hdg : decode cX10_isTaken pc = .ok (.getfield 21, 3)) (kk : W p l e R s m args below meth c H locs cells slots Q (F0 m (pc + 3) ls (v :: rest))) : W p l e R s m args below meth c H locs cells slots Q (F0 m pc ls (.ref a :: rest)) :=
  k_get (Cn := RX10) (T := TX10) (N := 4) (index := 21) C B iX10_isTaken_X10 rfl 3 (by decide) (by decide +kernel) q0 he hv hdg kk
theorem gfX10_isTaken_99 {p : Program} {l : Launch} {e : Env} {R : Room} {s : State} {m : MethodId} {args : Array Value} {below : List Frame} {meth : Method} {c : Code} {H : Heap} {locs : List Loc} {cells slots : Nat} {Q : State → Prop} {D : va_G} {A : Nat → Prop} {tys : List (ClassId × FieldType)} {Es : (Nat → Nat) × (Nat → Nat)} {ws : va_W} {pc : Nat} {ls : Array Slot} {rest : List Value} {a : Nat} (C : CT p s m args meth c RX10 cX10_isTaken 5 (some .boolean) wsX10_isTaken D A tys Es) (B : DB D A ws s H locs) (q0 : Nat) {fs : List Value} {v : Value} (he : ws[q0]? = some (a, .inr (9, fs))) (hv : fs[2]? = some v) (hdg : decode cX10_isTaken pc = .ok (.getfield 99, 3)) (kk : W p l e R s m args below meth c H locs cells slots Q (F0 m (pc + 3) ls (v :: rest))) : W p l e R s m args below meth c H locs cells slots Q (F0 m pc ls (.ref a :: rest)) :=
  k_get (Cn := RX9) (T := TX9) (N := 7) (index := 99) C B iX10_isTaken_X9 rfl 2 (by decide) (by decide +kernel) q0 he hv hdg kk
section
variable {p : Program} {l : Launch} {e : Env} {s : State} {m : MethodId} {args : Array Value} {below : List Frame} {meth : Method} {c : Code} {D : va_G} {A : Nat → Prop} {Es : (Nat → Nat) × (Nat → Nat)} {a b : Nat → Nat} {cI cJ cT : ClassId}
set_option maxHeartbeats 4000000 in
set_option maxRecDepth 100000 in
theorem qX10_isTaken_25 (C : CT p s m args meth c RX10 cX10_isTaken 5 (some .boolean) wsX10_isTaken D A (tyl cI cJ cT) Es) {N : Nat} {tx_signs : Nat → Int32} {tx_wanted : Nat → Int32} {tx_owners : Nat → Int32} {tx_places : Nat → Int32} {tx_spans : Nat → Int32} {tx_partNodes : Nat → Int32} {tx_count : Int32} {wk_low : Nat → Int64} {wk_mid : Nat → Int64} {wk_high : Nat → Int64} {wk_holds : Nat → Int64} {z_r : Int32} : ∀ (x2 : Int32) (y0 : Int32), bX10_isTaken_25 N tx_owners tx_places wk_holds x2 y0 = some z_r → ∀ (H : Heap) (locs : List Loc) (ls : Array Slot), DB D A (wd_tx_wk a b cI cJ cT tx_signs tx_wanted tx_owners tx_places tx_spans tx_partNodes tx_count wk_low wk_mid wk_high wk_holds) s H locs → lv_has ls 5 [(1, .ref (b 0)), (2, .int x2)] → W p l e rmX10_isTaken s m args below meth c H locs 0 0 (ZI below args s D A (tyl cI cJ cT) z_r (wd_tx_wk a b cI cJ cT tx_signs tx_wanted tx_owners tx_places tx_spans tx_partNodes tx_count wk_low wk_mid wk_high wk_holds) 0 0) (F0 m 25 ls [.int y0]) := by
  have hx := C.1.1
  have hb := C.1.2.1
  have hown := C.1.2.2.2.1
  have hts := C.1.2.2.2.2
  intro x2 y0 h H locs ls B hl
  rw [bX10_isTaken_25] at h
  refine lv_istore (lv' := [(4, .int y0), (1, .ref (b 0)), (2, .int x2)]) hx hb dX10_isTaken_25 hl (by decide) rfl (fun ls hl => ?_)
  refine lv_aload_n hx hb dX10_isTaken_27 rfl (lv_at hl 1 rfl) ?_
  refine gfX10_isTaken_106 C B 0 rfl rfl dX10_isTaken_28 ?_
  refine lv_iload_n hx hb dX10_isTaken_31 rfl (lv_at hl 2 rfl) ?_
  obtain ⟨b_1, h⟩ := bnd_some h
  refine k_iald C B 4 0 rfl rfl b_1 dX10_isTaken_32 ?_
  by_cases c_2 : (tx_places (Int32.toNatClampNeg x2)) = 2
  · rw [if_pos c_2] at h
    refine lv_lookup (off := 27) (tgt := 60) hx hb dX10_isTaken_33 (by decide) (by rw [c_2]; try rfl) (by decide) ?_
    refine lv_iload hx hb dX10_isTaken_60 (lv_at hl 0 rfl) ?_
    obtain ⟨z_3, h⟩ := bo_some h
    cases h
    exact k_zret C B z_3 dX10_isTaken_62
  · rw [if_neg c_2] at h
    by_cases c_4 : (tx_places (Int32.toNatClampNeg x2)) = 3
    · rw [if_pos c_4] at h
      refine lv_lookup (off := 30) (tgt := 63) hx hb dX10_isTaken_33 (by decide) (by rw [c_4]; try rfl) (by decide) ?_
      refine lv_iload hx hb dX10_isTaken_63 (lv_at hl 0 rfl) ?_
      refine lv_if_ne (tgt := 72) hx hb dX10_isTaken_65 (by decide) (fun c_5 => ?_) (fun c_5 => ?_)
      · rw [if_neg c_5] at h
        refine lv_iconst (v := 0) hx hb dX10_isTaken_72 (by decide) ?_
        cases h
        exact k_zret C B (by decide) dX10_isTaken_73
      · rw [if_pos c_5] at h
        refine lv_iconst (v := 1) hx hb dX10_isTaken_68 (by decide) ?_
        refine lv_goto (tgt := 73) hx hb dX10_isTaken_69 (by decide) ?_
        cases h
        exact k_zret C B (by decide) dX10_isTaken_73
    · rw [if_neg c_4] at h
      refine lv_lookup (off := 41) (tgt := 74) hx hb dX10_isTaken_33 (by decide) ((lv_osw c_2 (k := 2) rfl).trans ((lv_osw c_4 (k := 3) rfl).trans rfl)) (by decide) ?_
      refine lv_iconst (v := 1) hx hb dX10_isTaken_74 (by decide) ?_
      cases h
      exact k_zret C B (by decide) dX10_isTaken_75
set_option maxHeartbeats 4000000 in
set_option maxRecDepth 100000 in
theorem qX10_isTaken_0 (C : CT p s m args meth c RX10 cX10_isTaken 5 (some .boolean) wsX10_isTaken D A (tyl cI cJ cT) Es) {N : Nat} {tx_signs : Nat → Int32} {tx_wanted : Nat → Int32} {tx_owners : Nat → Int32} {tx_places : Nat → Int32} {tx_spans : Nat → Int32} {tx_partNodes : Nat → Int32} {tx_count : Int32} {wk_low : Nat → Int64} {wk_mid : Nat → Int64} {wk_high : Nat → Int64} {wk_holds : Nat → Int64} {z_r : Int32} : ∀ (x2 : Int32) (x3 : Int32), fX10_isTaken N tx_owners tx_places wk_holds x2 x3 = some z_r → ∀ (H : Heap) (locs : List Loc) (ls : Array Slot), DB D A (wd_tx_wk a b cI cJ cT tx_signs tx_wanted tx_owners tx_places tx_spans tx_partNodes tx_count wk_low wk_mid wk_high wk_holds) s H locs → lv_has ls 5 [(0, .ref (a 19)), (1, .ref (b 0)), (2, .int x2), (3, .int x3)] → W p l e rmX10_isTaken s m args below meth c H locs 0 0 (ZI below args s D A (tyl cI cJ cT) z_r (wd_tx_wk a b cI cJ cT tx_signs tx_wanted tx_owners tx_places tx_spans tx_partNodes tx_count wk_low wk_mid wk_high wk_holds) 0 0) (F0 m 0 ls []) := by
  have hx := C.1.1
  have hb := C.1.2.1
  have hown := C.1.2.2.2.1
  have hts := C.1.2.2.2.2
  intro x2 x3 h H locs ls B hl
  rw [fX10_isTaken] at h
  refine lv_aload_n hx hb dX10_isTaken_0 rfl (lv_at hl 0 rfl) ?_
  refine gfX10_isTaken_21 C B 7 rfl rfl dX10_isTaken_1 ?_
  refine lv_aload_n hx hb dX10_isTaken_4 rfl (lv_at hl 1 rfl) ?_
  refine gfX10_isTaken_99 C B 0 rfl rfl dX10_isTaken_5 ?_
  refine lv_iload_n hx hb dX10_isTaken_8 rfl (lv_at hl 2 rfl) ?_
  obtain ⟨b_1, h⟩ := bnd_some h
  refine k_iald C B 3 0 rfl rfl b_1 dX10_isTaken_9 ?_
  obtain ⟨b_2, h⟩ := bnd_some h
  refine k_lald C B 11 1 rfl rfl b_2 dX10_isTaken_10 ?_
  refine lv_iload_n hx hb dX10_isTaken_11 rfl (lv_at hl 3 rfl) ?_
  refine lv_lushr (v := (lush (wk_holds (Int32.toNatClampNeg (tx_owners (Int32.toNatClampNeg x2)))) x3)) hx hb dX10_isTaken_12 rfl ?_
  refine lv_lconst (v := 1) hx hb dX10_isTaken_13 (by decide) ?_
  refine lv_land hx hb dX10_isTaken_14 ?_
  refine lv_lconst (v := 0) hx hb dX10_isTaken_15 (by decide) ?_
  refine W.lcmp hx hb dX10_isTaken_16 ?_
  refine lv_if_eq (tgt := 24) hx hb dX10_isTaken_17 (by decide) (fun c_3 => ?_) (fun c_3 => ?_)
  · rw [if_pos c_3] at h
    refine lv_iconst (v := 0) hx hb dX10_isTaken_24 (by decide) ?_
    exact qX10_isTaken_25 C x2 (0 : Int32) h H locs ls B (lv_sub hl [1, 2] rfl)
  · rw [if_neg c_3] at h
    refine lv_iconst (v := 1) hx hb dX10_isTaken_20 (by decide) ?_
    refine lv_goto (tgt := 25) hx hb dX10_isTaken_21 (by decide) ?_
    exact qX10_isTaken_25 C x2 (1 : Int32) h H locs ls B (lv_sub hl [1, 2] rfl)
end
theorem tX10_isTaken {l : Launch} {D : va_G} {Es : (Nat → Nat) × (Nat → Nat)} {a b : Nat → Nat} {cI cJ cT : ClassId} {tx_signs : Nat → Int32} {tx_wanted : Nat → Int32} {tx_owners : Nat → Int32} {tx_places : Nat → Int32} {tx_spans : Nat → Int32} {tx_partNodes : Nat → Int32} {tx_count : Int32} {wk_low : Nat → Int64} {wk_mid : Nat → Int64} {wk_high : Nat → Int64} {wk_holds : Nat → Int64} {x2 : Int32} {x3 : Int32} {z_r : Int32} (N : Nat) (h : fX10_isTaken N tx_owners tx_places wk_holds x2 x3 = some z_r) : CtI l yX10_isTaken wsX10_isTaken rmX10_isTaken D (tyl cI cJ cT) Es [.ref (a 19), .ref (b 0), .int x2, .int x3] (wd_tx_wk a b cI cJ cT tx_signs tx_wanted tx_owners tx_places tx_spans tx_partNodes tx_count wk_low wk_mid wk_high wk_holds) z_r (wd_tx_wk a b cI cJ cT tx_signs tx_wanted tx_owners tx_places tx_spans tx_partNodes tx_count wk_low wk_mid wk_high wk_holds) :=
  CtI.of (own := RX10) (cc := cX10_isTaken) (nL := 5) (ret := (some .boolean)) (by decide +kernel) rfl rfl (Nat.le_of_ble_eq_true rfl) rfl (fun p e s m below meth c A ls C B hl => qX10_isTaken_0 C (N := N) x2 x3 h _ _ _ B hl)

abbrev rmX10_nodesRun : Room := { frames := 4, cells := 0, slots := 0, locals := 106 }
theorem hdX10_nodesRun : yX10_nodesRun.cls ≠ "java/lang/invoke/MethodHandle" ∧ yX10_nodesRun.cls ≠ "java/lang/invoke/VarHandle" ∧ (parseMethodDescriptor yX10_nodesRun.desc).map (fun d => d.parameters.length) = some 2 := by decide +kernel
theorem iX10_nodesRun_X9 : ∀ w ∈ wsX90, w ∈ wsX10_nodesRun := by decide +kernel
theorem gfX10_nodesRun_24 {p : Program} {l : Launch} {e : Env} {R : Room} {s : State} {m : MethodId} {args : Array Value} {below : List Frame} {meth : Method} {c : Code} {H : Heap} {locs : List Loc} {cells slots : Nat} {Q : State → Prop} {D : va_G} {A : Nat → Prop} {tys : List (ClassId × FieldType)} {Es : (Nat → Nat) × (Nat → Nat)} {ws : va_W} {pc : Nat} {ls : Array Slot} {rest : List Value} {a : Nat} (C : CT p s m args meth c RX10 cX10_nodesRun 6 (some .int) wsX10_nodesRun D A tys Es) (B : DB D A ws s H locs) (q0 : Nat) {fs : List Value} {v : Value} (he : ws[q0]? = some (a, .inr (9, fs))) (hv : fs[6]? = some v) (hdg : decode cX10_nodesRun pc = .ok (.getfield 24, 3)) (kk : W p l e R s m args below meth c H locs cells slots Q (F0 m (pc + 3) ls (v :: rest))) : W p l e R s m args below meth c H locs cells slots Q (F0 m pc ls (.ref a :: rest)) :=
  k_get (Cn := RX9) (T := TX9) (N := 7) (index := 24) C B iX10_nodesRun_X9 rfl 6 (by decide) (by decide +kernel) q0 he hv hdg kk
theorem gfX10_nodesRun_99 {p : Program} {l : Launch} {e : Env} {R : Room} {s : State} {m : MethodId} {args : Array Value} {below : List Frame} {meth : Method} {c : Code} {H : Heap} {locs : List Loc} {cells slots : Nat} {Q : State → Prop} {D : va_G} {A : Nat → Prop} {tys : List (ClassId × FieldType)} {Es : (Nat → Nat) × (Nat → Nat)} {ws : va_W} {pc : Nat} {ls : Array Slot} {rest : List Value} {a : Nat} (C : CT p s m args meth c RX10 cX10_nodesRun 6 (some .int) wsX10_nodesRun D A tys Es) (B : DB D A ws s H locs) (q0 : Nat) {fs : List Value} {v : Value} (he : ws[q0]? = some (a, .inr (9, fs))) (hv : fs[2]? = some v) (hdg : decode cX10_nodesRun pc = .ok (.getfield 99, 3)) (kk : W p l e R s m args below meth c H locs cells slots Q (F0 m (pc + 3) ls (v :: rest))) : W p l e R s m args below meth c H locs cells slots Q (F0 m pc ls (.ref a :: rest)) :=
  k_get (Cn := RX9) (T := TX9) (N := 7) (index := 99) C B iX10_nodesRun_X9 rfl 2 (by decide) (by decide +kernel) q0 he hv hdg kk
section
variable {p : Program} {l : Launch} {e : Env} {s : State} {m : MethodId} {args : Array Value} {below : List Frame} {meth : Method} {c : Code} {D : va_G} {A : Nat → Prop} {Es : (Nat → Nat) × (Nat → Nat)} {a b : Nat → Nat} {cI cJ cT : ClassId}
set_option maxHeartbeats 4000000 in
set_option maxRecDepth 100000 in
theorem qX10_nodesRun_17 (C : CT p s m args meth c RX10 cX10_nodesRun 6 (some .int) wsX10_nodesRun D A (tyl cI cJ cT) Es) {N : Nat} {tx_signs : Nat → Int32} {tx_wanted : Nat → Int32} {tx_owners : Nat → Int32} {tx_places : Nat → Int32} {tx_spans : Nat → Int32} {tx_partNodes : Nat → Int32} {tx_count : Int32} {z_r : Int32} {z_wk_low : Nat → Int64} {z_wk_mid : Nat → Int64} {z_wk_high : Nat → Int64} {z_wk_holds : Nat → Int64} : ∀ (n : Nat) (x2 : Int32) (x3 : Int32) (x4 : Int32) (wk_low : Nat → Int64) (wk_mid : Nat → Int64) (wk_high : Nat → Int64) (wk_holds : Nat → Int64), bX10_nodesRun_17 N tx_signs tx_wanted tx_owners tx_places tx_partNodes tx_count n x2 x3 x4 wk_low wk_mid wk_high wk_holds = some (z_r, z_wk_low, z_wk_mid, z_wk_high, z_wk_holds) → ∀ (H : Heap) (locs : List Loc) (ls : Array Slot), DB D A (wd_tx_wk a b cI cJ cT tx_signs tx_wanted tx_owners tx_places tx_spans tx_partNodes tx_count wk_low wk_mid wk_high wk_holds) s H locs → lv_has ls 6 [(0, .ref (a 19)), (1, .ref (b 0)), (2, .int x2), (3, .int x3), (4, .int x4)] → W p l e rmX10_nodesRun s m args below meth c H locs 0 0 (ZI below args s D A (tyl cI cJ cT) z_r (wd_tx_wk a b cI cJ cT tx_signs tx_wanted tx_owners tx_places tx_spans tx_partNodes tx_count z_wk_low z_wk_mid z_wk_high z_wk_holds) 0 0) (F0 m 17 ls []) := by
  have hx := C.1.1
  have hb := C.1.2.1
  have hown := C.1.2.2.2.1
  have hts := C.1.2.2.2.2
  intro n
  induction n with
  | zero => intro x2 x3 x4 wk_low wk_mid wk_high wk_holds h; cases h
  | succ n ih =>
    intro x2 x3 x4 wk_low wk_mid wk_high wk_holds h H locs ls B hl
    rw [bX10_nodesRun_17] at h
    refine lv_iload hx hb dX10_nodesRun_17 (lv_at hl 4 rfl) ?_
    refine lv_aload_n hx hb dX10_nodesRun_19 rfl (lv_at hl 1 rfl) ?_
    refine gfX10_nodesRun_24 C B 0 rfl rfl dX10_nodesRun_20 ?_
    refine lv_icmp_ge (tgt := 71) hx hb dX10_nodesRun_23 (by decide) (fun c_1 => ?_) (fun c_1 => ?_)
    · rw [if_pos c_1] at h
      refine lv_iload_n hx hb dX10_nodesRun_71 rfl (lv_at hl 3 rfl) ?_
      cases h
      exact k_iret C B dX10_nodesRun_72
    · rw [if_neg c_1] at h
      refine lv_aload_n hx hb dX10_nodesRun_26 rfl (lv_at hl 1 rfl) ?_
      refine gfX10_nodesRun_99 C B 0 rfl rfl dX10_nodesRun_27 ?_
      refine lv_iload hx hb dX10_nodesRun_30 (lv_at hl 4 rfl) ?_
      obtain ⟨b_2, h⟩ := bnd_some h
      refine k_iald C B 3 0 rfl rfl b_2 dX10_nodesRun_32 ?_
      refine lv_istore (lv' := [(5, .int (tx_owners (Int32.toNatClampNeg x4))), (0, .ref (a 19)), (1, .ref (b 0)), (2, .int x2), (3, .int x3), (4, .int x4)]) hx hb dX10_nodesRun_33 hl (by decide) rfl (fun ls hl => ?_)
      refine lv_iload_n hx hb dX10_nodesRun_35 rfl (lv_at hl 4 rfl) ?_
      refine lv_iload hx hb dX10_nodesRun_36 (lv_at hl 0 rfl) ?_
      refine lv_iushr (v := (iush x3 (tx_owners (Int32.toNatClampNeg x4)))) hx hb dX10_nodesRun_38 rfl ?_
      refine lv_iconst (v := 1) hx hb dX10_nodesRun_39 (by decide) ?_
      refine lv_iand hx hb dX10_nodesRun_40 ?_
      refine lv_if_eq (tgt := 65) hx hb dX10_nodesRun_41 (by decide) (fun c_3 => ?_) (fun c_3 => ?_)
      · rw [if_pos c_3] at h
        refine lv_iinc (v := (x4 + 1)) (lv' := [(4, .int (x4 + 1)), (5, .int (tx_owners (Int32.toNatClampNeg x4))), (0, .ref (a 19)), (1, .ref (b 0)), (2, .int x2), (3, .int x3)]) hx hb dX10_nodesRun_65 hl (k := 5) rfl rfl (by decide) rfl (fun ls hl => ?_)
        refine lv_goto (tgt := 17) hx hb dX10_nodesRun_68 (by decide) ?_
        exact ih x2 x3 (x4 + 1) wk_low wk_mid wk_high wk_holds h H locs ls B (lv_sub hl [2, 3, 4, 5, 0] rfl)
      · rw [if_neg c_3] at h
        refine lv_aload_n hx hb dX10_nodesRun_44 rfl (lv_at hl 1 rfl) ?_
        refine lv_aload_n hx hb dX10_nodesRun_45 rfl (lv_at hl 2 rfl) ?_
        refine lv_iload hx hb dX10_nodesRun_46 (lv_at hl 5 rfl) ?_
        refine lv_iload_n hx hb dX10_nodesRun_48 rfl (lv_at hl 3 rfl) ?_
        refine lv_bipush (v := 64) hx hb dX10_nodesRun_49 (by decide) ?_
        refine lv_irem hx hb dX10_nodesRun_51 (by decide) ?_
        obtain ⟨r_4, g_6, h⟩ := ob_some h
        try dsimp only at h
        refine kc_VI C B (q0 := 7) (ci := 10) (As := [.ref (b 0), .int x4, .int (x2 - x2 / (64 : Int32) * (64 : Int32))]) (rest := []) (w2 := (wd_tx_wk a b cI cJ cT tx_signs tx_wanted tx_owners tx_places tx_spans tx_partNodes tx_count wk_low wk_mid wk_high wk_holds)) (tX10_isTaken (a := a) (b := b) N g_6) gX10_nodesRun_X10_isTaken rfl ⟨rfl, rfl⟩ ⟨rfl, hdX10_isTaken⟩ ⟨Nat.le_of_ble_eq_true rfl, Nat.le_of_ble_eq_true rfl⟩ rfl rfl [0, 1, 2, 3, 4, 5, 6, 7, 8, 9, 10, 11] [] [0, 1, 2, 3, 4, 5, 6, 7, 8, 9, 10, 11] rfl rfl rfl rfl rfl rfl rfl rfl hl.1 rfl (Nat.le_of_ble_eq_true rfl) ⟨Nat.zero_le _, Nat.zero_le _⟩ dX10_nodesRun_52 (fun H locs B => ?_)
        refine lv_if_eq (tgt := 65) hx hb dX10_nodesRun_55 (by decide) (fun c_5 => ?_) (fun c_5 => ?_)
        · rw [if_pos c_5] at h
          refine lv_iinc (v := (x4 + 1)) (lv' := [(4, .int (x4 + 1)), (5, .int (tx_owners (Int32.toNatClampNeg x4))), (0, .ref (a 19)), (1, .ref (b 0)), (2, .int x2), (3, .int x3)]) hx hb dX10_nodesRun_65 hl (k := 5) rfl rfl (by decide) rfl (fun ls hl => ?_)
          refine lv_goto (tgt := 17) hx hb dX10_nodesRun_68 (by decide) ?_
          exact ih x2 x3 (x4 + 1) wk_low wk_mid wk_high wk_holds h H locs ls B (lv_sub hl [2, 3, 4, 5, 0] rfl)
        · rw [if_neg c_5] at h
          refine lv_iload_n hx hb dX10_nodesRun_58 rfl (lv_at hl 4 rfl) ?_
          refine lv_iconst (v := 1) hx hb dX10_nodesRun_59 (by decide) ?_
          refine lv_iload hx hb dX10_nodesRun_60 (lv_at hl 5 rfl) ?_
          refine lv_ishl hx hb dX10_nodesRun_62 ?_
          refine lv_ior hx hb dX10_nodesRun_63 ?_
          refine lv_istore_n (lv' := [(3, .int (x3 ||| ((1 : Int32) <<< (x4 &&& 31)))), (5, .int (tx_owners (Int32.toNatClampNeg x4))), (0, .ref (a 19)), (1, .ref (b 0)), (2, .int x2), (4, .int x4)]) hx hb dX10_nodesRun_64 rfl hl (by decide) rfl (fun ls hl => ?_)
          refine lv_iinc (v := (x4 + 1)) (lv' := [(4, .int (x4 + 1)), (3, .int (x3 ||| ((1 : Int32) <<< (x4 &&& 31)))), (5, .int (tx_owners (Int32.toNatClampNeg x4))), (0, .ref (a 19)), (1, .ref (b 0)), (2, .int x2)]) hx hb dX10_nodesRun_65 hl (k := 5) rfl rfl (by decide) rfl (fun ls hl => ?_)
          refine lv_goto (tgt := 17) hx hb dX10_nodesRun_68 (by decide) ?_
          exact ih x2 (x3 ||| ((1 : Int32) <<< (x4 &&& 31))) (x4 + 1) wk_low wk_mid wk_high wk_holds h H locs ls B (lv_sub hl [3, 4, 5, 1, 0] rfl)
set_option maxHeartbeats 4000000 in
set_option maxRecDepth 100000 in
theorem qX10_nodesRun_0 (C : CT p s m args meth c RX10 cX10_nodesRun 6 (some .int) wsX10_nodesRun D A (tyl cI cJ cT) Es) {N : Nat} {tx_signs : Nat → Int32} {tx_wanted : Nat → Int32} {tx_owners : Nat → Int32} {tx_places : Nat → Int32} {tx_spans : Nat → Int32} {tx_partNodes : Nat → Int32} {tx_count : Int32} {z_r : Int32} {z_wk_low : Nat → Int64} {z_wk_mid : Nat → Int64} {z_wk_high : Nat → Int64} {z_wk_holds : Nat → Int64} : ∀ (x2 : Int32) (wk_low : Nat → Int64) (wk_mid : Nat → Int64) (wk_high : Nat → Int64) (wk_holds : Nat → Int64), fX10_nodesRun N tx_signs tx_wanted tx_owners tx_places tx_partNodes tx_count x2 wk_low wk_mid wk_high wk_holds = some (z_r, z_wk_low, z_wk_mid, z_wk_high, z_wk_holds) → ∀ (H : Heap) (locs : List Loc) (ls : Array Slot), DB D A (wd_tx_wk a b cI cJ cT tx_signs tx_wanted tx_owners tx_places tx_spans tx_partNodes tx_count wk_low wk_mid wk_high wk_holds) s H locs → lv_has ls 6 [(0, .ref (a 19)), (1, .ref (b 0)), (2, .int x2)] → W p l e rmX10_nodesRun s m args below meth c H locs 0 0 (ZI below args s D A (tyl cI cJ cT) z_r (wd_tx_wk a b cI cJ cT tx_signs tx_wanted tx_owners tx_places tx_spans tx_partNodes tx_count z_wk_low z_wk_mid z_wk_high z_wk_holds) 0 0) (F0 m 0 ls []) := by
  have hx := C.1.1
  have hb := C.1.2.1
  have hown := C.1.2.2.2.1
  have hts := C.1.2.2.2.2
  intro x2 wk_low wk_mid wk_high wk_holds h H locs ls B hl
  rw [fX10_nodesRun] at h
  refine lv_aload_n hx hb dX10_nodesRun_0 rfl (lv_at hl 0 rfl) ?_
  refine lv_aload_n hx hb dX10_nodesRun_1 rfl (lv_at hl 1 rfl) ?_
  refine lv_bipush (v := -6) hx hb dX10_nodesRun_2 (by decide) ?_
  refine lv_iconst (v := 0) hx hb dX10_nodesRun_4 (by decide) ?_
  refine lv_iload_n hx hb dX10_nodesRun_5 rfl (lv_at hl 2 rfl) ?_
  refine lv_bipush (v := 64) hx hb dX10_nodesRun_6 (by decide) ?_
  refine lv_idiv hx hb dX10_nodesRun_8 (by decide) ?_
  obtain ⟨⟨wk_low_1, wk_mid_2, wk_high_3, wk_holds_4⟩, g_5, h⟩ := ob_some h
  try dsimp only at h
  refine kc_VV C B (q0 := 7) (ci := 10) (As := [.ref (b 0), .int (-6 : Int32), .int (0 : Int32), .int (x2 / (64 : Int32))]) (rest := []) (w2 := (wd_tx_wk a b cI cJ cT tx_signs tx_wanted tx_owners tx_places tx_spans tx_partNodes tx_count wk_low_1 wk_mid_2 wk_high_3 wk_holds_4)) (tX10_workOut (a := a) (b := b) N g_5) gX10_nodesRun_X10_workOut rfl ⟨rfl, rfl⟩ ⟨rfl, hdX10_workOut⟩ ⟨Nat.le_of_ble_eq_true rfl, Nat.le_of_ble_eq_true rfl⟩ rfl rfl [0, 1, 2, 3, 4, 5, 6, 7, 8, 9, 10, 11] [] [0, 1, 2, 3, 4, 5, 6, 7, 8, 9, 10, 11] rfl rfl rfl rfl rfl rfl rfl rfl hl.1 rfl (Nat.le_of_ble_eq_true rfl) ⟨Nat.zero_le _, Nat.zero_le _⟩ dX10_nodesRun_9 (fun H locs B => ?_)
  refine lv_iconst (v := 1) hx hb dX10_nodesRun_12 (by decide) ?_
  refine lv_istore_n (lv' := [(3, .int (1 : Int32)), (0, .ref (a 19)), (1, .ref (b 0)), (2, .int x2)]) hx hb dX10_nodesRun_13 rfl hl (by decide) rfl (fun ls hl => ?_)
  refine lv_iconst (v := 1) hx hb dX10_nodesRun_14 (by decide) ?_
  refine lv_istore (lv' := [(4, .int (1 : Int32)), (3, .int (1 : Int32)), (0, .ref (a 19)), (1, .ref (b 0)), (2, .int x2)]) hx hb dX10_nodesRun_15 hl (by decide) rfl (fun ls hl => ?_)
  exact qX10_nodesRun_17 C N x2 (1 : Int32) (1 : Int32) wk_low_1 wk_mid_2 wk_high_3 wk_holds_4 h H locs ls B (lv_sub hl [2, 3, 4, 1, 0] rfl)
end
theorem tX10_nodesRun {l : Launch} {D : va_G} {Es : (Nat → Nat) × (Nat → Nat)} {a b : Nat → Nat} {cI cJ cT : ClassId} {tx_signs : Nat → Int32} {tx_wanted : Nat → Int32} {tx_owners : Nat → Int32} {tx_places : Nat → Int32} {tx_spans : Nat → Int32} {tx_partNodes : Nat → Int32} {tx_count : Int32} {wk_low : Nat → Int64} {wk_mid : Nat → Int64} {wk_high : Nat → Int64} {wk_holds : Nat → Int64} {x2 : Int32} {z_r : Int32} {z_wk_low : Nat → Int64} {z_wk_mid : Nat → Int64} {z_wk_high : Nat → Int64} {z_wk_holds : Nat → Int64} (N : Nat) (h : fX10_nodesRun N tx_signs tx_wanted tx_owners tx_places tx_partNodes tx_count x2 wk_low wk_mid wk_high wk_holds = some (z_r, z_wk_low, z_wk_mid, z_wk_high, z_wk_holds)) : CtI l yX10_nodesRun wsX10_nodesRun rmX10_nodesRun D (tyl cI cJ cT) Es [.ref (a 19), .ref (b 0), .int x2] (wd_tx_wk a b cI cJ cT tx_signs tx_wanted tx_owners tx_places tx_spans tx_partNodes tx_count wk_low wk_mid wk_high wk_holds) z_r (wd_tx_wk a b cI cJ cT tx_signs tx_wanted tx_owners tx_places tx_spans tx_partNodes tx_count z_wk_low z_wk_mid z_wk_high z_wk_holds) :=
  CtI.of (own := RX10) (cc := cX10_nodesRun) (nL := 6) (ret := (some .int)) (by decide +kernel) rfl rfl (Nat.le_of_ble_eq_true rfl) rfl (fun p e s m below meth c A ls C B hl => qX10_nodesRun_0 C (N := N) x2 wk_low wk_mid wk_high wk_holds h _ _ _ B hl)
