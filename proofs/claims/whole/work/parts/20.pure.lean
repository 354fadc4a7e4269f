abbrev rmX7_bitAt : Room := { frames := 0, cells := 0, slots := 0, locals := 0 }
theorem hdX7_bitAt : yX7_bitAt.cls ≠ "java/lang/invoke/MethodHandle" ∧ yX7_bitAt.cls ≠ "java/lang/invoke/VarHandle" ∧ (parseMethodDescriptor yX7_bitAt.desc).map (fun d => d.parameters.length) = some 2 := by decide +kernel
section
variable {p : Program} {l : Launch} {e : Env} {s : State} {m : MethodId} {args : Array Value} {below : List Frame} {meth : Method} {c : Code} {D : va_G} {A : Nat → Prop} {Es : (Nat → Nat) × (Nat → Nat)} {a b : Nat → Nat} {cI cJ cT : ClassId}
set_option maxHeartbeats 4000000 in
set_option maxRecDepth 100000 in
theorem qX7_bitAt_0 (C : CT p s m args meth c RX7 cX7_bitAt 3 (some .int) wsX7_bitAt D A (tyl cI cJ cT) Es) {N : Nat} {z_r : Int32} : ∀ (x0 : Int64) (x2 : Int32), fX7_bitAt N x0 x2 = some z_r → ∀ (H : Heap) (locs : List Loc) (ls : Array Slot), DB D A [] s H locs → lv_has ls 3 [(0, .long x0), (2, .int x2)] → W p l e rmX7_bitAt s m args below meth c H locs 0 0 (ZI below args s D A (tyl cI cJ cT) z_r [] 0 0) (F0 m 0 ls []) := by
  have hx := C.1.1
  have hb := C.1.2.1
  have hown := C.1.2.2.2.1
  have hts := C.1.2.2.2.2
  intro x0 x2 h H locs ls B hl
  rw [fX7_bitAt] at h
  refine lv_lload_n hx hb dX7_bitAt_0 rfl (lv_at hl 0 rfl) ?_
  refine lv_iload_n hx hb dX7_bitAt_1 rfl (lv_at hl 1 rfl) ?_
  refine lv_lushr (v := (lush x0 x2)) hx hb dX7_bitAt_2 rfl ?_
  refine lv_lconst (v := 1) hx hb dX7_bitAt_3 (by decide) ?_
  refine lv_land hx hb dX7_bitAt_4 ?_
  refine lv_l2i (v := (Int64.toInt32 ((lush x0 x2) &&& (1 : Int64)))) hx hb dX7_bitAt_5 rfl ?_
  cases h
  exact k_iret C B dX7_bitAt_6
end
theorem tX7_bitAt {l : Launch} {D : va_G} {Es : (Nat → Nat) × (Nat → Nat)} {cI cJ cT : ClassId} {x0 : Int64} {x2 : Int32} {z_r : Int32} (N : Nat) (h : fX7_bitAt N x0 x2 = some z_r) : CtI l yX7_bitAt wsX7_bitAt rmX7_bitAt D (tyl cI cJ cT) Es [.long x0, .int x2] [] z_r [] :=
  CtI.of (own := RX7) (cc := cX7_bitAt) (nL := 3) (ret := (some .int)) (by decide +kernel) rfl rfl (Nat.le_of_ble_eq_true rfl) rfl (fun p e s m below meth c A ls C B hl => qX7_bitAt_0 C (N := N) x0 x2 h _ _ _ B hl)

abbrev rmX9_isNumber : Room := { frames := 0, cells := 0, slots := 0, locals := 0 }
theorem hdX9_isNumber : yX9_isNumber.cls ≠ "java/lang/invoke/MethodHandle" ∧ yX9_isNumber.cls ≠ "java/lang/invoke/VarHandle" ∧ (parseMethodDescriptor yX9_isNumber.desc).map (fun d => d.parameters.length) = some 1 := by decide +kernel
section
variable {p : Program} {l : Launch} {e : Env} {s : State} {m : MethodId} {args : Array Value} {below : List Frame} {meth : Method} {c : Code} {D : va_G} {A : Nat → Prop} {Es : (Nat → Nat) × (Nat → Nat)} {a b : Nat → Nat} {cI cJ cT : ClassId}
set_option maxHeartbeats 4000000 in
set_option maxRecDepth 100000 in
theorem qX9_isNumber_0 (C : CT p s m args meth c RX9 cX9_isNumber 1 (some .boolean) wsX9_isNumber D A (tyl cI cJ cT) Es) {N : Nat} {z_r : Int32} : ∀ (x0 : Int32), fX9_isNumber N x0 = some z_r → ∀ (H : Heap) (locs : List Loc) (ls : Array Slot), DB D A [] s H locs → lv_has ls 1 [(0, .int x0)] → W p l e rmX9_isNumber s m args below meth c H locs 0 0 (ZI below args s D A (tyl cI cJ cT) z_r [] 0 0) (F0 m 0 ls []) := by
  have hx := C.1.1
  have hb := C.1.2.1
  have hown := C.1.2.2.2.1
  have hts := C.1.2.2.2.2
  intro x0 h H locs ls B hl
  rw [fX9_isNumber] at h
  refine lv_iload_n hx hb dX9_isNumber_0 rfl (lv_at hl 0 rfl) ?_
  refine lv_bipush (v := 48) hx hb dX9_isNumber_1 (by decide) ?_
  refine lv_icmp_lt (tgt := 16) hx hb dX9_isNumber_3 (by decide) (fun c_1 => ?_) (fun c_1 => ?_)
  · rw [if_pos c_1] at h
    refine lv_iconst (v := 0) hx hb dX9_isNumber_16 (by decide) ?_
    cases h
    exact k_zret C B (by decide) dX9_isNumber_17
  · rw [if_neg c_1] at h
    refine lv_iload_n hx hb dX9_isNumber_6 rfl (lv_at hl 0 rfl) ?_
    refine lv_bipush (v := 56) hx hb dX9_isNumber_7 (by decide) ?_
    refine lv_icmp_ge (tgt := 16) hx hb dX9_isNumber_9 (by decide) (fun c_2 => ?_) (fun c_2 => ?_)
    · rw [if_pos c_2] at h
      refine lv_iconst (v := 0) hx hb dX9_isNumber_16 (by decide) ?_
      cases h
      exact k_zret C B (by decide) dX9_isNumber_17
    · rw [if_neg c_2] at h
      refine lv_iconst (v := 1) hx hb dX9_isNumber_12 (by decide) ?_
      refine lv_goto (tgt := 17) hx hb dX9_isNumber_13 (by decide) ?_
      cases h
      exact k_zret C B (by decide) dX9_isNumber_17
end
theorem tX9_isNumber {l : Launch} {D : va_G} {Es : (Nat → Nat) × (Nat → Nat)} {cI cJ cT : ClassId} {x0 : Int32} {z_r : Int32} (N : Nat) (h : fX9_isNumber N x0 = some z_r) : CtI l yX9_isNumber wsX9_isNumber rmX9_isNumber D (tyl cI cJ cT) Es [.int x0] [] z_r [] :=
  CtI.of (own := RX9) (cc := cX9_isNumber) (nL := 1) (ret := (some .boolean)) (by decide +kernel) rfl rfl (Nat.le_of_ble_eq_true rfl) rfl (fun p e s m below meth c A ls C B hl => qX9_isNumber_0 C (N := N) x0 h _ _ _ B hl)

abbrev rmX1_kindOf : Room := { frames := 4, cells := 0, slots := 0, locals := 91 }
theorem hdX1_kindOf : yX1_kindOf.cls ≠ "java/lang/invoke/MethodHandle" ∧ yX1_kindOf.cls ≠ "java/lang/invoke/VarHandle" ∧ (parseMethodDescriptor yX1_kindOf.desc).map (fun d => d.parameters.length) = some 1 := by decide +kernel
section
variable {p : Program} {l : Launch} {e : Env} {s : State} {m : MethodId} {args : Array Value} {below : List Frame} {meth : Method} {c : Code} {D : va_G} {A : Nat → Prop} {Es : (Nat → Nat) × (Nat → Nat)} {a b : Nat → Nat} {cI cJ cT : ClassId}
set_option maxHeartbeats 4000000 in
set_option maxRecDepth 100000 in
theorem qX1_kindOf_0 (C : CT p s m args meth c RX1 cX1_kindOf 1 (some (.object "java/lang/String")) wsX1_kindOf D A (tyl cI cJ cT) Es) {N : Nat} {z_r : Nat} : ∀ (x0 : Int32), fX1_kindOf N x0 = some z_r → ∀ (H : Heap) (locs : List Loc) (ls : Array Slot), DB D A [] s H locs → lv_has ls 1 [(0, .int x0)] → W p l e rmX1_kindOf s m args below meth c H locs 0 0 (ZA below args s D A (tyl cI cJ cT) Es z_r [] 0 0) (F0 m 0 ls []) := by
  have hx := C.1.1
  have hb := C.1.2.1
  have hown := C.1.2.2.2.1
  have hts := C.1.2.2.2.2
  intro x0 h H locs ls B hl
  rw [fX1_kindOf] at h
  refine va_ldcS hx hb hown C.2.2.2.1.2.2.1 dX1_kindOf_0 ?_
  refine lv_iload_n hx hb dX1_kindOf_2 rfl (lv_at hl 0 rfl) ?_
  refine lv_i2c (v := (i2c_ x0)) hx hb dX1_kindOf_3 rfl ?_
  obtain ⟨r_1, g_6, h⟩ := ob_some h
  try dsimp only at h
  refine kc_TI C B (As := [.int (i2c_ x0)]) (rest := []) (w2 := []) (tJ0_indexOf_0f7a4 N g_6) gX1_kindOf_J0_indexOf_0f7a4 rfl ⟨rfl, rfl⟩ ⟨rfl, hdJ0_indexOf_0f7a4⟩ ⟨Nat.le_of_ble_eq_true rfl, Nat.le_of_ble_eq_true rfl⟩ (by decide) [] [] [] rfl rfl rfl rfl rfl rfl rfl rfl hl.1 rfl (Nat.le_of_ble_eq_true rfl) ⟨Nat.zero_le _, Nat.zero_le _⟩ dX1_kindOf_4 (fun H locs B => ?_)
  refine lv_if_lt (tgt := 13) hx hb dX1_kindOf_7 (by decide) (fun c_2 => ?_) (fun c_2 => ?_)
  · rw [if_pos c_2] at h
    refine va_ldcS hx hb hown C.2.2.2.1.2.2.2.1 dX1_kindOf_13 ?_
    refine lv_iload_n hx hb dX1_kindOf_15 rfl (lv_at hl 0 rfl) ?_
    refine lv_i2c (v := (i2c_ x0)) hx hb dX1_kindOf_16 rfl ?_
    obtain ⟨r_3, g_5, h⟩ := ob_some h
    try dsimp only at h
    refine kc_TI C B (As := [.int (i2c_ x0)]) (rest := []) (w2 := []) (tJ0_indexOf_0f7a4 N g_5) gX1_kindOf_J0_indexOf_0f7a4 rfl ⟨rfl, rfl⟩ ⟨rfl, hdJ0_indexOf_0f7a4⟩ ⟨Nat.le_of_ble_eq_true rfl, Nat.le_of_ble_eq_true rfl⟩ (by decide) [] [] [] rfl rfl rfl rfl rfl rfl rfl rfl hl.1 rfl (Nat.le_of_ble_eq_true rfl) ⟨Nat.zero_le _, Nat.zero_le _⟩ dX1_kindOf_17 (fun H locs B => ?_)
    refine lv_if_lt (tgt := 28) hx hb dX1_kindOf_20 (by decide) (fun c_4 => ?_) (fun c_4 => ?_)
    · rw [if_pos c_4] at h
      refine va_ldcS hx hb hown C.2.2.2.1.2.2.2.2.1 dX1_kindOf_28 ?_
      cases h
      exact k_aret C B dX1_kindOf_30
    · rw [if_neg c_4] at h
      refine va_ldcS hx hb hown C.2.2.2.1.2.2.2.1 dX1_kindOf_23 ?_
      refine lv_goto (tgt := 30) hx hb dX1_kindOf_25 (by decide) ?_
      cases h
      exact k_aret C B dX1_kindOf_30
  · rw [if_neg c_2] at h
    refine va_ldcS hx hb hown C.2.2.2.1.2.2.1 dX1_kindOf_10 ?_
    cases h
    exact k_aret C B dX1_kindOf_12
end
theorem tX1_kindOf {l : Launch} {D : va_G} {Es : (Nat → Nat) × (Nat → Nat)} {cI cJ cT : ClassId} {x0 : Int32} {z_r : Nat} (N : Nat) (h : fX1_kindOf N x0 = some z_r) : CtA l yX1_kindOf wsX1_kindOf rmX1_kindOf D (tyl cI cJ cT) Es [.int x0] [] z_r [] :=
  CtA.of (own := RX1) (cc := cX1_kindOf) (nL := 1) (ret := (some (.object "java/lang/String"))) (by decide +kernel) rfl rfl (Nat.le_of_ble_eq_true rfl) rfl (fun p e s m below meth c A ls C B hl => qX1_kindOf_0 C (N := N) x0 h _ _ _ B hl)

abbrev rmX9_partsWanted : Room := { frames := 4, cells := 0, slots := 0, locals := 91 }
theorem hdX9_partsWanted : yX9_partsWanted.cls ≠ "java/lang/invoke/MethodHandle" ∧ yX9_partsWanted.cls ≠ "java/lang/invoke/VarHandle" ∧ (parseMethodDescriptor yX9_partsWanted.desc).map (fun d => d.parameters.length) = some 1 := by decide +kernel
section
variable {p : Program} {l : Launch} {e : Env} {s : State} {m : MethodId} {args : Array Value} {below : List Frame} {meth : Method} {c : Code} {D : va_G} {A : Nat → Prop} {Es : (Nat → Nat) × (Nat → Nat)} {a b : Nat → Nat} {cI cJ cT : ClassId}
set_option maxHeartbeats 4000000 in
set_option maxRecDepth 100000 in
theorem qX9_partsWanted_0 (C : CT p s m args meth c RX9 cX9_partsWanted 1 (some .int) wsX9_partsWanted D A (tyl cI cJ cT) Es) {N : Nat} {z_r : Int32} : ∀ (x0 : Int32), fX9_partsWanted N x0 = some z_r → ∀ (H : Heap) (locs : List Loc) (ls : Array Slot), DB D A [] s H locs → lv_has ls 1 [(0, .int x0)] → W p l e rmX9_partsWanted s m args below meth c H locs 0 0 (ZI below args s D A (tyl cI cJ cT) z_r [] 0 0) (F0 m 0 ls []) := by
  have hx := C.1.1
  have hb := C.1.2.1
  have hown := C.1.2.2.2.1
  have hts := C.1.2.2.2.2
  intro x0 h H locs ls B hl
  rw [fX9_partsWanted] at h
  refine va_ldcS hx hb hown C.2.2.2.1.2.2.2.2.2.1 dX9_partsWanted_0 ?_
  refine lv_iload_n hx hb dX9_partsWanted_2 rfl (lv_at hl 0 rfl) ?_
  refine lv_i2c (v := (i2c_ x0)) hx hb dX9_partsWanted_3 rfl ?_
  obtain ⟨r_1, g_12, h⟩ := ob_some h
  try dsimp only at h
  refine kc_TI C B (As := [.int (i2c_ x0)]) (rest := []) (w2 := []) (tJ0_indexOf_0f7a4 N g_12) gX9_partsWanted_J0_indexOf_0f7a4 rfl ⟨rfl, rfl⟩ ⟨rfl, hdJ0_indexOf_0f7a4⟩ ⟨Nat.le_of_ble_eq_true rfl, Nat.le_of_ble_eq_true rfl⟩ (by decide) [] [] [] rfl rfl rfl rfl rfl rfl rfl rfl hl.1 rfl (Nat.le_of_ble_eq_true rfl) ⟨Nat.zero_le _, Nat.zero_le _⟩ dX9_partsWanted_4 (fun H locs B => ?_)
  refine lv_if_lt (tgt := 12) hx hb dX9_partsWanted_7 (by decide) (fun c_2 => ?_) (fun c_2 => ?_)
  · rw [if_pos c_2] at h
    refine va_ldcS hx hb hown C.2.2.2.1.2.2.2.2.2.2.1 dX9_partsWanted_12 ?_
    refine lv_iload_n hx hb dX9_partsWanted_14 rfl (lv_at hl 0 rfl) ?_
    refine lv_i2c (v := (i2c_ x0)) hx hb dX9_partsWanted_15 rfl ?_
    obtain ⟨r_3, g_11, h⟩ := ob_some h
    try dsimp only at h
    refine kc_TI C B (As := [.int (i2c_ x0)]) (rest := []) (w2 := []) (tJ0_indexOf_0f7a4 N g_11) gX9_partsWanted_J0_indexOf_0f7a4 rfl ⟨rfl, rfl⟩ ⟨rfl, hdJ0_indexOf_0f7a4⟩ ⟨Nat.le_of_ble_eq_true rfl, Nat.le_of_ble_eq_true rfl⟩ (by decide) [] [] [] rfl rfl rfl rfl rfl rfl rfl rfl hl.1 rfl (Nat.le_of_ble_eq_true rfl) ⟨Nat.zero_le _, Nat.zero_le _⟩ dX9_partsWanted_16 (fun H locs B => ?_)
    refine lv_if_lt (tgt := 24) hx hb dX9_partsWanted_19 (by decide) (fun c_4 => ?_) (fun c_4 => ?_)
    · rw [if_pos c_4] at h
      refine lv_iload_n hx hb dX9_partsWanted_24 rfl (lv_at hl 0 rfl) ?_
      obtain ⟨r_5, g_10, h⟩ := ob_some h
      try dsimp only at h
      refine kc_SI C B (As := [.int x0]) (rest := []) (w2 := []) (tX9_isNumber N g_10) gX9_partsWanted_X9_isNumber rfl ⟨rfl, rfl⟩ hdX9_isNumber ⟨Nat.le_of_ble_eq_true rfl, Nat.le_of_ble_eq_true rfl⟩ [] [] [] rfl rfl rfl rfl rfl rfl rfl rfl hl.1 rfl (Nat.le_of_ble_eq_true rfl) ⟨Nat.zero_le _, Nat.zero_le _⟩ dX9_partsWanted_25 (fun H locs B => ?_)
      refine lv_if_ne (tgt := 41) hx hb dX9_partsWanted_28 (by decide) (fun c_6 => ?_) (fun c_6 => ?_)
      · rw [if_neg c_6] at h
        refine lv_iconst (v := 0) hx hb dX9_partsWanted_41 (by decide) ?_
        refine lv_goto (tgt := 46) hx hb dX9_partsWanted_42 (by decide) ?_
        cases h
        exact k_iret C B dX9_partsWanted_46
      · rw [if_pos c_6] at h
        refine va_ldcS hx hb hown C.2.2.2.1.2.2.2.2.2.2.2 dX9_partsWanted_31 ?_
        refine lv_iload_n hx hb dX9_partsWanted_33 rfl (lv_at hl 0 rfl) ?_
        refine lv_i2c (v := (i2c_ x0)) hx hb dX9_partsWanted_34 rfl ?_
        obtain ⟨r_7, g_9, h⟩ := ob_some h
        try dsimp only at h
        refine kc_TI C B (As := [.int (i2c_ x0)]) (rest := []) (w2 := []) (tJ0_indexOf_0f7a4 N g_9) gX9_partsWanted_J0_indexOf_0f7a4 rfl ⟨rfl, rfl⟩ ⟨rfl, hdJ0_indexOf_0f7a4⟩ ⟨Nat.le_of_ble_eq_true rfl, Nat.le_of_ble_eq_true rfl⟩ (by decide) [] [] [] rfl rfl rfl rfl rfl rfl rfl rfl hl.1 rfl (Nat.le_of_ble_eq_true rfl) ⟨Nat.zero_le _, Nat.zero_le _⟩ dX9_partsWanted_35 (fun H locs B => ?_)
        refine lv_if_lt (tgt := 45) hx hb dX9_partsWanted_38 (by decide) (fun c_8 => ?_) (fun c_8 => ?_)
        · rw [if_pos c_8] at h
          refine lv_iconst (v := -1) hx hb dX9_partsWanted_45 (by decide) ?_
          cases h
          exact k_iret C B dX9_partsWanted_46
        · rw [if_neg c_8] at h
          refine lv_iconst (v := 0) hx hb dX9_partsWanted_41 (by decide) ?_
          refine lv_goto (tgt := 46) hx hb dX9_partsWanted_42 (by decide) ?_
          cases h
          exact k_iret C B dX9_partsWanted_46
    · rw [if_neg c_4] at h
      refine lv_iconst (v := 4) hx hb dX9_partsWanted_22 (by decide) ?_
      cases h
      exact k_iret C B dX9_partsWanted_23
  · rw [if_neg c_2] at h
    refine lv_iconst (v := 2) hx hb dX9_partsWanted_10 (by decide) ?_
    cases h
    exact k_iret C B dX9_partsWanted_11
end
theorem tX9_partsWanted {l : Launch} {D : va_G} {Es : (Nat → Nat) × (Nat → Nat)} {cI cJ cT : ClassId} {x0 : Int32} {z_r : Int32} (N : Nat) (h : fX9_partsWanted N x0 = some z_r) : CtI l yX9_partsWanted wsX9_partsWanted rmX9_partsWanted D (tyl cI cJ cT) Es [.int x0] [] z_r [] :=
  CtI.of (own := RX9) (cc := cX9_partsWanted) (nL := 1) (ret := (some .int)) (by decide +kernel) rfl rfl (Nat.le_of_ble_eq_true rfl) rfl (fun p e s m below meth c A ls C B hl => qX9_partsWanted_0 C (N := N) x0 h _ _ _ B hl)

abbrev rmX5_mayStand : Room := { frames := 5, cells := 0, slots := 0, locals := 111 }
theorem hdX5_mayStand : yX5_mayStand.cls ≠ "java/lang/invoke/MethodHandle" ∧ yX5_mayStand.cls ≠ "java/lang/invoke/VarHandle" ∧ (parseMethodDescriptor yX5_mayStand.desc).map (fun d => d.parameters.length) = some 2 := by decide +kernel
section
variable {p : Program} {l : Launch} {e : Env} {s : State} {m : MethodId} {args : Array Value} {below : List Frame} {meth : Method} {c : Code} {D : va_G} {A : Nat → Prop} {Es : (Nat → Nat) × (Nat → Nat)} {a b : Nat → Nat} {cI cJ cT : ClassId}
set_option maxHeartbeats 4000000 in
set_option maxRecDepth 100000 in
theorem qX5_mayStand_0 (C : CT p s m args meth c RX5 cX5_mayStand 3 (some .boolean) wsX5_mayStand D A (tyl cI cJ cT) Es) {N : Nat} {z_r : Int32} : ∀ (x0 : Int32) (x1 : Int32), fX5_mayStand N x0 x1 = some z_r → ∀ (H : Heap) (locs : List Loc) (ls : Array Slot), DB D A [] s H locs → lv_has ls 3 [(0, .int x0), (1, .int x1)] → W p l e rmX5_mayStand s m args below meth c H locs 0 0 (ZI below args s D A (tyl cI cJ cT) z_r [] 0 0) (F0 m 0 ls []) := by
  have hx := C.1.1
  have hb := C.1.2.1
  have hown := C.1.2.2.2.1
  have hts := C.1.2.2.2.2
  intro x0 x1 h H locs ls B hl
  rw [fX5_mayStand] at h
  refine lv_iload_n hx hb dX5_mayStand_0 rfl (lv_at hl 0 rfl) ?_
  obtain ⟨r_1, g_5, h⟩ := ob_some h
  try dsimp only at h
  refine kc_SI C B (As := [.int x0]) (rest := []) (w2 := []) (tX9_partsWanted N g_5) gX5_mayStand_X9_partsWanted rfl ⟨rfl, rfl⟩ hdX9_partsWanted ⟨Nat.le_of_ble_eq_true rfl, Nat.le_of_ble_eq_true rfl⟩ [] [] [] rfl rfl rfl rfl rfl rfl rfl rfl hl.1 rfl (Nat.le_of_ble_eq_true rfl) ⟨Nat.zero_le _, Nat.zero_le _⟩ dX5_mayStand_1 (fun H locs B => ?_)
  refine lv_istore_n (lv' := [(2, .int r_1), (0, .int x0), (1, .int x1)]) hx hb dX5_mayStand_4 rfl hl (by decide) rfl (fun ls hl => ?_)
  refine lv_iload_n hx hb dX5_mayStand_5 rfl (lv_at hl 0 rfl) ?_
  refine lv_if_eq (tgt := 19) hx hb dX5_mayStand_6 (by decide) (fun c_2 => ?_) (fun c_2 => ?_)
  · rw [if_pos c_2] at h
    refine lv_iconst (v := 1) hx hb dX5_mayStand_19 (by decide) ?_
    refine lv_goto (tgt := 24) hx hb dX5_mayStand_20 (by decide) ?_
    cases h
    exact k_zret C B (by decide) dX5_mayStand_24
  · rw [if_neg c_2] at h
    refine lv_iload_n hx hb dX5_mayStand_9 rfl (lv_at hl 0 rfl) ?_
    refine lv_if_le (tgt := 23) hx hb dX5_mayStand_10 (by decide) (fun c_3 => ?_) (fun c_3 => ?_)
    · rw [if_pos c_3] at h
      refine lv_iconst (v := 0) hx hb dX5_mayStand_23 (by decide) ?_
      cases h
      exact k_zret C B (by decide) dX5_mayStand_24
    · rw [if_neg c_3] at h
      refine lv_iload_n hx hb dX5_mayStand_13 rfl (lv_at hl 2 rfl) ?_
      refine lv_bipush (v := 9) hx hb dX5_mayStand_14 (by decide) ?_
      refine lv_icmp_ge (tgt := 23) hx hb dX5_mayStand_16 (by decide) (fun c_4 => ?_) (fun c_4 => ?_)
      · rw [if_pos c_4] at h
        refine lv_iconst (v := 0) hx hb dX5_mayStand_23 (by decide) ?_
        cases h
        exact k_zret C B (by decide) dX5_mayStand_24
      · rw [if_neg c_4] at h
        refine lv_iconst (v := 1) hx hb dX5_mayStand_19 (by decide) ?_
        refine lv_goto (tgt := 24) hx hb dX5_mayStand_20 (by decide) ?_
        cases h
        exact k_zret C B (by decide) dX5_mayStand_24
end
theorem tX5_mayStand {l : Launch} {D : va_G} {Es : (Nat → Nat) × (Nat → Nat)} {cI cJ cT : ClassId} {x0 : Int32} {x1 : Int32} {z_r : Int32} (N : Nat) (h : fX5_mayStand N x0 x1 = some z_r) : CtI l yX5_mayStand wsX5_mayStand rmX5_mayStand D (tyl cI cJ cT) Es [.int x0, .int x1] [] z_r [] :=
  CtI.of (own := RX5) (cc := cX5_mayStand) (nL := 3) (ret := (some .boolean)) (by decide +kernel) rfl rfl (Nat.le_of_ble_eq_true rfl) rfl (fun p e s m below meth c A ls C B hl => qX5_mayStand_0 C (N := N) x0 x1 h _ _ _ B hl)

abbrev rmX6_digitOf : Room := { frames := 0, cells := 0, slots := 0, locals := 0 }
theorem hdX6_digitOf : yX6_digitOf.cls ≠ "java/lang/invoke/MethodHandle" ∧ yX6_digitOf.cls ≠ "java/lang/invoke/VarHandle" ∧ (parseMethodDescriptor yX6_digitOf.desc).map (fun d => d.parameters.length) = some 2 := by decide +kernel
section
variable {p : Program} {l : Launch} {e : Env} {s : State} {m : MethodId} {args : Array Value} {below : List Frame} {meth : Method} {c : Code} {D : va_G} {A : Nat → Prop} {Es : (Nat → Nat) × (Nat → Nat)} {a b : Nat → Nat} {cI cJ cT : ClassId}
set_option maxHeartbeats 4000000 in
set_option maxRecDepth 100000 in
theorem qX6_digitOf_0 (C : CT p s m args meth c RX6 cX6_digitOf 2 (some .int) wsX6_digitOf D A (tyl cI cJ cT) Es) {N : Nat} {z_r : Int32} : ∀ (x0 : Int32) (x1 : Int32), fX6_digitOf N x0 x1 = some z_r → ∀ (H : Heap) (locs : List Loc) (ls : Array Slot), DB D A [] s H locs → lv_has ls 2 [(0, .int x0), (1, .int x1)] → W p l e rmX6_digitOf s m args below meth c H locs 0 0 (ZI below args s D A (tyl cI cJ cT) z_r [] 0 0) (F0 m 0 ls []) := by
  have hx := C.1.1
  have hb := C.1.2.1
  have hown := C.1.2.2.2.1
  have hts := C.1.2.2.2.2
  intro x0 x1 h H locs ls B hl
  rw [fX6_digitOf] at h
  refine lv_iload_n hx hb dX6_digitOf_0 rfl (lv_at hl 0 rfl) ?_
  refine lv_iconst (v := 3) hx hb dX6_digitOf_1 (by decide) ?_
  refine lv_iload_n hx hb dX6_digitOf_2 rfl (lv_at hl 1 rfl) ?_
  refine lv_imul hx hb dX6_digitOf_3 ?_
  refine lv_ishr hx hb dX6_digitOf_4 ?_
  refine lv_bipush (v := 8) hx hb dX6_digitOf_5 (by decide) ?_
  refine lv_irem hx hb dX6_digitOf_7 (by decide) ?_
  cases h
  exact k_iret C B dX6_digitOf_8
end
theorem tX6_digitOf {l : Launch} {D : va_G} {Es : (Nat → Nat) × (Nat → Nat)} {cI cJ cT : ClassId} {x0 : Int32} {x1 : Int32} {z_r : Int32} (N : Nat) (h : fX6_digitOf N x0 x1 = some z_r) : CtI l yX6_digitOf wsX6_digitOf rmX6_digitOf D (tyl cI cJ cT) Es [.int x0, .int x1] [] z_r [] :=
  CtI.of (own := RX6) (cc := cX6_digitOf) (nL := 2) (ret := (some .int)) (by decide +kernel) rfl rfl (Nat.le_of_ble_eq_true rfl) rfl (fun p e s m below meth c A ls C B hl => qX6_digitOf_0 C (N := N) x0 x1 h _ _ _ B hl)

abbrev rmX6_together : Room := { frames := 1, cells := 0, slots := 0, locals := 21 }
theorem hdX6_together : yX6_together.cls ≠ "java/lang/invoke/MethodHandle" ∧ yX6_together.cls ≠ "java/lang/invoke/VarHandle" ∧ (parseMethodDescriptor yX6_together.desc).map (fun d => d.parameters.length) = some 1 := by decide +kernel
section
variable {p : Program} {l : Launch} {e : Env} {s : State} {m : MethodId} {args : Array Value} {below : List Frame} {meth : Method} {c : Code} {D : va_G} {A : Nat → Prop} {Es : (Nat → Nat) × (Nat → Nat)} {a b : Nat → Nat} {cI cJ cT : ClassId}
set_option maxHeartbeats 4000000 in
set_option maxRecDepth 100000 in
theorem qX6_together_0 (C : CT p s m args meth c RX6 cX6_together 1 (some .int) wsX6_together D A (tyl cI cJ cT) Es) {N : Nat} {z_r : Int32} : ∀ (x0 : Int32), fX6_together N x0 = some z_r → ∀ (H : Heap) (locs : List Loc) (ls : Array Slot), DB D A [] s H locs → lv_has ls 1 [(0, .int x0)] → W p l e rmX6_together s m args below meth c H locs 0 0 (ZI below args s D A (tyl cI cJ cT) z_r [] 0 0) (F0 m 0 ls []) := by
  have hx := C.1.1
  have hb := C.1.2.1
  have hown := C.1.2.2.2.1
  have hts := C.1.2.2.2.2
  intro x0 h H locs ls B hl
  rw [fX6_together] at h
  refine lv_iload_n hx hb dX6_together_0 rfl (lv_at hl 0 rfl) ?_
  refine lv_iconst (v := 0) hx hb dX6_together_1 (by decide) ?_
  obtain ⟨r_1, g_6, h⟩ := ob_some h
  try dsimp only at h
  refine kc_SI C B (As := [.int x0, .int (0 : Int32)]) (rest := []) (w2 := []) (tX6_digitOf N g_6) gX6_together_X6_digitOf rfl ⟨rfl, rfl⟩ hdX6_digitOf ⟨Nat.le_of_ble_eq_true rfl, Nat.le_of_ble_eq_true rfl⟩ [] [] [] rfl rfl rfl rfl rfl rfl rfl rfl hl.1 rfl (Nat.le_of_ble_eq_true rfl) ⟨Nat.zero_le _, Nat.zero_le _⟩ dX6_together_2 (fun H locs B => ?_)
  refine lv_iload_n hx hb dX6_together_5 rfl (lv_at hl 0 rfl) ?_
  refine lv_iconst (v := 1) hx hb dX6_together_6 (by decide) ?_
  obtain ⟨r_2, g_5, h⟩ := ob_some h
  try dsimp only at h
  refine kc_SI C B (As := [.int x0, .int (1 : Int32)]) (rest := [.int r_1]) (w2 := []) (tX6_digitOf N g_5) gX6_together_X6_digitOf rfl ⟨rfl, rfl⟩ hdX6_digitOf ⟨Nat.le_of_ble_eq_true rfl, Nat.le_of_ble_eq_true rfl⟩ [] [] [] rfl rfl rfl rfl rfl rfl rfl rfl hl.1 rfl (Nat.le_of_ble_eq_true rfl) ⟨Nat.zero_le _, Nat.zero_le _⟩ dX6_together_7 (fun H locs B => ?_)
  refine lv_iadd hx hb dX6_together_10 ?_
  refine lv_iload_n hx hb dX6_together_11 rfl (lv_at hl 0 rfl) ?_
  refine lv_iconst (v := 2) hx hb dX6_together_12 (by decide) ?_
  obtain ⟨r_3, g_4, h⟩ := ob_some h
  try dsimp only at h
  refine kc_SI C B (As := [.int x0, .int (2 : Int32)]) (rest := [.int (r_1 + r_2)]) (w2 := []) (tX6_digitOf N g_4) gX6_together_X6_digitOf rfl ⟨rfl, rfl⟩ hdX6_digitOf ⟨Nat.le_of_ble_eq_true rfl, Nat.le_of_ble_eq_true rfl⟩ [] [] [] rfl rfl rfl rfl rfl rfl rfl rfl hl.1 rfl (Nat.le_of_ble_eq_true rfl) ⟨Nat.zero_le _, Nat.zero_le _⟩ dX6_together_13 (fun H locs B => ?_)
  refine lv_iadd hx hb dX6_together_16 ?_
  cases h
  exact k_iret C B dX6_together_17
end
theorem tX6_together {l : Launch} {D : va_G} {Es : (Nat → Nat) × (Nat → Nat)} {cI cJ cT : ClassId} {x0 : Int32} {z_r : Int32} (N : Nat) (h : fX6_together N x0 = some z_r) : CtI l yX6_together wsX6_together rmX6_together D (tyl cI cJ cT) Es [.int x0] [] z_r [] :=
  CtI.of (own := RX6) (cc := cX6_together) (nL := 1) (ret := (some .int)) (by decide +kernel) rfl rfl (Nat.le_of_ble_eq_true rfl) rfl (fun p e s m below meth c A ls C B hl => qX6_together_0 C (N := N) x0 h _ _ _ B hl)

abbrev rmX6_stepped : Room := { frames := 1, cells := 0, slots := 0, locals := 24 }
theorem hdX6_stepped : yX6_stepped.cls ≠ "java/lang/invoke/MethodHandle" ∧ yX6_stepped.cls ≠ "java/lang/invoke/VarHandle" ∧ (parseMethodDescriptor yX6_stepped.desc).map (fun d => d.parameters.length) = some 3 := by decide +kernel
theorem mX6_stepped_max1 : (Cond.methodLink RX6 47 Lib.Math.max.name) ∈ wsX6_stepped := by decide +kernel
theorem mX6_stepped_max2 : (Cond.static Lib.Math.max.name) ∈ wsX6_stepped := by decide +kernel
theorem mX6_stepped_max3 : (Cond.initialized "java/lang/Math") ∈ wsX6_stepped := by decide +kernel
theorem mX6_stepped_max4 : (Cond.code Lib.Math.max.name Lib.Math.max.code 2 (some .int)) ∈ wsX6_stepped := by decide +kernel
section
variable {p : Program} {l : Launch} {e : Env} {s : State} {m : MethodId} {args : Array Value} {below : List Frame} {meth : Method} {c : Code} {D : va_G} {A : Nat → Prop} {Es : (Nat → Nat) × (Nat → Nat)} {a b : Nat → Nat} {cI cJ cT : ClassId}
set_option maxHeartbeats 4000000 in
set_option maxRecDepth 100000 in
theorem qX6_stepped_32 (C : CT p s m args meth c RX6 cX6_stepped 5 (some .int) wsX6_stepped D A (tyl cI cJ cT) Es) {N : Nat} {z_r : Int32} : ∀ (x0 : Int32) (x2 : Int32) (x3 : Int32) (y0 : Int32), bX6_stepped_32 N x0 x2 x3 y0 = some z_r → ∀ (H : Heap) (locs : List Loc) (ls : Array Slot), DB D A [] s H locs → lv_has ls 5 [(0, .int x0), (2, .int x2), (3, .int x3)] → W p l e rmX6_stepped s m args below meth c H locs 0 0 (ZI below args s D A (tyl cI cJ cT) z_r [] 0 0) (F0 m 32 ls [.int y0]) := by
  have hx := C.1.1
  have hb := C.1.2.1
  have hown := C.1.2.2.2.1
  have hts := C.1.2.2.2.2
  intro x0 x2 x3 y0 h H locs ls B hl
  rw [bX6_stepped_32] at h
  refine lv_istore (lv' := [(4, .int y0), (0, .int x0), (2, .int x2), (3, .int x3)]) hx hb dX6_stepped_32 hl (by decide) rfl (fun ls hl => ?_)
  refine lv_iload_n hx hb dX6_stepped_34 rfl (lv_at hl 1 rfl) ?_
  refine lv_iload_n hx hb dX6_stepped_35 rfl (lv_at hl 3 rfl) ?_
  refine lv_iload hx hb dX6_stepped_36 (lv_at hl 0 rfl) ?_
  refine lv_isub hx hb dX6_stepped_38 ?_
  refine lv_iconst (v := 3) hx hb dX6_stepped_39 (by decide) ?_
  refine lv_iload_n hx hb dX6_stepped_40 rfl (lv_at hl 2 rfl) ?_
  refine lv_imul hx hb dX6_stepped_41 ?_
  refine lv_ishl hx hb dX6_stepped_42 ?_
  refine lv_isub hx hb dX6_stepped_43 ?_
  cases h
  exact k_iret C B dX6_stepped_44
set_option maxHeartbeats 4000000 in
set_option maxRecDepth 100000 in
theorem qX6_stepped_0 (C : CT p s m args meth c RX6 cX6_stepped 5 (some .int) wsX6_stepped D A (tyl cI cJ cT) Es) {N : Nat} {z_r : Int32} : ∀ (x0 : Int32) (x1 : Int32) (x2 : Int32), fX6_stepped N x0 x1 x2 = some z_r → ∀ (H : Heap) (locs : List Loc) (ls : Array Slot), DB D A [] s H locs → lv_has ls 5 [(0, .int x0), (1, .int x1), (2, .int x2)] → W p l e rmX6_stepped s m args below meth c H locs 0 0 (ZI below args s D A (tyl cI cJ cT) z_r [] 0 0) (F0 m 0 ls []) := by
  have hx := C.1.1
  have hb := C.1.2.1
  have hown := C.1.2.2.2.1
  have hts := C.1.2.2.2.2
  intro x0 x1 x2 h H locs ls B hl
  rw [fX6_stepped] at h
  refine lv_iload_n hx hb dX6_stepped_0 rfl (lv_at hl 0 rfl) ?_
  refine lv_iload_n hx hb dX6_stepped_1 rfl (lv_at hl 2 rfl) ?_
  obtain ⟨r_1, g_4, h⟩ := ob_some h
  try dsimp only at h
  refine kc_SI C B (As := [.int x0, .int x2]) (rest := []) (w2 := []) (tX6_digitOf N g_4) gX6_stepped_X6_digitOf rfl ⟨rfl, rfl⟩ hdX6_digitOf ⟨Nat.le_of_ble_eq_true rfl, Nat.le_of_ble_eq_true rfl⟩ [] [] [] rfl rfl rfl rfl rfl rfl rfl rfl hl.1 rfl (Nat.le_of_ble_eq_true rfl) ⟨Nat.zero_le _, Nat.zero_le _⟩ dX6_stepped_2 (fun H locs B => ?_)
  refine lv_istore_n (lv' := [(3, .int r_1), (0, .int x0), (1, .int x1), (2, .int x2)]) hx hb dX6_stepped_5 rfl hl (by decide) rfl (fun ls hl => ?_)
  refine lv_iload_n hx hb dX6_stepped_6 rfl (lv_at hl 2 rfl) ?_
  refine lv_if_ne (tgt := 14) hx hb dX6_stepped_7 (by decide) (fun c_2 => ?_) (fun c_2 => ?_)
  · rw [if_neg c_2] at h
    refine lv_iload_n hx hb dX6_stepped_14 rfl (lv_at hl 2 rfl) ?_
    refine lv_iconst (v := 1) hx hb dX6_stepped_15 (by decide) ?_
    refine lv_icmp_ne (tgt := 25) hx hb dX6_stepped_16 (by decide) (fun c_3 => ?_) (fun c_3 => ?_)
    · rw [if_neg c_3] at h
      refine lv_iload_n hx hb dX6_stepped_25 rfl (lv_at hl 0 rfl) ?_
      refine lv_iconst (v := 1) hx hb dX6_stepped_26 (by decide) ?_
      refine lv_isub hx hb dX6_stepped_27 ?_
      refine lv_iconst (v := 0) hx hb dX6_stepped_28 (by decide) ?_
      refine va_mmax hx hb (C.1.2.2.1.trans hl.1.symm) hown (hts _ mX6_stepped_max1) (hts _ mX6_stepped_max2) (hts _ mX6_stepped_max3) (hts _ mX6_stepped_max4) (Nat.le_of_ble_eq_true rfl) (Nat.le_of_ble_eq_true rfl) (Nat.zero_le _) (Nat.zero_le _) dX6_stepped_29 ?_
      exact qX6_stepped_32 C x0 x2 r_1 (if (r_1 - (1 : Int32)) < (0 : Int32) then (0 : Int32) else (r_1 - (1 : Int32))) h H locs ls B (lv_sub hl [1, 3, 0] rfl)
    · rw [if_pos c_3] at h
      refine lv_iload_n hx hb dX6_stepped_19 rfl (lv_at hl 0 rfl) ?_
      refine lv_iconst (v := 2) hx hb dX6_stepped_20 (by decide) ?_
      refine lv_idiv hx hb dX6_stepped_21 (by decide) ?_
      refine lv_goto (tgt := 32) hx hb dX6_stepped_22 (by decide) ?_
      exact qX6_stepped_32 C x0 x2 r_1 (r_1 / (2 : Int32)) h H locs ls B (lv_sub hl [1, 3, 0] rfl)
  · rw [if_pos c_2] at h
    refine lv_iconst (v := 0) hx hb dX6_stepped_10 (by decide) ?_
    refine lv_goto (tgt := 32) hx hb dX6_stepped_11 (by decide) ?_
    exact qX6_stepped_32 C x0 x2 r_1 (0 : Int32) h H locs ls B (lv_sub hl [1, 3, 0] rfl)
end
theorem tX6_stepped {l : Launch} {D : va_G} {Es : (Nat → Nat) × (Nat → Nat)} {cI cJ cT : ClassId} {x0 : Int32} {x1 : Int32} {x2 : Int32} {z_r : Int32} (N : Nat) (h : fX6_stepped N x0 x1 x2 = some z_r) : CtI l yX6_stepped wsX6_stepped rmX6_stepped D (tyl cI cJ cT) Es [.int x0, .int x1, .int x2] [] z_r [] :=
  CtI.of (own := RX6) (cc := cX6_stepped) (nL := 5) (ret := (some .int)) (by decide +kernel) rfl rfl (Nat.le_of_ble_eq_true rfl) rfl (fun p e s m below meth c A ls C B hl => qX6_stepped_0 C (N := N) x0 x1 x2 h _ _ _ B hl)

abbrev rmX11_isInputs : Room := { frames := 0, cells := 0, slots := 0, locals := 0 }
theorem hdX11_isInputs : yX11_isInputs.cls ≠ "java/lang/invoke/MethodHandle" ∧ yX11_isInputs.cls ≠ "java/lang/invoke/VarHandle" ∧ (parseMethodDescriptor yX11_isInputs.desc).map (fun d => d.parameters.length) = some 1 := by decide +kernel
section
variable {p : Program} {l : Launch} {e : Env} {s : State} {m : MethodId} {args : Array Value} {below : List Frame} {meth : Method} {c : Code} {D : va_G} {A : Nat → Prop} {Es : (Nat → Nat) × (Nat → Nat)} {a b : Nat → Nat} {cI cJ cT : ClassId}
set_option maxHeartbeats 4000000 in
set_option maxRecDepth 100000 in
theorem qX11_isInputs_0 (C : CT p s m args meth c RX11 cX11_isInputs 1 (some .boolean) wsX11_isInputs D A (tyl cI cJ cT) Es) {N : Nat} {z_r : Int32} : ∀ (x0 : Int32), fX11_isInputs N x0 = some z_r → ∀ (H : Heap) (locs : List Loc) (ls : Array Slot), DB D A [] s H locs → lv_has ls 1 [(0, .int x0)] → W p l e rmX11_isInputs s m args below meth c H locs 0 0 (ZI below args s D A (tyl cI cJ cT) z_r [] 0 0) (F0 m 0 ls []) := by
  have hx := C.1.1
  have hb := C.1.2.1
  have hown := C.1.2.2.2.1
  have hts := C.1.2.2.2.2
  intro x0 h H locs ls B hl
  rw [fX11_isInputs] at h
  refine lv_iload_n hx hb dX11_isInputs_0 rfl (lv_at hl 0 rfl) ?_
  refine lv_if_lt (tgt := 15) hx hb dX11_isInputs_1 (by decide) (fun c_1 => ?_) (fun c_1 => ?_)
  · rw [if_pos c_1] at h
    refine lv_iconst (v := 0) hx hb dX11_isInputs_15 (by decide) ?_
    cases h
    exact k_zret C B (by decide) dX11_isInputs_16
  · rw [if_neg c_1] at h
    refine lv_iload_n hx hb dX11_isInputs_4 rfl (lv_at hl 0 rfl) ?_
    refine lv_sipush (v := 512) hx hb dX11_isInputs_5 (by decide) ?_
    refine lv_icmp_ge (tgt := 15) hx hb dX11_isInputs_8 (by decide) (fun c_2 => ?_) (fun c_2 => ?_)
    · rw [if_pos c_2] at h
      refine lv_iconst (v := 0) hx hb dX11_isInputs_15 (by decide) ?_
      cases h
      exact k_zret C B (by decide) dX11_isInputs_16
    · rw [if_neg c_2] at h
      refine lv_iconst (v := 1) hx hb dX11_isInputs_11 (by decide) ?_
      refine lv_goto (tgt := 16) hx hb dX11_isInputs_12 (by decide) ?_
      cases h
      exact k_zret C B (by decide) dX11_isInputs_16
end
theorem tX11_isInputs {l : Launch} {D : va_G} {Es : (Nat → Nat) × (Nat → Nat)} {cI cJ cT : ClassId} {x0 : Int32} {z_r : Int32} (N : Nat) (h : fX11_isInputs N x0 = some z_r) : CtI l yX11_isInputs wsX11_isInputs rmX11_isInputs D (tyl cI cJ cT) Es [.int x0] [] z_r [] :=
  CtI.of (own := RX11) (cc := cX11_isInputs) (nL := 1) (ret := (some .boolean)) (by decide +kernel) rfl rfl (Nat.le_of_ble_eq_true rfl) rfl (fun p e s m below meth c A ls C B hl => qX11_isInputs_0 C (N := N) x0 h _ _ _ B hl)

abbrev rmX11_isPart : Room := { frames := 0, cells := 0, slots := 0, locals := 0 }
theorem hdX11_isPart : yX11_isPart.cls ≠ "java/lang/invoke/MethodHandle" ∧ yX11_isPart.cls ≠ "java/lang/invoke/VarHandle" ∧ (parseMethodDescriptor yX11_isPart.desc).map (fun d => d.parameters.length) = some 1 := by decide +kernel
section
variable {p : Program} {l : Launch} {e : Env} {s : State} {m : MethodId} {args : Array Value} {below : List Frame} {meth : Method} {c : Code} {D : va_G} {A : Nat → Prop} {Es : (Nat → Nat) × (Nat → Nat)} {a b : Nat → Nat} {cI cJ cT : ClassId}
set_option maxHeartbeats 4000000 in
set_option maxRecDepth 100000 in
theorem qX11_isPart_0 (C : CT p s m args meth c RX11 cX11_isPart 1 (some .boolean) wsX11_isPart D A (tyl cI cJ cT) Es) {N : Nat} {z_r : Int32} : ∀ (x0 : Int32), fX11_isPart N x0 = some z_r → ∀ (H : Heap) (locs : List Loc) (ls : Array Slot), DB D A [] s H locs → lv_has ls 1 [(0, .int x0)] → W p l e rmX11_isPart s m args below meth c H locs 0 0 (ZI below args s D A (tyl cI cJ cT) z_r [] 0 0) (F0 m 0 ls []) := by
  have hx := C.1.1
  have hb := C.1.2.1
  have hown := C.1.2.2.2.1
  have hts := C.1.2.2.2.2
  intro x0 h H locs ls B hl
  rw [fX11_isPart] at h
  refine lv_iload_n hx hb dX11_isPart_0 rfl (lv_at hl 0 rfl) ?_
  refine lv_if_eq (tgt := 9) hx hb dX11_isPart_1 (by decide) (fun c_1 => ?_) (fun c_1 => ?_)
  · rw [if_pos c_1] at h
    refine lv_iconst (v := 1) hx hb dX11_isPart_9 (by decide) ?_
    refine lv_goto (tgt := 14) hx hb dX11_isPart_10 (by decide) ?_
    cases h
    exact k_zret C B (by decide) dX11_isPart_14
  · rw [if_neg c_1] at h
    refine lv_iload_n hx hb dX11_isPart_4 rfl (lv_at hl 0 rfl) ?_
    refine lv_iconst (v := 1) hx hb dX11_isPart_5 (by decide) ?_
    refine lv_icmp_ne (tgt := 13) hx hb dX11_isPart_6 (by decide) (fun c_2 => ?_) (fun c_2 => ?_)
    · rw [if_neg c_2] at h
      refine lv_iconst (v := 0) hx hb dX11_isPart_13 (by decide) ?_
      cases h
      exact k_zret C B (by decide) dX11_isPart_14
    · rw [if_pos c_2] at h
      refine lv_iconst (v := 1) hx hb dX11_isPart_9 (by decide) ?_
      refine lv_goto (tgt := 14) hx hb dX11_isPart_10 (by decide) ?_
      cases h
      exact k_zret C B (by decide) dX11_isPart_14
end
theorem tX11_isPart {l : Launch} {D : va_G} {Es : (Nat → Nat) × (Nat → Nat)} {cI cJ cT : ClassId} {x0 : Int32} {z_r : Int32} (N : Nat) (h : fX11_isPart N x0 = some z_r) : CtI l yX11_isPart wsX11_isPart rmX11_isPart D (tyl cI cJ cT) Es [.int x0] [] z_r [] :=
  CtI.of (own := RX11) (cc := cX11_isPart) (nL := 1) (ret := (some .boolean)) (by decide +kernel) rfl rfl (Nat.le_of_ble_eq_true rfl) rfl (fun p e s m below meth c A ls C B hl => qX11_isPart_0 C (N := N) x0 h _ _ _ B hl)

abbrev rmX11_commonDivisor : Room := { frames := 0, cells := 0, slots := 0, locals := 0 }
theorem hdX11_commonDivisor : yX11_commonDivisor.cls ≠ "java/lang/invoke/MethodHandle" ∧ yX11_commonDivisor.cls ≠ "java/lang/invoke/VarHandle" ∧ (parseMethodDescriptor yX11_commonDivisor.desc).map (fun d => d.parameters.length) = some 2 := by decide +kernel
section
variable {p : Program} {l : Launch} {e : Env} {s : State} {m : MethodId} {args : Array Value} {below : List Frame} {meth : Method} {c : Code} {D : va_G} {A : Nat → Prop} {Es : (Nat → Nat) × (Nat → Nat)} {a b : Nat → Nat} {cI cJ cT : ClassId}
set_option maxHeartbeats 4000000 in
set_option maxRecDepth 100000 in
theorem qX11_commonDivisor_7 (C : CT p s m args meth c RX11 cX11_commonDivisor 6 (some .int) wsX11_commonDivisor D A (tyl cI cJ cT) Es) {N : Nat} {z_r : Int32} : ∀ (n : Nat) (x2 : Int32) (x3 : Int32) (x4 : Int32), bX11_commonDivisor_7 N n x2 x3 x4 = some z_r → ∀ (H : Heap) (locs : List Loc) (ls : Array Slot), DB D A [] s H locs → lv_has ls 6 [(2, .int x2), (3, .int x3), (4, .int x4)] → W p l e rmX11_commonDivisor s m args below meth c H locs 0 0 (ZI below args s D A (tyl cI cJ cT) z_r [] 0 0) (F0 m 7 ls []) := by
  have hx := C.1.1
  have hb := C.1.2.1
  have hown := C.1.2.2.2.1
  have hts := C.1.2.2.2.2
  intro n
  induction n with
  | zero => intro x2 x3 x4 h; cases h
  | succ n ih =>
    intro x2 x3 x4 h H locs ls B hl
    rw [bX11_commonDivisor_7] at h
    refine lv_iload hx hb dX11_commonDivisor_7 (lv_at hl 2 rfl) ?_
    refine lv_bipush (v := 64) hx hb dX11_commonDivisor_9 (by decide) ?_
    refine lv_icmp_ge (tgt := 34) hx hb dX11_commonDivisor_11 (by decide) (fun c_1 => ?_) (fun c_1 => ?_)
    · rw [if_pos c_1] at h
      refine lv_iload_n hx hb dX11_commonDivisor_34 rfl (lv_at hl 0 rfl) ?_
      cases h
      exact k_iret C B dX11_commonDivisor_35
    · rw [if_neg c_1] at h
      refine lv_iload_n hx hb dX11_commonDivisor_14 rfl (lv_at hl 1 rfl) ?_
      refine lv_if_eq (tgt := 34) hx hb dX11_commonDivisor_15 (by decide) (fun c_2 => ?_) (fun c_2 => ?_)
      · rw [if_pos c_2] at h
        refine lv_iload_n hx hb dX11_commonDivisor_34 rfl (lv_at hl 0 rfl) ?_
        cases h
        exact k_iret C B dX11_commonDivisor_35
      · rw [if_neg c_2] at h
        refine lv_iload_n hx hb dX11_commonDivisor_18 rfl (lv_at hl 0 rfl) ?_
        refine lv_iload_n hx hb dX11_commonDivisor_19 rfl (lv_at hl 1 rfl) ?_
        obtain ⟨nz_3, h⟩ := nz_some h
        refine lv_irem hx hb dX11_commonDivisor_20 nz_3 ?_
        refine lv_istore (lv' := [(5, .int (x2 - x2 / x3 * x3)), (2, .int x2), (3, .int x3), (4, .int x4)]) hx hb dX11_commonDivisor_21 hl (by decide) rfl (fun ls hl => ?_)
        refine lv_iload_n hx hb dX11_commonDivisor_23 rfl (lv_at hl 2 rfl) ?_
        refine lv_istore_n (lv' := [(2, .int x3), (5, .int (x2 - x2 / x3 * x3)), (3, .int x3), (4, .int x4)]) hx hb dX11_commonDivisor_24 rfl hl (by decide) rfl (fun ls hl => ?_)
        refine lv_iload hx hb dX11_commonDivisor_25 (lv_at hl 1 rfl) ?_
        refine lv_istore_n (lv' := [(3, .int (x2 - x2 / x3 * x3)), (2, .int x3), (5, .int (x2 - x2 / x3 * x3)), (4, .int x4)]) hx hb dX11_commonDivisor_27 rfl hl (by decide) rfl (fun ls hl => ?_)
        refine lv_iinc (v := (x4 + 1)) (lv' := [(4, .int (x4 + 1)), (3, .int (x2 - x2 / x3 * x3)), (2, .int x3), (5, .int (x2 - x2 / x3 * x3))]) hx hb dX11_commonDivisor_28 hl (k := 3) rfl rfl (by decide) rfl (fun ls hl => ?_)
        refine lv_goto (tgt := 7) hx hb dX11_commonDivisor_31 (by decide) ?_
        exact ih x3 (x2 - x2 / x3 * x3) (x4 + 1) h H locs ls B (lv_sub hl [2, 1, 0] rfl)
set_option maxHeartbeats 4000000 in
set_option maxRecDepth 100000 in
theorem qX11_commonDivisor_0 (C : CT p s m args meth c RX11 cX11_commonDivisor 6 (some .int) wsX11_commonDivisor D A (tyl cI cJ cT) Es) {N : Nat} {z_r : Int32} : ∀ (x0 : Int32) (x1 : Int32), fX11_commonDivisor N x0 x1 = some z_r → ∀ (H : Heap) (locs : List Loc) (ls : Array Slot), DB D A [] s H locs → lv_has ls 6 [(0, .int x0), (1, .int x1)] → W p l e rmX11_commonDivisor s m args below meth c H locs 0 0 (ZI below args s D A (tyl cI cJ cT) z_r [] 0 0) (F0 m 0 ls []) := by
  have hx := C.1.1
  have hb := C.1.2.1
  have hown := C.1.2.2.2.1
  have hts := C.1.2.2.2.2
  intro x0 x1 h H locs ls B hl
  rw [fX11_commonDivisor] at h
  refine lv_iload_n hx hb dX11_commonDivisor_0 rfl (lv_at hl 0 rfl) ?_
  refine lv_istore_n (lv' := [(2, .int x0), (0, .int x0), (1, .int x1)]) hx hb dX11_commonDivisor_1 rfl hl (by decide) rfl (fun ls hl => ?_)
  refine lv_iload_n hx hb dX11_commonDivisor_2 rfl (lv_at hl 2 rfl) ?_
  refine lv_istore_n (lv' := [(3, .int x1), (2, .int x0), (0, .int x0), (1, .int x1)]) hx hb dX11_commonDivisor_3 rfl hl (by decide) rfl (fun ls hl => ?_)
  refine lv_iconst (v := 0) hx hb dX11_commonDivisor_4 (by decide) ?_
  refine lv_istore (lv' := [(4, .int (0 : Int32)), (3, .int x1), (2, .int x0), (0, .int x0), (1, .int x1)]) hx hb dX11_commonDivisor_5 hl (by decide) rfl (fun ls hl => ?_)
  exact qX11_commonDivisor_7 C N x0 x1 (0 : Int32) h H locs ls B (lv_sub hl [2, 1, 0] rfl)
end
theorem tX11_commonDivisor {l : Launch} {D : va_G} {Es : (Nat → Nat) × (Nat → Nat)} {cI cJ cT : ClassId} {x0 : Int32} {x1 : Int32} {z_r : Int32} (N : Nat) (h : fX11_commonDivisor N x0 x1 = some z_r) : CtI l yX11_commonDivisor wsX11_commonDivisor rmX11_commonDivisor D (tyl cI cJ cT) Es [.int x0, .int x1] [] z_r [] :=
  CtI.of (own := RX11) (cc := cX11_commonDivisor) (nL := 6) (ret := (some .int)) (by decide +kernel) rfl rfl (Nat.le_of_ble_eq_true rfl) rfl (fun p e s m below meth c A ls C B hl => qX11_commonDivisor_0 C (N := N) x0 x1 h _ _ _ B hl)

abbrev rmX11_inLowestTerms : Room := { frames := 1, cells := 0, slots := 0, locals := 25 }
theorem hdX11_inLowestTerms : yX11_inLowestTerms.cls ≠ "java/lang/invoke/MethodHandle" ∧ yX11_inLowestTerms.cls ≠ "java/lang/invoke/VarHandle" ∧ (parseMethodDescriptor yX11_inLowestTerms.desc).map (fun d => d.parameters.length) = some 3 := by decide +kernel
section
variable {p : Program} {l : Launch} {e : Env} {s : State} {m : MethodId} {args : Array Value} {below : List Frame} {meth : Method} {c : Code} {D : va_G} {A : Nat → Prop} {Es : (Nat → Nat) × (Nat → Nat)} {a b : Nat → Nat} {cI cJ cT : ClassId}
set_option maxHeartbeats 4000000 in
set_option maxRecDepth 100000 in
theorem qX11_inLowestTerms_33 (C : CT p s m args meth c RX11 cX11_inLowestTerms 4 (some .int) wsX11_inLowestTerms D A (tyl cI cJ cT) Es) {N : Nat} {z_r : Int32} : ∀ (x3 : Int32) (y0 : Int32), bX11_inLowestTerms_33 N x3 y0 = some z_r → ∀ (H : Heap) (locs : List Loc) (ls : Array Slot), DB D A [] s H locs → lv_has ls 4 [(3, .int x3)] → W p l e rmX11_inLowestTerms s m args below meth c H locs 0 0 (ZI below args s D A (tyl cI cJ cT) z_r [] 0 0) (F0 m 33 ls [.int y0]) := by
  have hx := C.1.1
  have hb := C.1.2.1
  have hown := C.1.2.2.2.1
  have hts := C.1.2.2.2.2
  intro x3 y0 h H locs ls B hl
  rw [bX11_inLowestTerms_33] at h
  refine lv_iload_n hx hb dX11_inLowestTerms_33 rfl (lv_at hl 0 rfl) ?_
  obtain ⟨nz_1, h⟩ := nz_some h
  refine lv_idiv hx hb dX11_inLowestTerms_34 nz_1 ?_
  cases h
  exact k_iret C B dX11_inLowestTerms_35
set_option maxHeartbeats 4000000 in
set_option maxRecDepth 100000 in
theorem qX11_inLowestTerms_14 (C : CT p s m args meth c RX11 cX11_inLowestTerms 4 (some .int) wsX11_inLowestTerms D A (tyl cI cJ cT) Es) {N : Nat} {z_r : Int32} : ∀ (x2 : Int32), bX11_inLowestTerms_14 N x2 = some z_r → ∀ (H : Heap) (locs : List Loc) (ls : Array Slot), DB D A [] s H locs → lv_has ls 4 [(2, .int x2)] → W p l e rmX11_inLowestTerms s m args below meth c H locs 0 0 (ZI below args s D A (tyl cI cJ cT) z_r [] 0 0) (F0 m 14 ls []) := by
  have hx := C.1.1
  have hb := C.1.2.1
  have hown := C.1.2.2.2.1
  have hts := C.1.2.2.2.2
  intro x2 h H locs ls B hl
  rw [bX11_inLowestTerms_14] at h
  refine lv_iload_n hx hb dX11_inLowestTerms_14 rfl (lv_at hl 0 rfl) ?_
  refine lv_if_ne (tgt := 22) hx hb dX11_inLowestTerms_15 (by decide) (fun c_1 => ?_) (fun c_1 => ?_)
  · rw [if_neg c_1] at h
    refine lv_iconst (v := 1) hx hb dX11_inLowestTerms_22 (by decide) ?_
    cases h
    exact k_iret C B dX11_inLowestTerms_23
  · rw [if_pos c_1] at h
    refine lv_iconst (v := 0) hx hb dX11_inLowestTerms_18 (by decide) ?_
    refine lv_goto (tgt := 23) hx hb dX11_inLowestTerms_19 (by decide) ?_
    cases h
    exact k_iret C B dX11_inLowestTerms_23
set_option maxHeartbeats 4000000 in
set_option maxRecDepth 100000 in
theorem qX11_inLowestTerms_0 (C : CT p s m args meth c RX11 cX11_inLowestTerms 4 (some .int) wsX11_inLowestTerms D A (tyl cI cJ cT) Es) {N : Nat} {z_r : Int32} : ∀ (x0 : Int32) (x1 : Int32) (x2 : Int32), fX11_inLowestTerms N x0 x1 x2 = some z_r → ∀ (H : Heap) (locs : List Loc) (ls : Array Slot), DB D A [] s H locs → lv_has ls 4 [(0, .int x0), (1, .int x1), (2, .int x2)] → W p l e rmX11_inLowestTerms s m args below meth c H locs 0 0 (ZI below args s D A (tyl cI cJ cT) z_r [] 0 0) (F0 m 0 ls []) := by
  have hx := C.1.1
  have hb := C.1.2.1
  have hown := C.1.2.2.2.1
  have hts := C.1.2.2.2.2
  intro x0 x1 x2 h H locs ls B hl
  rw [fX11_inLowestTerms] at h
  refine lv_iload_n hx hb dX11_inLowestTerms_0 rfl (lv_at hl 0 rfl) ?_
  refine lv_iload_n hx hb dX11_inLowestTerms_1 rfl (lv_at hl 1 rfl) ?_
  obtain ⟨r_1, g_5, h⟩ := ob_some h
  try dsimp only at h
  refine kc_SI C B (As := [.int x0, .int x1]) (rest := []) (w2 := []) (tX11_commonDivisor N g_5) gX11_inLowestTerms_X11_commonDivisor rfl ⟨rfl, rfl⟩ hdX11_commonDivisor ⟨Nat.le_of_ble_eq_true rfl, Nat.le_of_ble_eq_true rfl⟩ [] [] [] rfl rfl rfl rfl rfl rfl rfl rfl hl.1 rfl (Nat.le_of_ble_eq_true rfl) ⟨Nat.zero_le _, Nat.zero_le _⟩ dX11_inLowestTerms_2 (fun H locs B => ?_)
  refine lv_istore_n (lv' := [(3, .int r_1), (0, .int x0), (1, .int x1), (2, .int x2)]) hx hb dX11_inLowestTerms_5 rfl hl (by decide) rfl (fun ls hl => ?_)
  refine lv_iload_n hx hb dX11_inLowestTerms_6 rfl (lv_at hl 1 rfl) ?_
  refine lv_if_eq (tgt := 14) hx hb dX11_inLowestTerms_7 (by decide) (fun c_2 => ?_) (fun c_2 => ?_)
  · rw [if_pos c_2] at h
    exact qX11_inLowestTerms_14 C x2 h H locs ls B (lv_sub hl [3] rfl)
  · rw [if_neg c_2] at h
    refine lv_iload_n hx hb dX11_inLowestTerms_10 rfl (lv_at hl 0 rfl) ?_
    refine lv_if_ne (tgt := 24) hx hb dX11_inLowestTerms_11 (by decide) (fun c_3 => ?_) (fun c_3 => ?_)
    · rw [if_neg c_3] at h
      refine lv_iload_n hx hb dX11_inLowestTerms_24 rfl (lv_at hl 3 rfl) ?_
      refine lv_if_ne (tgt := 32) hx hb dX11_inLowestTerms_25 (by decide) (fun c_4 => ?_) (fun c_4 => ?_)
      · rw [if_neg c_4] at h
        refine lv_iload_n hx hb dX11_inLowestTerms_32 rfl (lv_at hl 2 rfl) ?_
        exact qX11_inLowestTerms_33 C r_1 x1 h H locs ls B (lv_sub hl [0] rfl)
      · rw [if_pos c_4] at h
        refine lv_iload_n hx hb dX11_inLowestTerms_28 rfl (lv_at hl 1 rfl) ?_
        refine lv_goto (tgt := 33) hx hb dX11_inLowestTerms_29 (by decide) ?_
        exact qX11_inLowestTerms_33 C r_1 x0 h H locs ls B (lv_sub hl [0] rfl)
    · rw [if_pos c_3] at h
      exact qX11_inLowestTerms_14 C x2 h H locs ls B (lv_sub hl [3] rfl)
end
theorem tX11_inLowestTerms {l : Launch} {D : va_G} {Es : (Nat → Nat) × (Nat → Nat)} {cI cJ cT : ClassId} {x0 : Int32} {x1 : Int32} {x2 : Int32} {z_r : Int32} (N : Nat) (h : fX11_inLowestTerms N x0 x1 x2 = some z_r) : CtI l yX11_inLowestTerms wsX11_inLowestTerms rmX11_inLowestTerms D (tyl cI cJ cT) Es [.int x0, .int x1, .int x2] [] z_r [] :=
  CtI.of (own := RX11) (cc := cX11_inLowestTerms) (nL := 4) (ret := (some .int)) (by decide +kernel) rfl rfl (Nat.le_of_ble_eq_true rfl) rfl (fun p e s m below meth c A ls C B hl => qX11_inLowestTerms_0 C (N := N) x0 x1 x2 h _ _ _ B hl)
