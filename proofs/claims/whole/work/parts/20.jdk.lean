abbrev rmJ0_isLatin1_aae02 : Room := { frames := 0, cells := 0, slots := 0, locals := 0 }
theorem hdJ0_isLatin1_aae02 : yJ0_isLatin1_aae02.cls ≠ "java/lang/invoke/MethodHandle" ∧ yJ0_isLatin1_aae02.cls ≠ "java/lang/invoke/VarHandle" ∧ (parseMethodDescriptor yJ0_isLatin1_aae02.desc).map (fun d => d.parameters.length) = some 0 := by decide +kernel
theorem mJ0_isLatin1_aae02_cs : (Cond.fieldLink RJ0 38 "java/lang/String" "COMPACT_STRINGS" "Z") ∈ wsJ0_isLatin1_aae02 := by decide +kernel
theorem mJ0_isLatin1_aae02_f15 : (Cond.fieldLink RJ0 15 "java/lang/String" "coder" "B") ∈ wsJ0_isLatin1_aae02 := by decide +kernel
section
variable {p : Program} {l : Launch} {e : Env} {s : State} {m : MethodId} {args : Array Value} {below : List Frame} {meth : Method} {c : Code} {D : va_G} {A : Nat → Prop} {Es : (Nat → Nat) × (Nat → Nat)} {a b : Nat → Nat} {cI cJ cT : ClassId}
set_option maxHeartbeats 4000000 in
set_option maxRecDepth 100000 in
theorem qJ0_isLatin1_aae02_0 (C : CT p s m args meth c RJ0 cJ0_isLatin1_aae02 1 (some .boolean) wsJ0_isLatin1_aae02 D A (tyl cI cJ cT) Es) {N : Nat} {z_r : Int32} : ∀ (x0 : Nat), fJ0_isLatin1_aae02 N x0 = some z_r → ∀ (H : Heap) (locs : List Loc) (ls : Array Slot), DB D A [] s H locs → lv_has ls 1 [(0, .ref (Es.1 x0))] → W p l e rmJ0_isLatin1_aae02 s m args below meth c H locs 0 0 (ZI below args s D A (tyl cI cJ cT) z_r [] 0 0) (F0 m 0 ls []) := by
  have hx := C.1.1
  have hb := C.1.2.1
  have hown := C.1.2.2.2.1
  have hts := C.1.2.2.2.2
  intro x0 h H locs ls B hl
  rw [fJ0_isLatin1_aae02] at h
  refine va_gets hx hb C.2.2.2.1.2.1.1 B.2.2 hown (hts _ mJ0_isLatin1_aae02_cs) (fun _ h9 => h9) dJ0_isLatin1_aae02_0 ?_
  refine lv_if_eq (tgt := 17) hx hb dJ0_isLatin1_aae02_3 (by decide) (fun c_1 => ?_) (fun c_1 => ?_)
  · rw [if_pos c_1] at h
    refine lv_iconst (v := 0) hx hb dJ0_isLatin1_aae02_17 (by decide) ?_
    cases h
    exact k_zret C B (by decide) dJ0_isLatin1_aae02_18
  · rw [if_neg c_1] at h
    refine lv_aload_n hx hb dJ0_isLatin1_aae02_6 rfl (lv_at hl 0 rfl) ?_
    obtain ⟨s_3, h⟩ := sg_some h
    refine vk_getf hx hb (C.2.2.2.1.1.1 x0 s_3).2.1 B.2.2 hown (hts _ mJ0_isLatin1_aae02_f15) (fun _ h9 => h9) dJ0_isLatin1_aae02_7 ?_
    refine lv_if_ne (tgt := 17) hx hb dJ0_isLatin1_aae02_10 (by decide) (fun c_2 => ?_) (fun c_2 => ?_)
    · rw [if_neg c_2] at h
      refine lv_iconst (v := 0) hx hb dJ0_isLatin1_aae02_17 (by decide) ?_
      cases h
      exact k_zret C B (by decide) dJ0_isLatin1_aae02_18
    · rw [if_pos c_2] at h
      refine lv_iconst (v := 1) hx hb dJ0_isLatin1_aae02_13 (by decide) ?_
      refine lv_goto (tgt := 18) hx hb dJ0_isLatin1_aae02_14 (by decide) ?_
      cases h
      exact k_zret C B (by decide) dJ0_isLatin1_aae02_18
end
theorem tJ0_isLatin1_aae02 {l : Launch} {D : va_G} {Es : (Nat → Nat) × (Nat → Nat)} {cI cJ cT : ClassId} {x0 : Nat} {z_r : Int32} (N : Nat) (h : fJ0_isLatin1_aae02 N x0 = some z_r) : CtI l yJ0_isLatin1_aae02 wsJ0_isLatin1_aae02 rmJ0_isLatin1_aae02 D (tyl cI cJ cT) Es [.ref (Es.1 x0)] [] z_r [] :=
  CtI.of (own := RJ0) (cc := cJ0_isLatin1_aae02) (nL := 1) (ret := (some .boolean)) (by decide +kernel) rfl rfl (Nat.le_of_ble_eq_true rfl) rfl (fun p e s m below meth c A ls C B hl => qJ0_isLatin1_aae02_0 C (N := N) x0 h _ _ _ B hl)

abbrev rmJ0_coder_7d493 : Room := { frames := 0, cells := 0, slots := 0, locals := 0 }
theorem hdJ0_coder_7d493 : yJ0_coder_7d493.cls ≠ "java/lang/invoke/MethodHandle" ∧ yJ0_coder_7d493.cls ≠ "java/lang/invoke/VarHandle" ∧ (parseMethodDescriptor yJ0_coder_7d493.desc).map (fun d => d.parameters.length) = some 0 := by decide +kernel
theorem mJ0_coder_7d493_cs : (Cond.fieldLink RJ0 38 "java/lang/String" "COMPACT_STRINGS" "Z") ∈ wsJ0_coder_7d493 := by decide +kernel
theorem mJ0_coder_7d493_f15 : (Cond.fieldLink RJ0 15 "java/lang/String" "coder" "B") ∈ wsJ0_coder_7d493 := by decide +kernel
section
variable {p : Program} {l : Launch} {e : Env} {s : State} {m : MethodId} {args : Array Value} {below : List Frame} {meth : Method} {c : Code} {D : va_G} {A : Nat → Prop} {Es : (Nat → Nat) × (Nat → Nat)} {a b : Nat → Nat} {cI cJ cT : ClassId}
set_option maxHeartbeats 4000000 in
set_option maxRecDepth 100000 in
theorem qJ0_coder_7d493_0 (C : CT p s m args meth c RJ0 cJ0_coder_7d493 1 (some .byte) wsJ0_coder_7d493 D A (tyl cI cJ cT) Es) {N : Nat} {z_r : Int32} : ∀ (x0 : Nat), fJ0_coder_7d493 N x0 = some z_r → ∀ (H : Heap) (locs : List Loc) (ls : Array Slot), DB D A [] s H locs → lv_has ls 1 [(0, .ref (Es.1 x0))] → W p l e rmJ0_coder_7d493 s m args below meth c H locs 0 0 (ZI below args s D A (tyl cI cJ cT) z_r [] 0 0) (F0 m 0 ls []) := by
  have hx := C.1.1
  have hb := C.1.2.1
  have hown := C.1.2.2.2.1
  have hts := C.1.2.2.2.2
  intro x0 h H locs ls B hl
  rw [fJ0_coder_7d493] at h
  refine va_gets hx hb C.2.2.2.1.2.1.1 B.2.2 hown (hts _ mJ0_coder_7d493_cs) (fun _ h9 => h9) dJ0_coder_7d493_0 ?_
  refine lv_if_eq (tgt := 13) hx hb dJ0_coder_7d493_3 (by decide) (fun c_1 => ?_) (fun c_1 => ?_)
  · rw [if_pos c_1] at h
    refine lv_iconst (v := 1) hx hb dJ0_coder_7d493_13 (by decide) ?_
    cases h
    exact k_zret C B (by decide) dJ0_coder_7d493_14
  · rw [if_neg c_1] at h
    refine lv_aload_n hx hb dJ0_coder_7d493_6 rfl (lv_at hl 0 rfl) ?_
    obtain ⟨s_2, h⟩ := sg_some h
    refine vk_getf hx hb (C.2.2.2.1.1.1 x0 s_2).2.1 B.2.2 hown (hts _ mJ0_coder_7d493_f15) (fun _ h9 => h9) dJ0_coder_7d493_7 ?_
    refine lv_goto (tgt := 14) hx hb dJ0_coder_7d493_10 (by decide) ?_
    cases h
    exact k_zret C B (by decide) dJ0_coder_7d493_14
end
theorem tJ0_coder_7d493 {l : Launch} {D : va_G} {Es : (Nat → Nat) × (Nat → Nat)} {cI cJ cT : ClassId} {x0 : Nat} {z_r : Int32} (N : Nat) (h : fJ0_coder_7d493 N x0 = some z_r) : CtI l yJ0_coder_7d493 wsJ0_coder_7d493 rmJ0_coder_7d493 D (tyl cI cJ cT) Es [.ref (Es.1 x0)] [] z_r [] :=
  CtI.of (own := RJ0) (cc := cJ0_coder_7d493) (nL := 1) (ret := (some .byte)) (by decide +kernel) rfl rfl (Nat.le_of_ble_eq_true rfl) rfl (fun p e s m below meth c A ls C B hl => qJ0_coder_7d493_0 C (N := N) x0 h _ _ _ B hl)

abbrev rmJ0_length_8abf5 : Room := { frames := 1, cells := 0, slots := 0, locals := 20 }
theorem hdJ0_length_8abf5 : yJ0_length_8abf5.cls ≠ "java/lang/invoke/MethodHandle" ∧ yJ0_length_8abf5.cls ≠ "java/lang/invoke/VarHandle" ∧ (parseMethodDescriptor yJ0_length_8abf5.desc).map (fun d => d.parameters.length) = some 0 := by decide +kernel
theorem mJ0_length_8abf5_f9 : (Cond.fieldLink RJ0 9 "java/lang/String" "value" "[B") ∈ wsJ0_length_8abf5 := by decide +kernel
section
variable {p : Program} {l : Launch} {e : Env} {s : State} {m : MethodId} {args : Array Value} {below : List Frame} {meth : Method} {c : Code} {D : va_G} {A : Nat → Prop} {Es : (Nat → Nat) × (Nat → Nat)} {a b : Nat → Nat} {cI cJ cT : ClassId}
set_option maxHeartbeats 4000000 in
set_option maxRecDepth 100000 in
theorem qJ0_length_8abf5_0 (C : CT p s m args meth c RJ0 cJ0_length_8abf5 1 (some .int) wsJ0_length_8abf5 D A (tyl cI cJ cT) Es) {N : Nat} {z_r : Int32} : ∀ (x0 : Nat), fJ0_length_8abf5 N x0 = some z_r → ∀ (H : Heap) (locs : List Loc) (ls : Array Slot), DB D A [] s H locs → lv_has ls 1 [(0, .ref (Es.1 x0))] → W p l e rmJ0_length_8abf5 s m args below meth c H locs 0 0 (ZI below args s D A (tyl cI cJ cT) z_r [] 0 0) (F0 m 0 ls []) := by
  have hx := C.1.1
  have hb := C.1.2.1
  have hown := C.1.2.2.2.1
  have hts := C.1.2.2.2.2
  intro x0 h H locs ls B hl
  rw [fJ0_length_8abf5] at h
  refine lv_aload_n hx hb dJ0_length_8abf5_0 rfl (lv_at hl 0 rfl) ?_
  obtain ⟨s_5, h⟩ := sg_some h
  refine vk_getf hx hb (C.2.2.2.1.1.1 x0 s_5).2.2.1 B.2.2 hown (hts _ mJ0_length_8abf5_f9) (fun _ h9 => h9) dJ0_length_8abf5_1 ?_
  obtain ⟨s_4, h⟩ := sg_some h
  refine va_tlen hx hb (C.2.2.2.1.1.1 x0 s_4).2.2.2 B.2.2 (v := (Int32.ofNat (sln x0))) rfl dJ0_length_8abf5_4 ?_
  refine lv_aload_n hx hb dJ0_length_8abf5_5 rfl (lv_at hl 0 rfl) ?_
  obtain ⟨s_3, h⟩ := sg_some h
  obtain ⟨r_1, g_2, h⟩ := ob_some h
  try dsimp only at h
  refine kc_TI C B (As := []) (rest := [.int (Int32.ofNat (sln x0))]) (w2 := []) (tJ0_coder_7d493 N g_2) gJ0_length_8abf5_J0_coder_7d493 rfl ⟨rfl, rfl⟩ ⟨rfl, hdJ0_coder_7d493⟩ ⟨Nat.le_of_ble_eq_true rfl, Nat.le_of_ble_eq_true rfl⟩ s_3 [] [] [] rfl rfl rfl rfl rfl rfl rfl rfl hl.1 rfl (Nat.le_of_ble_eq_true rfl) ⟨Nat.zero_le _, Nat.zero_le _⟩ dJ0_length_8abf5_6 (fun H locs B => ?_)
  refine lv_ishr hx hb dJ0_length_8abf5_9 ?_
  cases h
  exact k_iret C B dJ0_length_8abf5_10
end
theorem tJ0_length_8abf5 {l : Launch} {D : va_G} {Es : (Nat → Nat) × (Nat → Nat)} {cI cJ cT : ClassId} {x0 : Nat} {z_r : Int32} (N : Nat) (h : fJ0_length_8abf5 N x0 = some z_r) : CtI l yJ0_length_8abf5 wsJ0_length_8abf5 rmJ0_length_8abf5 D (tyl cI cJ cT) Es [.ref (Es.1 x0)] [] z_r [] :=
  CtI.of (own := RJ0) (cc := cJ0_length_8abf5) (nL := 1) (ret := (some .int)) (by decide +kernel) rfl rfl (Nat.le_of_ble_eq_true rfl) rfl (fun p e s m below meth c A ls C B hl => qJ0_length_8abf5_0 C (N := N) x0 h _ _ _ B hl)

abbrev rmJ1_canEncode_9a6ad : Room := { frames := 0, cells := 0, slots := 0, locals := 0 }
theorem hdJ1_canEncode_9a6ad : yJ1_canEncode_9a6ad.cls ≠ "java/lang/invoke/MethodHandle" ∧ yJ1_canEncode_9a6ad.cls ≠ "java/lang/invoke/VarHandle" ∧ (parseMethodDescriptor yJ1_canEncode_9a6ad.desc).map (fun d => d.parameters.length) = some 1 := by decide +kernel
section
variable {p : Program} {l : Launch} {e : Env} {s : State} {m : MethodId} {args : Array Value} {below : List Frame} {meth : Method} {c : Code} {D : va_G} {A : Nat → Prop} {Es : (Nat → Nat) × (Nat → Nat)} {a b : Nat → Nat} {cI cJ cT : ClassId}
set_option maxHeartbeats 4000000 in
set_option maxRecDepth 100000 in
theorem qJ1_canEncode_9a6ad_0 (C : CT p s m args meth c RJ1 cJ1_canEncode_9a6ad 1 (some .boolean) wsJ1_canEncode_9a6ad D A (tyl cI cJ cT) Es) {N : Nat} {z_r : Int32} : ∀ (x0 : Int32), fJ1_canEncode_9a6ad N x0 = some z_r → ∀ (H : Heap) (locs : List Loc) (ls : Array Slot), DB D A [] s H locs → lv_has ls 1 [(0, .int x0)] → W p l e rmJ1_canEncode_9a6ad s m args below meth c H locs 0 0 (ZI below args s D A (tyl cI cJ cT) z_r [] 0 0) (F0 m 0 ls []) := by
  have hx := C.1.1
  have hb := C.1.2.1
  have hown := C.1.2.2.2.1
  have hts := C.1.2.2.2.2
  intro x0 h H locs ls B hl
  rw [fJ1_canEncode_9a6ad] at h
  refine lv_iload_n hx hb dJ1_canEncode_9a6ad_0 rfl (lv_at hl 0 rfl) ?_
  refine lv_if_lt (tgt := 15) hx hb dJ1_canEncode_9a6ad_1 (by decide) (fun c_1 => ?_) (fun c_1 => ?_)
  · rw [if_pos c_1] at h
    refine lv_iconst (v := 0) hx hb dJ1_canEncode_9a6ad_15 (by decide) ?_
    cases h
    exact k_zret C B (by decide) dJ1_canEncode_9a6ad_16
  · rw [if_neg c_1] at h
    refine lv_iload_n hx hb dJ1_canEncode_9a6ad_4 rfl (lv_at hl 0 rfl) ?_
    refine lv_sipush (v := 255) hx hb dJ1_canEncode_9a6ad_5 (by decide) ?_
    refine lv_icmp_gt (tgt := 15) hx hb dJ1_canEncode_9a6ad_8 (by decide) (fun c_2 => ?_) (fun c_2 => ?_)
    · rw [if_pos c_2] at h
      refine lv_iconst (v := 0) hx hb dJ1_canEncode_9a6ad_15 (by decide) ?_
      cases h
      exact k_zret C B (by decide) dJ1_canEncode_9a6ad_16
    · rw [if_neg c_2] at h
      refine lv_iconst (v := 1) hx hb dJ1_canEncode_9a6ad_11 (by decide) ?_
      refine lv_goto (tgt := 16) hx hb dJ1_canEncode_9a6ad_12 (by decide) ?_
      cases h
      exact k_zret C B (by decide) dJ1_canEncode_9a6ad_16
end
theorem tJ1_canEncode_9a6ad {l : Launch} {D : va_G} {Es : (Nat → Nat) × (Nat → Nat)} {cI cJ cT : ClassId} {x0 : Int32} {z_r : Int32} (N : Nat) (h : fJ1_canEncode_9a6ad N x0 = some z_r) : CtI l yJ1_canEncode_9a6ad wsJ1_canEncode_9a6ad rmJ1_canEncode_9a6ad D (tyl cI cJ cT) Es [.int x0] [] z_r [] :=
  CtI.of (own := RJ1) (cc := cJ1_canEncode_9a6ad) (nL := 1) (ret := (some .boolean)) (by decide +kernel) rfl rfl (Nat.le_of_ble_eq_true rfl) rfl (fun p e s m below meth c A ls C B hl => qJ1_canEncode_9a6ad_0 C (N := N) x0 h _ _ _ B hl)

abbrev rmJ1_indexOfChar_4cfef : Room := { frames := 0, cells := 0, slots := 0, locals := 0 }
theorem hdJ1_indexOfChar_4cfef : yJ1_indexOfChar_4cfef.cls ≠ "java/lang/invoke/MethodHandle" ∧ yJ1_indexOfChar_4cfef.cls ≠ "java/lang/invoke/VarHandle" ∧ (parseMethodDescriptor yJ1_indexOfChar_4cfef.desc).map (fun d => d.parameters.length) = some 4 := by decide +kernel
section
variable {p : Program} {l : Launch} {e : Env} {s : State} {m : MethodId} {args : Array Value} {below : List Frame} {meth : Method} {c : Code} {D : va_G} {A : Nat → Prop} {Es : (Nat → Nat) × (Nat → Nat)} {a b : Nat → Nat} {cI cJ cT : ClassId}
set_option maxHeartbeats 4000000 in
set_option maxRecDepth 100000 in
theorem qJ1_indexOfChar_4cfef_7 (C : CT p s m args meth c RJ1 cJ1_indexOfChar_4cfef 6 (some .int) wsJ1_indexOfChar_4cfef D A (tyl cI cJ cT) Es) {N : Nat} {z_r : Int32} : ∀ (n : Nat) (x0 : Nat) (x3 : Int32) (x4 : Int32) (x5 : Int32), bJ1_indexOfChar_4cfef_7 N n x0 x3 x4 x5 = some z_r → ∀ (H : Heap) (locs : List Loc) (ls : Array Slot), DB D A [] s H locs → lv_has ls 6 [(0, .ref (Es.2 x0)), (3, .int x3), (4, .int x4), (5, .int x5)] → W p l e rmJ1_indexOfChar_4cfef s m args below meth c H locs 0 0 (ZI below args s D A (tyl cI cJ cT) z_r [] 0 0) (F0 m 7 ls []) := by
  have hx := C.1.1
  have hb := C.1.2.1
  have hown := C.1.2.2.2.1
  have hts := C.1.2.2.2.2
  intro n
  induction n with
  | zero => intro x0 x3 x4 x5 h; cases h
  | succ n ih =>
    intro x0 x3 x4 x5 h H locs ls B hl
    rw [bJ1_indexOfChar_4cfef_7] at h
    refine lv_iload hx hb dJ1_indexOfChar_4cfef_7 (lv_at hl 3 rfl) ?_
    refine lv_iload_n hx hb dJ1_indexOfChar_4cfef_9 rfl (lv_at hl 1 rfl) ?_
    refine lv_icmp_ge (tgt := 31) hx hb dJ1_indexOfChar_4cfef_10 (by decide) (fun c_1 => ?_) (fun c_1 => ?_)
    · rw [if_pos c_1] at h
      refine lv_iconst (v := -1) hx hb dJ1_indexOfChar_4cfef_31 (by decide) ?_
      cases h
      exact k_iret C B dJ1_indexOfChar_4cfef_32
    · rw [if_neg c_1] at h
      refine lv_aload_n hx hb dJ1_indexOfChar_4cfef_13 rfl (lv_at hl 0 rfl) ?_
      refine lv_iload hx hb dJ1_indexOfChar_4cfef_14 (lv_at hl 3 rfl) ?_
      obtain ⟨s_4, h⟩ := sg_some h
      obtain ⟨b_3, h⟩ := bnd_some h
      refine va_tb hx hb (C.2.2.2.1.1.1 x0 s_4).2.2.2 B.2.2 b_3 (v := .int (sby x0 (Int32.toNatClampNeg x5))) rfl dJ1_indexOfChar_4cfef_16 ?_
      refine lv_iload hx hb dJ1_indexOfChar_4cfef_17 (lv_at hl 2 rfl) ?_
      refine lv_icmp_ne (tgt := 25) hx hb dJ1_indexOfChar_4cfef_19 (by decide) (fun c_2 => ?_) (fun c_2 => ?_)
      · rw [if_neg c_2] at h
        refine lv_iinc (v := (x5 + 1)) (lv' := [(5, .int (x5 + 1)), (0, .ref (Es.2 x0)), (3, .int x3), (4, .int x4)]) hx hb dJ1_indexOfChar_4cfef_25 hl (k := 3) rfl rfl (by decide) rfl (fun ls hl => ?_)
        refine lv_goto (tgt := 7) hx hb dJ1_indexOfChar_4cfef_28 (by decide) ?_
        exact ih x0 x3 x4 (x5 + 1) h H locs ls B (lv_sub hl [1, 2, 3, 0] rfl)
      · rw [if_pos c_2] at h
        refine lv_iload hx hb dJ1_indexOfChar_4cfef_22 (lv_at hl 3 rfl) ?_
        cases h
        exact k_iret C B dJ1_indexOfChar_4cfef_24
set_option maxHeartbeats 4000000 in
set_option maxRecDepth 100000 in
theorem qJ1_indexOfChar_4cfef_0 (C : CT p s m args meth c RJ1 cJ1_indexOfChar_4cfef 6 (some .int) wsJ1_indexOfChar_4cfef D A (tyl cI cJ cT) Es) {N : Nat} {z_r : Int32} : ∀ (x0 : Nat) (x1 : Int32) (x2 : Int32) (x3 : Int32), fJ1_indexOfChar_4cfef N x0 x1 x2 x3 = some z_r → ∀ (H : Heap) (locs : List Loc) (ls : Array Slot), DB D A [] s H locs → lv_has ls 6 [(0, .ref (Es.2 x0)), (1, .int x1), (2, .int x2), (3, .int x3)] → W p l e rmJ1_indexOfChar_4cfef s m args below meth c H locs 0 0 (ZI below args s D A (tyl cI cJ cT) z_r [] 0 0) (F0 m 0 ls []) := by
  have hx := C.1.1
  have hb := C.1.2.1
  have hown := C.1.2.2.2.1
  have hts := C.1.2.2.2.2
  intro x0 x1 x2 x3 h H locs ls B hl
  rw [fJ1_indexOfChar_4cfef] at h
  refine lv_iload_n hx hb dJ1_indexOfChar_4cfef_0 rfl (lv_at hl 1 rfl) ?_
  refine lv_i2b (v := (i2b_ x1)) hx hb dJ1_indexOfChar_4cfef_1 rfl ?_
  refine lv_istore (lv' := [(4, .int (i2b_ x1)), (0, .ref (Es.2 x0)), (1, .int x1), (2, .int x2), (3, .int x3)]) hx hb dJ1_indexOfChar_4cfef_2 hl (by decide) rfl (fun ls hl => ?_)
  refine lv_iload_n hx hb dJ1_indexOfChar_4cfef_4 rfl (lv_at hl 3 rfl) ?_
  refine lv_istore (lv' := [(5, .int x2), (4, .int (i2b_ x1)), (0, .ref (Es.2 x0)), (1, .int x1), (2, .int x2), (3, .int x3)]) hx hb dJ1_indexOfChar_4cfef_5 hl (by decide) rfl (fun ls hl => ?_)
  exact qJ1_indexOfChar_4cfef_7 C N x0 x3 (i2b_ x1) x2 h H locs ls B (lv_sub hl [2, 5, 1, 0] rfl)
end
theorem tJ1_indexOfChar_4cfef {l : Launch} {D : va_G} {Es : (Nat → Nat) × (Nat → Nat)} {cI cJ cT : ClassId} {x0 : Nat} {x1 : Int32} {x2 : Int32} {x3 : Int32} {z_r : Int32} (N : Nat) (h : fJ1_indexOfChar_4cfef N x0 x1 x2 x3 = some z_r) : CtI l yJ1_indexOfChar_4cfef wsJ1_indexOfChar_4cfef rmJ1_indexOfChar_4cfef D (tyl cI cJ cT) Es [.ref (Es.2 x0), .int x1, .int x2, .int x3] [] z_r [] :=
  CtI.of (own := RJ1) (cc := cJ1_indexOfChar_4cfef) (nL := 6) (ret := (some .int)) (by decide +kernel) rfl rfl (Nat.le_of_ble_eq_true rfl) rfl (fun p e s m below meth c A ls C B hl => qJ1_indexOfChar_4cfef_0 C (N := N) x0 x1 x2 x3 h _ _ _ B hl)

abbrev rmJ1_indexOf_4cfef : Room := { frames := 1, cells := 0, slots := 0, locals := 25 }
theorem hdJ1_indexOf_4cfef : yJ1_indexOf_4cfef.cls ≠ "java/lang/invoke/MethodHandle" ∧ yJ1_indexOf_4cfef.cls ≠ "java/lang/invoke/VarHandle" ∧ (parseMethodDescriptor yJ1_indexOf_4cfef.desc).map (fun d => d.parameters.length) = some 4 := by decide +kernel
theorem mJ1_indexOf_4cfef_min1 : (Cond.methodLink RJ1 38 Lib.Math.min.name) ∈ wsJ1_indexOf_4cfef := by decide +kernel
theorem mJ1_indexOf_4cfef_min2 : (Cond.static Lib.Math.min.name) ∈ wsJ1_indexOf_4cfef := by decide +kernel
theorem mJ1_indexOf_4cfef_min3 : (Cond.initialized "java/lang/Math") ∈ wsJ1_indexOf_4cfef := by decide +kernel
theorem mJ1_indexOf_4cfef_min4 : (Cond.code Lib.Math.min.name Lib.Math.min.code 2 (some .int)) ∈ wsJ1_indexOf_4cfef := by decide +kernel
theorem mJ1_indexOf_4cfef_max1 : (Cond.methodLink RJ1 92 Lib.Math.max.name) ∈ wsJ1_indexOf_4cfef := by decide +kernel
theorem mJ1_indexOf_4cfef_max2 : (Cond.static Lib.Math.max.name) ∈ wsJ1_indexOf_4cfef := by decide +kernel
theorem mJ1_indexOf_4cfef_max3 : (Cond.initialized "java/lang/Math") ∈ wsJ1_indexOf_4cfef := by decide +kernel
theorem mJ1_indexOf_4cfef_max4 : (Cond.code Lib.Math.max.name Lib.Math.max.code 2 (some .int)) ∈ wsJ1_indexOf_4cfef := by decide +kernel
section
variable {p : Program} {l : Launch} {e : Env} {s : State} {m : MethodId} {args : Array Value} {below : List Frame} {meth : Method} {c : Code} {D : va_G} {A : Nat → Prop} {Es : (Nat → Nat) × (Nat → Nat)} {a b : Nat → Nat} {cI cJ cT : ClassId}
set_option maxHeartbeats 4000000 in
set_option maxRecDepth 100000 in
theorem qJ1_indexOf_4cfef_22 (C : CT p s m args meth c RJ1 cJ1_indexOf_4cfef 4 (some .int) wsJ1_indexOf_4cfef D A (tyl cI cJ cT) Es) {N : Nat} {z_r : Int32} : ∀ (x0 : Nat) (x1 : Int32) (x2 : Int32) (x3 : Int32), bJ1_indexOf_4cfef_22 N x0 x1 x2 x3 = some z_r → ∀ (H : Heap) (locs : List Loc) (ls : Array Slot), DB D A [] s H locs → lv_has ls 4 [(0, .ref (Es.2 x0)), (1, .int x1), (2, .int x2), (3, .int x3)] → W p l e rmJ1_indexOf_4cfef s m args below meth c H locs 0 0 (ZI below args s D A (tyl cI cJ cT) z_r [] 0 0) (F0 m 22 ls []) := by
  have hx := C.1.1
  have hb := C.1.2.1
  have hown := C.1.2.2.2.1
  have hts := C.1.2.2.2.2
  intro x0 x1 x2 x3 h H locs ls B hl
  rw [bJ1_indexOf_4cfef_22] at h
  refine lv_iload_n hx hb dJ1_indexOf_4cfef_22 rfl (lv_at hl 2 rfl) ?_
  refine lv_iload_n hx hb dJ1_indexOf_4cfef_23 rfl (lv_at hl 3 rfl) ?_
  refine lv_icmp_lt (tgt := 29) hx hb dJ1_indexOf_4cfef_24 (by decide) (fun c_1 => ?_) (fun c_1 => ?_)
  · rw [if_pos c_1] at h
    refine lv_aload_n hx hb dJ1_indexOf_4cfef_29 rfl (lv_at hl 0 rfl) ?_
    refine lv_iload_n hx hb dJ1_indexOf_4cfef_30 rfl (lv_at hl 1 rfl) ?_
    refine lv_iload_n hx hb dJ1_indexOf_4cfef_31 rfl (lv_at hl 2 rfl) ?_
    refine lv_iload_n hx hb dJ1_indexOf_4cfef_32 rfl (lv_at hl 3 rfl) ?_
    obtain ⟨r_2, g_3, h⟩ := ob_some h
    try dsimp only at h
    refine kc_SI C B (As := [.ref (Es.2 x0), .int x1, .int x2, .int x3]) (rest := []) (w2 := []) (tJ1_indexOfChar_4cfef N g_3) gJ1_indexOf_4cfef_J1_indexOfChar_4cfef rfl ⟨rfl, rfl⟩ hdJ1_indexOfChar_4cfef ⟨Nat.le_of_ble_eq_true rfl, Nat.le_of_ble_eq_true rfl⟩ [] [] [] rfl rfl rfl rfl rfl rfl rfl rfl hl.1 rfl (Nat.le_of_ble_eq_true rfl) ⟨Nat.zero_le _, Nat.zero_le _⟩ dJ1_indexOf_4cfef_33 (fun H locs B => ?_)
    cases h
    exact k_iret C B dJ1_indexOf_4cfef_36
  · rw [if_neg c_1] at h
    refine lv_iconst (v := -1) hx hb dJ1_indexOf_4cfef_27 (by decide) ?_
    cases h
    exact k_iret C B dJ1_indexOf_4cfef_28
set_option maxHeartbeats 4000000 in
set_option maxRecDepth 100000 in
theorem qJ1_indexOf_4cfef_15 (C : CT p s m args meth c RJ1 cJ1_indexOf_4cfef 4 (some .int) wsJ1_indexOf_4cfef D A (tyl cI cJ cT) Es) {N : Nat} {z_r : Int32} : ∀ (x0 : Nat) (x1 : Int32) (x2 : Int32) (x3 : Int32), bJ1_indexOf_4cfef_15 N x0 x1 x2 x3 = some z_r → ∀ (H : Heap) (locs : List Loc) (ls : Array Slot), DB D A [] s H locs → lv_has ls 4 [(0, .ref (Es.2 x0)), (1, .int x1), (2, .int x2), (3, .int x3)] → W p l e rmJ1_indexOf_4cfef s m args below meth c H locs 0 0 (ZI below args s D A (tyl cI cJ cT) z_r [] 0 0) (F0 m 15 ls []) := by
  have hx := C.1.1
  have hb := C.1.2.1
  have hown := C.1.2.2.2.1
  have hts := C.1.2.2.2.2
  intro x0 x1 x2 x3 h H locs ls B hl
  rw [bJ1_indexOf_4cfef_15] at h
  refine lv_iload_n hx hb dJ1_indexOf_4cfef_15 rfl (lv_at hl 3 rfl) ?_
  refine lv_aload_n hx hb dJ1_indexOf_4cfef_16 rfl (lv_at hl 0 rfl) ?_
  obtain ⟨s_1, h⟩ := sg_some h
  refine va_tlen hx hb (C.2.2.2.1.1.1 x0 s_1).2.2.2 B.2.2 (v := (Int32.ofNat (sln x0))) rfl dJ1_indexOf_4cfef_17 ?_
  refine va_mmin hx hb (C.1.2.2.1.trans hl.1.symm) hown (hts _ mJ1_indexOf_4cfef_min1) (hts _ mJ1_indexOf_4cfef_min2) (hts _ mJ1_indexOf_4cfef_min3) (hts _ mJ1_indexOf_4cfef_min4) (Nat.le_of_ble_eq_true rfl) (Nat.le_of_ble_eq_true rfl) (Nat.zero_le _) (Nat.zero_le _) dJ1_indexOf_4cfef_18 ?_
  refine lv_istore_n (lv' := [(3, .int (if (Int32.ofNat (sln x0)) < x3 then (Int32.ofNat (sln x0)) else x3)), (0, .ref (Es.2 x0)), (1, .int x1), (2, .int x2)]) hx hb dJ1_indexOf_4cfef_21 rfl hl (by decide) rfl (fun ls hl => ?_)
  exact qJ1_indexOf_4cfef_22 C x0 x1 x2 (if (Int32.ofNat (sln x0)) < x3 then (Int32.ofNat (sln x0)) else x3) h H locs ls B (lv_sub hl [1, 2, 3, 0] rfl)
set_option maxHeartbeats 4000000 in
set_option maxRecDepth 100000 in
theorem qJ1_indexOf_4cfef_0 (C : CT p s m args meth c RJ1 cJ1_indexOf_4cfef 4 (some .int) wsJ1_indexOf_4cfef D A (tyl cI cJ cT) Es) {N : Nat} {z_r : Int32} : ∀ (x0 : Nat) (x1 : Int32) (x2 : Int32) (x3 : Int32), fJ1_indexOf_4cfef N x0 x1 x2 x3 = some z_r → ∀ (H : Heap) (locs : List Loc) (ls : Array Slot), DB D A [] s H locs → lv_has ls 4 [(0, .ref (Es.2 x0)), (1, .int x1), (2, .int x2), (3, .int x3)] → W p l e rmJ1_indexOf_4cfef s m args below meth c H locs 0 0 (ZI below args s D A (tyl cI cJ cT) z_r [] 0 0) (F0 m 0 ls []) := by
  have hx := C.1.1
  have hb := C.1.2.1
  have hown := C.1.2.2.2.1
  have hts := C.1.2.2.2.2
  intro x0 x1 x2 x3 h H locs ls B hl
  rw [fJ1_indexOf_4cfef] at h
  refine lv_iload_n hx hb dJ1_indexOf_4cfef_0 rfl (lv_at hl 1 rfl) ?_
  obtain ⟨r_1, g_3, h⟩ := ob_some h
  try dsimp only at h
  refine kc_SI C B (As := [.int x1]) (rest := []) (w2 := []) (tJ1_canEncode_9a6ad N g_3) gJ1_indexOf_4cfef_J1_canEncode_9a6ad rfl ⟨rfl, rfl⟩ hdJ1_canEncode_9a6ad ⟨Nat.le_of_ble_eq_true rfl, Nat.le_of_ble_eq_true rfl⟩ [] [] [] rfl rfl rfl rfl rfl rfl rfl rfl hl.1 rfl (Nat.le_of_ble_eq_true rfl) ⟨Nat.zero_le _, Nat.zero_le _⟩ dJ1_indexOf_4cfef_1 (fun H locs B => ?_)
  refine lv_if_ne (tgt := 9) hx hb dJ1_indexOf_4cfef_4 (by decide) (fun c_2 => ?_) (fun c_2 => ?_)
  · rw [if_neg c_2] at h
    refine lv_iload_n hx hb dJ1_indexOf_4cfef_9 rfl (lv_at hl 2 rfl) ?_
    refine lv_iconst (v := 0) hx hb dJ1_indexOf_4cfef_10 (by decide) ?_
    refine va_mmax hx hb (C.1.2.2.1.trans hl.1.symm) hown (hts _ mJ1_indexOf_4cfef_max1) (hts _ mJ1_indexOf_4cfef_max2) (hts _ mJ1_indexOf_4cfef_max3) (hts _ mJ1_indexOf_4cfef_max4) (Nat.le_of_ble_eq_true rfl) (Nat.le_of_ble_eq_true rfl) (Nat.zero_le _) (Nat.zero_le _) dJ1_indexOf_4cfef_11 ?_
    refine lv_istore_n (lv' := [(2, .int (if x2 < (0 : Int32) then (0 : Int32) else x2)), (0, .ref (Es.2 x0)), (1, .int x1), (3, .int x3)]) hx hb dJ1_indexOf_4cfef_14 rfl hl (by decide) rfl (fun ls hl => ?_)
    exact qJ1_indexOf_4cfef_15 C x0 x1 (if x2 < (0 : Int32) then (0 : Int32) else x2) x3 h H locs ls B (lv_sub hl [1, 2, 0, 3] rfl)
  · rw [if_pos c_2] at h
    refine lv_iconst (v := -1) hx hb dJ1_indexOf_4cfef_7 (by decide) ?_
    cases h
    exact k_iret C B dJ1_indexOf_4cfef_8
end
theorem tJ1_indexOf_4cfef {l : Launch} {D : va_G} {Es : (Nat → Nat) × (Nat → Nat)} {cI cJ cT : ClassId} {x0 : Nat} {x1 : Int32} {x2 : Int32} {x3 : Int32} {z_r : Int32} (N : Nat) (h : fJ1_indexOf_4cfef N x0 x1 x2 x3 = some z_r) : CtI l yJ1_indexOf_4cfef wsJ1_indexOf_4cfef rmJ1_indexOf_4cfef D (tyl cI cJ cT) Es [.ref (Es.2 x0), .int x1, .int x2, .int x3] [] z_r [] :=
  CtI.of (own := RJ1) (cc := cJ1_indexOf_4cfef) (nL := 4) (ret := (some .int)) (by decide +kernel) rfl rfl (Nat.le_of_ble_eq_true rfl) rfl (fun p e s m below meth c A ls C B hl => qJ1_indexOf_4cfef_0 C (N := N) x0 x1 x2 x3 h _ _ _ B hl)

abbrev rmJ0_indexOf_7cf53 : Room := { frames := 2, cells := 0, slots := 0, locals := 48 }
theorem hdJ0_indexOf_7cf53 : yJ0_indexOf_7cf53.cls ≠ "java/lang/invoke/MethodHandle" ∧ yJ0_indexOf_7cf53.cls ≠ "java/lang/invoke/VarHandle" ∧ (parseMethodDescriptor yJ0_indexOf_7cf53.desc).map (fun d => d.parameters.length) = some 2 := by decide +kernel
theorem mJ0_indexOf_7cf53_f9 : (Cond.fieldLink RJ0 9 "java/lang/String" "value" "[B") ∈ wsJ0_indexOf_7cf53 := by decide +kernel
section
variable {p : Program} {l : Launch} {e : Env} {s : State} {m : MethodId} {args : Array Value} {below : List Frame} {meth : Method} {c : Code} {D : va_G} {A : Nat → Prop} {Es : (Nat → Nat) × (Nat → Nat)} {a b : Nat → Nat} {cI cJ cT : ClassId}
set_option maxHeartbeats 4000000 in
set_option maxRecDepth 100000 in
theorem qJ0_indexOf_7cf53_0 (C : CT p s m args meth c RJ0 cJ0_indexOf_7cf53 3 (some .int) wsJ0_indexOf_7cf53 D A (tyl cI cJ cT) Es) {N : Nat} {z_r : Int32} : ∀ (x0 : Nat) (x1 : Int32) (x2 : Int32), fJ0_indexOf_7cf53 N x0 x1 x2 = some z_r → ∀ (H : Heap) (locs : List Loc) (ls : Array Slot), DB D A [] s H locs → lv_has ls 3 [(0, .ref (Es.1 x0)), (1, .int x1), (2, .int x2)] → W p l e rmJ0_indexOf_7cf53 s m args below meth c H locs 0 0 (ZI below args s D A (tyl cI cJ cT) z_r [] 0 0) (F0 m 0 ls []) := by
  have hx := C.1.1
  have hb := C.1.2.1
  have hown := C.1.2.2.2.1
  have hts := C.1.2.2.2.2
  intro x0 x1 x2 h H locs ls B hl
  rw [fJ0_indexOf_7cf53] at h
  refine lv_aload_n hx hb dJ0_indexOf_7cf53_0 rfl (lv_at hl 0 rfl) ?_
  obtain ⟨s_10, h⟩ := sg_some h
  obtain ⟨r_1, g_9, h⟩ := ob_some h
  try dsimp only at h
  refine kc_TI C B (As := []) (rest := []) (w2 := []) (tJ0_isLatin1_aae02 N g_9) gJ0_indexOf_7cf53_J0_isLatin1_aae02 rfl ⟨rfl, rfl⟩ ⟨rfl, hdJ0_isLatin1_aae02⟩ ⟨Nat.le_of_ble_eq_true rfl, Nat.le_of_ble_eq_true rfl⟩ s_10 [] [] [] rfl rfl rfl rfl rfl rfl rfl rfl hl.1 rfl (Nat.le_of_ble_eq_true rfl) ⟨Nat.zero_le _, Nat.zero_le _⟩ dJ0_indexOf_7cf53_1 (fun H locs B => ?_)
  refine lv_if_eq (tgt := 23) hx hb dJ0_indexOf_7cf53_4 (by decide) (fun c_2 => ?_) (fun c_2 => ?_)
  · rw [if_pos c_2] at h
    cases h
  · rw [if_neg c_2] at h
    refine lv_aload_n hx hb dJ0_indexOf_7cf53_7 rfl (lv_at hl 0 rfl) ?_
    obtain ⟨s_8, h⟩ := sg_some h
    refine vk_getf hx hb (C.2.2.2.1.1.1 x0 s_8).2.2.1 B.2.2 hown (hts _ mJ0_indexOf_7cf53_f9) (fun _ h9 => h9) dJ0_indexOf_7cf53_8 ?_
    refine lv_iload_n hx hb dJ0_indexOf_7cf53_11 rfl (lv_at hl 1 rfl) ?_
    refine lv_iload_n hx hb dJ0_indexOf_7cf53_12 rfl (lv_at hl 2 rfl) ?_
    refine lv_aload_n hx hb dJ0_indexOf_7cf53_13 rfl (lv_at hl 0 rfl) ?_
    obtain ⟨s_7, h⟩ := sg_some h
    obtain ⟨r_3, g_6, h⟩ := ob_some h
    try dsimp only at h
    refine kc_TI C B (As := []) (rest := [.int x2, .int x1, .ref (Es.2 x0)]) (w2 := []) (tJ0_length_8abf5 N g_6) gJ0_indexOf_7cf53_J0_length_8abf5 rfl ⟨rfl, rfl⟩ ⟨rfl, hdJ0_length_8abf5⟩ ⟨Nat.le_of_ble_eq_true rfl, Nat.le_of_ble_eq_true rfl⟩ s_7 [] [] [] rfl rfl rfl rfl rfl rfl rfl rfl hl.1 rfl (Nat.le_of_ble_eq_true rfl) ⟨Nat.zero_le _, Nat.zero_le _⟩ dJ0_indexOf_7cf53_14 (fun H locs B => ?_)
    obtain ⟨r_4, g_5, h⟩ := ob_some h
    try dsimp only at h
    refine kc_SI C B (As := [.ref (Es.2 x0), .int x1, .int x2, .int r_3]) (rest := []) (w2 := []) (tJ1_indexOf_4cfef N g_5) gJ0_indexOf_7cf53_J1_indexOf_4cfef rfl ⟨rfl, rfl⟩ hdJ1_indexOf_4cfef ⟨Nat.le_of_ble_eq_true rfl, Nat.le_of_ble_eq_true rfl⟩ [] [] [] rfl rfl rfl rfl rfl rfl rfl rfl hl.1 rfl (Nat.le_of_ble_eq_true rfl) ⟨Nat.zero_le _, Nat.zero_le _⟩ dJ0_indexOf_7cf53_17 (fun H locs B => ?_)
    refine lv_goto (tgt := 36) hx hb dJ0_indexOf_7cf53_20 (by decide) ?_
    cases h
    exact k_iret C B dJ0_indexOf_7cf53_36
end
theorem tJ0_indexOf_7cf53 {l : Launch} {D : va_G} {Es : (Nat → Nat) × (Nat → Nat)} {cI cJ cT : ClassId} {x0 : Nat} {x1 : Int32} {x2 : Int32} {z_r : Int32} (N : Nat) (h : fJ0_indexOf_7cf53 N x0 x1 x2 = some z_r) : CtI l yJ0_indexOf_7cf53 wsJ0_indexOf_7cf53 rmJ0_indexOf_7cf53 D (tyl cI cJ cT) Es [.ref (Es.1 x0), .int x1, .int x2] [] z_r [] :=
  CtI.of (own := RJ0) (cc := cJ0_indexOf_7cf53) (nL := 3) (ret := (some .int)) (by decide +kernel) rfl rfl (Nat.le_of_ble_eq_true rfl) rfl (fun p e s m below meth c A ls C B hl => qJ0_indexOf_7cf53_0 C (N := N) x0 x1 x2 h _ _ _ B hl)

abbrev rmJ0_indexOf_0f7a4 : Room := { frames := 3, cells := 0, slots := 0, locals := 70 }
theorem hdJ0_indexOf_0f7a4 : yJ0_indexOf_0f7a4.cls ≠ "java/lang/invoke/MethodHandle" ∧ yJ0_indexOf_0f7a4.cls ≠ "java/lang/invoke/VarHandle" ∧ (parseMethodDescriptor yJ0_indexOf_0f7a4.desc).map (fun d => d.parameters.length) = some 1 := by decide +kernel
section
variable {p : Program} {l : Launch} {e : Env} {s : State} {m : MethodId} {args : Array Value} {below : List Frame} {meth : Method} {c : Code} {D : va_G} {A : Nat → Prop} {Es : (Nat → Nat) × (Nat → Nat)} {a b : Nat → Nat} {cI cJ cT : ClassId}
set_option maxHeartbeats 4000000 in
set_option maxRecDepth 100000 in
theorem qJ0_indexOf_0f7a4_0 (C : CT p s m args meth c RJ0 cJ0_indexOf_0f7a4 2 (some .int) wsJ0_indexOf_0f7a4 D A (tyl cI cJ cT) Es) {N : Nat} {z_r : Int32} : ∀ (x0 : Nat) (x1 : Int32), fJ0_indexOf_0f7a4 N x0 x1 = some z_r → ∀ (H : Heap) (locs : List Loc) (ls : Array Slot), DB D A [] s H locs → lv_has ls 2 [(0, .ref (Es.1 x0)), (1, .int x1)] → W p l e rmJ0_indexOf_0f7a4 s m args below meth c H locs 0 0 (ZI below args s D A (tyl cI cJ cT) z_r [] 0 0) (F0 m 0 ls []) := by
  have hx := C.1.1
  have hb := C.1.2.1
  have hown := C.1.2.2.2.1
  have hts := C.1.2.2.2.2
  intro x0 x1 h H locs ls B hl
  rw [fJ0_indexOf_0f7a4] at h
  refine lv_aload_n hx hb dJ0_indexOf_0f7a4_0 rfl (lv_at hl 0 rfl) ?_
  refine lv_iload_n hx hb dJ0_indexOf_0f7a4_1 rfl (lv_at hl 1 rfl) ?_
  refine lv_iconst (v := 0) hx hb dJ0_indexOf_0f7a4_2 (by decide) ?_
  obtain ⟨s_3, h⟩ := sg_some h
  obtain ⟨r_1, g_2, h⟩ := ob_some h
  try dsimp only at h
  refine kc_TI C B (As := [.int x1, .int (0 : Int32)]) (rest := []) (w2 := []) (tJ0_indexOf_7cf53 N g_2) gJ0_indexOf_0f7a4_J0_indexOf_7cf53 rfl ⟨rfl, rfl⟩ ⟨rfl, hdJ0_indexOf_7cf53⟩ ⟨Nat.le_of_ble_eq_true rfl, Nat.le_of_ble_eq_true rfl⟩ s_3 [] [] [] rfl rfl rfl rfl rfl rfl rfl rfl hl.1 rfl (Nat.le_of_ble_eq_true rfl) ⟨Nat.zero_le _, Nat.zero_le _⟩ dJ0_indexOf_0f7a4_3 (fun H locs B => ?_)
  cases h
  exact k_iret C B dJ0_indexOf_0f7a4_6
end
theorem tJ0_indexOf_0f7a4 {l : Launch} {D : va_G} {Es : (Nat → Nat) × (Nat → Nat)} {cI cJ cT : ClassId} {x0 : Nat} {x1 : Int32} {z_r : Int32} (N : Nat) (h : fJ0_indexOf_0f7a4 N x0 x1 = some z_r) : CtI l yJ0_indexOf_0f7a4 wsJ0_indexOf_0f7a4 rmJ0_indexOf_0f7a4 D (tyl cI cJ cT) Es [.ref (Es.1 x0), .int x1] [] z_r [] :=
  CtI.of (own := RJ0) (cc := cJ0_indexOf_0f7a4) (nL := 2) (ret := (some .int)) (by decide +kernel) rfl rfl (Nat.le_of_ble_eq_true rfl) rfl (fun p e s m below meth c A ls C B hl => qJ0_indexOf_0f7a4_0 C (N := N) x0 x1 h _ _ _ B hl)

abbrev rmJ1_charAt_3b067 : Room := { frames := 2, cells := 0, slots := 0, locals := 43 }
theorem hdJ1_charAt_3b067 : yJ1_charAt_3b067.cls ≠ "java/lang/invoke/MethodHandle" ∧ yJ1_charAt_3b067.cls ≠ "java/lang/invoke/VarHandle" ∧ (parseMethodDescriptor yJ1_charAt_3b067.desc).map (fun d => d.parameters.length) = some 2 := by decide +kernel
section
variable {p : Program} {l : Launch} {e : Env} {s : State} {m : MethodId} {args : Array Value} {below : List Frame} {meth : Method} {c : Code} {D : va_G} {A : Nat → Prop} {Es : (Nat → Nat) × (Nat → Nat)} {a b : Nat → Nat} {cI cJ cT : ClassId}
set_option maxHeartbeats 4000000 in
set_option maxRecDepth 100000 in
theorem qJ1_charAt_3b067_0 (C : CT p s m args meth c RJ1 cJ1_charAt_3b067 2 (some .char) wsJ1_charAt_3b067 D A (tyl cI cJ cT) Es) {N : Nat} {z_r : Int32} : ∀ (x0 : Nat) (x1 : Int32), fJ1_charAt_3b067 N x0 x1 = some z_r → ∀ (H : Heap) (locs : List Loc) (ls : Array Slot), DB D A [] s H locs → lv_has ls 2 [(0, .ref (Es.2 x0)), (1, .int x1)] → W p l e rmJ1_charAt_3b067 s m args below meth c H locs 0 0 (ZI below args s D A (tyl cI cJ cT) z_r [] 0 0) (F0 m 0 ls []) := by
  have hx := C.1.1
  have hb := C.1.2.1
  have hown := C.1.2.2.2.1
  have hts := C.1.2.2.2.2
  intro x0 x1 h H locs ls B hl
  rw [fJ1_charAt_3b067] at h
  refine lv_iload_n hx hb dJ1_charAt_3b067_0 rfl (lv_at hl 1 rfl) ?_
  refine lv_aload_n hx hb dJ1_charAt_3b067_1 rfl (lv_at hl 0 rfl) ?_
  obtain ⟨s_4, h⟩ := sg_some h
  refine va_tlen hx hb (C.2.2.2.1.1.1 x0 s_4).2.2.2 B.2.2 (v := (Int32.ofNat (sln x0))) rfl dJ1_charAt_3b067_2 ?_
  obtain ⟨_, g_3, h⟩ := ob_some h
  try dsimp only at h
  refine kc_SV C B (As := [.int x1, .int (Int32.ofNat (sln x0))]) (rest := []) (w2 := []) (tJ0_checkIndex_df160 N g_3) gJ1_charAt_3b067_J0_checkIndex_df160 rfl ⟨rfl, rfl⟩ hdJ0_checkIndex_df160 ⟨Nat.le_of_ble_eq_true rfl, Nat.le_of_ble_eq_true rfl⟩ [] [] [] rfl rfl rfl rfl rfl rfl rfl rfl hl.1 rfl (Nat.le_of_ble_eq_true rfl) ⟨Nat.zero_le _, Nat.zero_le _⟩ dJ1_charAt_3b067_3 (fun H locs B => ?_)
  refine lv_aload_n hx hb dJ1_charAt_3b067_6 rfl (lv_at hl 0 rfl) ?_
  refine lv_iload_n hx hb dJ1_charAt_3b067_7 rfl (lv_at hl 1 rfl) ?_
  obtain ⟨s_2, h⟩ := sg_some h
  obtain ⟨b_1, h⟩ := bnd_some h
  refine va_tb hx hb (C.2.2.2.1.1.1 x0 s_2).2.2.2 B.2.2 b_1 (v := .int (sby x0 (Int32.toNatClampNeg x1))) rfl dJ1_charAt_3b067_8 ?_
  refine lv_sipush (v := 255) hx hb dJ1_charAt_3b067_9 (by decide) ?_
  refine lv_iand hx hb dJ1_charAt_3b067_12 ?_
  refine lv_i2c (v := (i2c_ ((sby x0 (Int32.toNatClampNeg x1)) &&& (255 : Int32)))) hx hb dJ1_charAt_3b067_13 rfl ?_
  cases h
  exact k_zret C B (pk_nc _) dJ1_charAt_3b067_14
end
theorem tJ1_charAt_3b067 {l : Launch} {D : va_G} {Es : (Nat → Nat) × (Nat → Nat)} {cI cJ cT : ClassId} {x0 : Nat} {x1 : Int32} {z_r : Int32} (N : Nat) (h : fJ1_charAt_3b067 N x0 x1 = some z_r) : CtI l yJ1_charAt_3b067 wsJ1_charAt_3b067 rmJ1_charAt_3b067 D (tyl cI cJ cT) Es [.ref (Es.2 x0), .int x1] [] z_r [] :=
  CtI.of (own := RJ1) (cc := cJ1_charAt_3b067) (nL := 2) (ret := (some .char)) (by decide +kernel) rfl rfl (Nat.le_of_ble_eq_true rfl) rfl (fun p e s m below meth c A ls C B hl => qJ1_charAt_3b067_0 C (N := N) x0 x1 h _ _ _ B hl)

abbrev rmJ0_charAt_5068e : Room := { frames := 3, cells := 0, slots := 0, locals := 64 }
theorem hdJ0_charAt_5068e : yJ0_charAt_5068e.cls ≠ "java/lang/invoke/MethodHandle" ∧ yJ0_charAt_5068e.cls ≠ "java/lang/invoke/VarHandle" ∧ (parseMethodDescriptor yJ0_charAt_5068e.desc).map (fun d => d.parameters.length) = some 1 := by decide +kernel
theorem mJ0_charAt_5068e_f9 : (Cond.fieldLink RJ0 9 "java/lang/String" "value" "[B") ∈ wsJ0_charAt_5068e := by decide +kernel
section
variable {p : Program} {l : Launch} {e : Env} {s : State} {m : MethodId} {args : Array Value} {below : List Frame} {meth : Method} {c : Code} {D : va_G} {A : Nat → Prop} {Es : (Nat → Nat) × (Nat → Nat)} {a b : Nat → Nat} {cI cJ cT : ClassId}
set_option maxHeartbeats 4000000 in
set_option maxRecDepth 100000 in
theorem qJ0_charAt_5068e_0 (C : CT p s m args meth c RJ0 cJ0_charAt_5068e 2 (some .char) wsJ0_charAt_5068e D A (tyl cI cJ cT) Es) {N : Nat} {z_r : Int32} : ∀ (x0 : Nat) (x1 : Int32), fJ0_charAt_5068e N x0 x1 = some z_r → ∀ (H : Heap) (locs : List Loc) (ls : Array Slot), DB D A [] s H locs → lv_has ls 2 [(0, .ref (Es.1 x0)), (1, .int x1)] → W p l e rmJ0_charAt_5068e s m args below meth c H locs 0 0 (ZI below args s D A (tyl cI cJ cT) z_r [] 0 0) (F0 m 0 ls []) := by
  have hx := C.1.1
  have hb := C.1.2.1
  have hown := C.1.2.2.2.1
  have hts := C.1.2.2.2.2
  intro x0 x1 h H locs ls B hl
  rw [fJ0_charAt_5068e] at h
  refine lv_aload_n hx hb dJ0_charAt_5068e_0 rfl (lv_at hl 0 rfl) ?_
  obtain ⟨s_8, h⟩ := sg_some h
  obtain ⟨r_1, g_7, h⟩ := ob_some h
  try dsimp only at h
  refine kc_TI C B (As := []) (rest := []) (w2 := []) (tJ0_isLatin1_aae02 N g_7) gJ0_charAt_5068e_J0_isLatin1_aae02 rfl ⟨rfl, rfl⟩ ⟨rfl, hdJ0_isLatin1_aae02⟩ ⟨Nat.le_of_ble_eq_true rfl, Nat.le_of_ble_eq_true rfl⟩ s_8 [] [] [] rfl rfl rfl rfl rfl rfl rfl rfl hl.1 rfl (Nat.le_of_ble_eq_true rfl) ⟨Nat.zero_le _, Nat.zero_le _⟩ dJ0_charAt_5068e_1 (fun H locs B => ?_)
  refine lv_if_eq (tgt := 16) hx hb dJ0_charAt_5068e_4 (by decide) (fun c_2 => ?_) (fun c_2 => ?_)
  · rw [if_pos c_2] at h
    cases h
  · rw [if_neg c_2] at h
    refine lv_aload_n hx hb dJ0_charAt_5068e_7 rfl (lv_at hl 0 rfl) ?_
    obtain ⟨s_6, h⟩ := sg_some h
    refine vk_getf hx hb (C.2.2.2.1.1.1 x0 s_6).2.2.1 B.2.2 hown (hts _ mJ0_charAt_5068e_f9) (fun _ h9 => h9) dJ0_charAt_5068e_8 ?_
    refine lv_iload_n hx hb dJ0_charAt_5068e_11 rfl (lv_at hl 1 rfl) ?_
    obtain ⟨r_3, g_5, h⟩ := ob_some h
    try dsimp only at h
    refine kc_SI C B (As := [.ref (Es.2 x0), .int x1]) (rest := []) (w2 := []) (tJ1_charAt_3b067 N g_5) gJ0_charAt_5068e_J1_charAt_3b067 rfl ⟨rfl, rfl⟩ hdJ1_charAt_3b067 ⟨Nat.le_of_ble_eq_true rfl, Nat.le_of_ble_eq_true rfl⟩ [] [] [] rfl rfl rfl rfl rfl rfl rfl rfl hl.1 rfl (Nat.le_of_ble_eq_true rfl) ⟨Nat.zero_le _, Nat.zero_le _⟩ dJ0_charAt_5068e_12 (fun H locs B => ?_)
    obtain ⟨z_4, h⟩ := chg_some h
    cases h
    exact k_zret C B z_4 dJ0_charAt_5068e_15
end
theorem tJ0_charAt_5068e {l : Launch} {D : va_G} {Es : (Nat → Nat) × (Nat → Nat)} {cI cJ cT : ClassId} {x0 : Nat} {x1 : Int32} {z_r : Int32} (N : Nat) (h : fJ0_charAt_5068e N x0 x1 = some z_r) : CtI l yJ0_charAt_5068e wsJ0_charAt_5068e rmJ0_charAt_5068e D (tyl cI cJ cT) Es [.ref (Es.1 x0), .int x1] [] z_r [] :=
  CtI.of (own := RJ0) (cc := cJ0_charAt_5068e) (nL := 2) (ret := (some .char)) (by decide +kernel) rfl rfl (Nat.le_of_ble_eq_true rfl) rfl (fun p e s m below meth c A ls C B hl => qJ0_charAt_5068e_0 C (N := N) x0 x1 h _ _ _ B hl)

abbrev rmJ13_bitCount_95d88 : Room := { frames := 0, cells := 0, slots := 0, locals := 0 }
theorem hdJ13_bitCount_95d88 : yJ13_bitCount_95d88.cls ≠ "java/lang/invoke/MethodHandle" ∧ yJ13_bitCount_95d88.cls ≠ "java/lang/invoke/VarHandle" ∧ (parseMethodDescriptor yJ13_bitCount_95d88.desc).map (fun d => d.parameters.length) = some 1 := by decide +kernel
theorem mJ13_bitCount_95d88_l318 : (Cond.constantLong RJ13 318 (1085102592571150095)) ∈ wsJ13_bitCount_95d88 := by decide +kernel
theorem mJ13_bitCount_95d88_l316 : (Cond.constantLong RJ13 316 (3689348814741910323)) ∈ wsJ13_bitCount_95d88 := by decide +kernel
theorem mJ13_bitCount_95d88_l314 : (Cond.constantLong RJ13 314 (6148914691236517205)) ∈ wsJ13_bitCount_95d88 := by decide +kernel
section
variable {p : Program} {l : Launch} {e : Env} {s : State} {m : MethodId} {args : Array Value} {below : List Frame} {meth : Method} {c : Code} {D : va_G} {A : Nat → Prop} {Es : (Nat → Nat) × (Nat → Nat)} {a b : Nat → Nat} {cI cJ cT : ClassId}
set_option maxHeartbeats 4000000 in
set_option maxRecDepth 100000 in
theorem qJ13_bitCount_95d88_55 (C : CT p s m args meth c RJ13 cJ13_bitCount_95d88 2 (some .int) wsJ13_bitCount_95d88 D A (tyl cI cJ cT) Es) {N : Nat} {z_r : Int32} : ∀ (x0 : Int64), bJ13_bitCount_95d88_55 N x0 = some z_r → ∀ (H : Heap) (locs : List Loc) (ls : Array Slot), DB D A [] s H locs → lv_has ls 2 [(0, .long x0)] → W p l e rmJ13_bitCount_95d88 s m args below meth c H locs 0 0 (ZI below args s D A (tyl cI cJ cT) z_r [] 0 0) (F0 m 55 ls []) := by
  have hx := C.1.1
  have hb := C.1.2.1
  have hown := C.1.2.2.2.1
  have hts := C.1.2.2.2.2
  intro x0 h H locs ls B hl
  rw [bJ13_bitCount_95d88_55] at h
  refine lv_lload_n hx hb dJ13_bitCount_95d88_55 rfl (lv_at hl 0 rfl) ?_
  refine lv_l2i (v := (Int64.toInt32 x0)) hx hb dJ13_bitCount_95d88_56 rfl ?_
  refine lv_bipush (v := 127) hx hb dJ13_bitCount_95d88_57 (by decide) ?_
  refine lv_iand hx hb dJ13_bitCount_95d88_59 ?_
  cases h
  exact k_iret C B dJ13_bitCount_95d88_60
set_option maxHeartbeats 4000000 in
set_option maxRecDepth 100000 in
theorem qJ13_bitCount_95d88_48 (C : CT p s m args meth c RJ13 cJ13_bitCount_95d88 2 (some .int) wsJ13_bitCount_95d88 D A (tyl cI cJ cT) Es) {N : Nat} {z_r : Int32} : ∀ (x0 : Int64), bJ13_bitCount_95d88_48 N x0 = some z_r → ∀ (H : Heap) (locs : List Loc) (ls : Array Slot), DB D A [] s H locs → lv_has ls 2 [(0, .long x0)] → W p l e rmJ13_bitCount_95d88 s m args below meth c H locs 0 0 (ZI below args s D A (tyl cI cJ cT) z_r [] 0 0) (F0 m 48 ls []) := by
  have hx := C.1.1
  have hb := C.1.2.1
  have hown := C.1.2.2.2.1
  have hts := C.1.2.2.2.2
  intro x0 h H locs ls B hl
  rw [bJ13_bitCount_95d88_48] at h
  refine lv_lload_n hx hb dJ13_bitCount_95d88_48 rfl (lv_at hl 0 rfl) ?_
  refine lv_lload_n hx hb dJ13_bitCount_95d88_49 rfl (lv_at hl 0 rfl) ?_
  refine lv_bipush (v := 32) hx hb dJ13_bitCount_95d88_50 (by decide) ?_
  refine lv_lushr (v := (lush x0 (32 : Int32))) hx hb dJ13_bitCount_95d88_52 rfl ?_
  refine lv_ladd hx hb dJ13_bitCount_95d88_53 ?_
  refine lv_lstore_n (lv' := [(0, .long (x0 + (lush x0 (32 : Int32))))]) hx hb dJ13_bitCount_95d88_54 rfl hl (by decide) rfl (fun ls hl => ?_)
  exact qJ13_bitCount_95d88_55 C (x0 + (lush x0 (32 : Int32))) h H locs ls B (lv_sub hl [0] rfl)
set_option maxHeartbeats 4000000 in
set_option maxRecDepth 100000 in
theorem qJ13_bitCount_95d88_41 (C : CT p s m args meth c RJ13 cJ13_bitCount_95d88 2 (some .int) wsJ13_bitCount_95d88 D A (tyl cI cJ cT) Es) {N : Nat} {z_r : Int32} : ∀ (x0 : Int64), bJ13_bitCount_95d88_41 N x0 = some z_r → ∀ (H : Heap) (locs : List Loc) (ls : Array Slot), DB D A [] s H locs → lv_has ls 2 [(0, .long x0)] → W p l e rmJ13_bitCount_95d88 s m args below meth c H locs 0 0 (ZI below args s D A (tyl cI cJ cT) z_r [] 0 0) (F0 m 41 ls []) := by
  have hx := C.1.1
  have hb := C.1.2.1
  have hown := C.1.2.2.2.1
  have hts := C.1.2.2.2.2
  intro x0 h H locs ls B hl
  rw [bJ13_bitCount_95d88_41] at h
  refine lv_lload_n hx hb dJ13_bitCount_95d88_41 rfl (lv_at hl 0 rfl) ?_
  refine lv_lload_n hx hb dJ13_bitCount_95d88_42 rfl (lv_at hl 0 rfl) ?_
  refine lv_bipush (v := 16) hx hb dJ13_bitCount_95d88_43 (by decide) ?_
  refine lv_lushr (v := (lush x0 (16 : Int32))) hx hb dJ13_bitCount_95d88_45 rfl ?_
  refine lv_ladd hx hb dJ13_bitCount_95d88_46 ?_
  refine lv_lstore_n (lv' := [(0, .long (x0 + (lush x0 (16 : Int32))))]) hx hb dJ13_bitCount_95d88_47 rfl hl (by decide) rfl (fun ls hl => ?_)
  exact qJ13_bitCount_95d88_48 C (x0 + (lush x0 (16 : Int32))) h H locs ls B (lv_sub hl [0] rfl)
set_option maxHeartbeats 4000000 in
set_option maxRecDepth 100000 in
theorem qJ13_bitCount_95d88_34 (C : CT p s m args meth c RJ13 cJ13_bitCount_95d88 2 (some .int) wsJ13_bitCount_95d88 D A (tyl cI cJ cT) Es) {N : Nat} {z_r : Int32} : ∀ (x0 : Int64), bJ13_bitCount_95d88_34 N x0 = some z_r → ∀ (H : Heap) (locs : List Loc) (ls : Array Slot), DB D A [] s H locs → lv_has ls 2 [(0, .long x0)] → W p l e rmJ13_bitCount_95d88 s m args below meth c H locs 0 0 (ZI below args s D A (tyl cI cJ cT) z_r [] 0 0) (F0 m 34 ls []) := by
  have hx := C.1.1
  have hb := C.1.2.1
  have hown := C.1.2.2.2.1
  have hts := C.1.2.2.2.2
  intro x0 h H locs ls B hl
  rw [bJ13_bitCount_95d88_34] at h
  refine lv_lload_n hx hb dJ13_bitCount_95d88_34 rfl (lv_at hl 0 rfl) ?_
  refine lv_lload_n hx hb dJ13_bitCount_95d88_35 rfl (lv_at hl 0 rfl) ?_
  refine lv_bipush (v := 8) hx hb dJ13_bitCount_95d88_36 (by decide) ?_
  refine lv_lushr (v := (lush x0 (8 : Int32))) hx hb dJ13_bitCount_95d88_38 rfl ?_
  refine lv_ladd hx hb dJ13_bitCount_95d88_39 ?_
  refine lv_lstore_n (lv' := [(0, .long (x0 + (lush x0 (8 : Int32))))]) hx hb dJ13_bitCount_95d88_40 rfl hl (by decide) rfl (fun ls hl => ?_)
  exact qJ13_bitCount_95d88_41 C (x0 + (lush x0 (8 : Int32))) h H locs ls B (lv_sub hl [0] rfl)
set_option maxHeartbeats 4000000 in
set_option maxRecDepth 100000 in
theorem qJ13_bitCount_95d88_24 (C : CT p s m args meth c RJ13 cJ13_bitCount_95d88 2 (some .int) wsJ13_bitCount_95d88 D A (tyl cI cJ cT) Es) {N : Nat} {z_r : Int32} : ∀ (x0 : Int64), bJ13_bitCount_95d88_24 N x0 = some z_r → ∀ (H : Heap) (locs : List Loc) (ls : Array Slot), DB D A [] s H locs → lv_has ls 2 [(0, .long x0)] → W p l e rmJ13_bitCount_95d88 s m args below meth c H locs 0 0 (ZI below args s D A (tyl cI cJ cT) z_r [] 0 0) (F0 m 24 ls []) := by
  have hx := C.1.1
  have hb := C.1.2.1
  have hown := C.1.2.2.2.1
  have hts := C.1.2.2.2.2
  intro x0 h H locs ls B hl
  rw [bJ13_bitCount_95d88_24] at h
  refine lv_lload_n hx hb dJ13_bitCount_95d88_24 rfl (lv_at hl 0 rfl) ?_
  refine lv_lload_n hx hb dJ13_bitCount_95d88_25 rfl (lv_at hl 0 rfl) ?_
  refine lv_iconst (v := 4) hx hb dJ13_bitCount_95d88_26 (by decide) ?_
  refine lv_lushr (v := (lush x0 (4 : Int32))) hx hb dJ13_bitCount_95d88_27 rfl ?_
  refine lv_ladd hx hb dJ13_bitCount_95d88_28 ?_
  refine lv_ldc2 (v := 1085102592571150095) hx hb hown (hts _ mJ13_bitCount_95d88_l318) dJ13_bitCount_95d88_29 ?_
  refine lv_land hx hb dJ13_bitCount_95d88_32 ?_
  refine lv_lstore_n (lv' := [(0, .long ((x0 + (lush x0 (4 : Int32))) &&& (1085102592571150095 : Int64)))]) hx hb dJ13_bitCount_95d88_33 rfl hl (by decide) rfl (fun ls hl => ?_)
  exact qJ13_bitCount_95d88_34 C ((x0 + (lush x0 (4 : Int32))) &&& (1085102592571150095 : Int64)) h H locs ls B (lv_sub hl [0] rfl)
set_option maxHeartbeats 4000000 in
set_option maxRecDepth 100000 in
theorem qJ13_bitCount_95d88_10 (C : CT p s m args meth c RJ13 cJ13_bitCount_95d88 2 (some .int) wsJ13_bitCount_95d88 D A (tyl cI cJ cT) Es) {N : Nat} {z_r : Int32} : ∀ (x0 : Int64), bJ13_bitCount_95d88_10 N x0 = some z_r → ∀ (H : Heap) (locs : List Loc) (ls : Array Slot), DB D A [] s H locs → lv_has ls 2 [(0, .long x0)] → W p l e rmJ13_bitCount_95d88 s m args below meth c H locs 0 0 (ZI below args s D A (tyl cI cJ cT) z_r [] 0 0) (F0 m 10 ls []) := by
  have hx := C.1.1
  have hb := C.1.2.1
  have hown := C.1.2.2.2.1
  have hts := C.1.2.2.2.2
  intro x0 h H locs ls B hl
  rw [bJ13_bitCount_95d88_10] at h
  refine lv_lload_n hx hb dJ13_bitCount_95d88_10 rfl (lv_at hl 0 rfl) ?_
  refine lv_ldc2 (v := 3689348814741910323) hx hb hown (hts _ mJ13_bitCount_95d88_l316) dJ13_bitCount_95d88_11 ?_
  refine lv_land hx hb dJ13_bitCount_95d88_14 ?_
  refine lv_lload_n hx hb dJ13_bitCount_95d88_15 rfl (lv_at hl 0 rfl) ?_
  refine lv_iconst (v := 2) hx hb dJ13_bitCount_95d88_16 (by decide) ?_
  refine lv_lushr (v := (lush x0 (2 : Int32))) hx hb dJ13_bitCount_95d88_17 rfl ?_
  refine lv_ldc2 (v := 3689348814741910323) hx hb hown (hts _ mJ13_bitCount_95d88_l316) dJ13_bitCount_95d88_18 ?_
  refine lv_land hx hb dJ13_bitCount_95d88_21 ?_
  refine lv_ladd hx hb dJ13_bitCount_95d88_22 ?_
  refine lv_lstore_n (lv' := [(0, .long ((x0 &&& (3689348814741910323 : Int64)) + ((lush x0 (2 : Int32)) &&& (3689348814741910323 : Int64))))]) hx hb dJ13_bitCount_95d88_23 rfl hl (by decide) rfl (fun ls hl => ?_)
  exact qJ13_bitCount_95d88_24 C ((x0 &&& (3689348814741910323 : Int64)) + ((lush x0 (2 : Int32)) &&& (3689348814741910323 : Int64))) h H locs ls B (lv_sub hl [0] rfl)
set_option maxHeartbeats 4000000 in
set_option maxRecDepth 100000 in
theorem qJ13_bitCount_95d88_0 (C : CT p s m args meth c RJ13 cJ13_bitCount_95d88 2 (some .int) wsJ13_bitCount_95d88 D A (tyl cI cJ cT) Es) {N : Nat} {z_r : Int32} : ∀ (x0 : Int64), fJ13_bitCount_95d88 N x0 = some z_r → ∀ (H : Heap) (locs : List Loc) (ls : Array Slot), DB D A [] s H locs → lv_has ls 2 [(0, .long x0)] → W p l e rmJ13_bitCount_95d88 s m args below meth c H locs 0 0 (ZI below args s D A (tyl cI cJ cT) z_r [] 0 0) (F0 m 0 ls []) := by
  have hx := C.1.1
  have hb := C.1.2.1
  have hown := C.1.2.2.2.1
  have hts := C.1.2.2.2.2
  intro x0 h H locs ls B hl
  rw [fJ13_bitCount_95d88] at h
  refine lv_lload_n hx hb dJ13_bitCount_95d88_0 rfl (lv_at hl 0 rfl) ?_
  refine lv_lload_n hx hb dJ13_bitCount_95d88_1 rfl (lv_at hl 0 rfl) ?_
  refine lv_iconst (v := 1) hx hb dJ13_bitCount_95d88_2 (by decide) ?_
  refine lv_lushr (v := (lush x0 (1 : Int32))) hx hb dJ13_bitCount_95d88_3 rfl ?_
  refine lv_ldc2 (v := 6148914691236517205) hx hb hown (hts _ mJ13_bitCount_95d88_l314) dJ13_bitCount_95d88_4 ?_
  refine lv_land hx hb dJ13_bitCount_95d88_7 ?_
  refine lv_lsub hx hb dJ13_bitCount_95d88_8 ?_
  refine lv_lstore_n (lv' := [(0, .long (x0 - ((lush x0 (1 : Int32)) &&& (6148914691236517205 : Int64))))]) hx hb dJ13_bitCount_95d88_9 rfl hl (by decide) rfl (fun ls hl => ?_)
  exact qJ13_bitCount_95d88_10 C (x0 - ((lush x0 (1 : Int32)) &&& (6148914691236517205 : Int64))) h H locs ls B (lv_sub hl [0] rfl)
end
theorem tJ13_bitCount_95d88 {l : Launch} {D : va_G} {Es : (Nat → Nat) × (Nat → Nat)} {cI cJ cT : ClassId} {x0 : Int64} {z_r : Int32} (N : Nat) (h : fJ13_bitCount_95d88 N x0 = some z_r) : CtI l yJ13_bitCount_95d88 wsJ13_bitCount_95d88 rmJ13_bitCount_95d88 D (tyl cI cJ cT) Es [.long x0] [] z_r [] :=
  CtI.of (own := RJ13) (cc := cJ13_bitCount_95d88) (nL := 2) (ret := (some .int)) (by decide +kernel) rfl rfl (Nat.le_of_ble_eq_true rfl) rfl (fun p e s m below meth c A ls C B hl => qJ13_bitCount_95d88_0 C (N := N) x0 h _ _ _ B hl)

abbrev rmJ6_bitCount_0f7a4 : Room := { frames := 0, cells := 0, slots := 0, locals := 0 }
theorem hdJ6_bitCount_0f7a4 : yJ6_bitCount_0f7a4.cls ≠ "java/lang/invoke/MethodHandle" ∧ yJ6_bitCount_0f7a4.cls ≠ "java/lang/invoke/VarHandle" ∧ (parseMethodDescriptor yJ6_bitCount_0f7a4.desc).map (fun d => d.parameters.length) = some 1 := by decide +kernel
theorem mJ6_bitCount_0f7a4_c267 : (Cond.constant RJ6 267 (252645135)) ∈ wsJ6_bitCount_0f7a4 := by decide +kernel
theorem mJ6_bitCount_0f7a4_c266 : (Cond.constant RJ6 266 (858993459)) ∈ wsJ6_bitCount_0f7a4 := by decide +kernel
theorem mJ6_bitCount_0f7a4_c265 : (Cond.constant RJ6 265 (1431655765)) ∈ wsJ6_bitCount_0f7a4 := by decide +kernel
section
variable {p : Program} {l : Launch} {e : Env} {s : State} {m : MethodId} {args : Array Value} {below : List Frame} {meth : Method} {c : Code} {D : va_G} {A : Nat → Prop} {Es : (Nat → Nat) × (Nat → Nat)} {a b : Nat → Nat} {cI cJ cT : ClassId}
set_option maxHeartbeats 4000000 in
set_option maxRecDepth 100000 in
theorem qJ6_bitCount_0f7a4_48 (C : CT p s m args meth c RJ6 cJ6_bitCount_0f7a4 1 (some .int) wsJ6_bitCount_0f7a4 D A (tyl cI cJ cT) Es) {N : Nat} {z_r : Int32} : ∀ (x0 : Int32), bJ6_bitCount_0f7a4_48 N x0 = some z_r → ∀ (H : Heap) (locs : List Loc) (ls : Array Slot), DB D A [] s H locs → lv_has ls 1 [(0, .int x0)] → W p l e rmJ6_bitCount_0f7a4 s m args below meth c H locs 0 0 (ZI below args s D A (tyl cI cJ cT) z_r [] 0 0) (F0 m 48 ls []) := by
  have hx := C.1.1
  have hb := C.1.2.1
  have hown := C.1.2.2.2.1
  have hts := C.1.2.2.2.2
  intro x0 h H locs ls B hl
  rw [bJ6_bitCount_0f7a4_48] at h
  refine lv_iload_n hx hb dJ6_bitCount_0f7a4_48 rfl (lv_at hl 0 rfl) ?_
  refine lv_bipush (v := 63) hx hb dJ6_bitCount_0f7a4_49 (by decide) ?_
  refine lv_iand hx hb dJ6_bitCount_0f7a4_51 ?_
  cases h
  exact k_iret C B dJ6_bitCount_0f7a4_52
set_option maxHeartbeats 4000000 in
set_option maxRecDepth 100000 in
theorem qJ6_bitCount_0f7a4_41 (C : CT p s m args meth c RJ6 cJ6_bitCount_0f7a4 1 (some .int) wsJ6_bitCount_0f7a4 D A (tyl cI cJ cT) Es) {N : Nat} {z_r : Int32} : ∀ (x0 : Int32), bJ6_bitCount_0f7a4_41 N x0 = some z_r → ∀ (H : Heap) (locs : List Loc) (ls : Array Slot), DB D A [] s H locs → lv_has ls 1 [(0, .int x0)] → W p l e rmJ6_bitCount_0f7a4 s m args below meth c H locs 0 0 (ZI below args s D A (tyl cI cJ cT) z_r [] 0 0) (F0 m 41 ls []) := by
  have hx := C.1.1
  have hb := C.1.2.1
  have hown := C.1.2.2.2.1
  have hts := C.1.2.2.2.2
  intro x0 h H locs ls B hl
  rw [bJ6_bitCount_0f7a4_41] at h
  refine lv_iload_n hx hb dJ6_bitCount_0f7a4_41 rfl (lv_at hl 0 rfl) ?_
  refine lv_iload_n hx hb dJ6_bitCount_0f7a4_42 rfl (lv_at hl 0 rfl) ?_
  refine lv_bipush (v := 16) hx hb dJ6_bitCount_0f7a4_43 (by decide) ?_
  refine lv_iushr (v := (iush x0 (16 : Int32))) hx hb dJ6_bitCount_0f7a4_45 rfl ?_
  refine lv_iadd hx hb dJ6_bitCount_0f7a4_46 ?_
  refine lv_istore_n (lv' := [(0, .int (x0 + (iush x0 (16 : Int32))))]) hx hb dJ6_bitCount_0f7a4_47 rfl hl (by decide) rfl (fun ls hl => ?_)
  exact qJ6_bitCount_0f7a4_48 C (x0 + (iush x0 (16 : Int32))) h H locs ls B (lv_sub hl [0] rfl)
set_option maxHeartbeats 4000000 in
set_option maxRecDepth 100000 in
theorem qJ6_bitCount_0f7a4_34 (C : CT p s m args meth c RJ6 cJ6_bitCount_0f7a4 1 (some .int) wsJ6_bitCount_0f7a4 D A (tyl cI cJ cT) Es) {N : Nat} {z_r : Int32} : ∀ (x0 : Int32), bJ6_bitCount_0f7a4_34 N x0 = some z_r → ∀ (H : Heap) (locs : List Loc) (ls : Array Slot), DB D A [] s H locs → lv_has ls 1 [(0, .int x0)] → W p l e rmJ6_bitCount_0f7a4 s m args below meth c H locs 0 0 (ZI below args s D A (tyl cI cJ cT) z_r [] 0 0) (F0 m 34 ls []) := by
  have hx := C.1.1
  have hb := C.1.2.1
  have hown := C.1.2.2.2.1
  have hts := C.1.2.2.2.2
  intro x0 h H locs ls B hl
  rw [bJ6_bitCount_0f7a4_34] at h
  refine lv_iload_n hx hb dJ6_bitCount_0f7a4_34 rfl (lv_at hl 0 rfl) ?_
  refine lv_iload_n hx hb dJ6_bitCount_0f7a4_35 rfl (lv_at hl 0 rfl) ?_
  refine lv_bipush (v := 8) hx hb dJ6_bitCount_0f7a4_36 (by decide) ?_
  refine lv_iushr (v := (iush x0 (8 : Int32))) hx hb dJ6_bitCount_0f7a4_38 rfl ?_
  refine lv_iadd hx hb dJ6_bitCount_0f7a4_39 ?_
  refine lv_istore_n (lv' := [(0, .int (x0 + (iush x0 (8 : Int32))))]) hx hb dJ6_bitCount_0f7a4_40 rfl hl (by decide) rfl (fun ls hl => ?_)
  exact qJ6_bitCount_0f7a4_41 C (x0 + (iush x0 (8 : Int32))) h H locs ls B (lv_sub hl [0] rfl)
set_option maxHeartbeats 4000000 in
set_option maxRecDepth 100000 in
theorem qJ6_bitCount_0f7a4_24 (C : CT p s m args meth c RJ6 cJ6_bitCount_0f7a4 1 (some .int) wsJ6_bitCount_0f7a4 D A (tyl cI cJ cT) Es) {N : Nat} {z_r : Int32} : ∀ (x0 : Int32), bJ6_bitCount_0f7a4_24 N x0 = some z_r → ∀ (H : Heap) (locs : List Loc) (ls : Array Slot), DB D A [] s H locs → lv_has ls 1 [(0, .int x0)] → W p l e rmJ6_bitCount_0f7a4 s m args below meth c H locs 0 0 (ZI below args s D A (tyl cI cJ cT) z_r [] 0 0) (F0 m 24 ls []) := by
  have hx := C.1.1
  have hb := C.1.2.1
  have hown := C.1.2.2.2.1
  have hts := C.1.2.2.2.2
  intro x0 h H locs ls B hl
  rw [bJ6_bitCount_0f7a4_24] at h
  refine lv_iload_n hx hb dJ6_bitCount_0f7a4_24 rfl (lv_at hl 0 rfl) ?_
  refine lv_iload_n hx hb dJ6_bitCount_0f7a4_25 rfl (lv_at hl 0 rfl) ?_
  refine lv_iconst (v := 4) hx hb dJ6_bitCount_0f7a4_26 (by decide) ?_
  refine lv_iushr (v := (iush x0 (4 : Int32))) hx hb dJ6_bitCount_0f7a4_27 rfl ?_
  refine lv_iadd hx hb dJ6_bitCount_0f7a4_28 ?_
  refine lv_ldcw (v := 252645135) hx hb hown (hts _ mJ6_bitCount_0f7a4_c267) dJ6_bitCount_0f7a4_29 ?_
  refine lv_iand hx hb dJ6_bitCount_0f7a4_32 ?_
  refine lv_istore_n (lv' := [(0, .int ((x0 + (iush x0 (4 : Int32))) &&& (252645135 : Int32)))]) hx hb dJ6_bitCount_0f7a4_33 rfl hl (by decide) rfl (fun ls hl => ?_)
  exact qJ6_bitCount_0f7a4_34 C ((x0 + (iush x0 (4 : Int32))) &&& (252645135 : Int32)) h H locs ls B (lv_sub hl [0] rfl)
set_option maxHeartbeats 4000000 in
set_option maxRecDepth 100000 in
theorem qJ6_bitCount_0f7a4_10 (C : CT p s m args meth c RJ6 cJ6_bitCount_0f7a4 1 (some .int) wsJ6_bitCount_0f7a4 D A (tyl cI cJ cT) Es) {N : Nat} {z_r : Int32} : ∀ (x0 : Int32), bJ6_bitCount_0f7a4_10 N x0 = some z_r → ∀ (H : Heap) (locs : List Loc) (ls : Array Slot), DB D A [] s H locs → lv_has ls 1 [(0, .int x0)] → W p l e rmJ6_bitCount_0f7a4 s m args below meth c H locs 0 0 (ZI below args s D A (tyl cI cJ cT) z_r [] 0 0) (F0 m 10 ls []) := by
  have hx := C.1.1
  have hb := C.1.2.1
  have hown := C.1.2.2.2.1
  have hts := C.1.2.2.2.2
  intro x0 h H locs ls B hl
  rw [bJ6_bitCount_0f7a4_10] at h
  refine lv_iload_n hx hb dJ6_bitCount_0f7a4_10 rfl (lv_at hl 0 rfl) ?_
  refine lv_ldcw (v := 858993459) hx hb hown (hts _ mJ6_bitCount_0f7a4_c266) dJ6_bitCount_0f7a4_11 ?_
  refine lv_iand hx hb dJ6_bitCount_0f7a4_14 ?_
  refine lv_iload_n hx hb dJ6_bitCount_0f7a4_15 rfl (lv_at hl 0 rfl) ?_
  refine lv_iconst (v := 2) hx hb dJ6_bitCount_0f7a4_16 (by decide) ?_
  refine lv_iushr (v := (iush x0 (2 : Int32))) hx hb dJ6_bitCount_0f7a4_17 rfl ?_
  refine lv_ldcw (v := 858993459) hx hb hown (hts _ mJ6_bitCount_0f7a4_c266) dJ6_bitCount_0f7a4_18 ?_
  refine lv_iand hx hb dJ6_bitCount_0f7a4_21 ?_
  refine lv_iadd hx hb dJ6_bitCount_0f7a4_22 ?_
  refine lv_istore_n (lv' := [(0, .int ((x0 &&& (858993459 : Int32)) + ((iush x0 (2 : Int32)) &&& (858993459 : Int32))))]) hx hb dJ6_bitCount_0f7a4_23 rfl hl (by decide) rfl (fun ls hl => ?_)
  exact qJ6_bitCount_0f7a4_24 C ((x0 &&& (858993459 : Int32)) + ((iush x0 (2 : Int32)) &&& (858993459 : Int32))) h H locs ls B (lv_sub hl [0] rfl)
set_option maxHeartbeats 4000000 in
set_option maxRecDepth 100000 in
theorem qJ6_bitCount_0f7a4_0 (C : CT p s m args meth c RJ6 cJ6_bitCount_0f7a4 1 (some .int) wsJ6_bitCount_0f7a4 D A (tyl cI cJ cT) Es) {N : Nat} {z_r : Int32} : ∀ (x0 : Int32), fJ6_bitCount_0f7a4 N x0 = some z_r → ∀ (H : Heap) (locs : List Loc) (ls : Array Slot), DB D A [] s H locs → lv_has ls 1 [(0, .int x0)] → W p l e rmJ6_bitCount_0f7a4 s m args below meth c H locs 0 0 (ZI below args s D A (tyl cI cJ cT) z_r [] 0 0) (F0 m 0 ls []) := by
  have hx := C.1.1
  have hb := C.1.2.1
  have hown := C.1.2.2.2.1
  have hts := C.1.2.2.2.2
  intro x0 h H locs ls B hl
  rw [fJ6_bitCount_0f7a4] at h
  refine lv_iload_n hx hb dJ6_bitCount_0f7a4_0 rfl (lv_at hl 0 rfl) ?_
  refine lv_iload_n hx hb dJ6_bitCount_0f7a4_1 rfl (lv_at hl 0 rfl) ?_
  refine lv_iconst (v := 1) hx hb dJ6_bitCount_0f7a4_2 (by decide) ?_
  refine lv_iushr (v := (iush x0 (1 : Int32))) hx hb dJ6_bitCount_0f7a4_3 rfl ?_
  refine lv_ldcw (v := 1431655765) hx hb hown (hts _ mJ6_bitCount_0f7a4_c265) dJ6_bitCount_0f7a4_4 ?_
  refine lv_iand hx hb dJ6_bitCount_0f7a4_7 ?_
  refine lv_isub hx hb dJ6_bitCount_0f7a4_8 ?_
  refine lv_istore_n (lv' := [(0, .int (x0 - ((iush x0 (1 : Int32)) &&& (1431655765 : Int32))))]) hx hb dJ6_bitCount_0f7a4_9 rfl hl (by decide) rfl (fun ls hl => ?_)
  exact qJ6_bitCount_0f7a4_10 C (x0 - ((iush x0 (1 : Int32)) &&& (1431655765 : Int32))) h H locs ls B (lv_sub hl [0] rfl)
end
theorem tJ6_bitCount_0f7a4 {l : Launch} {D : va_G} {Es : (Nat → Nat) × (Nat → Nat)} {cI cJ cT : ClassId} {x0 : Int32} {z_r : Int32} (N : Nat) (h : fJ6_bitCount_0f7a4 N x0 = some z_r) : CtI l yJ6_bitCount_0f7a4 wsJ6_bitCount_0f7a4 rmJ6_bitCount_0f7a4 D (tyl cI cJ cT) Es [.int x0] [] z_r [] :=
  CtI.of (own := RJ6) (cc := cJ6_bitCount_0f7a4) (nL := 1) (ret := (some .int)) (by decide +kernel) rfl rfl (Nat.le_of_ble_eq_true rfl) rfl (fun p e s m below meth c A ls C B hl => qJ6_bitCount_0f7a4_0 C (N := N) x0 h _ _ _ B hl)
