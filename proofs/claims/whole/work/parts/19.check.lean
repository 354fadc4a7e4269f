/-! String.checkIndex, by hand: the formatter is a reference or null -/
abbrev rmJ3_checkIndex_8e157 : Room := { frames := 0, cells := 0, slots := 0, locals := 0 }
abbrev rmJ0_checkIndex_df160 : Room := { frames := 1, cells := 0, slots := 0, locals := 22 }
theorem hdJ3_checkIndex_8e157 : yJ3_checkIndex_8e157.cls ≠ "java/lang/invoke/MethodHandle" ∧ yJ3_checkIndex_8e157.cls ≠ "java/lang/invoke/VarHandle" ∧ (parseMethodDescriptor yJ3_checkIndex_8e157.desc).map (fun d => d.parameters.length) = some 3 := by decide +kernel
theorem hdJ0_checkIndex_df160 : yJ0_checkIndex_df160.cls ≠ "java/lang/invoke/MethodHandle" ∧ yJ0_checkIndex_df160.cls ≠ "java/lang/invoke/VarHandle" ∧ (parseMethodDescriptor yJ0_checkIndex_df160.desc).map (fun d => d.parameters.length) = some 2 := by decide +kernel
theorem mJ0_checkIndex_df160_f : (Cond.fieldLink RJ0 1053 "jdk/internal/util/Preconditions" "SIOOBE_FORMATTER" "Ljava/util/function/BiFunction;") ∈ wsJ0_checkIndex_df160 := by decide +kernel
set_option maxHeartbeats 4000000 in
set_option maxRecDepth 100000 in
theorem tJ3_ck {l : Launch} {D : va_G} {Es : (Nat → Nat) × (Nat → Nat)} {cI cJ cT : ClassId} {x0 x1 : Int32} {fv : Value} (hlen : (lg_sl [.int x0, .int x1, fv]).length ≤ 3) (h0 : ¬ x0 < 0) (h1 : x0 < x1) : CtI l yJ3_checkIndex_8e157 wsJ3_checkIndex_8e157 rmJ3_checkIndex_8e157 D (tyl cI cJ cT) Es [.int x0, .int x1, fv] [] x0 [] := by
  refine CtI.of (own := RJ3) (cc := cJ3_checkIndex_8e157) (nL := 3) (ret := (some .int)) (lv := [(0, .int x0), (1, .int x1), (2, fv)]) (by decide +kernel) rfl rfl hlen rfl ?_
  intro p e s m below meth c A ls C B hl
  have hx := C.1.1
  have hb := C.1.2.1
  refine lv_iload_n hx hb dJ3_checkIndex_8e157_0 rfl (lv_at hl 0 rfl) ?_
  refine lv_if_lt (tgt := 9) hx hb dJ3_checkIndex_8e157_1 (by decide) (fun c1 => absurd c1 h0) (fun c1 => ?_)
  refine lv_iload_n hx hb dJ3_checkIndex_8e157_4 rfl (lv_at hl 0 rfl) ?_
  refine lv_iload_n hx hb dJ3_checkIndex_8e157_5 rfl (lv_at hl 1 rfl) ?_
  refine lv_icmp_lt (tgt := 16) hx hb dJ3_checkIndex_8e157_6 (by decide) (fun c2 => ?_) (fun c2 => absurd h1 c2)
  refine lv_iload_n hx hb dJ3_checkIndex_8e157_16 rfl (lv_at hl 0 rfl) ?_
  exact k_iret C B dJ3_checkIndex_8e157_17
set_option maxHeartbeats 4000000 in
set_option maxRecDepth 100000 in
theorem tJ0_checkIndex_df160 {l : Launch} {D : va_G} {Es : (Nat → Nat) × (Nat → Nat)} {cI cJ cT : ClassId} {x0 x1 : Int32} {z : Unit} (N : Nat) (h : fJ0_checkIndex_df160 N x0 x1 = some z) : CtV l yJ0_checkIndex_df160 wsJ0_checkIndex_df160 rmJ0_checkIndex_df160 D (tyl cI cJ cT) Es [.int x0, .int x1] [] [] := by
  have h0 : ¬ x0 < 0 := fun q => by rw [fJ0_checkIndex_df160, if_pos q] at h; cases h
  have h1 : x0 < x1 := by
    rw [fJ0_checkIndex_df160, if_neg h0] at h
    by_cases q : x0 < x1
    · exact q
    · rw [if_neg q] at h; cases h
  refine CtV.of (own := RJ0) (cc := cJ0_checkIndex_df160) (nL := 2) (ret := none) (lv := [(0, .int x0), (1, .int x1)]) (by decide +kernel) rfl rfl (Nat.le_of_ble_eq_true rfl) rfl ?_
  intro p e s m below meth c A ls C B hl
  have hx := C.1.1
  have hb := C.1.2.1
  have hown := C.1.2.2.2.1
  have hts := C.1.2.2.2.2
  refine lv_iload_n hx hb dJ0_checkIndex_df160_0 rfl (lv_at hl 0 rfl) ?_
  refine lv_iload_n hx hb dJ0_checkIndex_df160_1 rfl (lv_at hl 1 rfl) ?_
  rcases C.2.2.2.1.2.1.2 with hz | ⟨t, hz⟩
  · refine va_gets hx hb hz B.2.2 hown (hts _ mJ0_checkIndex_df160_f) (fun _ h9 => h9) dJ0_checkIndex_df160_2 ?_
    refine kc_SI C B (As := [.int x0, .int x1, .null]) (rest := []) (w2 := []) (tJ3_ck (Nat.le_of_ble_eq_true rfl) h0 h1) gJ0_checkIndex_df160_J3_checkIndex_8e157 rfl ⟨rfl, rfl⟩ hdJ3_checkIndex_8e157 ⟨Nat.le_of_ble_eq_true rfl, Nat.le_of_ble_eq_true rfl⟩ [] [] [] rfl rfl rfl rfl rfl rfl rfl rfl hl.1 rfl (Nat.le_of_ble_eq_true rfl) ⟨Nat.zero_le _, Nat.zero_le _⟩ dJ0_checkIndex_df160_5 (fun H locs B => ?_)
    refine lv_pop hx hb dJ0_checkIndex_df160_8 rfl ?_
    exact k_vret C B dJ0_checkIndex_df160_9
  · refine va_gets hx hb hz B.2.2 hown (hts _ mJ0_checkIndex_df160_f) (fun _ h9 => h9) dJ0_checkIndex_df160_2 ?_
    refine kc_SI C B (As := [.int x0, .int x1, .ref t]) (rest := []) (w2 := []) (tJ3_ck (Nat.le_of_ble_eq_true rfl) h0 h1) gJ0_checkIndex_df160_J3_checkIndex_8e157 rfl ⟨rfl, rfl⟩ hdJ3_checkIndex_8e157 ⟨Nat.le_of_ble_eq_true rfl, Nat.le_of_ble_eq_true rfl⟩ [] [] [] rfl rfl rfl rfl rfl rfl rfl rfl hl.1 rfl (Nat.le_of_ble_eq_true rfl) ⟨Nat.zero_le _, Nat.zero_le _⟩ dJ0_checkIndex_df160_5 (fun H locs B => ?_)
    refine lv_pop hx hb dJ0_checkIndex_df160_8 rfl ?_
    exact k_vret C B dJ0_checkIndex_df160_9
