def wd_me (a b : Nat → Nat) (cI cJ cT : ClassId) (me_found : Nat → Int32) (me_count : Int32) : va_W := [((a 45), .inr (3, [.ref (a 46), .int me_count, .ref (a 28), .ref (a 32), .ref (a 24)])),
  ((a 46), .inl (cI, 96, .inl me_found))]
def wd_pa (a b : Nat → Nat) (cI cJ cT : ClassId) (pa_lowest : Int32) (pa_steps : Int32) : va_W := [((a 47), .inr (6, [.int pa_lowest, .int pa_steps, .ref (a 24)]))]
theorem hdX5_init : yX5_init.cls ≠ "java/lang/invoke/MethodHandle" ∧ yX5_init.cls ≠ "java/lang/invoke/VarHandle" ∧ (parseMethodDescriptor yX5_init.desc).map (fun d => d.parameters.length) = some 0 := by decide +kernel
abbrev rmX5_init : Room := { frames := 1, cells := 2, slots := 50, locals := 12 }
theorem iX5_init : ∀ w ∈ wsX50, w ∈ wsX5_init := by decide +kernel
set_option maxHeartbeats 4000000 in
set_option maxRecDepth 100000 in
theorem tX5_init {l : Launch} {D : va_G} {Es : (Nat → Nat) × (Nat → Nat)} {b : Nat → Nat} {cI cJ cT : ClassId} {o : Nat} : CtN l yX5_init wsX5_init rmX5_init D (tyl cI cJ cT) Es [.ref o] [(o, .inr (5, [.null, .int 0, .null]))] (fun u => wd_pd u b cI cJ cT (fun _ => 0) (0) (fun _ => 0)) (fun u => u 2 = o) 2 50 := by
  refine CtN.of (own := RX5) (cc := cX5_init) (nL := 1) (ret := none) (lv := [(0, .ref o)]) (by decide +kernel) rfl rfl rfl (Nat.le_of_ble_eq_true rfl) rfl ?_
  intro p e s m below meth c A ls hin0 hNw C B hl
  have hx := C.1.1
  have hb := C.1.2.1
  have hown := C.1.2.2.2.1
  have hts := C.1.2.2.2.2
  refine lv_aload_n hx hb dX5_init_0 rfl (lv_at hl 0 rfl) ?_
  refine k_obj C hl.1 (List.mem_of_getElem? (i := 1) rfl) (List.mem_of_getElem? (i := 2) rfl) (List.mem_of_getElem? (i := 3) rfl) dX5_init_1 (Nat.le_of_ble_eq_true rfl) (Nat.le_of_ble_eq_true rfl) ?_
  refine lv_aload_n hx hb dX5_init_4 rfl (lv_at hl 0 rfl) ?_
  refine lv_bipush (v := 40) hx hb dX5_init_5 (by decide) ?_
  refine k_newI C B (by decide +kernel) (by decide) (N' := 40) (by decide) (by decide) (Nat.le_of_ble_eq_true rfl) (Nat.le_of_ble_eq_true rfl) dX5_init_7 (fun q0 H B => ?_)
  have B : DB D A [(o, .inr (5, [.null, .int 0, .null])), (q0, .inl (cI, 40, .inl (fun _ => 0)))] s H _ := B
  refine k_putF (ty := (.array .int)) C B hin0 (Cn := RX5) (T := TX5) (N := 3) (ci := 5) (index := 9) iX5_init rfl tyX5 tyX5_ok nmX5 0 (by decide) (by decide +kernel) rfl rfl 0 (by decide +kernel) (by rfl) (by rfl) rfl (Nat.le_of_ble_eq_true rfl) dX5_init_9 (fun H locs B => ?_)
  have B : DB D A [(o, .inr (5, [.ref q0, .int 0, .null])), (q0, .inl (cI, 40, .inl (fun _ => 0)))] s H locs := B
  refine lv_aload_n hx hb dX5_init_12 rfl (lv_at hl 0 rfl) ?_
  refine lv_iconst (v := 0) hx hb dX5_init_13 (by decide) ?_
  refine k_put (ty := .int) C B (Cn := RX5) (T := TX5) (N := 3) (ci := 5) (index := 15) iX5_init rfl tyX5 tyX5_ok nmX5 1 (by decide) (by decide +kernel) rfl 0 (by decide +kernel) (by rfl) (by rfl) rfl (Nat.le_of_ble_eq_true rfl) dX5_init_14 (fun H locs B => ?_)
  have B : DB D A [(o, .inr (5, [.ref q0, .int 0, .null])), (q0, .inl (cI, 40, .inl (fun _ => 0)))] s H locs := B
  refine lv_aload_n hx hb dX5_init_17 rfl (lv_at hl 0 rfl) ?_
  refine lv_bipush (v := 10) hx hb dX5_init_18 (by decide) ?_
  refine k_newI C B (by decide +kernel) (by decide) (N' := 10) (by decide) (by decide) (Nat.le_of_ble_eq_true rfl) (Nat.le_of_ble_eq_true rfl) dX5_init_20 (fun q1 H B => ?_)
  have B : DB D A [(o, .inr (5, [.ref q0, .int 0, .null])), (q0, .inl (cI, 40, .inl (fun _ => 0))), (q1, .inl (cI, 10, .inl (fun _ => 0)))] s H _ := B
  refine k_putF (ty := (.array .int)) C B hin0 (Cn := RX5) (T := TX5) (N := 3) (ci := 5) (index := 19) iX5_init rfl tyX5 tyX5_ok nmX5 2 (by decide) (by decide +kernel) rfl rfl 0 (by decide +kernel) (by rfl) (by rfl) rfl (Nat.le_of_ble_eq_true rfl) dX5_init_22 (fun H locs B => ?_)
  have B : DB D A [(o, .inr (5, [.ref q0, .int 0, .ref q1])), (q0, .inl (cI, 40, .inl (fun _ => 0))), (q1, .inl (cI, 10, .inl (fun _ => 0)))] s H locs := B
  refine W.widen (k := 2) (n := 50) (Nat.le_of_ble_eq_true rfl) (Nat.le_of_ble_eq_true rfl) ?_
  exact k_nret (w1 := fun u => wd_pd u b cI cJ cT (fun _ => 0) (0) (fun _ => 0)) (Pu := fun u => u 2 = o) (fun k => if k = 2 then o else if k = 3 then q0 else q1) (rfl) C B dX5_init_25

theorem hdX9_init : yX9_init.cls ≠ "java/lang/invoke/MethodHandle" ∧ yX9_init.cls ≠ "java/lang/invoke/VarHandle" ∧ (parseMethodDescriptor yX9_init.desc).map (fun d => d.parameters.length) = some 0 := by decide +kernel
abbrev rmX9_init : Room := { frames := 1, cells := 6, slots := 216, locals := 12 }
theorem iX9_init : ∀ w ∈ wsX90, w ∈ wsX9_init := by decide +kernel
set_option maxHeartbeats 4000000 in
set_option maxRecDepth 100000 in
theorem tX9_init {l : Launch} {D : va_G} {Es : (Nat → Nat) × (Nat → Nat)} {a : Nat → Nat} {cI cJ cT : ClassId} {o : Nat} : CtN l yX9_init wsX9_init rmX9_init D (tyl cI cJ cT) Es [.ref o] [(o, .inr (9, [.null, .null, .null, .null, .null, .null, .int 0]))] (fun u => wd_tx a u cI cJ cT (upd (fun _ => 0) (Int32.toNatClampNeg 0) 48) (fun _ => 0) (upd (fun _ => 0) (Int32.toNatClampNeg 0) (-6)) (fun _ => 0) (upd (fun _ => 0) (Int32.toNatClampNeg 0) 1) (fun _ => 0) (1)) (fun u => u 0 = o) 6 216 := by
  refine CtN.of (own := RX9) (cc := cX9_init) (nL := 1) (ret := none) (lv := [(0, .ref o)]) (by decide +kernel) rfl rfl rfl (Nat.le_of_ble_eq_true rfl) rfl ?_
  intro p e s m below meth c A ls hin0 hNw C B hl
  have hx := C.1.1
  have hb := C.1.2.1
  have hown := C.1.2.2.2.1
  have hts := C.1.2.2.2.2
  refine lv_aload_n hx hb dX9_init_0 rfl (lv_at hl 0 rfl) ?_
  refine k_obj C hl.1 (List.mem_of_getElem? (i := 1) rfl) (List.mem_of_getElem? (i := 2) rfl) (List.mem_of_getElem? (i := 3) rfl) dX9_init_1 (Nat.le_of_ble_eq_true rfl) (Nat.le_of_ble_eq_true rfl) ?_
  refine lv_aload_n hx hb dX9_init_4 rfl (lv_at hl 0 rfl) ?_
  refine lv_bipush (v := 24) hx hb dX9_init_5 (by decide) ?_
  refine k_newI C B (by decide +kernel) (by decide) (N' := 24) (by decide) (by decide) (Nat.le_of_ble_eq_true rfl) (Nat.le_of_ble_eq_true rfl) dX9_init_7 (fun q0 H B => ?_)
  have B : DB D A [(o, .inr (9, [.null, .null, .null, .null, .null, .null, .int 0])), (q0, .inl (cI, 24, .inl (fun _ => 0)))] s H _ := B
  refine k_putF (ty := (.array .int)) C B hin0 (Cn := RX9) (T := TX9) (N := 7) (ci := 9) (index := 9) iX9_init rfl tyX9 tyX9_ok nmX9 0 (by decide) (by decide +kernel) rfl rfl 0 (by decide +kernel) (by rfl) (by rfl) rfl (Nat.le_of_ble_eq_true rfl) dX9_init_9 (fun H locs B => ?_)
  have B : DB D A [(o, .inr (9, [.ref q0, .null, .null, .null, .null, .null, .int 0])), (q0, .inl (cI, 24, .inl (fun _ => 0)))] s H locs := B
  refine lv_aload_n hx hb dX9_init_12 rfl (lv_at hl 0 rfl) ?_
  refine lv_bipush (v := 24) hx hb dX9_init_13 (by decide) ?_
  refine k_newI C B (by decide +kernel) (by decide) (N' := 24) (by decide) (by decide) (Nat.le_of_ble_eq_true rfl) (Nat.le_of_ble_eq_true rfl) dX9_init_15 (fun q1 H B => ?_)
  have B : DB D A [(o, .inr (9, [.ref q0, .null, .null, .null, .null, .null, .int 0])), (q0, .inl (cI, 24, .inl (fun _ => 0))), (q1, .inl (cI, 24, .inl (fun _ => 0)))] s H _ := B
  refine k_putF (ty := (.array .int)) C B hin0 (Cn := RX9) (T := TX9) (N := 7) (ci := 9) (index := 15) iX9_init rfl tyX9 tyX9_ok nmX9 1 (by decide) (by decide +kernel) rfl rfl 0 (by decide +kernel) (by rfl) (by rfl) rfl (Nat.le_of_ble_eq_true rfl) dX9_init_17 (fun H locs B => ?_)
  have B : DB D A [(o, .inr (9, [.ref q0, .ref q1, .null, .null, .null, .null, .int 0])), (q0, .inl (cI, 24, .inl (fun _ => 0))), (q1, .inl (cI, 24, .inl (fun _ => 0)))] s H locs := B
  refine lv_aload_n hx hb dX9_init_20 rfl (lv_at hl 0 rfl) ?_
  refine lv_bipush (v := 24) hx hb dX9_init_21 (by decide) ?_
  refine k_newI C B (by decide +kernel) (by decide) (N' := 24) (by decide) (by decide) (Nat.le_of_ble_eq_true rfl) (Nat.le_of_ble_eq_true rfl) dX9_init_23 (fun q2 H B => ?_)
  have B : DB D A [(o, .inr (9, [.ref q0, .ref q1, .null, .null, .null, .null, .int 0])), (q0, .inl (cI, 24, .inl (fun _ => 0))), (q1, .inl (cI, 24, .inl (fun _ => 0))), (q2, .inl (cI, 24, .inl (fun _ => 0)))] s H _ := B
  refine k_putF (ty := (.array .int)) C B hin0 (Cn := RX9) (T := TX9) (N := 7) (ci := 9) (index := 18) iX9_init rfl tyX9 tyX9_ok nmX9 2 (by decide) (by decide +kernel) rfl rfl 0 (by decide +kernel) (by rfl) (by rfl) rfl (Nat.le_of_ble_eq_true rfl) dX9_init_25 (fun H locs B => ?_)
  have B : DB D A [(o, .inr (9, [.ref q0, .ref q1, .ref q2, .null, .null, .null, .int 0])), (q0, .inl (cI, 24, .inl (fun _ => 0))), (q1, .inl (cI, 24, .inl (fun _ => 0))), (q2, .inl (cI, 24, .inl (fun _ => 0)))] s H locs := B
  refine lv_aload_n hx hb dX9_init_28 rfl (lv_at hl 0 rfl) ?_
  refine lv_bipush (v := 24) hx hb dX9_init_29 (by decide) ?_
  refine k_newI C B (by decide +kernel) (by decide) (N' := 24) (by decide) (by decide) (Nat.le_of_ble_eq_true rfl) (Nat.le_of_ble_eq_true rfl) dX9_init_31 (fun q3 H B => ?_)
  have B : DB D A [(o, .inr (9, [.ref q0, .ref q1, .ref q2, .null, .null, .null, .int 0])), (q0, .inl (cI, 24, .inl (fun _ => 0))), (q1, .inl (cI, 24, .inl (fun _ => 0))), (q2, .inl (cI, 24, .inl (fun _ => 0))), (q3, .inl (cI, 24, .inl (fun _ => 0)))] s H _ := B
  refine k_putF (ty := (.array .int)) C B hin0 (Cn := RX9) (T := TX9) (N := 7) (ci := 9) (index := 21) iX9_init rfl tyX9 tyX9_ok nmX9 3 (by decide) (by decide +kernel) rfl rfl 0 (by decide +kernel) (by rfl) (by rfl) rfl (Nat.le_of_ble_eq_true rfl) dX9_init_33 (fun H locs B => ?_)
  have B : DB D A [(o, .inr (9, [.ref q0, .ref q1, .ref q2, .ref q3, .null, .null, .int 0])), (q0, .inl (cI, 24, .inl (fun _ => 0))), (q1, .inl (cI, 24, .inl (fun _ => 0))), (q2, .inl (cI, 24, .inl (fun _ => 0))), (q3, .inl (cI, 24, .inl (fun _ => 0)))] s H locs := B
  refine lv_aload_n hx hb dX9_init_36 rfl (lv_at hl 0 rfl) ?_
  refine lv_bipush (v := 24) hx hb dX9_init_37 (by decide) ?_
  refine k_newI C B (by decide +kernel) (by decide) (N' := 24) (by decide) (by decide) (Nat.le_of_ble_eq_true rfl) (Nat.le_of_ble_eq_true rfl) dX9_init_39 (fun q4 H B => ?_)
  have B : DB D A [(o, .inr (9, [.ref q0, .ref q1, .ref q2, .ref q3, .null, .null, .int 0])), (q0, .inl (cI, 24, .inl (fun _ => 0))), (q1, .inl (cI, 24, .inl (fun _ => 0))), (q2, .inl (cI, 24, .inl (fun _ => 0))), (q3, .inl (cI, 24, .inl (fun _ => 0))), (q4, .inl (cI, 24, .inl (fun _ => 0)))] s H _ := B
  refine k_putF (ty := (.array .int)) C B hin0 (Cn := RX9) (T := TX9) (N := 7) (ci := 9) (index := 24) iX9_init rfl tyX9 tyX9_ok nmX9 4 (by decide) (by decide +kernel) rfl rfl 0 (by decide +kernel) (by rfl) (by rfl) rfl (Nat.le_of_ble_eq_true rfl) dX9_init_41 (fun H locs B => ?_)
  have B : DB D A [(o, .inr (9, [.ref q0, .ref q1, .ref q2, .ref q3, .ref q4, .null, .int 0])), (q0, .inl (cI, 24, .inl (fun _ => 0))), (q1, .inl (cI, 24, .inl (fun _ => 0))), (q2, .inl (cI, 24, .inl (fun _ => 0))), (q3, .inl (cI, 24, .inl (fun _ => 0))), (q4, .inl (cI, 24, .inl (fun _ => 0)))] s H locs := B
  refine lv_aload_n hx hb dX9_init_44 rfl (lv_at hl 0 rfl) ?_
  refine lv_bipush (v := 96) hx hb dX9_init_45 (by decide) ?_
  refine k_newI C B (by decide +kernel) (by decide) (N' := 96) (by decide) (by decide) (Nat.le_of_ble_eq_true rfl) (Nat.le_of_ble_eq_true rfl) dX9_init_47 (fun q5 H B => ?_)
  have B : DB D A [(o, .inr (9, [.ref q0, .ref q1, .ref q2, .ref q3, .ref q4, .null, .int 0])), (q0, .inl (cI, 24, .inl (fun _ => 0))), (q1, .inl (cI, 24, .inl (fun _ => 0))), (q2, .inl (cI, 24, .inl (fun _ => 0))), (q3, .inl (cI, 24, .inl (fun _ => 0))), (q4, .inl (cI, 24, .inl (fun _ => 0))), (q5, .inl (cI, 96, .inl (fun _ => 0)))] s H _ := B
  refine k_putF (ty := (.array .int)) C B hin0 (Cn := RX9) (T := TX9) (N := 7) (ci := 9) (index := 27) iX9_init rfl tyX9 tyX9_ok nmX9 5 (by decide) (by decide +kernel) rfl rfl 0 (by decide +kernel) (by rfl) (by rfl) rfl (Nat.le_of_ble_eq_true rfl) dX9_init_49 (fun H locs B => ?_)
  have B : DB D A [(o, .inr (9, [.ref q0, .ref q1, .ref q2, .ref q3, .ref q4, .ref q5, .int 0])), (q0, .inl (cI, 24, .inl (fun _ => 0))), (q1, .inl (cI, 24, .inl (fun _ => 0))), (q2, .inl (cI, 24, .inl (fun _ => 0))), (q3, .inl (cI, 24, .inl (fun _ => 0))), (q4, .inl (cI, 24, .inl (fun _ => 0))), (q5, .inl (cI, 96, .inl (fun _ => 0)))] s H locs := B
  refine lv_aload_n hx hb dX9_init_52 rfl (lv_at hl 0 rfl) ?_
  refine lv_iconst (v := 1) hx hb dX9_init_53 (by decide) ?_
  refine k_put (ty := .int) C B (Cn := RX9) (T := TX9) (N := 7) (ci := 9) (index := 30) iX9_init rfl tyX9 tyX9_ok nmX9 6 (by decide) (by decide +kernel) rfl 0 (by decide +kernel) (by rfl) (by rfl) rfl (Nat.le_of_ble_eq_true rfl) dX9_init_54 (fun H locs B => ?_)
  have B : DB D A [(o, .inr (9, [.ref q0, .ref q1, .ref q2, .ref q3, .ref q4, .ref q5, .int 1])), (q0, .inl (cI, 24, .inl (fun _ => 0))), (q1, .inl (cI, 24, .inl (fun _ => 0))), (q2, .inl (cI, 24, .inl (fun _ => 0))), (q3, .inl (cI, 24, .inl (fun _ => 0))), (q4, .inl (cI, 24, .inl (fun _ => 0))), (q5, .inl (cI, 96, .inl (fun _ => 0)))] s H locs := B
  refine lv_aload_n hx hb dX9_init_57 rfl (lv_at hl 0 rfl) ?_
  refine k_get (Cn := RX9) (T := TX9) (N := 7) (ci := 9) (index := 9) C B iX9_init rfl 0 (by decide) (by decide +kernel) 0 rfl rfl dX9_init_58 ?_
  refine lv_iconst (v := 0) hx hb dX9_init_61 (by decide) ?_
  refine lv_bipush (v := 48) hx hb dX9_init_62 (by decide) ?_
  refine k_iast C B 1 0 rfl rfl (vp_lit (by decide)) dX9_init_64 (fun H locs B => ?_)
  have B : DB D A [(o, .inr (9, [.ref q0, .ref q1, .ref q2, .ref q3, .ref q4, .ref q5, .int 1])), (q0, .inl (cI, 24, .inl (upd (fun _ => 0) (Int32.toNatClampNeg 0) 48))), (q1, .inl (cI, 24, .inl (fun _ => 0))), (q2, .inl (cI, 24, .inl (fun _ => 0))), (q3, .inl (cI, 24, .inl (fun _ => 0))), (q4, .inl (cI, 24, .inl (fun _ => 0))), (q5, .inl (cI, 96, .inl (fun _ => 0)))] s H locs := B
  refine lv_aload_n hx hb dX9_init_65 rfl (lv_at hl 0 rfl) ?_
  refine k_get (Cn := RX9) (T := TX9) (N := 7) (ci := 9) (index := 18) C B iX9_init rfl 2 (by decide) (by decide +kernel) 0 rfl rfl dX9_init_66 ?_
  refine lv_iconst (v := 0) hx hb dX9_init_69 (by decide) ?_
  refine lv_bipush (v := -6) hx hb dX9_init_70 (by decide) ?_
  refine k_iast C B 3 0 rfl rfl (vp_lit (by decide)) dX9_init_72 (fun H locs B => ?_)
  have B : DB D A [(o, .inr (9, [.ref q0, .ref q1, .ref q2, .ref q3, .ref q4, .ref q5, .int 1])), (q0, .inl (cI, 24, .inl (upd (fun _ => 0) (Int32.toNatClampNeg 0) 48))), (q1, .inl (cI, 24, .inl (fun _ => 0))), (q2, .inl (cI, 24, .inl (upd (fun _ => 0) (Int32.toNatClampNeg 0) (-6)))), (q3, .inl (cI, 24, .inl (fun _ => 0))), (q4, .inl (cI, 24, .inl (fun _ => 0))), (q5, .inl (cI, 96, .inl (fun _ => 0)))] s H locs := B
  refine lv_aload_n hx hb dX9_init_73 rfl (lv_at hl 0 rfl) ?_
  refine k_get (Cn := RX9) (T := TX9) (N := 7) (ci := 9) (index := 24) C B iX9_init rfl 4 (by decide) (by decide +kernel) 0 rfl rfl dX9_init_74 ?_
  refine lv_iconst (v := 0) hx hb dX9_init_77 (by decide) ?_
  refine lv_iconst (v := 1) hx hb dX9_init_78 (by decide) ?_
  refine k_iast C B 5 0 rfl rfl (vp_lit (by decide)) dX9_init_79 (fun H locs B => ?_)
  have B : DB D A [(o, .inr (9, [.ref q0, .ref q1, .ref q2, .ref q3, .ref q4, .ref q5, .int 1])), (q0, .inl (cI, 24, .inl (upd (fun _ => 0) (Int32.toNatClampNeg 0) 48))), (q1, .inl (cI, 24, .inl (fun _ => 0))), (q2, .inl (cI, 24, .inl (upd (fun _ => 0) (Int32.toNatClampNeg 0) (-6)))), (q3, .inl (cI, 24, .inl (fun _ => 0))), (q4, .inl (cI, 24, .inl (upd (fun _ => 0) (Int32.toNatClampNeg 0) 1))), (q5, .inl (cI, 96, .inl (fun _ => 0)))] s H locs := B
  refine W.widen (k := 6) (n := 216) (Nat.le_of_ble_eq_true rfl) (Nat.le_of_ble_eq_true rfl) ?_
  exact k_nret (w1 := fun u => wd_tx a u cI cJ cT (upd (fun _ => 0) (Int32.toNatClampNeg 0) 48) (fun _ => 0) (upd (fun _ => 0) (Int32.toNatClampNeg 0) (-6)) (fun _ => 0) (upd (fun _ => 0) (Int32.toNatClampNeg 0) 1) (fun _ => 0) (1)) (Pu := fun u => u 0 = o) (fun k => if k = 0 then o else if k = 1 then q0 else if k = 2 then q1 else if k = 3 then q2 else if k = 4 then q3 else if k = 5 then q4 else q5) (rfl) C B dX9_init_80

theorem hdX10_init : yX10_init.cls ≠ "java/lang/invoke/MethodHandle" ∧ yX10_init.cls ≠ "java/lang/invoke/VarHandle" ∧ (parseMethodDescriptor yX10_init.desc).map (fun d => d.parameters.length) = some 0 := by decide +kernel
abbrev rmX10_init : Room := { frames := 1, cells := 4, slots := 96, locals := 12 }
theorem iX10_init : ∀ w ∈ wsX100, w ∈ wsX10_init := by decide +kernel
set_option maxHeartbeats 4000000 in
set_option maxRecDepth 100000 in
theorem tX10_init {l : Launch} {D : va_G} {Es : (Nat → Nat) × (Nat → Nat)} {b : Nat → Nat} {cI cJ cT : ClassId} {o : Nat} : CtN l yX10_init wsX10_init rmX10_init D (tyl cI cJ cT) Es [.ref o] [(o, .inr (10, [.null, .null, .null, .null]))] (fun u => wd_wk u b cI cJ cT (fun _ => 0) (fun _ => 0) (fun _ => 0) (fun _ => 0)) (fun u => u 19 = o) 4 96 := by
  refine CtN.of (own := RX10) (cc := cX10_init) (nL := 1) (ret := none) (lv := [(0, .ref o)]) (by decide +kernel) rfl rfl rfl (Nat.le_of_ble_eq_true rfl) rfl ?_
  intro p e s m below meth c A ls hin0 hNw C B hl
  have hx := C.1.1
  have hb := C.1.2.1
  have hown := C.1.2.2.2.1
  have hts := C.1.2.2.2.2
  refine lv_aload_n hx hb dX10_init_0 rfl (lv_at hl 0 rfl) ?_
  refine k_obj C hl.1 (List.mem_of_getElem? (i := 1) rfl) (List.mem_of_getElem? (i := 2) rfl) (List.mem_of_getElem? (i := 3) rfl) dX10_init_1 (Nat.le_of_ble_eq_true rfl) (Nat.le_of_ble_eq_true rfl) ?_
  refine lv_aload_n hx hb dX10_init_4 rfl (lv_at hl 0 rfl) ?_
  refine lv_bipush (v := 24) hx hb dX10_init_5 (by decide) ?_
  refine k_newL C B (by decide +kernel) (by decide) (N' := 24) (by decide) (by decide) (Nat.le_of_ble_eq_true rfl) (Nat.le_of_ble_eq_true rfl) dX10_init_7 (fun q0 H B => ?_)
  have B : DB D A [(o, .inr (10, [.null, .null, .null, .null])), (q0, .inl (cJ, 24, .inr (.inl (fun _ => 0))))] s H _ := B
  refine k_putF (ty := (.array .long)) C B hin0 (Cn := RX10) (T := TX10) (N := 4) (ci := 10) (index := 9) iX10_init rfl tyX10 tyX10_ok nmX10 0 (by decide) (by decide +kernel) rfl rfl 0 (by decide +kernel) (by rfl) (by rfl) rfl (Nat.le_of_ble_eq_true rfl) dX10_init_9 (fun H locs B => ?_)
  have B : DB D A [(o, .inr (10, [.ref q0, .null, .null, .null])), (q0, .inl (cJ, 24, .inr (.inl (fun _ => 0))))] s H locs := B
  refine lv_aload_n hx hb dX10_init_12 rfl (lv_at hl 0 rfl) ?_
  refine lv_bipush (v := 24) hx hb dX10_init_13 (by decide) ?_
  refine k_newL C B (by decide +kernel) (by decide) (N' := 24) (by decide) (by decide) (Nat.le_of_ble_eq_true rfl) (Nat.le_of_ble_eq_true rfl) dX10_init_15 (fun q1 H B => ?_)
  have B : DB D A [(o, .inr (10, [.ref q0, .null, .null, .null])), (q0, .inl (cJ, 24, .inr (.inl (fun _ => 0)))), (q1, .inl (cJ, 24, .inr (.inl (fun _ => 0))))] s H _ := B
  refine k_putF (ty := (.array .long)) C B hin0 (Cn := RX10) (T := TX10) (N := 4) (ci := 10) (index := 15) iX10_init rfl tyX10 tyX10_ok nmX10 1 (by decide) (by decide +kernel) rfl rfl 0 (by decide +kernel) (by rfl) (by rfl) rfl (Nat.le_of_ble_eq_true rfl) dX10_init_17 (fun H locs B => ?_)
  have B : DB D A [(o, .inr (10, [.ref q0, .ref q1, .null, .null])), (q0, .inl (cJ, 24, .inr (.inl (fun _ => 0)))), (q1, .inl (cJ, 24, .inr (.inl (fun _ => 0))))] s H locs := B
  refine lv_aload_n hx hb dX10_init_20 rfl (lv_at hl 0 rfl) ?_
  refine lv_bipush (v := 24) hx hb dX10_init_21 (by decide) ?_
  refine k_newL C B (by decide +kernel) (by decide) (N' := 24) (by decide) (by decide) (Nat.le_of_ble_eq_true rfl) (Nat.le_of_ble_eq_true rfl) dX10_init_23 (fun q2 H B => ?_)
  have B : DB D A [(o, .inr (10, [.ref q0, .ref q1, .null, .null])), (q0, .inl (cJ, 24, .inr (.inl (fun _ => 0)))), (q1, .inl (cJ, 24, .inr (.inl (fun _ => 0)))), (q2, .inl (cJ, 24, .inr (.inl (fun _ => 0))))] s H _ := B
  refine k_putF (ty := (.array .long)) C B hin0 (Cn := RX10) (T := TX10) (N := 4) (ci := 10) (index := 18) iX10_init rfl tyX10 tyX10_ok nmX10 2 (by decide) (by decide +kernel) rfl rfl 0 (by decide +kernel) (by rfl) (by rfl) rfl (Nat.le_of_ble_eq_true rfl) dX10_init_25 (fun H locs B => ?_)
  have B : DB D A [(o, .inr (10, [.ref q0, .ref q1, .ref q2, .null])), (q0, .inl (cJ, 24, .inr (.inl (fun _ => 0)))), (q1, .inl (cJ, 24, .inr (.inl (fun _ => 0)))), (q2, .inl (cJ, 24, .inr (.inl (fun _ => 0))))] s H locs := B
  refine lv_aload_n hx hb dX10_init_28 rfl (lv_at hl 0 rfl) ?_
  refine lv_bipush (v := 24) hx hb dX10_init_29 (by decide) ?_
  refine k_newL C B (by decide +kernel) (by decide) (N' := 24) (by decide) (by decide) (Nat.le_of_ble_eq_true rfl) (Nat.le_of_ble_eq_true rfl) dX10_init_31 (fun q3 H B => ?_)
  have B : DB D A [(o, .inr (10, [.ref q0, .ref q1, .ref q2, .null])), (q0, .inl (cJ, 24, .inr (.inl (fun _ => 0)))), (q1, .inl (cJ, 24, .inr (.inl (fun _ => 0)))), (q2, .inl (cJ, 24, .inr (.inl (fun _ => 0)))), (q3, .inl (cJ, 24, .inr (.inl (fun _ => 0))))] s H _ := B
  refine k_putF (ty := (.array .long)) C B hin0 (Cn := RX10) (T := TX10) (N := 4) (ci := 10) (index := 21) iX10_init rfl tyX10 tyX10_ok nmX10 3 (by decide) (by decide +kernel) rfl rfl 0 (by decide +kernel) (by rfl) (by rfl) rfl (Nat.le_of_ble_eq_true rfl) dX10_init_33 (fun H locs B => ?_)
  have B : DB D A [(o, .inr (10, [.ref q0, .ref q1, .ref q2, .ref q3])), (q0, .inl (cJ, 24, .inr (.inl (fun _ => 0)))), (q1, .inl (cJ, 24, .inr (.inl (fun _ => 0)))), (q2, .inl (cJ, 24, .inr (.inl (fun _ => 0)))), (q3, .inl (cJ, 24, .inr (.inl (fun _ => 0))))] s H locs := B
  refine W.widen (k := 4) (n := 96) (Nat.le_of_ble_eq_true rfl) (Nat.le_of_ble_eq_true rfl) ?_
  exact k_nret (w1 := fun u => wd_wk u b cI cJ cT (fun _ => 0) (fun _ => 0) (fun _ => 0) (fun _ => 0)) (Pu := fun u => u 19 = o) (fun k => if k = 19 then o else if k = 20 then q0 else if k = 21 then q1 else if k = 22 then q2 else q3) (rfl) C B dX10_init_36

theorem hdX7_init : yX7_init.cls ≠ "java/lang/invoke/MethodHandle" ∧ yX7_init.cls ≠ "java/lang/invoke/VarHandle" ∧ (parseMethodDescriptor yX7_init.desc).map (fun d => d.parameters.length) = some 1 := by decide +kernel
abbrev rmX7_init : Room := { frames := 1, cells := 3, slots := 2352, locals := 12 }
theorem iX7_init : ∀ w ∈ wsX70, w ∈ wsX7_init := by decide +kernel
set_option maxHeartbeats 4000000 in
set_option maxRecDepth 100000 in
theorem tX7_init {l : Launch} {D : va_G} {Es : (Nat → Nat) × (Nat → Nat)} {b : Nat → Nat} {cI cJ cT : ClassId} {o g0 : Nat} : CtN l yX7_init wsX7_init rmX7_init D (tyl cI cJ cT) Es [.ref o, .ref g0] [(o, .inr (7, [.null, .null, .null, .null]))] (fun u => wd_rs (fun k => if k = 19 then g0 else u k) b cI cJ cT (fun _ => 0) (fun _ => 0) (fun _ => 0)) (fun u => u 24 = o) 3 2352 := by
  refine CtN.of (own := RX7) (cc := cX7_init) (nL := 2) (ret := none) (lv := [(0, .ref o), (1, .ref g0)]) (by decide +kernel) rfl rfl rfl (Nat.le_of_ble_eq_true rfl) rfl ?_
  intro p e s m below meth c A ls hin0 hNw C B hl
  have hx := C.1.1
  have hb := C.1.2.1
  have hown := C.1.2.2.2.1
  have hts := C.1.2.2.2.2
  refine lv_aload_n hx hb dX7_init_0 rfl (lv_at hl 0 rfl) ?_
  refine k_obj C hl.1 (List.mem_of_getElem? (i := 1) rfl) (List.mem_of_getElem? (i := 2) rfl) (List.mem_of_getElem? (i := 3) rfl) dX7_init_1 (Nat.le_of_ble_eq_true rfl) (Nat.le_of_ble_eq_true rfl) ?_
  refine lv_aload_n hx hb dX7_init_4 rfl (lv_at hl 0 rfl) ?_
  refine lv_sipush (v := 784) hx hb dX7_init_5 (by decide) ?_
  refine k_newL C B (by decide +kernel) (by decide) (N' := 784) (by decide) (by decide) (Nat.le_of_ble_eq_true rfl) (Nat.le_of_ble_eq_true rfl) dX7_init_8 (fun q0 H B => ?_)
  have B : DB D A [(o, .inr (7, [.null, .null, .null, .null])), (q0, .inl (cJ, 784, .inr (.inl (fun _ => 0))))] s H _ := B
  refine k_putF (ty := (.array .long)) C B hin0 (Cn := RX7) (T := TX7) (N := 4) (ci := 7) (index := 11) iX7_init rfl tyX7 tyX7_ok nmX7 0 (by decide) (by decide +kernel) rfl rfl 0 (by decide +kernel) (by rfl) (by rfl) rfl (Nat.le_of_ble_eq_true rfl) dX7_init_10 (fun H locs B => ?_)
  have B : DB D A [(o, .inr (7, [.ref q0, .null, .null, .null])), (q0, .inl (cJ, 784, .inr (.inl (fun _ => 0))))] s H locs := B
  refine lv_aload_n hx hb dX7_init_13 rfl (lv_at hl 0 rfl) ?_
  refine lv_sipush (v := 784) hx hb dX7_init_14 (by decide) ?_
  refine k_newL C B (by decide +kernel) (by decide) (N' := 784) (by decide) (by decide) (Nat.le_of_ble_eq_true rfl) (Nat.le_of_ble_eq_true rfl) dX7_init_17 (fun q1 H B => ?_)
  have B : DB D A [(o, .inr (7, [.ref q0, .null, .null, .null])), (q0, .inl (cJ, 784, .inr (.inl (fun _ => 0)))), (q1, .inl (cJ, 784, .inr (.inl (fun _ => 0))))] s H _ := B
  refine k_putF (ty := (.array .long)) C B hin0 (Cn := RX7) (T := TX7) (N := 4) (ci := 7) (index := 15) iX7_init rfl tyX7 tyX7_ok nmX7 1 (by decide) (by decide +kernel) rfl rfl 0 (by decide +kernel) (by rfl) (by rfl) rfl (Nat.le_of_ble_eq_true rfl) dX7_init_19 (fun H locs B => ?_)
  have B : DB D A [(o, .inr (7, [.ref q0, .ref q1, .null, .null])), (q0, .inl (cJ, 784, .inr (.inl (fun _ => 0)))), (q1, .inl (cJ, 784, .inr (.inl (fun _ => 0))))] s H locs := B
  refine lv_aload_n hx hb dX7_init_22 rfl (lv_at hl 0 rfl) ?_
  refine lv_sipush (v := 784) hx hb dX7_init_23 (by decide) ?_
  refine k_newL C B (by decide +kernel) (by decide) (N' := 784) (by decide) (by decide) (Nat.le_of_ble_eq_true rfl) (Nat.le_of_ble_eq_true rfl) dX7_init_26 (fun q2 H B => ?_)
  have B : DB D A [(o, .inr (7, [.ref q0, .ref q1, .null, .null])), (q0, .inl (cJ, 784, .inr (.inl (fun _ => 0)))), (q1, .inl (cJ, 784, .inr (.inl (fun _ => 0)))), (q2, .inl (cJ, 784, .inr (.inl (fun _ => 0))))] s H _ := B
  refine k_putF (ty := (.array .long)) C B hin0 (Cn := RX7) (T := TX7) (N := 4) (ci := 7) (index := 18) iX7_init rfl tyX7 tyX7_ok nmX7 2 (by decide) (by decide +kernel) rfl rfl 0 (by decide +kernel) (by rfl) (by rfl) rfl (Nat.le_of_ble_eq_true rfl) dX7_init_28 (fun H locs B => ?_)
  have B : DB D A [(o, .inr (7, [.ref q0, .ref q1, .ref q2, .null])), (q0, .inl (cJ, 784, .inr (.inl (fun _ => 0)))), (q1, .inl (cJ, 784, .inr (.inl (fun _ => 0)))), (q2, .inl (cJ, 784, .inr (.inl (fun _ => 0))))] s H locs := B
  refine lv_aload_n hx hb dX7_init_31 rfl (lv_at hl 0 rfl) ?_
  refine lv_aload_n hx hb dX7_init_32 rfl (lv_at hl 1 rfl) ?_
  refine k_putF (ty := (.object "NoticeTests$Worker")) C B hin0 (Cn := RX7) (T := TX7) (N := 4) (ci := 7) (index := 21) iX7_init rfl tyX7 tyX7_ok nmX7 3 (by decide) (by decide +kernel) rfl rfl 0 (by decide +kernel) (by rfl) (by rfl) rfl (Nat.le_of_ble_eq_true rfl) dX7_init_33 (fun H locs B => ?_)
  have B : DB D A [(o, .inr (7, [.ref q0, .ref q1, .ref q2, .ref g0])), (q0, .inl (cJ, 784, .inr (.inl (fun _ => 0)))), (q1, .inl (cJ, 784, .inr (.inl (fun _ => 0)))), (q2, .inl (cJ, 784, .inr (.inl (fun _ => 0))))] s H locs := B
  refine W.widen (k := 3) (n := 2352) (Nat.le_of_ble_eq_true rfl) (Nat.le_of_ble_eq_true rfl) ?_
  exact k_nret (w1 := fun u => wd_rs (fun k => if k = 19 then g0 else u k) b cI cJ cT (fun _ => 0) (fun _ => 0) (fun _ => 0)) (Pu := fun u => u 24 = o) (fun k => if k = 24 then o else if k = 25 then q0 else if k = 26 then q1 else if k = 27 then q2 else g0) (rfl) C B dX7_init_36

theorem hdX1_init : yX1_init.cls ≠ "java/lang/invoke/MethodHandle" ∧ yX1_init.cls ≠ "java/lang/invoke/VarHandle" ∧ (parseMethodDescriptor yX1_init.desc).map (fun d => d.parameters.length) = some 1 := by decide +kernel
abbrev rmX1_init : Room := { frames := 1, cells := 3, slots := 288, locals := 12 }
theorem iX1_init : ∀ w ∈ wsX10, w ∈ wsX1_init := by decide +kernel
set_option maxHeartbeats 4000000 in
set_option maxRecDepth 100000 in
theorem tX1_init {l : Launch} {D : va_G} {Es : (Nat → Nat) × (Nat → Nat)} {b : Nat → Nat} {cI cJ cT : ClassId} {o g0 : Nat} : CtN l yX1_init wsX1_init rmX1_init D (tyl cI cJ cT) Es [.ref o, .ref g0] [(o, .inr (1, [.null, .null, .null, .int 0, .null]))] (fun u => wd_ch (fun k => if k = 24 then g0 else u k) b cI cJ cT (fun _ => 0) (fun _ => 0) (fun _ => 0) (0)) (fun u => u 28 = o) 3 288 := by
  refine CtN.of (own := RX1) (cc := cX1_init) (nL := 2) (ret := none) (lv := [(0, .ref o), (1, .ref g0)]) (by decide +kernel) rfl rfl rfl (Nat.le_of_ble_eq_true rfl) rfl ?_
  intro p e s m below meth c A ls hin0 hNw C B hl
  have hx := C.1.1
  have hb := C.1.2.1
  have hown := C.1.2.2.2.1
  have hts := C.1.2.2.2.2
  refine lv_aload_n hx hb dX1_init_0 rfl (lv_at hl 0 rfl) ?_
  refine k_obj C hl.1 (List.mem_of_getElem? (i := 1) rfl) (List.mem_of_getElem? (i := 2) rfl) (List.mem_of_getElem? (i := 3) rfl) dX1_init_1 (Nat.le_of_ble_eq_true rfl) (Nat.le_of_ble_eq_true rfl) ?_
  refine lv_aload_n hx hb dX1_init_4 rfl (lv_at hl 0 rfl) ?_
  refine lv_bipush (v := 96) hx hb dX1_init_5 (by decide) ?_
  refine k_newI C B (by decide +kernel) (by decide) (N' := 96) (by decide) (by decide) (Nat.le_of_ble_eq_true rfl) (Nat.le_of_ble_eq_true rfl) dX1_init_7 (fun q0 H B => ?_)
  have B : DB D A [(o, .inr (1, [.null, .null, .null, .int 0, .null])), (q0, .inl (cI, 96, .inl (fun _ => 0)))] s H _ := B
  refine k_putF (ty := (.array .int)) C B hin0 (Cn := RX1) (T := TX1) (N := 5) (ci := 1) (index := 9) iX1_init rfl tyX1 tyX1_ok nmX1 0 (by decide) (by decide +kernel) rfl rfl 0 (by decide +kernel) (by rfl) (by rfl) rfl (Nat.le_of_ble_eq_true rfl) dX1_init_9 (fun H locs B => ?_)
  have B : DB D A [(o, .inr (1, [.ref q0, .null, .null, .int 0, .null])), (q0, .inl (cI, 96, .inl (fun _ => 0)))] s H locs := B
  refine lv_aload_n hx hb dX1_init_12 rfl (lv_at hl 0 rfl) ?_
  refine lv_bipush (v := 96) hx hb dX1_init_13 (by decide) ?_
  refine k_newI C B (by decide +kernel) (by decide) (N' := 96) (by decide) (by decide) (Nat.le_of_ble_eq_true rfl) (Nat.le_of_ble_eq_true rfl) dX1_init_15 (fun q1 H B => ?_)
  have B : DB D A [(o, .inr (1, [.ref q0, .null, .null, .int 0, .null])), (q0, .inl (cI, 96, .inl (fun _ => 0))), (q1, .inl (cI, 96, .inl (fun _ => 0)))] s H _ := B
  refine k_putF (ty := (.array .int)) C B hin0 (Cn := RX1) (T := TX1) (N := 5) (ci := 1) (index := 15) iX1_init rfl tyX1 tyX1_ok nmX1 1 (by decide) (by decide +kernel) rfl rfl 0 (by decide +kernel) (by rfl) (by rfl) rfl (Nat.le_of_ble_eq_true rfl) dX1_init_17 (fun H locs B => ?_)
  have B : DB D A [(o, .inr (1, [.ref q0, .ref q1, .null, .int 0, .null])), (q0, .inl (cI, 96, .inl (fun _ => 0))), (q1, .inl (cI, 96, .inl (fun _ => 0)))] s H locs := B
  refine lv_aload_n hx hb dX1_init_20 rfl (lv_at hl 0 rfl) ?_
  refine lv_bipush (v := 96) hx hb dX1_init_21 (by decide) ?_
  refine k_newI C B (by decide +kernel) (by decide) (N' := 96) (by decide) (by decide) (Nat.le_of_ble_eq_true rfl) (Nat.le_of_ble_eq_true rfl) dX1_init_23 (fun q2 H B => ?_)
  have B : DB D A [(o, .inr (1, [.ref q0, .ref q1, .null, .int 0, .null])), (q0, .inl (cI, 96, .inl (fun _ => 0))), (q1, .inl (cI, 96, .inl (fun _ => 0))), (q2, .inl (cI, 96, .inl (fun _ => 0)))] s H _ := B
  refine k_putF (ty := (.array .int)) C B hin0 (Cn := RX1) (T := TX1) (N := 5) (ci := 1) (index := 18) iX1_init rfl tyX1 tyX1_ok nmX1 2 (by decide) (by decide +kernel) rfl rfl 0 (by decide +kernel) (by rfl) (by rfl) rfl (Nat.le_of_ble_eq_true rfl) dX1_init_25 (fun H locs B => ?_)
  have B : DB D A [(o, .inr (1, [.ref q0, .ref q1, .ref q2, .int 0, .null])), (q0, .inl (cI, 96, .inl (fun _ => 0))), (q1, .inl (cI, 96, .inl (fun _ => 0))), (q2, .inl (cI, 96, .inl (fun _ => 0)))] s H locs := B
  refine lv_aload_n hx hb dX1_init_28 rfl (lv_at hl 0 rfl) ?_
  refine lv_iconst (v := 0) hx hb dX1_init_29 (by decide) ?_
  refine k_put (ty := .int) C B (Cn := RX1) (T := TX1) (N := 5) (ci := 1) (index := 21) iX1_init rfl tyX1 tyX1_ok nmX1 3 (by decide) (by decide +kernel) rfl 0 (by decide +kernel) (by rfl) (by rfl) rfl (Nat.le_of_ble_eq_true rfl) dX1_init_30 (fun H locs B => ?_)
  have B : DB D A [(o, .inr (1, [.ref q0, .ref q1, .ref q2, .int 0, .null])), (q0, .inl (cI, 96, .inl (fun _ => 0))), (q1, .inl (cI, 96, .inl (fun _ => 0))), (q2, .inl (cI, 96, .inl (fun _ => 0)))] s H locs := B
  refine lv_aload_n hx hb dX1_init_33 rfl (lv_at hl 0 rfl) ?_
  refine lv_aload_n hx hb dX1_init_34 rfl (lv_at hl 1 rfl) ?_
  refine k_putF (ty := (.object "NoticeTests$Results")) C B hin0 (Cn := RX1) (T := TX1) (N := 5) (ci := 1) (index := 25) iX1_init rfl tyX1 tyX1_ok nmX1 4 (by decide) (by decide +kernel) rfl rfl 0 (by decide +kernel) (by rfl) (by rfl) rfl (Nat.le_of_ble_eq_true rfl) dX1_init_35 (fun H locs B => ?_)
  have B : DB D A [(o, .inr (1, [.ref q0, .ref q1, .ref q2, .int 0, .ref g0])), (q0, .inl (cI, 96, .inl (fun _ => 0))), (q1, .inl (cI, 96, .inl (fun _ => 0))), (q2, .inl (cI, 96, .inl (fun _ => 0)))] s H locs := B
  refine W.widen (k := 3) (n := 288) (Nat.le_of_ble_eq_true rfl) (Nat.le_of_ble_eq_true rfl) ?_
  exact k_nret (w1 := fun u => wd_ch (fun k => if k = 24 then g0 else u k) b cI cJ cT (fun _ => 0) (fun _ => 0) (fun _ => 0) (0)) (Pu := fun u => u 28 = o) (fun k => if k = 28 then o else if k = 29 then q0 else if k = 30 then q1 else if k = 31 then q2 else g0) (rfl) C B dX1_init_38

theorem hdX8_init : yX8_init.cls ≠ "java/lang/invoke/MethodHandle" ∧ yX8_init.cls ≠ "java/lang/invoke/VarHandle" ∧ (parseMethodDescriptor yX8_init.desc).map (fun d => d.parameters.length) = some 1 := by decide +kernel
abbrev rmX8_init : Room := { frames := 1, cells := 2, slots := 28, locals := 12 }
theorem iX8_init : ∀ w ∈ wsX80, w ∈ wsX8_init := by decide +kernel
set_option maxHeartbeats 4000000 in
set_option maxRecDepth 100000 in
theorem tX8_init {l : Launch} {D : va_G} {Es : (Nat → Nat) × (Nat → Nat)} {b : Nat → Nat} {cI cJ cT : ClassId} {o g0 : Nat} : CtN l yX8_init wsX8_init rmX8_init D (tyl cI cJ cT) Es [.ref o, .ref g0] [(o, .inr (8, [.null, .null, .int 0, .null]))] (fun u => wd_te (fun k => if k = 24 then g0 else u k) b cI cJ cT (fun _ => 0) (fun _ => 0) (0)) (fun u => u 32 = o) 2 28 := by
  refine CtN.of (own := RX8) (cc := cX8_init) (nL := 2) (ret := none) (lv := [(0, .ref o), (1, .ref g0)]) (by decide +kernel) rfl rfl rfl (Nat.le_of_ble_eq_true rfl) rfl ?_
  intro p e s m below meth c A ls hin0 hNw C B hl
  have hx := C.1.1
  have hb := C.1.2.1
  have hown := C.1.2.2.2.1
  have hts := C.1.2.2.2.2
  refine lv_aload_n hx hb dX8_init_0 rfl (lv_at hl 0 rfl) ?_
  refine k_obj C hl.1 (List.mem_of_getElem? (i := 1) rfl) (List.mem_of_getElem? (i := 2) rfl) (List.mem_of_getElem? (i := 3) rfl) dX8_init_1 (Nat.le_of_ble_eq_true rfl) (Nat.le_of_ble_eq_true rfl) ?_
  refine lv_aload_n hx hb dX8_init_4 rfl (lv_at hl 0 rfl) ?_
  refine lv_bipush (v := 14) hx hb dX8_init_5 (by decide) ?_
  refine k_newI C B (by decide +kernel) (by decide) (N' := 14) (by decide) (by decide) (Nat.le_of_ble_eq_true rfl) (Nat.le_of_ble_eq_true rfl) dX8_init_7 (fun q0 H B => ?_)
  have B : DB D A [(o, .inr (8, [.null, .null, .int 0, .null])), (q0, .inl (cI, 14, .inl (fun _ => 0)))] s H _ := B
  refine k_putF (ty := (.array .int)) C B hin0 (Cn := RX8) (T := TX8) (N := 4) (ci := 8) (index := 9) iX8_init rfl tyX8 tyX8_ok nmX8 0 (by decide) (by decide +kernel) rfl rfl 0 (by decide +kernel) (by rfl) (by rfl) rfl (Nat.le_of_ble_eq_true rfl) dX8_init_9 (fun H locs B => ?_)
  have B : DB D A [(o, .inr (8, [.ref q0, .null, .int 0, .null])), (q0, .inl (cI, 14, .inl (fun _ => 0)))] s H locs := B
  refine lv_aload_n hx hb dX8_init_12 rfl (lv_at hl 0 rfl) ?_
  refine lv_bipush (v := 14) hx hb dX8_init_13 (by decide) ?_
  refine k_newI C B (by decide +kernel) (by decide) (N' := 14) (by decide) (by decide) (Nat.le_of_ble_eq_true rfl) (Nat.le_of_ble_eq_true rfl) dX8_init_15 (fun q1 H B => ?_)
  have B : DB D A [(o, .inr (8, [.ref q0, .null, .int 0, .null])), (q0, .inl (cI, 14, .inl (fun _ => 0))), (q1, .inl (cI, 14, .inl (fun _ => 0)))] s H _ := B
  refine k_putF (ty := (.array .int)) C B hin0 (Cn := RX8) (T := TX8) (N := 4) (ci := 8) (index := 15) iX8_init rfl tyX8 tyX8_ok nmX8 1 (by decide) (by decide +kernel) rfl rfl 0 (by decide +kernel) (by rfl) (by rfl) rfl (Nat.le_of_ble_eq_true rfl) dX8_init_17 (fun H locs B => ?_)
  have B : DB D A [(o, .inr (8, [.ref q0, .ref q1, .int 0, .null])), (q0, .inl (cI, 14, .inl (fun _ => 0))), (q1, .inl (cI, 14, .inl (fun _ => 0)))] s H locs := B
  refine lv_aload_n hx hb dX8_init_20 rfl (lv_at hl 0 rfl) ?_
  refine lv_iconst (v := 0) hx hb dX8_init_21 (by decide) ?_
  refine k_put (ty := .int) C B (Cn := RX8) (T := TX8) (N := 4) (ci := 8) (index := 18) iX8_init rfl tyX8 tyX8_ok nmX8 2 (by decide) (by decide +kernel) rfl 0 (by decide +kernel) (by rfl) (by rfl) rfl (Nat.le_of_ble_eq_true rfl) dX8_init_22 (fun H locs B => ?_)
  have B : DB D A [(o, .inr (8, [.ref q0, .ref q1, .int 0, .null])), (q0, .inl (cI, 14, .inl (fun _ => 0))), (q1, .inl (cI, 14, .inl (fun _ => 0)))] s H locs := B
  refine lv_aload_n hx hb dX8_init_25 rfl (lv_at hl 0 rfl) ?_
  refine lv_aload_n hx hb dX8_init_26 rfl (lv_at hl 1 rfl) ?_
  refine k_putF (ty := (.object "NoticeTests$Results")) C B hin0 (Cn := RX8) (T := TX8) (N := 4) (ci := 8) (index := 22) iX8_init rfl tyX8 tyX8_ok nmX8 3 (by decide) (by decide +kernel) rfl rfl 0 (by decide +kernel) (by rfl) (by rfl) rfl (Nat.le_of_ble_eq_true rfl) dX8_init_27 (fun H locs B => ?_)
  have B : DB D A [(o, .inr (8, [.ref q0, .ref q1, .int 0, .ref g0])), (q0, .inl (cI, 14, .inl (fun _ => 0))), (q1, .inl (cI, 14, .inl (fun _ => 0)))] s H locs := B
  refine W.widen (k := 2) (n := 28) (Nat.le_of_ble_eq_true rfl) (Nat.le_of_ble_eq_true rfl) ?_
  exact k_nret (w1 := fun u => wd_te (fun k => if k = 24 then g0 else u k) b cI cJ cT (fun _ => 0) (fun _ => 0) (0)) (Pu := fun u => u 32 = o) (fun k => if k = 32 then o else if k = 33 then q0 else if k = 34 then q1 else g0) (rfl) C B dX8_init_30

theorem hdX4_init : yX4_init.cls ≠ "java/lang/invoke/MethodHandle" ∧ yX4_init.cls ≠ "java/lang/invoke/VarHandle" ∧ (parseMethodDescriptor yX4_init.desc).map (fun d => d.parameters.length) = some 3 := by decide +kernel
abbrev rmX4_init : Room := { frames := 1, cells := 2, slots := 192, locals := 12 }
theorem iX4_init : ∀ w ∈ wsX40, w ∈ wsX4_init := by decide +kernel
set_option maxHeartbeats 4000000 in
set_option maxRecDepth 100000 in
theorem tX4_init {l : Launch} {D : va_G} {Es : (Nat → Nat) × (Nat → Nat)} {b : Nat → Nat} {cI cJ cT : ClassId} {o g0 g1 g2 : Nat} : CtN l yX4_init wsX4_init rmX4_init D (tyl cI cJ cT) Es [.ref o, .ref g0, .ref g1, .ref g2] [(o, .inr (4, [.null, .int 0, .int 0, .null, .null, .null, .null]))] (fun u => wd_no (fun k => if k = 28 then g0 else if k = 32 then g1 else if k = 24 then g2 else u k) b cI cJ cT (fun _ => 0) ((-6)) (0) (fun _ => 0)) (fun u => u 35 = o) 2 192 := by
  refine CtN.of (own := RX4) (cc := cX4_init) (nL := 4) (ret := none) (lv := [(0, .ref o), (1, .ref g0), (2, .ref g1), (3, .ref g2)]) (by decide +kernel) rfl rfl rfl (Nat.le_of_ble_eq_true rfl) rfl ?_
  intro p e s m below meth c A ls hin0 hNw C B hl
  have hx := C.1.1
  have hb := C.1.2.1
  have hown := C.1.2.2.2.1
  have hts := C.1.2.2.2.2
  refine lv_aload_n hx hb dX4_init_0 rfl (lv_at hl 0 rfl) ?_
  refine k_obj C hl.1 (List.mem_of_getElem? (i := 1) rfl) (List.mem_of_getElem? (i := 2) rfl) (List.mem_of_getElem? (i := 3) rfl) dX4_init_1 (Nat.le_of_ble_eq_true rfl) (Nat.le_of_ble_eq_true rfl) ?_
  refine lv_aload_n hx hb dX4_init_4 rfl (lv_at hl 0 rfl) ?_
  refine lv_bipush (v := 96) hx hb dX4_init_5 (by decide) ?_
  refine k_newI C B (by decide +kernel) (by decide) (N' := 96) (by decide) (by decide) (Nat.le_of_ble_eq_true rfl) (Nat.le_of_ble_eq_true rfl) dX4_init_7 (fun q0 H B => ?_)
  have B : DB D A [(o, .inr (4, [.null, .int 0, .int 0, .null, .null, .null, .null])), (q0, .inl (cI, 96, .inl (fun _ => 0)))] s H _ := B
  refine k_putF (ty := (.array .int)) C B hin0 (Cn := RX4) (T := TX4) (N := 7) (ci := 4) (index := 9) iX4_init rfl tyX4 tyX4_ok nmX4 0 (by decide) (by decide +kernel) rfl rfl 0 (by decide +kernel) (by rfl) (by rfl) rfl (Nat.le_of_ble_eq_true rfl) dX4_init_9 (fun H locs B => ?_)
  have B : DB D A [(o, .inr (4, [.ref q0, .int 0, .int 0, .null, .null, .null, .null])), (q0, .inl (cI, 96, .inl (fun _ => 0)))] s H locs := B
  refine lv_aload_n hx hb dX4_init_12 rfl (lv_at hl 0 rfl) ?_
  refine lv_bipush (v := -6) hx hb dX4_init_13 (by decide) ?_
  refine k_put (ty := .int) C B (Cn := RX4) (T := TX4) (N := 7) (ci := 4) (index := 15) iX4_init rfl tyX4 tyX4_ok nmX4 1 (by decide) (by decide +kernel) rfl 0 (by decide +kernel) (by rfl) (by rfl) rfl (Nat.le_of_ble_eq_true rfl) dX4_init_15 (fun H locs B => ?_)
  have B : DB D A [(o, .inr (4, [.ref q0, .int (-6), .int 0, .null, .null, .null, .null])), (q0, .inl (cI, 96, .inl (fun _ => 0)))] s H locs := B
  refine lv_aload_n hx hb dX4_init_18 rfl (lv_at hl 0 rfl) ?_
  refine lv_iconst (v := 0) hx hb dX4_init_19 (by decide) ?_
  refine k_put (ty := .int) C B (Cn := RX4) (T := TX4) (N := 7) (ci := 4) (index := 19) iX4_init rfl tyX4 tyX4_ok nmX4 2 (by decide) (by decide +kernel) rfl 0 (by decide +kernel) (by rfl) (by rfl) rfl (Nat.le_of_ble_eq_true rfl) dX4_init_20 (fun H locs B => ?_)
  have B : DB D A [(o, .inr (4, [.ref q0, .int (-6), .int 0, .null, .null, .null, .null])), (q0, .inl (cI, 96, .inl (fun _ => 0)))] s H locs := B
  refine lv_aload_n hx hb dX4_init_23 rfl (lv_at hl 0 rfl) ?_
  refine lv_bipush (v := 96) hx hb dX4_init_24 (by decide) ?_
  refine k_newL C B (by decide +kernel) (by decide) (N' := 96) (by decide) (by decide) (Nat.le_of_ble_eq_true rfl) (Nat.le_of_ble_eq_true rfl) dX4_init_26 (fun q1 H B => ?_)
  have B : DB D A [(o, .inr (4, [.ref q0, .int (-6), .int 0, .null, .null, .null, .null])), (q0, .inl (cI, 96, .inl (fun _ => 0))), (q1, .inl (cJ, 96, .inr (.inl (fun _ => 0))))] s H _ := B
  refine k_putF (ty := (.array .long)) C B hin0 (Cn := RX4) (T := TX4) (N := 7) (ci := 4) (index := 22) iX4_init rfl tyX4 tyX4_ok nmX4 3 (by decide) (by decide +kernel) rfl rfl 0 (by decide +kernel) (by rfl) (by rfl) rfl (Nat.le_of_ble_eq_true rfl) dX4_init_28 (fun H locs B => ?_)
  have B : DB D A [(o, .inr (4, [.ref q0, .int (-6), .int 0, .ref q1, .null, .null, .null])), (q0, .inl (cI, 96, .inl (fun _ => 0))), (q1, .inl (cJ, 96, .inr (.inl (fun _ => 0))))] s H locs := B
  refine lv_aload_n hx hb dX4_init_31 rfl (lv_at hl 0 rfl) ?_
  refine lv_aload_n hx hb dX4_init_32 rfl (lv_at hl 1 rfl) ?_
  refine k_putF (ty := (.object "NoticeTests$Changes")) C B hin0 (Cn := RX4) (T := TX4) (N := 7) (ci := 4) (index := 26) iX4_init rfl tyX4 tyX4_ok nmX4 4 (by decide) (by decide +kernel) rfl rfl 0 (by decide +kernel) (by rfl) (by rfl) rfl (Nat.le_of_ble_eq_true rfl) dX4_init_33 (fun H locs B => ?_)
  have B : DB D A [(o, .inr (4, [.ref q0, .int (-6), .int 0, .ref q1, .ref g0, .null, .null])), (q0, .inl (cI, 96, .inl (fun _ => 0))), (q1, .inl (cJ, 96, .inr (.inl (fun _ => 0))))] s H locs := B
  refine lv_aload_n hx hb dX4_init_36 rfl (lv_at hl 0 rfl) ?_
  refine lv_aload_n hx hb dX4_init_37 rfl (lv_at hl 2 rfl) ?_
  refine k_putF (ty := (.object "NoticeTests$Tests")) C B hin0 (Cn := RX4) (T := TX4) (N := 7) (ci := 4) (index := 30) iX4_init rfl tyX4 tyX4_ok nmX4 5 (by decide) (by decide +kernel) rfl rfl 0 (by decide +kernel) (by rfl) (by rfl) rfl (Nat.le_of_ble_eq_true rfl) dX4_init_38 (fun H locs B => ?_)
  have B : DB D A [(o, .inr (4, [.ref q0, .int (-6), .int 0, .ref q1, .ref g0, .ref g1, .null])), (q0, .inl (cI, 96, .inl (fun _ => 0))), (q1, .inl (cJ, 96, .inr (.inl (fun _ => 0))))] s H locs := B
  refine lv_aload_n hx hb dX4_init_41 rfl (lv_at hl 0 rfl) ?_
  refine lv_aload_n hx hb dX4_init_42 rfl (lv_at hl 3 rfl) ?_
  refine k_putF (ty := (.object "NoticeTests$Results")) C B hin0 (Cn := RX4) (T := TX4) (N := 7) (ci := 4) (index := 34) iX4_init rfl tyX4 tyX4_ok nmX4 6 (by decide) (by decide +kernel) rfl rfl 0 (by decide +kernel) (by rfl) (by rfl) rfl (Nat.le_of_ble_eq_true rfl) dX4_init_43 (fun H locs B => ?_)
  have B : DB D A [(o, .inr (4, [.ref q0, .int (-6), .int 0, .ref q1, .ref g0, .ref g1, .ref g2])), (q0, .inl (cI, 96, .inl (fun _ => 0))), (q1, .inl (cJ, 96, .inr (.inl (fun _ => 0))))] s H locs := B
  refine W.widen (k := 2) (n := 192) (Nat.le_of_ble_eq_true rfl) (Nat.le_of_ble_eq_true rfl) ?_
  exact k_nret (w1 := fun u => wd_no (fun k => if k = 28 then g0 else if k = 32 then g1 else if k = 24 then g2 else u k) b cI cJ cT (fun _ => 0) ((-6)) (0) (fun _ => 0)) (Pu := fun u => u 35 = o) (fun k => if k = 35 then o else if k = 36 then q0 else if k = 37 then q1 else if k = 28 then g0 else if k = 32 then g1 else g2) (rfl) C B dX4_init_46

theorem hdX2_init : yX2_init.cls ≠ "java/lang/invoke/MethodHandle" ∧ yX2_init.cls ≠ "java/lang/invoke/VarHandle" ∧ (parseMethodDescriptor yX2_init.desc).map (fun d => d.parameters.length) = some 3 := by decide +kernel
abbrev rmX2_init : Room := { frames := 1, cells := 2, slots := 15, locals := 12 }
theorem iX2_init : ∀ w ∈ wsX20, w ∈ wsX2_init := by decide +kernel
set_option maxHeartbeats 4000000 in
set_option maxRecDepth 100000 in
theorem tX2_init {l : Launch} {D : va_G} {Es : (Nat → Nat) × (Nat → Nat)} {b : Nat → Nat} {cI cJ cT : ClassId} {o g0 g1 g2 : Nat} : CtN l yX2_init wsX2_init rmX2_init D (tyl cI cJ cT) Es [.ref o, .ref g0, .ref g1, .ref g2] [(o, .inr (2, [.null, .null, .int 0, .int 0, .int 0, .null, .null, .null]))] (fun u => wd_fw (fun k => if k = 28 then g0 else if k = 32 then g1 else if k = 35 then g2 else u k) b cI cJ cT (fun _ => 0) 1 (u 39) (fun _ => 0) (0) (0) (0)) (fun u => u 38 = o) 2 15 := by
  refine CtN.of (own := RX2) (cc := cX2_init) (nL := 4) (ret := none) (lv := [(0, .ref o), (1, .ref g0), (2, .ref g1), (3, .ref g2)]) (by decide +kernel) rfl rfl rfl (Nat.le_of_ble_eq_true rfl) rfl ?_
  intro p e s m below meth c A ls hin0 hNw C B hl
  have hx := C.1.1
  have hb := C.1.2.1
  have hown := C.1.2.2.2.1
  have hts := C.1.2.2.2.2
  refine lv_aload_n hx hb dX2_init_0 rfl (lv_at hl 0 rfl) ?_
  refine k_obj C hl.1 (List.mem_of_getElem? (i := 1) rfl) (List.mem_of_getElem? (i := 2) rfl) (List.mem_of_getElem? (i := 3) rfl) dX2_init_1 (Nat.le_of_ble_eq_true rfl) (Nat.le_of_ble_eq_true rfl) ?_
  refine lv_aload_n hx hb dX2_init_4 rfl (lv_at hl 0 rfl) ?_
  refine lv_iconst (v := 1) hx hb dX2_init_5 (by decide) ?_
  refine k_newI C B (by decide +kernel) (by decide) (N' := 1) (by decide) (by decide) (Nat.le_of_ble_eq_true rfl) (Nat.le_of_ble_eq_true rfl) dX2_init_6 (fun q0 H B => ?_)
  have B : DB D A [(o, .inr (2, [.null, .null, .int 0, .int 0, .int 0, .null, .null, .null])), (q0, .inl (cI, 1, .inl (fun _ => 0)))] s H _ := B
  refine k_put (ty := (.array .int)) C B (Cn := RX2) (T := TX2) (N := 8) (ci := 2) (index := 9) iX2_init rfl tyX2 tyX2_ok nmX2 0 (by decide) (by decide +kernel) rfl 0 (by decide +kernel) (by rfl) (by rfl) rfl (Nat.le_of_ble_eq_true rfl) dX2_init_8 (fun H locs B => ?_)
  have B : DB D A [(o, .inr (2, [.ref q0, .null, .int 0, .int 0, .int 0, .null, .null, .null])), (q0, .inl (cI, 1, .inl (fun _ => 0)))] s H locs := B
  refine lv_aload_n hx hb dX2_init_11 rfl (lv_at hl 0 rfl) ?_
  refine lv_bipush (v := 14) hx hb dX2_init_12 (by decide) ?_
  refine k_newI C B (by decide +kernel) (by decide) (N' := 14) (by decide) (by decide) (Nat.le_of_ble_eq_true rfl) (Nat.le_of_ble_eq_true rfl) dX2_init_14 (fun q1 H B => ?_)
  have B : DB D A [(o, .inr (2, [.ref q0, .null, .int 0, .int 0, .int 0, .null, .null, .null])), (q0, .inl (cI, 1, .inl (fun _ => 0))), (q1, .inl (cI, 14, .inl (fun _ => 0)))] s H _ := B
  refine k_putF (ty := (.array .int)) C B hin0 (Cn := RX2) (T := TX2) (N := 8) (ci := 2) (index := 15) iX2_init rfl tyX2 tyX2_ok nmX2 1 (by decide) (by decide +kernel) rfl rfl 0 (by decide +kernel) (by rfl) (by rfl) rfl (Nat.le_of_ble_eq_true rfl) dX2_init_16 (fun H locs B => ?_)
  have B : DB D A [(o, .inr (2, [.ref q0, .ref q1, .int 0, .int 0, .int 0, .null, .null, .null])), (q0, .inl (cI, 1, .inl (fun _ => 0))), (q1, .inl (cI, 14, .inl (fun _ => 0)))] s H locs := B
  refine lv_aload_n hx hb dX2_init_19 rfl (lv_at hl 0 rfl) ?_
  refine lv_iconst (v := 0) hx hb dX2_init_20 (by decide) ?_
  refine k_put (ty := .int) C B (Cn := RX2) (T := TX2) (N := 8) (ci := 2) (index := 18) iX2_init rfl tyX2 tyX2_ok nmX2 2 (by decide) (by decide +kernel) rfl 0 (by decide +kernel) (by rfl) (by rfl) rfl (Nat.le_of_ble_eq_true rfl) dX2_init_21 (fun H locs B => ?_)
  have B : DB D A [(o, .inr (2, [.ref q0, .ref q1, .int 0, .int 0, .int 0, .null, .null, .null])), (q0, .inl (cI, 1, .inl (fun _ => 0))), (q1, .inl (cI, 14, .inl (fun _ => 0)))] s H locs := B
  refine lv_aload_n hx hb dX2_init_24 rfl (lv_at hl 0 rfl) ?_
  refine lv_iconst (v := 0) hx hb dX2_init_25 (by decide) ?_
  refine k_put (ty := .int) C B (Cn := RX2) (T := TX2) (N := 8) (ci := 2) (index := 22) iX2_init rfl tyX2 tyX2_ok nmX2 3 (by decide) (by decide +kernel) rfl 0 (by decide +kernel) (by rfl) (by rfl) rfl (Nat.le_of_ble_eq_true rfl) dX2_init_26 (fun H locs B => ?_)
  have B : DB D A [(o, .inr (2, [.ref q0, .ref q1, .int 0, .int 0, .int 0, .null, .null, .null])), (q0, .inl (cI, 1, .inl (fun _ => 0))), (q1, .inl (cI, 14, .inl (fun _ => 0)))] s H locs := B
  refine lv_aload_n hx hb dX2_init_29 rfl (lv_at hl 0 rfl) ?_
  refine lv_iconst (v := 0) hx hb dX2_init_30 (by decide) ?_
  refine k_put (ty := .boolean) C B (Cn := RX2) (T := TX2) (N := 8) (ci := 2) (index := 25) iX2_init rfl tyX2 tyX2_ok nmX2 4 (by decide) (by decide +kernel) rfl 0 (by decide +kernel) (by rfl) (by rfl) rfl (Nat.le_of_ble_eq_true rfl) dX2_init_31 (fun H locs B => ?_)
  have B : DB D A [(o, .inr (2, [.ref q0, .ref q1, .int 0, .int 0, .int 0, .null, .null, .null])), (q0, .inl (cI, 1, .inl (fun _ => 0))), (q1, .inl (cI, 14, .inl (fun _ => 0)))] s H locs := B
  refine lv_aload_n hx hb dX2_init_34 rfl (lv_at hl 0 rfl) ?_
  refine lv_aload_n hx hb dX2_init_35 rfl (lv_at hl 1 rfl) ?_
  refine k_putF (ty := (.object "NoticeTests$Changes")) C B hin0 (Cn := RX2) (T := TX2) (N := 8) (ci := 2) (index := 29) iX2_init rfl tyX2 tyX2_ok nmX2 5 (by decide) (by decide +kernel) rfl rfl 0 (by decide +kernel) (by rfl) (by rfl) rfl (Nat.le_of_ble_eq_true rfl) dX2_init_36 (fun H locs B => ?_)
  have B : DB D A [(o, .inr (2, [.ref q0, .ref q1, .int 0, .int 0, .int 0, .ref g0, .null, .null])), (q0, .inl (cI, 1, .inl (fun _ => 0))), (q1, .inl (cI, 14, .inl (fun _ => 0)))] s H locs := B
  refine lv_aload_n hx hb dX2_init_39 rfl (lv_at hl 0 rfl) ?_
  refine lv_aload_n hx hb dX2_init_40 rfl (lv_at hl 2 rfl) ?_
  refine k_putF (ty := (.object "NoticeTests$Tests")) C B hin0 (Cn := RX2) (T := TX2) (N := 8) (ci := 2) (index := 33) iX2_init rfl tyX2 tyX2_ok nmX2 6 (by decide) (by decide +kernel) rfl rfl 0 (by decide +kernel) (by rfl) (by rfl) rfl (Nat.le_of_ble_eq_true rfl) dX2_init_41 (fun H locs B => ?_)
  have B : DB D A [(o, .inr (2, [.ref q0, .ref q1, .int 0, .int 0, .int 0, .ref g0, .ref g1, .null])), (q0, .inl (cI, 1, .inl (fun _ => 0))), (q1, .inl (cI, 14, .inl (fun _ => 0)))] s H locs := B
  refine lv_aload_n hx hb dX2_init_44 rfl (lv_at hl 0 rfl) ?_
  refine lv_aload_n hx hb dX2_init_45 rfl (lv_at hl 3 rfl) ?_
  refine k_putF (ty := (.object "NoticeTests$Notices")) C B hin0 (Cn := RX2) (T := TX2) (N := 8) (ci := 2) (index := 37) iX2_init rfl tyX2 tyX2_ok nmX2 7 (by decide) (by decide +kernel) rfl rfl 0 (by decide +kernel) (by rfl) (by rfl) rfl (Nat.le_of_ble_eq_true rfl) dX2_init_46 (fun H locs B => ?_)
  have B : DB D A [(o, .inr (2, [.ref q0, .ref q1, .int 0, .int 0, .int 0, .ref g0, .ref g1, .ref g2])), (q0, .inl (cI, 1, .inl (fun _ => 0))), (q1, .inl (cI, 14, .inl (fun _ => 0)))] s H locs := B
  refine W.widen (k := 2) (n := 15) (Nat.le_of_ble_eq_true rfl) (Nat.le_of_ble_eq_true rfl) ?_
  exact k_nret (w1 := fun u => wd_fw (fun k => if k = 28 then g0 else if k = 32 then g1 else if k = 35 then g2 else u k) b cI cJ cT (fun _ => 0) 1 (u 39) (fun _ => 0) (0) (0) (0)) (Pu := fun u => u 38 = o) (fun k => if k = 38 then o else if k = 39 then q0 else if k = 40 then q1 else if k = 28 then g0 else if k = 32 then g1 else g2) (rfl) C B dX2_init_49

theorem hdX0_init : yX0_init.cls ≠ "java/lang/invoke/MethodHandle" ∧ yX0_init.cls ≠ "java/lang/invoke/VarHandle" ∧ (parseMethodDescriptor yX0_init.desc).map (fun d => d.parameters.length) = some 2 := by decide +kernel
abbrev rmX0_init : Room := { frames := 1, cells := 3, slots := 62, locals := 12 }
theorem iX0_init : ∀ w ∈ wsX00, w ∈ wsX0_init := by decide +kernel
set_option maxHeartbeats 4000000 in
set_option maxRecDepth 100000 in
theorem tX0_init {l : Launch} {D : va_G} {Es : (Nat → Nat) × (Nat → Nat)} {b : Nat → Nat} {cI cJ cT : ClassId} {o g0 g1 : Nat} : CtN l yX0_init wsX0_init rmX0_init D (tyl cI cJ cT) Es [.ref o, .ref g0, .ref g1] [(o, .inr (0, [.null, .null, .null, .null, .null]))] (fun u => wd_bl (fun k => if k = 32 then g0 else if k = 19 then g1 else u k) b cI cJ cT (fun _ => 0) (fun _ => 0) (fun _ => 0)) (fun u => u 41 = o) 3 62 := by
  refine CtN.of (own := RX0) (cc := cX0_init) (nL := 3) (ret := none) (lv := [(0, .ref o), (1, .ref g0), (2, .ref g1)]) (by decide +kernel) rfl rfl rfl (Nat.le_of_ble_eq_true rfl) rfl ?_
  intro p e s m below meth c A ls hin0 hNw C B hl
  have hx := C.1.1
  have hb := C.1.2.1
  have hown := C.1.2.2.2.1
  have hts := C.1.2.2.2.2
  refine lv_aload_n hx hb dX0_init_0 rfl (lv_at hl 0 rfl) ?_
  refine k_obj C hl.1 (List.mem_of_getElem? (i := 1) rfl) (List.mem_of_getElem? (i := 2) rfl) (List.mem_of_getElem? (i := 3) rfl) dX0_init_1 (Nat.le_of_ble_eq_true rfl) (Nat.le_of_ble_eq_true rfl) ?_
  refine lv_aload_n hx hb dX0_init_4 rfl (lv_at hl 0 rfl) ?_
  refine lv_bipush (v := 24) hx hb dX0_init_5 (by decide) ?_
  refine k_newI C B (by decide +kernel) (by decide) (N' := 24) (by decide) (by decide) (Nat.le_of_ble_eq_true rfl) (Nat.le_of_ble_eq_true rfl) dX0_init_7 (fun q0 H B => ?_)
  have B : DB D A [(o, .inr (0, [.null, .null, .null, .null, .null])), (q0, .inl (cI, 24, .inl (fun _ => 0)))] s H _ := B
  refine k_putF (ty := (.array .int)) C B hin0 (Cn := RX0) (T := TX0) (N := 5) (ci := 0) (index := 9) iX0_init rfl tyX0 tyX0_ok nmX0 0 (by decide) (by decide +kernel) rfl rfl 0 (by decide +kernel) (by rfl) (by rfl) rfl (Nat.le_of_ble_eq_true rfl) dX0_init_9 (fun H locs B => ?_)
  have B : DB D A [(o, .inr (0, [.ref q0, .null, .null, .null, .null])), (q0, .inl (cI, 24, .inl (fun _ => 0)))] s H locs := B
  refine lv_aload_n hx hb dX0_init_12 rfl (lv_at hl 0 rfl) ?_
  refine lv_bipush (v := 24) hx hb dX0_init_13 (by decide) ?_
  refine k_newI C B (by decide +kernel) (by decide) (N' := 24) (by decide) (by decide) (Nat.le_of_ble_eq_true rfl) (Nat.le_of_ble_eq_true rfl) dX0_init_15 (fun q1 H B => ?_)
  have B : DB D A [(o, .inr (0, [.ref q0, .null, .null, .null, .null])), (q0, .inl (cI, 24, .inl (fun _ => 0))), (q1, .inl (cI, 24, .inl (fun _ => 0)))] s H _ := B
  refine k_putF (ty := (.array .int)) C B hin0 (Cn := RX0) (T := TX0) (N := 5) (ci := 0) (index := 15) iX0_init rfl tyX0 tyX0_ok nmX0 1 (by decide) (by decide +kernel) rfl rfl 0 (by decide +kernel) (by rfl) (by rfl) rfl (Nat.le_of_ble_eq_true rfl) dX0_init_17 (fun H locs B => ?_)
  have B : DB D A [(o, .inr (0, [.ref q0, .ref q1, .null, .null, .null])), (q0, .inl (cI, 24, .inl (fun _ => 0))), (q1, .inl (cI, 24, .inl (fun _ => 0)))] s H locs := B
  refine lv_aload_n hx hb dX0_init_20 rfl (lv_at hl 0 rfl) ?_
  refine lv_bipush (v := 14) hx hb dX0_init_21 (by decide) ?_
  refine k_newI C B (by decide +kernel) (by decide) (N' := 14) (by decide) (by decide) (Nat.le_of_ble_eq_true rfl) (Nat.le_of_ble_eq_true rfl) dX0_init_23 (fun q2 H B => ?_)
  have B : DB D A [(o, .inr (0, [.ref q0, .ref q1, .null, .null, .null])), (q0, .inl (cI, 24, .inl (fun _ => 0))), (q1, .inl (cI, 24, .inl (fun _ => 0))), (q2, .inl (cI, 14, .inl (fun _ => 0)))] s H _ := B
  refine k_putF (ty := (.array .int)) C B hin0 (Cn := RX0) (T := TX0) (N := 5) (ci := 0) (index := 18) iX0_init rfl tyX0 tyX0_ok nmX0 2 (by decide) (by decide +kernel) rfl rfl 0 (by decide +kernel) (by rfl) (by rfl) rfl (Nat.le_of_ble_eq_true rfl) dX0_init_25 (fun H locs B => ?_)
  have B : DB D A [(o, .inr (0, [.ref q0, .ref q1, .ref q2, .null, .null])), (q0, .inl (cI, 24, .inl (fun _ => 0))), (q1, .inl (cI, 24, .inl (fun _ => 0))), (q2, .inl (cI, 14, .inl (fun _ => 0)))] s H locs := B
  refine lv_aload_n hx hb dX0_init_28 rfl (lv_at hl 0 rfl) ?_
  refine lv_aload_n hx hb dX0_init_29 rfl (lv_at hl 1 rfl) ?_
  refine k_putF (ty := (.object "NoticeTests$Tests")) C B hin0 (Cn := RX0) (T := TX0) (N := 5) (ci := 0) (index := 21) iX0_init rfl tyX0 tyX0_ok nmX0 3 (by decide) (by decide +kernel) rfl rfl 0 (by decide +kernel) (by rfl) (by rfl) rfl (Nat.le_of_ble_eq_true rfl) dX0_init_30 (fun H locs B => ?_)
  have B : DB D A [(o, .inr (0, [.ref q0, .ref q1, .ref q2, .ref g0, .null])), (q0, .inl (cI, 24, .inl (fun _ => 0))), (q1, .inl (cI, 24, .inl (fun _ => 0))), (q2, .inl (cI, 14, .inl (fun _ => 0)))] s H locs := B
  refine lv_aload_n hx hb dX0_init_33 rfl (lv_at hl 0 rfl) ?_
  refine lv_aload_n hx hb dX0_init_34 rfl (lv_at hl 2 rfl) ?_
  refine k_putF (ty := (.object "NoticeTests$Worker")) C B hin0 (Cn := RX0) (T := TX0) (N := 5) (ci := 0) (index := 25) iX0_init rfl tyX0 tyX0_ok nmX0 4 (by decide) (by decide +kernel) rfl rfl 0 (by decide +kernel) (by rfl) (by rfl) rfl (Nat.le_of_ble_eq_true rfl) dX0_init_35 (fun H locs B => ?_)
  have B : DB D A [(o, .inr (0, [.ref q0, .ref q1, .ref q2, .ref g0, .ref g1])), (q0, .inl (cI, 24, .inl (fun _ => 0))), (q1, .inl (cI, 24, .inl (fun _ => 0))), (q2, .inl (cI, 14, .inl (fun _ => 0)))] s H locs := B
  refine W.widen (k := 3) (n := 62) (Nat.le_of_ble_eq_true rfl) (Nat.le_of_ble_eq_true rfl) ?_
  exact k_nret (w1 := fun u => wd_bl (fun k => if k = 32 then g0 else if k = 19 then g1 else u k) b cI cJ cT (fun _ => 0) (fun _ => 0) (fun _ => 0)) (Pu := fun u => u 41 = o) (fun k => if k = 41 then o else if k = 42 then q0 else if k = 43 then q1 else if k = 44 then q2 else if k = 32 then g0 else g1) (rfl) C B dX0_init_38

theorem hdX3_init : yX3_init.cls ≠ "java/lang/invoke/MethodHandle" ∧ yX3_init.cls ≠ "java/lang/invoke/VarHandle" ∧ (parseMethodDescriptor yX3_init.desc).map (fun d => d.parameters.length) = some 3 := by decide +kernel
abbrev rmX3_init : Room := { frames := 1, cells := 1, slots := 96, locals := 12 }
theorem iX3_init : ∀ w ∈ wsX30, w ∈ wsX3_init := by decide +kernel
set_option maxHeartbeats 4000000 in
set_option maxRecDepth 100000 in
theorem tX3_init {l : Launch} {D : va_G} {Es : (Nat → Nat) × (Nat → Nat)} {b : Nat → Nat} {cI cJ cT : ClassId} {o g0 g1 g2 : Nat} : CtN l yX3_init wsX3_init rmX3_init D (tyl cI cJ cT) Es [.ref o, .ref g0, .ref g1, .ref g2] [(o, .inr (3, [.null, .int 0, .null, .null, .null]))] (fun u => wd_me (fun k => if k = 28 then g0 else if k = 32 then g1 else if k = 24 then g2 else u k) b cI cJ cT (fun _ => 0) (0)) (fun u => u 45 = o) 1 96 := by
  refine CtN.of (own := RX3) (cc := cX3_init) (nL := 4) (ret := none) (lv := [(0, .ref o), (1, .ref g0), (2, .ref g1), (3, .ref g2)]) (by decide +kernel) rfl rfl rfl (Nat.le_of_ble_eq_true rfl) rfl ?_
  intro p e s m below meth c A ls hin0 hNw C B hl
  have hx := C.1.1
  have hb := C.1.2.1
  have hown := C.1.2.2.2.1
  have hts := C.1.2.2.2.2
  refine lv_aload_n hx hb dX3_init_0 rfl (lv_at hl 0 rfl) ?_
  refine k_obj C hl.1 (List.mem_of_getElem? (i := 1) rfl) (List.mem_of_getElem? (i := 2) rfl) (List.mem_of_getElem? (i := 3) rfl) dX3_init_1 (Nat.le_of_ble_eq_true rfl) (Nat.le_of_ble_eq_true rfl) ?_
  refine lv_aload_n hx hb dX3_init_4 rfl (lv_at hl 0 rfl) ?_
  refine lv_bipush (v := 96) hx hb dX3_init_5 (by decide) ?_
  refine k_newI C B (by decide +kernel) (by decide) (N' := 96) (by decide) (by decide) (Nat.le_of_ble_eq_true rfl) (Nat.le_of_ble_eq_true rfl) dX3_init_7 (fun q0 H B => ?_)
  have B : DB D A [(o, .inr (3, [.null, .int 0, .null, .null, .null])), (q0, .inl (cI, 96, .inl (fun _ => 0)))] s H _ := B
  refine k_putF (ty := (.array .int)) C B hin0 (Cn := RX3) (T := TX3) (N := 5) (ci := 3) (index := 9) iX3_init rfl tyX3 tyX3_ok nmX3 0 (by decide) (by decide +kernel) rfl rfl 0 (by decide +kernel) (by rfl) (by rfl) rfl (Nat.le_of_ble_eq_true rfl) dX3_init_9 (fun H locs B => ?_)
  have B : DB D A [(o, .inr (3, [.ref q0, .int 0, .null, .null, .null])), (q0, .inl (cI, 96, .inl (fun _ => 0)))] s H locs := B
  refine lv_aload_n hx hb dX3_init_12 rfl (lv_at hl 0 rfl) ?_
  refine lv_iconst (v := 0) hx hb dX3_init_13 (by decide) ?_
  refine k_put (ty := .int) C B (Cn := RX3) (T := TX3) (N := 5) (ci := 3) (index := 15) iX3_init rfl tyX3 tyX3_ok nmX3 1 (by decide) (by decide +kernel) rfl 0 (by decide +kernel) (by rfl) (by rfl) rfl (Nat.le_of_ble_eq_true rfl) dX3_init_14 (fun H locs B => ?_)
  have B : DB D A [(o, .inr (3, [.ref q0, .int 0, .null, .null, .null])), (q0, .inl (cI, 96, .inl (fun _ => 0)))] s H locs := B
  refine lv_aload_n hx hb dX3_init_17 rfl (lv_at hl 0 rfl) ?_
  refine lv_aload_n hx hb dX3_init_18 rfl (lv_at hl 1 rfl) ?_
  refine k_putF (ty := (.object "NoticeTests$Changes")) C B hin0 (Cn := RX3) (T := TX3) (N := 5) (ci := 3) (index := 19) iX3_init rfl tyX3 tyX3_ok nmX3 2 (by decide) (by decide +kernel) rfl rfl 0 (by decide +kernel) (by rfl) (by rfl) rfl (Nat.le_of_ble_eq_true rfl) dX3_init_19 (fun H locs B => ?_)
  have B : DB D A [(o, .inr (3, [.ref q0, .int 0, .ref g0, .null, .null])), (q0, .inl (cI, 96, .inl (fun _ => 0)))] s H locs := B
  refine lv_aload_n hx hb dX3_init_22 rfl (lv_at hl 0 rfl) ?_
  refine lv_aload_n hx hb dX3_init_23 rfl (lv_at hl 2 rfl) ?_
  refine k_putF (ty := (.object "NoticeTests$Tests")) C B hin0 (Cn := RX3) (T := TX3) (N := 5) (ci := 3) (index := 23) iX3_init rfl tyX3 tyX3_ok nmX3 3 (by decide) (by decide +kernel) rfl rfl 0 (by decide +kernel) (by rfl) (by rfl) rfl (Nat.le_of_ble_eq_true rfl) dX3_init_24 (fun H locs B => ?_)
  have B : DB D A [(o, .inr (3, [.ref q0, .int 0, .ref g0, .ref g1, .null])), (q0, .inl (cI, 96, .inl (fun _ => 0)))] s H locs := B
  refine lv_aload_n hx hb dX3_init_27 rfl (lv_at hl 0 rfl) ?_
  refine lv_aload_n hx hb dX3_init_28 rfl (lv_at hl 3 rfl) ?_
  refine k_putF (ty := (.object "NoticeTests$Results")) C B hin0 (Cn := RX3) (T := TX3) (N := 5) (ci := 3) (index := 27) iX3_init rfl tyX3 tyX3_ok nmX3 4 (by decide) (by decide +kernel) rfl rfl 0 (by decide +kernel) (by rfl) (by rfl) rfl (Nat.le_of_ble_eq_true rfl) dX3_init_29 (fun H locs B => ?_)
  have B : DB D A [(o, .inr (3, [.ref q0, .int 0, .ref g0, .ref g1, .ref g2])), (q0, .inl (cI, 96, .inl (fun _ => 0)))] s H locs := B
  refine W.widen (k := 1) (n := 96) (Nat.le_of_ble_eq_true rfl) (Nat.le_of_ble_eq_true rfl) ?_
  exact k_nret (w1 := fun u => wd_me (fun k => if k = 28 then g0 else if k = 32 then g1 else if k = 24 then g2 else u k) b cI cJ cT (fun _ => 0) (0)) (Pu := fun u => u 45 = o) (fun k => if k = 45 then o else if k = 46 then q0 else if k = 28 then g0 else if k = 32 then g1 else g2) (rfl) C B dX3_init_32

theorem hdX6_init : yX6_init.cls ≠ "java/lang/invoke/MethodHandle" ∧ yX6_init.cls ≠ "java/lang/invoke/VarHandle" ∧ (parseMethodDescriptor yX6_init.desc).map (fun d => d.parameters.length) = some 1 := by decide +kernel
abbrev rmX6_init : Room := { frames := 1, cells := 0, slots := 0, locals := 12 }
theorem iX6_init : ∀ w ∈ wsX60, w ∈ wsX6_init := by decide +kernel
set_option maxHeartbeats 4000000 in
set_option maxRecDepth 100000 in
theorem tX6_init {l : Launch} {D : va_G} {Es : (Nat → Nat) × (Nat → Nat)} {b : Nat → Nat} {cI cJ cT : ClassId} {o g0 : Nat} : CtN l yX6_init wsX6_init rmX6_init D (tyl cI cJ cT) Es [.ref o, .ref g0] [(o, .inr (6, [.int 0, .int 0, .null]))] (fun u => wd_pa (fun k => if k = 24 then g0 else u k) b cI cJ cT (0) (0)) (fun u => u 47 = o) 0 0 := by
  refine CtN.of (own := RX6) (cc := cX6_init) (nL := 2) (ret := none) (lv := [(0, .ref o), (1, .ref g0)]) (by decide +kernel) rfl rfl rfl (Nat.le_of_ble_eq_true rfl) rfl ?_
  intro p e s m below meth c A ls hin0 hNw C B hl
  have hx := C.1.1
  have hb := C.1.2.1
  have hown := C.1.2.2.2.1
  have hts := C.1.2.2.2.2
  refine lv_aload_n hx hb dX6_init_0 rfl (lv_at hl 0 rfl) ?_
  refine k_obj C hl.1 (List.mem_of_getElem? (i := 1) rfl) (List.mem_of_getElem? (i := 2) rfl) (List.mem_of_getElem? (i := 3) rfl) dX6_init_1 (Nat.le_of_ble_eq_true rfl) (Nat.le_of_ble_eq_true rfl) ?_
  refine lv_aload_n hx hb dX6_init_4 rfl (lv_at hl 0 rfl) ?_
  refine lv_iconst (v := 0) hx hb dX6_init_5 (by decide) ?_
  refine k_put (ty := .int) C B (Cn := RX6) (T := TX6) (N := 3) (ci := 6) (index := 9) iX6_init rfl tyX6 tyX6_ok nmX6 0 (by decide) (by decide +kernel) rfl 0 (by decide +kernel) (by rfl) (by rfl) rfl (Nat.le_of_ble_eq_true rfl) dX6_init_6 (fun H locs B => ?_)
  have B : DB D A [(o, .inr (6, [.int 0, .int 0, .null]))] s H locs := B
  refine lv_aload_n hx hb dX6_init_9 rfl (lv_at hl 0 rfl) ?_
  refine lv_iconst (v := 0) hx hb dX6_init_10 (by decide) ?_
  refine k_put (ty := .int) C B (Cn := RX6) (T := TX6) (N := 3) (ci := 6) (index := 15) iX6_init rfl tyX6 tyX6_ok nmX6 1 (by decide) (by decide +kernel) rfl 0 (by decide +kernel) (by rfl) (by rfl) rfl (Nat.le_of_ble_eq_true rfl) dX6_init_11 (fun H locs B => ?_)
  have B : DB D A [(o, .inr (6, [.int 0, .int 0, .null]))] s H locs := B
  refine lv_aload_n hx hb dX6_init_14 rfl (lv_at hl 0 rfl) ?_
  refine lv_aload_n hx hb dX6_init_15 rfl (lv_at hl 1 rfl) ?_
  refine k_putF (ty := (.object "NoticeTests$Results")) C B hin0 (Cn := RX6) (T := TX6) (N := 3) (ci := 6) (index := 18) iX6_init rfl tyX6 tyX6_ok nmX6 2 (by decide) (by decide +kernel) rfl rfl 0 (by decide +kernel) (by rfl) (by rfl) rfl (Nat.le_of_ble_eq_true rfl) dX6_init_16 (fun H locs B => ?_)
  have B : DB D A [(o, .inr (6, [.int 0, .int 0, .ref g0]))] s H locs := B
  refine W.widen (k := 0) (n := 0) (Nat.le_of_ble_eq_true rfl) (Nat.le_of_ble_eq_true rfl) ?_
  exact k_nret (w1 := fun u => wd_pa (fun k => if k = 24 then g0 else u k) b cI cJ cT (0) (0)) (Pu := fun u => u 47 = o) (fun k => if k = 47 then o else g0) (rfl) C B dX6_init_19
