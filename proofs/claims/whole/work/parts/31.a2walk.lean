theorem isT_some {N : Nat} {n x r : Int32} (h : fX11_isTest N n x = some r) (hr : ¬ r = 0) : ¬ (x < 0 ∨ n ≤ x) := by
  rw [fX11_isTest] at h
  rintro (c | c)
  · rw [if_pos c] at h; cases h; exact hr rfl
  · by_cases d : x < 0
    · rw [if_pos d] at h; cases h; exact hr rfl
    · rw [if_neg d, if_pos c] at h; cases h; exact hr rfl
abbrev rmX2_settle (mc ms : Nat) : Room := { frames := 2, cells := mc, slots := ms, locals := 48 }
theorem hdX2_settle : yX2_settle.cls ≠ "java/lang/invoke/MethodHandle" ∧ yX2_settle.cls ≠ "java/lang/invoke/VarHandle" ∧ (parseMethodDescriptor yX2_settle.desc).map (fun d => d.parameters.length) = some 0 := by decide +kernel
theorem iX2_settle_X2 : ∀ w ∈ wsX20, w ∈ wsX2_settle := by decide +kernel
theorem pfX2_settle_25 {p : Program} {l : Launch} {e : Env} {R : Room} {s : State} {m : MethodId} {args : Array Value} {below : List Frame} {meth : Method} {c : Code} {H : Heap} {locs : List Loc} {cells slots : Nat} {Q : State → Prop} {D : va_G} {A : Nat → Prop} {tys : List (ClassId × FieldType)} {Es : (Nat → Nat) × (Nat → Nat)} {ws : va_W} {pc : Nat} {ls : Array Slot} {rest : List Value} {a : Nat} (C : CT p s m args meth c RX2 cX2_settle 2 none wsX2_settle D A tys Es) (B : DB D A ws s H locs) (q0 : Nat) {fs : List Value} {v : Value} (hn : narrow .boolean v = v) (hfit : fits .boolean v = true) (he : ws[q0]? = some (a, .inr (2, fs))) (hl : 4 < fs.length) (hdg : decode cX2_settle pc = .ok (.putfield 25, 3)) (kk : ∀ (H1 : Heap) (locs1 : List Loc), DB D A (ws.set q0 (a, .inr (2, fs.set 4 v))) s H1 locs1 → W p l e R s m args below meth c H1 locs1 cells slots Q (F0 m (pc + 3) ls rest)) : W p l e R s m args below meth c H locs cells slots Q (F0 m pc ls (v :: .ref a :: rest)) :=
  k_put (Cn := RX2) (T := TX2) (N := 8) (index := 25) C B iX2_settle_X2 rfl tyX2 tyX2_ok nmX2 4 (by decide) (by decide +kernel) rfl q0 (by decide +kernel) hn hfit he hl hdg kk
theorem gfX2_settle_25 {p : Program} {l : Launch} {e : Env} {R : Room} {s : State} {m : MethodId} {args : Array Value} {below : List Frame} {meth : Method} {c : Code} {H : Heap} {locs : List Loc} {cells slots : Nat} {Q : State → Prop} {D : va_G} {A : Nat → Prop} {tys : List (ClassId × FieldType)} {Es : (Nat → Nat) × (Nat → Nat)} {ws : va_W} {pc : Nat} {ls : Array Slot} {rest : List Value} {a : Nat} (C : CT p s m args meth c RX2 cX2_settle 2 none wsX2_settle D A tys Es) (B : DB D A ws s H locs) (q0 : Nat) {fs : List Value} {v : Value} (he : ws[q0]? = some (a, .inr (2, fs))) (hv : fs[4]? = some v) (hdg : decode cX2_settle pc = .ok (.getfield 25, 3)) (kk : W p l e R s m args below meth c H locs cells slots Q (F0 m (pc + 3) ls (v :: rest))) : W p l e R s m args below meth c H locs cells slots Q (F0 m pc ls (.ref a :: rest)) :=
  k_get (Cn := RX2) (T := TX2) (N := 8) (index := 25) C B iX2_settle_X2 rfl 4 (by decide) (by decide +kernel) q0 he hv hdg kk
theorem gfX2_settle_33 {p : Program} {l : Launch} {e : Env} {R : Room} {s : State} {m : MethodId} {args : Array Value} {below : List Frame} {meth : Method} {c : Code} {H : Heap} {locs : List Loc} {cells slots : Nat} {Q : State → Prop} {D : va_G} {A : Nat → Prop} {tys : List (ClassId × FieldType)} {Es : (Nat → Nat) × (Nat → Nat)} {ws : va_W} {pc : Nat} {ls : Array Slot} {rest : List Value} {a : Nat} (C : CT p s m args meth c RX2 cX2_settle 2 none wsX2_settle D A tys Es) (B : DB D A ws s H locs) (q0 : Nat) {fs : List Value} {v : Value} (he : ws[q0]? = some (a, .inr (2, fs))) (hv : fs[6]? = some v) (hdg : decode cX2_settle pc = .ok (.getfield 33, 3)) (kk : W p l e R s m args below meth c H locs cells slots Q (F0 m (pc + 3) ls (v :: rest))) : W p l e R s m args below meth c H locs cells slots Q (F0 m pc ls (.ref a :: rest)) :=
  k_get (Cn := RX2) (T := TX2) (N := 8) (index := 33) C B iX2_settle_X2 rfl 6 (by decide) (by decide +kernel) q0 he hv hdg kk
theorem iX2_settle_X8 : ∀ w ∈ wsX80, w ∈ wsX2_settle := by decide +kernel
theorem gfX2_settle_44 {p : Program} {l : Launch} {e : Env} {R : Room} {s : State} {m : MethodId} {args : Array Value} {below : List Frame} {meth : Method} {c : Code} {H : Heap} {locs : List Loc} {cells slots : Nat} {Q : State → Prop} {D : va_G} {A : Nat → Prop} {tys : List (ClassId × FieldType)} {Es : (Nat → Nat) × (Nat → Nat)} {ws : va_W} {pc : Nat} {ls : Array Slot} {rest : List Value} {a : Nat} (C : CT p s m args meth c RX2 cX2_settle 2 none wsX2_settle D A tys Es) (B : DB D A ws s H locs) (q0 : Nat) {fs : List Value} {v : Value} (he : ws[q0]? = some (a, .inr (8, fs))) (hv : fs[2]? = some v) (hdg : decode cX2_settle pc = .ok (.getfield 44, 3)) (kk : W p l e R s m args below meth c H locs cells slots Q (F0 m (pc + 3) ls (v :: rest))) : W p l e R s m args below meth c H locs cells slots Q (F0 m pc ls (.ref a :: rest)) :=
  k_get (Cn := RX8) (T := TX8) (N := 4) (index := 44) C B iX2_settle_X8 rfl 2 (by decide) (by decide +kernel) q0 he hv hdg kk
theorem gfX2_settle_9 {p : Program} {l : Launch} {e : Env} {R : Room} {s : State} {m : MethodId} {args : Array Value} {below : List Frame} {meth : Method} {c : Code} {H : Heap} {locs : List Loc} {cells slots : Nat} {Q : State → Prop} {D : va_G} {A : Nat → Prop} {tys : List (ClassId × FieldType)} {Es : (Nat → Nat) × (Nat → Nat)} {ws : va_W} {pc : Nat} {ls : Array Slot} {rest : List Value} {a : Nat} (C : CT p s m args meth c RX2 cX2_settle 2 none wsX2_settle D A tys Es) (B : DB D A ws s H locs) (q0 : Nat) {fs : List Value} {v : Value} (he : ws[q0]? = some (a, .inr (2, fs))) (hv : fs[0]? = some v) (hdg : decode cX2_settle pc = .ok (.getfield 9, 3)) (kk : W p l e R s m args below meth c H locs cells slots Q (F0 m (pc + 3) ls (v :: rest))) : W p l e R s m args below meth c H locs cells slots Q (F0 m pc ls (.ref a :: rest)) :=
  k_get (Cn := RX2) (T := TX2) (N := 8) (index := 9) C B iX2_settle_X2 rfl 0 (by decide) (by decide +kernel) q0 he hv hdg kk
theorem mX2_settle_ai : (Cond.arrayClass .int) ∈ wsX2_settle := by decide +kernel
theorem pfX2_settle_9 {p : Program} {l : Launch} {e : Env} {R : Room} {s : State} {m : MethodId} {args : Array Value} {below : List Frame} {meth : Method} {c : Code} {H : Heap} {locs : List Loc} {cells slots : Nat} {Q : State → Prop} {D : va_G} {A : Nat → Prop} {tys : List (ClassId × FieldType)} {Es : (Nat → Nat) × (Nat → Nat)} {ws : va_W} {pc : Nat} {ls : Array Slot} {rest : List Value} {a : Nat} (C : CT p s m args meth c RX2 cX2_settle 2 none wsX2_settle D A tys Es) (B : DB D A ws s H locs) (q0 : Nat) {fs : List Value} {v : Value} (hn : narrow (.array .int) v = v) (hfit : fits (.array .int) v = true) (he : ws[q0]? = some (a, .inr (2, fs))) (hl : 0 < fs.length) (hdg : decode cX2_settle pc = .ok (.putfield 9, 3)) (kk : ∀ (H1 : Heap) (locs1 : List Loc), DB D A (ws.set q0 (a, .inr (2, fs.set 0 v))) s H1 locs1 → W p l e R s m args below meth c H1 locs1 cells slots Q (F0 m (pc + 3) ls rest)) : W p l e R s m args below meth c H locs cells slots Q (F0 m pc ls (v :: .ref a :: rest)) :=
  k_put (Cn := RX2) (T := TX2) (N := 8) (index := 9) C B iX2_settle_X2 rfl tyX2 tyX2_ok nmX2 0 (by decide) (by decide +kernel) rfl q0 (by decide +kernel) hn hfit he hl hdg kk
section
variable {p : Program} {l : Launch} {e : Env} {s : State} {m : MethodId} {args : Array Value} {below : List Frame} {meth : Method} {c : Code} {D : va_G} {A : Nat → Prop} {Es : (Nat → Nat) × (Nat → Nat)} {a b : Nat → Nat} {cI cJ cT : ClassId}
set_option maxHeartbeats 4000000 in
set_option maxRecDepth 100000 in
theorem qX2_settle_34 (C : CT p s m args meth c RX2 cX2_settle 2 none wsX2_settle D A (tyl cI cJ cT) Es) {N : Nat} {ch_nodes : Nat → Int32} {ch_signs : Nat → Int32} {ch_felt : Nat → Int32} {ch_count : Int32} {te_inputs : Nat → Int32} {te_dues : Nat → Int32} {te_count : Int32} {no_bits : Nat → Int32} {no_wishedInputs : Int32} {no_wishedMany : Int32} {no_hiddenUnlike : Nat → Int64} {fw_wa : Nat} {z_fw_waits : Nat → Int32} {z_fw_wl : Nat} {z_fw_order : Nat → Int32} {z_fw_sum : Int32} {z_fw_set : Int32} {z_fw_fresh : Int32} {mc ms : Nat} : ∀ (x1 : Int32) (fw_waits : Nat → Int32) (fw_wl : Nat) (fw_order : Nat → Int32) (fw_sum : Int32) (fw_set : Int32) (fw_fresh : Int32), bX2_settle_34 N ch_count te_count no_bits x1 fw_waits fw_wl fw_order fw_sum fw_set fw_fresh = some (z_fw_waits, z_fw_wl, z_fw_order, z_fw_sum, z_fw_set, z_fw_fresh) → ∀ (H : Heap) (locs : List Loc) (ls : Array Slot), DB D A (wd_ch_te_no_fw a b cI cJ cT ch_nodes ch_signs ch_felt ch_count te_inputs te_dues te_count no_bits no_wishedInputs no_wishedMany no_hiddenUnlike fw_waits fw_wl fw_wa fw_order fw_sum fw_set fw_fresh) s H locs → lv_has ls 2 [(0, .ref (a 38)), (1, .int x1)] → W p l e (rmX2_settle mc ms) s m args below meth c H locs mc ms (ZVq below args s D A (tyl cI cJ cT) (fun q => (wd_ch_te_no_fw a b cI cJ cT ch_nodes ch_signs ch_felt ch_count te_inputs te_dues te_count no_bits no_wishedInputs no_wishedMany no_hiddenUnlike z_fw_waits z_fw_wl q z_fw_order z_fw_sum z_fw_set z_fw_fresh)) mc ms) (F0 m 34 ls []) := by
  have hx := C.1.1
  have hb := C.1.2.1
  have hown := C.1.2.2.2.1
  have hts := C.1.2.2.2.2
  intro x1 fw_waits fw_wl fw_order fw_sum fw_set fw_fresh h H locs ls B hl
  rw [bX2_settle_34] at h
  refine lv_aload_n hx hb dX2_settle_34 rfl (lv_at hl 0 rfl) ?_
  refine lv_iload_n hx hb dX2_settle_35 rfl (lv_at hl 1 rfl) ?_
  obtain ⟨fw_waits_1, g_9, h⟩ := ob_some h
  try dsimp only at h
  refine kc_VV C B (q0 := 10) (ci := 2) (As := [.int x1]) (rest := []) (w2 := (wd_ch_te_no_fw a b cI cJ cT ch_nodes ch_signs ch_felt ch_count te_inputs te_dues te_count no_bits no_wishedInputs no_wishedMany no_hiddenUnlike fw_waits_1 fw_wl fw_wa fw_order fw_sum fw_set fw_fresh)) (tX2_countWaiting (a := a) (b := b) N g_9) gX2_settle_X2_countWaiting rfl ⟨rfl, rfl⟩ ⟨rfl, hdX2_countWaiting⟩ ⟨Nat.le_of_ble_eq_true rfl, Nat.le_of_ble_eq_true rfl⟩ rfl rfl [0, 1, 2, 3, 4, 5, 6, 7, 8, 9, 10, 11, 12] [] [0, 1, 2, 3, 4, 5, 6, 7, 8, 9, 10, 11, 12] rfl rfl rfl rfl rfl rfl rfl rfl hl.1 rfl (Nat.le_of_ble_eq_true rfl) ⟨Nat.le_refl _, Nat.le_refl _⟩ dX2_settle_36 (fun H locs B => ?_)
  refine lv_aload_n hx hb dX2_settle_39 rfl (lv_at hl 0 rfl) ?_
  refine lv_iload_n hx hb dX2_settle_40 rfl (lv_at hl 1 rfl) ?_
  obtain ⟨fw_waits_2, g_8, h⟩ := ob_some h
  try dsimp only at h
  refine kc_VV C B (q0 := 3) (ci := 2) (As := [.int x1]) (rest := []) (w2 := (wd_ch_te_no_fw a b cI cJ cT ch_nodes ch_signs ch_felt ch_count te_inputs te_dues te_count no_bits no_wishedInputs no_wishedMany no_hiddenUnlike fw_waits_2 fw_wl fw_wa fw_order fw_sum fw_set fw_fresh)) (tX2_addLaterTurns (a := a) (b := b) N g_8) gX2_settle_X2_addLaterTurns rfl ⟨rfl, rfl⟩ ⟨rfl, hdX2_addLaterTurns⟩ ⟨Nat.le_of_ble_eq_true rfl, Nat.le_of_ble_eq_true rfl⟩ rfl rfl [4, 5, 6, 10, 11, 12] [0, 1, 2, 3, 7, 8, 9] [0, 1, 2, 3, 7, 8, 9, 4, 5, 6, 10, 11, 12] rfl rfl rfl rfl rfl rfl rfl rfl hl.1 rfl (Nat.le_of_ble_eq_true rfl) ⟨Nat.le_refl _, Nat.le_refl _⟩ dX2_settle_41 (fun H locs B => ?_)
  refine lv_aload_n hx hb dX2_settle_44 rfl (lv_at hl 0 rfl) ?_
  refine lv_iload_n hx hb dX2_settle_45 rfl (lv_at hl 1 rfl) ?_
  obtain ⟨fw_set_3, g_7, h⟩ := ob_some h
  try dsimp only at h
  refine kc_VV C B (q0 := 0) (ci := 2) (As := [.int x1]) (rest := []) (w2 := (wd_ch_te_no_fw a b cI cJ cT ch_nodes ch_signs ch_felt ch_count te_inputs te_dues te_count no_bits no_wishedInputs no_wishedMany no_hiddenUnlike fw_waits_2 fw_wl fw_wa fw_order fw_sum fw_set_3 fw_fresh)) (tX2_findSet (a := a) (b := b) N g_7) gX2_settle_X2_findSet rfl ⟨rfl, rfl⟩ ⟨rfl, hdX2_findSet⟩ ⟨Nat.le_of_ble_eq_true rfl, Nat.le_of_ble_eq_true rfl⟩ rfl rfl [10, 11, 12] [0, 1, 2, 3, 4, 5, 6, 7, 8, 9] [0, 1, 2, 3, 4, 5, 6, 7, 8, 9, 10, 11, 12] rfl rfl rfl rfl rfl rfl rfl rfl hl.1 rfl (Nat.le_of_ble_eq_true rfl) ⟨Nat.le_refl _, Nat.le_refl _⟩ dX2_settle_46 (fun H locs B => ?_)
  refine lv_aload_n hx hb dX2_settle_49 rfl (lv_at hl 0 rfl) ?_
  refine lv_iload_n hx hb dX2_settle_50 rfl (lv_at hl 1 rfl) ?_
  obtain ⟨⟨fw_order_4, fw_sum_5⟩, g_6, h⟩ := ob_some h
  try dsimp only at h
  refine kc_VV C B (q0 := 3) (ci := 2) (As := [.int x1]) (rest := []) (w2 := (wd_ch_te_no_fw a b cI cJ cT ch_nodes ch_signs ch_felt ch_count te_inputs te_dues te_count no_bits no_wishedInputs no_wishedMany no_hiddenUnlike fw_waits_2 fw_wl fw_wa fw_order_4 fw_sum_5 fw_set_3 fw_fresh)) (tX2_findOrder (a := a) (b := b) N g_6) gX2_settle_X2_findOrder rfl ⟨rfl, rfl⟩ ⟨rfl, hdX2_findOrder⟩ ⟨Nat.le_of_ble_eq_true rfl, Nat.le_of_ble_eq_true rfl⟩ rfl rfl [4, 5, 6, 10, 11, 12] [0, 1, 2, 3, 7, 8, 9] [0, 1, 2, 3, 7, 8, 9, 4, 5, 6, 10, 11, 12] rfl rfl rfl rfl rfl rfl rfl rfl hl.1 rfl (Nat.le_of_ble_eq_true rfl) ⟨Nat.le_refl _, Nat.le_refl _⟩ dX2_settle_51 (fun H locs B => ?_)
  refine lv_aload_n hx hb dX2_settle_54 rfl (lv_at hl 0 rfl) ?_
  refine lv_iconst (v := 1) hx hb dX2_settle_55 (by decide) ?_
  refine pfX2_settle_25 C B 10 (by decide) (by rfl) rfl (Nat.le_of_ble_eq_true rfl) dX2_settle_56 (fun H locs B => ?_)
  have B : DB D A (wd_ch_te_no_fw a b cI cJ cT ch_nodes ch_signs ch_felt ch_count te_inputs te_dues te_count no_bits no_wishedInputs no_wishedMany no_hiddenUnlike fw_waits_2 fw_wl fw_wa fw_order_4 fw_sum_5 fw_set_3 (1 : Int32)) s H locs := B
  cases h
  exact k_vretq (q := fw_wa) C B dX2_settle_59
set_option maxHeartbeats 4000000 in
set_option maxRecDepth 100000 in
theorem qX2_settle_0 (C : CT p s m args meth c RX2 cX2_settle 2 none wsX2_settle D A (tyl cI cJ cT) Es) {N : Nat} {ch_nodes : Nat → Int32} {ch_signs : Nat → Int32} {ch_felt : Nat → Int32} {ch_count : Int32} {te_inputs : Nat → Int32} {te_dues : Nat → Int32} {te_count : Int32} {no_bits : Nat → Int32} {no_wishedInputs : Int32} {no_wishedMany : Int32} {no_hiddenUnlike : Nat → Int64} {fw_waits : Nat → Int32} {fw_wl : Nat} {fw_wa : Nat} {fw_order : Nat → Int32} {fw_sum : Int32} {fw_set : Int32} {fw_fresh : Int32} {z_fw_waits : Nat → Int32} {z_fw_wl : Nat} {z_fw_order : Nat → Int32} {z_fw_sum : Int32} {z_fw_set : Int32} {z_fw_fresh : Int32} {mc ms : Nat} (hA : stA fw_fresh te_count fw_wl = (mc, ms)) : fX2_settle N ch_count te_count no_bits fw_waits fw_wl fw_order fw_sum fw_set fw_fresh = some (z_fw_waits, z_fw_wl, z_fw_order, z_fw_sum, z_fw_set, z_fw_fresh) → ∀ (H : Heap) (locs : List Loc) (ls : Array Slot), DB D A (wd_ch_te_no_fw a b cI cJ cT ch_nodes ch_signs ch_felt ch_count te_inputs te_dues te_count no_bits no_wishedInputs no_wishedMany no_hiddenUnlike fw_waits fw_wl fw_wa fw_order fw_sum fw_set fw_fresh) s H locs → lv_has ls 2 [(0, .ref (a 38))] → W p l e (rmX2_settle mc ms) s m args below meth c H locs 0 0 (ZVq below args s D A (tyl cI cJ cT) (fun q => (wd_ch_te_no_fw a b cI cJ cT ch_nodes ch_signs ch_felt ch_count te_inputs te_dues te_count no_bits no_wishedInputs no_wishedMany no_hiddenUnlike z_fw_waits z_fw_wl q z_fw_order z_fw_sum z_fw_set z_fw_fresh)) mc ms) (F0 m 0 ls []) := by
  have hx := C.1.1
  have hb := C.1.2.1
  have hown := C.1.2.2.2.1
  have hts := C.1.2.2.2.2
  intro h H locs ls B hl
  rw [fX2_settle] at h
  refine lv_aload_n hx hb dX2_settle_0 rfl (lv_at hl 0 rfl) ?_
  refine gfX2_settle_25 C B 10 rfl rfl dX2_settle_1 ?_
  refine lv_if_eq (tgt := 8) hx hb dX2_settle_4 (by decide) (fun c_1 => ?_) (fun c_1 => ?_)
  · rw [if_pos c_1] at h
    refine lv_iconst (v := 1) hx hb dX2_settle_8 (by decide) ?_
    refine lv_aload_n hx hb dX2_settle_9 rfl (lv_at hl 0 rfl) ?_
    refine gfX2_settle_33 C B 10 rfl rfl dX2_settle_10 ?_
    refine gfX2_settle_44 C B 4 rfl rfl dX2_settle_13 ?_
    refine lv_ishl hx hb dX2_settle_16 ?_
    refine lv_istore_n (lv' := [(1, .int ((1 : Int32) <<< (te_count &&& 31))), (0, .ref (a 38))]) hx hb dX2_settle_17 rfl hl (by decide) rfl (fun ls hl => ?_)
    refine lv_aload_n hx hb dX2_settle_18 rfl (lv_at hl 1 rfl) ?_
    refine gfX2_settle_9 C B 10 rfl rfl dX2_settle_19 ?_
    refine k_alen C B 11 0 rfl rfl dX2_settle_22 ?_
    refine lv_iload_n hx hb dX2_settle_23 rfl (lv_at hl 0 rfl) ?_
    refine lv_icmp_ge (tgt := 34) hx hb dX2_settle_24 (by decide) (fun c_2 => ?_) (fun c_2 => ?_)
    · rw [if_pos c_2] at h
      refine W.widen (k := mc) (n := ms) (Nat.zero_le _) (Nat.zero_le _) ?_
      exact qX2_settle_34 C ((1 : Int32) <<< (te_count &&& 31)) fw_waits fw_wl fw_order fw_sum fw_set fw_fresh h H locs ls B (lv_sub hl [1, 0] rfl)
    · rw [if_neg c_2] at h
      refine lv_aload_n hx hb dX2_settle_27 rfl (lv_at hl 1 rfl) ?_
      refine lv_iload_n hx hb dX2_settle_28 rfl (lv_at hl 0 rfl) ?_
      obtain ⟨al1, al2, h⟩ := alg_some h
      rw [stA, if_pos c_1, if_neg c_2] at hA
      cases hA
      refine k_newI C B mX2_settle_ai al1 rfl (by omega) (Nat.le_refl 1) (Nat.le_of_eq (Nat.zero_add _)) dX2_settle_29 (fun q H B => ?_)
      refine pfX2_settle_9 C B 10 rfl rfl rfl (Nat.le_of_ble_eq_true rfl) dX2_settle_31 (fun H locs B => ?_)
      have B : DB D A (wd_ch_te_no_fw a b cI cJ cT ch_nodes ch_signs ch_felt ch_count te_inputs te_dues te_count no_bits no_wishedInputs no_wishedMany no_hiddenUnlike (fun _ => 0) (Int32.toNatClampNeg ((1 : Int32) <<< (te_count &&& 31))) q fw_order fw_sum fw_set fw_fresh) s H locs := DB.sub B [0, 1, 2, 3, 4, 5, 6, 7, 8, 9, 10, 13, 12] rfl rfl
      refine W.widen (k := 1) (n := _) (Nat.le_refl 1) (Nat.le_of_eq (Nat.zero_add _)) ?_
      exact qX2_settle_34 C ((1 : Int32) <<< (te_count &&& 31)) (fun _ => 0) (Int32.toNatClampNeg ((1 : Int32) <<< (te_count &&& 31))) fw_order fw_sum fw_set fw_fresh h H locs ls B (lv_sub hl [1, 0] rfl)
  · rw [if_neg c_1] at h
    cases h
    refine W.widen (k := mc) (n := ms) (Nat.zero_le _) (Nat.zero_le _) ?_
    exact k_vretq (q := fw_wa) C B dX2_settle_7
end
theorem tX2_settle {l : Launch} {D : va_G} {Es : (Nat → Nat) × (Nat → Nat)} {a b : Nat → Nat} {cI cJ cT : ClassId} {ch_nodes : Nat → Int32} {ch_signs : Nat → Int32} {ch_felt : Nat → Int32} {ch_count : Int32} {te_inputs : Nat → Int32} {te_dues : Nat → Int32} {te_count : Int32} {no_bits : Nat → Int32} {no_wishedInputs : Int32} {no_wishedMany : Int32} {no_hiddenUnlike : Nat → Int64} {fw_waits : Nat → Int32} {fw_wl : Nat} {fw_wa : Nat} {fw_order : Nat → Int32} {fw_sum : Int32} {fw_set : Int32} {fw_fresh : Int32} {z_fw_waits : Nat → Int32} {z_fw_wl : Nat} {z_fw_order : Nat → Int32} {z_fw_sum : Int32} {z_fw_set : Int32} {z_fw_fresh : Int32} {mc ms : Nat} (N : Nat) (h : fX2_settle N ch_count te_count no_bits fw_waits fw_wl fw_order fw_sum fw_set fw_fresh = some (z_fw_waits, z_fw_wl, z_fw_order, z_fw_sum, z_fw_set, z_fw_fresh)) (hA : stA fw_fresh te_count fw_wl = (mc, ms)) : CtVq l yX2_settle wsX2_settle (rmX2_settle mc ms) D (tyl cI cJ cT) Es [.ref (a 38)] (wd_ch_te_no_fw a b cI cJ cT ch_nodes ch_signs ch_felt ch_count te_inputs te_dues te_count no_bits no_wishedInputs no_wishedMany no_hiddenUnlike fw_waits fw_wl fw_wa fw_order fw_sum fw_set fw_fresh) (fun q => (wd_ch_te_no_fw a b cI cJ cT ch_nodes ch_signs ch_felt ch_count te_inputs te_dues te_count no_bits no_wishedInputs no_wishedMany no_hiddenUnlike z_fw_waits z_fw_wl q z_fw_order z_fw_sum z_fw_set z_fw_fresh)) mc ms :=
  CtVq.of (own := RX2) (cc := cX2_settle) (nL := 2) (ret := none) (by decide +kernel) rfl rfl (Nat.le_of_ble_eq_true rfl) rfl (fun p e s m below meth c A ls C B hl => qX2_settle_0 C (N := N) hA h _ _ _ B hl)

abbrev rmX2_leastSet (mc ms : Nat) : Room := { frames := 3, cells := mc, slots := ms, locals := 69 }
theorem hdX2_leastSet : yX2_leastSet.cls ≠ "java/lang/invoke/MethodHandle" ∧ yX2_leastSet.cls ≠ "java/lang/invoke/VarHandle" ∧ (parseMethodDescriptor yX2_leastSet.desc).map (fun d => d.parameters.length) = some 0 := by decide +kernel
theorem iX2_leastSet_X2 : ∀ w ∈ wsX20, w ∈ wsX2_leastSet := by decide +kernel
theorem gfX2_leastSet_22 {p : Program} {l : Launch} {e : Env} {R : Room} {s : State} {m : MethodId} {args : Array Value} {below : List Frame} {meth : Method} {c : Code} {H : Heap} {locs : List Loc} {cells slots : Nat} {Q : State → Prop} {D : va_G} {A : Nat → Prop} {tys : List (ClassId × FieldType)} {Es : (Nat → Nat) × (Nat → Nat)} {ws : va_W} {pc : Nat} {ls : Array Slot} {rest : List Value} {a : Nat} (C : CT p s m args meth c RX2 cX2_leastSet 1 (some .int) wsX2_leastSet D A tys Es) (B : DB D A ws s H locs) (q0 : Nat) {fs : List Value} {v : Value} (he : ws[q0]? = some (a, .inr (2, fs))) (hv : fs[3]? = some v) (hdg : decode cX2_leastSet pc = .ok (.getfield 22, 3)) (kk : W p l e R s m args below meth c H locs cells slots Q (F0 m (pc + 3) ls (v :: rest))) : W p l e R s m args below meth c H locs cells slots Q (F0 m pc ls (.ref a :: rest)) :=
  k_get (Cn := RX2) (T := TX2) (N := 8) (index := 22) C B iX2_leastSet_X2 rfl 3 (by decide) (by decide +kernel) q0 he hv hdg kk
section
variable {p : Program} {l : Launch} {e : Env} {s : State} {m : MethodId} {args : Array Value} {below : List Frame} {meth : Method} {c : Code} {D : va_G} {A : Nat → Prop} {Es : (Nat → Nat) × (Nat → Nat)} {a b : Nat → Nat} {cI cJ cT : ClassId}
set_option maxHeartbeats 4000000 in
set_option maxRecDepth 100000 in
theorem qX2_leastSet_0 (C : CT p s m args meth c RX2 cX2_leastSet 1 (some .int) wsX2_leastSet D A (tyl cI cJ cT) Es) {N : Nat} {ch_nodes : Nat → Int32} {ch_signs : Nat → Int32} {ch_felt : Nat → Int32} {ch_count : Int32} {te_inputs : Nat → Int32} {te_dues : Nat → Int32} {te_count : Int32} {no_bits : Nat → Int32} {no_wishedInputs : Int32} {no_wishedMany : Int32} {no_hiddenUnlike : Nat → Int64} {fw_waits : Nat → Int32} {fw_wl : Nat} {fw_wa : Nat} {fw_order : Nat → Int32} {fw_sum : Int32} {fw_set : Int32} {fw_fresh : Int32} {z_r : Int32} {z_fw_waits : Nat → Int32} {z_fw_wl : Nat} {z_fw_order : Nat → Int32} {z_fw_sum : Int32} {z_fw_set : Int32} {z_fw_fresh : Int32} {mc ms : Nat} (hA : stA fw_fresh te_count fw_wl = (mc, ms)) : fX2_leastSet N ch_count te_count no_bits fw_waits fw_wl fw_order fw_sum fw_set fw_fresh = some (z_r, z_fw_waits, z_fw_wl, z_fw_order, z_fw_sum, z_fw_set, z_fw_fresh) → ∀ (H : Heap) (locs : List Loc) (ls : Array Slot), DB D A (wd_ch_te_no_fw a b cI cJ cT ch_nodes ch_signs ch_felt ch_count te_inputs te_dues te_count no_bits no_wishedInputs no_wishedMany no_hiddenUnlike fw_waits fw_wl fw_wa fw_order fw_sum fw_set fw_fresh) s H locs → lv_has ls 1 [(0, .ref (a 38))] → W p l e (rmX2_leastSet mc ms) s m args below meth c H locs 0 0 (ZIq below args s D A (tyl cI cJ cT) z_r (fun q => (wd_ch_te_no_fw a b cI cJ cT ch_nodes ch_signs ch_felt ch_count te_inputs te_dues te_count no_bits no_wishedInputs no_wishedMany no_hiddenUnlike z_fw_waits z_fw_wl q z_fw_order z_fw_sum z_fw_set z_fw_fresh)) mc ms) (F0 m 0 ls []) := by
  have hx := C.1.1
  have hb := C.1.2.1
  have hown := C.1.2.2.2.1
  have hts := C.1.2.2.2.2
  intro h H locs ls B hl
  rw [fX2_leastSet] at h
  refine lv_aload_n hx hb dX2_leastSet_0 rfl (lv_at hl 0 rfl) ?_
  obtain ⟨⟨fw_waits_1, fw_wl_2, fw_order_3, fw_sum_4, fw_set_5, fw_fresh_6⟩, g_7, h⟩ := ob_some h
  try dsimp only at h
  refine kc_VVq C B (q0 := 10) (ci := 2) (As := []) (rest := []) (w2 := fun q => (wd_ch_te_no_fw a b cI cJ cT ch_nodes ch_signs ch_felt ch_count te_inputs te_dues te_count no_bits no_wishedInputs no_wishedMany no_hiddenUnlike fw_waits_1 fw_wl_2 q fw_order_3 fw_sum_4 fw_set_5 fw_fresh_6)) (tX2_settle (a := a) (b := b) N g_7 hA) gX2_leastSet_X2_settle rfl ⟨rfl, rfl⟩ ⟨rfl, hdX2_settle⟩ ⟨Nat.le_of_ble_eq_true rfl, Nat.le_of_ble_eq_true rfl⟩ rfl rfl [0, 1, 2, 3, 4, 5, 6, 7, 8, 9, 10, 11, 12] [] [0, 1, 2, 3, 4, 5, 6, 7, 8, 9, 10, 11, 12] rfl rfl rfl rfl rfl (fun _ => rfl) rfl rfl hl.1 rfl (Nat.le_of_ble_eq_true rfl) ⟨Nat.le_of_eq (Nat.zero_add _), Nat.le_of_eq (Nat.zero_add _)⟩ dX2_leastSet_1 (fun wa_8 H locs B => ?_)
  refine W.widen (k := mc) (n := ms) (Nat.le_of_eq (Nat.zero_add _)) (Nat.le_of_eq (Nat.zero_add _)) ?_
  refine lv_aload_n hx hb dX2_leastSet_4 rfl (lv_at hl 0 rfl) ?_
  refine gfX2_leastSet_22 C B 10 rfl rfl dX2_leastSet_5 ?_
  cases h
  exact k_iretq (q := wa_8) C B dX2_leastSet_8
end
theorem tX2_leastSet {l : Launch} {D : va_G} {Es : (Nat → Nat) × (Nat → Nat)} {a b : Nat → Nat} {cI cJ cT : ClassId} {ch_nodes : Nat → Int32} {ch_signs : Nat → Int32} {ch_felt : Nat → Int32} {ch_count : Int32} {te_inputs : Nat → Int32} {te_dues : Nat → Int32} {te_count : Int32} {no_bits : Nat → Int32} {no_wishedInputs : Int32} {no_wishedMany : Int32} {no_hiddenUnlike : Nat → Int64} {fw_waits : Nat → Int32} {fw_wl : Nat} {fw_wa : Nat} {fw_order : Nat → Int32} {fw_sum : Int32} {fw_set : Int32} {fw_fresh : Int32} {z_r : Int32} {z_fw_waits : Nat → Int32} {z_fw_wl : Nat} {z_fw_order : Nat → Int32} {z_fw_sum : Int32} {z_fw_set : Int32} {z_fw_fresh : Int32} {mc ms : Nat} (N : Nat) (h : fX2_leastSet N ch_count te_count no_bits fw_waits fw_wl fw_order fw_sum fw_set fw_fresh = some (z_r, z_fw_waits, z_fw_wl, z_fw_order, z_fw_sum, z_fw_set, z_fw_fresh)) (hA : stA fw_fresh te_count fw_wl = (mc, ms)) : CtIq l yX2_leastSet wsX2_leastSet (rmX2_leastSet mc ms) D (tyl cI cJ cT) Es [.ref (a 38)] (wd_ch_te_no_fw a b cI cJ cT ch_nodes ch_signs ch_felt ch_count te_inputs te_dues te_count no_bits no_wishedInputs no_wishedMany no_hiddenUnlike fw_waits fw_wl fw_wa fw_order fw_sum fw_set fw_fresh) z_r (fun q => (wd_ch_te_no_fw a b cI cJ cT ch_nodes ch_signs ch_felt ch_count te_inputs te_dues te_count no_bits no_wishedInputs no_wishedMany no_hiddenUnlike z_fw_waits z_fw_wl q z_fw_order z_fw_sum z_fw_set z_fw_fresh)) mc ms :=
  CtIq.of (own := RX2) (cc := cX2_leastSet) (nL := 1) (ret := (some .int)) (by decide +kernel) rfl rfl (Nat.le_of_ble_eq_true rfl) rfl (fun p e s m below meth c A ls C B hl => qX2_leastSet_0 C (N := N) hA h _ _ _ B hl)

abbrev rmX2_leastSum (mc ms : Nat) : Room := { frames := 3, cells := mc, slots := ms, locals := 69 }
theorem hdX2_leastSum : yX2_leastSum.cls ≠ "java/lang/invoke/MethodHandle" ∧ yX2_leastSum.cls ≠ "java/lang/invoke/VarHandle" ∧ (parseMethodDescriptor yX2_leastSum.desc).map (fun d => d.parameters.length) = some 0 := by decide +kernel
theorem iX2_leastSum_X2 : ∀ w ∈ wsX20, w ∈ wsX2_leastSum := by decide +kernel
theorem gfX2_leastSum_18 {p : Program} {l : Launch} {e : Env} {R : Room} {s : State} {m : MethodId} {args : Array Value} {below : List Frame} {meth : Method} {c : Code} {H : Heap} {locs : List Loc} {cells slots : Nat} {Q : State → Prop} {D : va_G} {A : Nat → Prop} {tys : List (ClassId × FieldType)} {Es : (Nat → Nat) × (Nat → Nat)} {ws : va_W} {pc : Nat} {ls : Array Slot} {rest : List Value} {a : Nat} (C : CT p s m args meth c RX2 cX2_leastSum 1 (some .int) wsX2_leastSum D A tys Es) (B : DB D A ws s H locs) (q0 : Nat) {fs : List Value} {v : Value} (he : ws[q0]? = some (a, .inr (2, fs))) (hv : fs[2]? = some v) (hdg : decode cX2_leastSum pc = .ok (.getfield 18, 3)) (kk : W p l e R s m args below meth c H locs cells slots Q (F0 m (pc + 3) ls (v :: rest))) : W p l e R s m args below meth c H locs cells slots Q (F0 m pc ls (.ref a :: rest)) :=
  k_get (Cn := RX2) (T := TX2) (N := 8) (index := 18) C B iX2_leastSum_X2 rfl 2 (by decide) (by decide +kernel) q0 he hv hdg kk
section
variable {p : Program} {l : Launch} {e : Env} {s : State} {m : MethodId} {args : Array Value} {below : List Frame} {meth : Method} {c : Code} {D : va_G} {A : Nat → Prop} {Es : (Nat → Nat) × (Nat → Nat)} {a b : Nat → Nat} {cI cJ cT : ClassId}
set_option maxHeartbeats 4000000 in
set_option maxRecDepth 100000 in
theorem qX2_leastSum_0 (C : CT p s m args meth c RX2 cX2_leastSum 1 (some .int) wsX2_leastSum D A (tyl cI cJ cT) Es) {N : Nat} {ch_nodes : Nat → Int32} {ch_signs : Nat → Int32} {ch_felt : Nat → Int32} {ch_count : Int32} {te_inputs : Nat → Int32} {te_dues : Nat → Int32} {te_count : Int32} {no_bits : Nat → Int32} {no_wishedInputs : Int32} {no_wishedMany : Int32} {no_hiddenUnlike : Nat → Int64} {fw_waits : Nat → Int32} {fw_wl : Nat} {fw_wa : Nat} {fw_order : Nat → Int32} {fw_sum : Int32} {fw_set : Int32} {fw_fresh : Int32} {z_r : Int32} {z_fw_waits : Nat → Int32} {z_fw_wl : Nat} {z_fw_order : Nat → Int32} {z_fw_sum : Int32} {z_fw_set : Int32} {z_fw_fresh : Int32} {mc ms : Nat} (hA : stA fw_fresh te_count fw_wl = (mc, ms)) : fX2_leastSum N ch_count te_count no_bits fw_waits fw_wl fw_order fw_sum fw_set fw_fresh = some (z_r, z_fw_waits, z_fw_wl, z_fw_order, z_fw_sum, z_fw_set, z_fw_fresh) → ∀ (H : Heap) (locs : List Loc) (ls : Array Slot), DB D A (wd_ch_te_no_fw a b cI cJ cT ch_nodes ch_signs ch_felt ch_count te_inputs te_dues te_count no_bits no_wishedInputs no_wishedMany no_hiddenUnlike fw_waits fw_wl fw_wa fw_order fw_sum fw_set fw_fresh) s H locs → lv_has ls 1 [(0, .ref (a 38))] → W p l e (rmX2_leastSum mc ms) s m args below meth c H locs 0 0 (ZIq below args s D A (tyl cI cJ cT) z_r (fun q => (wd_ch_te_no_fw a b cI cJ cT ch_nodes ch_signs ch_felt ch_count te_inputs te_dues te_count no_bits no_wishedInputs no_wishedMany no_hiddenUnlike z_fw_waits z_fw_wl q z_fw_order z_fw_sum z_fw_set z_fw_fresh)) mc ms) (F0 m 0 ls []) := by
  have hx := C.1.1
  have hb := C.1.2.1
  have hown := C.1.2.2.2.1
  have hts := C.1.2.2.2.2
  intro h H locs ls B hl
  rw [fX2_leastSum] at h
  refine lv_aload_n hx hb dX2_leastSum_0 rfl (lv_at hl 0 rfl) ?_
  obtain ⟨⟨fw_waits_1, fw_wl_2, fw_order_3, fw_sum_4, fw_set_5, fw_fresh_6⟩, g_7, h⟩ := ob_some h
  try dsimp only at h
  refine kc_VVq C B (q0 := 10) (ci := 2) (As := []) (rest := []) (w2 := fun q => (wd_ch_te_no_fw a b cI cJ cT ch_nodes ch_signs ch_felt ch_count te_inputs te_dues te_count no_bits no_wishedInputs no_wishedMany no_hiddenUnlike fw_waits_1 fw_wl_2 q fw_order_3 fw_sum_4 fw_set_5 fw_fresh_6)) (tX2_settle (a := a) (b := b) N g_7 hA) gX2_leastSum_X2_settle rfl ⟨rfl, rfl⟩ ⟨rfl, hdX2_settle⟩ ⟨Nat.le_of_ble_eq_true rfl, Nat.le_of_ble_eq_true rfl⟩ rfl rfl [0, 1, 2, 3, 4, 5, 6, 7, 8, 9, 10, 11, 12] [] [0, 1, 2, 3, 4, 5, 6, 7, 8, 9, 10, 11, 12] rfl rfl rfl rfl rfl (fun _ => rfl) rfl rfl hl.1 rfl (Nat.le_of_ble_eq_true rfl) ⟨Nat.le_of_eq (Nat.zero_add _), Nat.le_of_eq (Nat.zero_add _)⟩ dX2_leastSum_1 (fun wa_8 H locs B => ?_)
  refine W.widen (k := mc) (n := ms) (Nat.le_of_eq (Nat.zero_add _)) (Nat.le_of_eq (Nat.zero_add _)) ?_
  refine lv_aload_n hx hb dX2_leastSum_4 rfl (lv_at hl 0 rfl) ?_
  refine gfX2_leastSum_18 C B 10 rfl rfl dX2_leastSum_5 ?_
  cases h
  exact k_iretq (q := wa_8) C B dX2_leastSum_8
end
theorem tX2_leastSum {l : Launch} {D : va_G} {Es : (Nat → Nat) × (Nat → Nat)} {a b : Nat → Nat} {cI cJ cT : ClassId} {ch_nodes : Nat → Int32} {ch_signs : Nat → Int32} {ch_felt : Nat → Int32} {ch_count : Int32} {te_inputs : Nat → Int32} {te_dues : Nat → Int32} {te_count : Int32} {no_bits : Nat → Int32} {no_wishedInputs : Int32} {no_wishedMany : Int32} {no_hiddenUnlike : Nat → Int64} {fw_waits : Nat → Int32} {fw_wl : Nat} {fw_wa : Nat} {fw_order : Nat → Int32} {fw_sum : Int32} {fw_set : Int32} {fw_fresh : Int32} {z_r : Int32} {z_fw_waits : Nat → Int32} {z_fw_wl : Nat} {z_fw_order : Nat → Int32} {z_fw_sum : Int32} {z_fw_set : Int32} {z_fw_fresh : Int32} {mc ms : Nat} (N : Nat) (h : fX2_leastSum N ch_count te_count no_bits fw_waits fw_wl fw_order fw_sum fw_set fw_fresh = some (z_r, z_fw_waits, z_fw_wl, z_fw_order, z_fw_sum, z_fw_set, z_fw_fresh)) (hA : stA fw_fresh te_count fw_wl = (mc, ms)) : CtIq l yX2_leastSum wsX2_leastSum (rmX2_leastSum mc ms) D (tyl cI cJ cT) Es [.ref (a 38)] (wd_ch_te_no_fw a b cI cJ cT ch_nodes ch_signs ch_felt ch_count te_inputs te_dues te_count no_bits no_wishedInputs no_wishedMany no_hiddenUnlike fw_waits fw_wl fw_wa fw_order fw_sum fw_set fw_fresh) z_r (fun q => (wd_ch_te_no_fw a b cI cJ cT ch_nodes ch_signs ch_felt ch_count te_inputs te_dues te_count no_bits no_wishedInputs no_wishedMany no_hiddenUnlike z_fw_waits z_fw_wl q z_fw_order z_fw_sum z_fw_set z_fw_fresh)) mc ms :=
  CtIq.of (own := RX2) (cc := cX2_leastSum) (nL := 1) (ret := (some .int)) (by decide +kernel) rfl rfl (Nat.le_of_ble_eq_true rfl) rfl (fun p e s m below meth c A ls C B hl => qX2_leastSum_0 C (N := N) hA h _ _ _ B hl)

abbrev rmX2_testAtPlace (mc ms : Nat) : Room := { frames := 3, cells := mc, slots := ms, locals := 69 }
theorem hdX2_testAtPlace : yX2_testAtPlace.cls ≠ "java/lang/invoke/MethodHandle" ∧ yX2_testAtPlace.cls ≠ "java/lang/invoke/VarHandle" ∧ (parseMethodDescriptor yX2_testAtPlace.desc).map (fun d => d.parameters.length) = some 1 := by decide +kernel
theorem iX2_testAtPlace_X2 : ∀ w ∈ wsX20, w ∈ wsX2_testAtPlace := by decide +kernel
theorem gfX2_testAtPlace_15 {p : Program} {l : Launch} {e : Env} {R : Room} {s : State} {m : MethodId} {args : Array Value} {below : List Frame} {meth : Method} {c : Code} {H : Heap} {locs : List Loc} {cells slots : Nat} {Q : State → Prop} {D : va_G} {A : Nat → Prop} {tys : List (ClassId × FieldType)} {Es : (Nat → Nat) × (Nat → Nat)} {ws : va_W} {pc : Nat} {ls : Array Slot} {rest : List Value} {a : Nat} (C : CT p s m args meth c RX2 cX2_testAtPlace 2 (some .int) wsX2_testAtPlace D A tys Es) (B : DB D A ws s H locs) (q0 : Nat) {fs : List Value} {v : Value} (he : ws[q0]? = some (a, .inr (2, fs))) (hv : fs[1]? = some v) (hdg : decode cX2_testAtPlace pc = .ok (.getfield 15, 3)) (kk : W p l e R s m args below meth c H locs cells slots Q (F0 m (pc + 3) ls (v :: rest))) : W p l e R s m args below meth c H locs cells slots Q (F0 m pc ls (.ref a :: rest)) :=
  k_get (Cn := RX2) (T := TX2) (N := 8) (index := 15) C B iX2_testAtPlace_X2 rfl 1 (by decide) (by decide +kernel) q0 he hv hdg kk
section
variable {p : Program} {l : Launch} {e : Env} {s : State} {m : MethodId} {args : Array Value} {below : List Frame} {meth : Method} {c : Code} {D : va_G} {A : Nat → Prop} {Es : (Nat → Nat) × (Nat → Nat)} {a b : Nat → Nat} {cI cJ cT : ClassId}
set_option maxHeartbeats 4000000 in
set_option maxRecDepth 100000 in
theorem qX2_testAtPlace_0 (C : CT p s m args meth c RX2 cX2_testAtPlace 2 (some .int) wsX2_testAtPlace D A (tyl cI cJ cT) Es) {N : Nat} {ch_nodes : Nat → Int32} {ch_signs : Nat → Int32} {ch_felt : Nat → Int32} {ch_count : Int32} {te_inputs : Nat → Int32} {te_dues : Nat → Int32} {te_count : Int32} {no_bits : Nat → Int32} {no_wishedInputs : Int32} {no_wishedMany : Int32} {no_hiddenUnlike : Nat → Int64} {fw_waits : Nat → Int32} {fw_wl : Nat} {fw_wa : Nat} {fw_order : Nat → Int32} {fw_sum : Int32} {fw_set : Int32} {fw_fresh : Int32} {z_r : Int32} {z_fw_waits : Nat → Int32} {z_fw_wl : Nat} {z_fw_order : Nat → Int32} {z_fw_sum : Int32} {z_fw_set : Int32} {z_fw_fresh : Int32} {mc ms : Nat} (hA : stA fw_fresh te_count fw_wl = (mc, ms)) : ∀ (x1 : Int32), fX2_testAtPlace N ch_count te_count no_bits x1 fw_waits fw_wl fw_order fw_sum fw_set fw_fresh = some (z_r, z_fw_waits, z_fw_wl, z_fw_order, z_fw_sum, z_fw_set, z_fw_fresh) → ∀ (H : Heap) (locs : List Loc) (ls : Array Slot), DB D A (wd_ch_te_no_fw a b cI cJ cT ch_nodes ch_signs ch_felt ch_count te_inputs te_dues te_count no_bits no_wishedInputs no_wishedMany no_hiddenUnlike fw_waits fw_wl fw_wa fw_order fw_sum fw_set fw_fresh) s H locs → lv_has ls 2 [(0, .ref (a 38)), (1, .int x1)] → W p l e (rmX2_testAtPlace mc ms) s m args below meth c H locs 0 0 (ZIq below args s D A (tyl cI cJ cT) z_r (fun q => (wd_ch_te_no_fw a b cI cJ cT ch_nodes ch_signs ch_felt ch_count te_inputs te_dues te_count no_bits no_wishedInputs no_wishedMany no_hiddenUnlike z_fw_waits z_fw_wl q z_fw_order z_fw_sum z_fw_set z_fw_fresh)) mc ms) (F0 m 0 ls []) := by
  have hx := C.1.1
  have hb := C.1.2.1
  have hown := C.1.2.2.2.1
  have hts := C.1.2.2.2.2
  intro x1 h H locs ls B hl
  rw [fX2_testAtPlace] at h
  refine lv_aload_n hx hb dX2_testAtPlace_0 rfl (lv_at hl 0 rfl) ?_
  obtain ⟨⟨fw_waits_1, fw_wl_2, fw_order_3, fw_sum_4, fw_set_5, fw_fresh_6⟩, g_8, h⟩ := ob_some h
  try dsimp only at h
  refine kc_VVq C B (q0 := 10) (ci := 2) (As := []) (rest := []) (w2 := fun q => (wd_ch_te_no_fw a b cI cJ cT ch_nodes ch_signs ch_felt ch_count te_inputs te_dues te_count no_bits no_wishedInputs no_wishedMany no_hiddenUnlike fw_waits_1 fw_wl_2 q fw_order_3 fw_sum_4 fw_set_5 fw_fresh_6)) (tX2_settle (a := a) (b := b) N g_8 hA) gX2_testAtPlace_X2_settle rfl ⟨rfl, rfl⟩ ⟨rfl, hdX2_settle⟩ ⟨Nat.le_of_ble_eq_true rfl, Nat.le_of_ble_eq_true rfl⟩ rfl rfl [0, 1, 2, 3, 4, 5, 6, 7, 8, 9, 10, 11, 12] [] [0, 1, 2, 3, 4, 5, 6, 7, 8, 9, 10, 11, 12] rfl rfl rfl rfl rfl (fun _ => rfl) rfl rfl hl.1 rfl (Nat.le_of_ble_eq_true rfl) ⟨Nat.le_of_eq (Nat.zero_add _), Nat.le_of_eq (Nat.zero_add _)⟩ dX2_testAtPlace_1 (fun wa_9 H locs B => ?_)
  refine W.widen (k := mc) (n := ms) (Nat.le_of_eq (Nat.zero_add _)) (Nat.le_of_eq (Nat.zero_add _)) ?_
  refine lv_aload_n hx hb dX2_testAtPlace_4 rfl (lv_at hl 0 rfl) ?_
  refine gfX2_testAtPlace_15 C B 10 rfl rfl dX2_testAtPlace_5 ?_
  refine lv_iload_n hx hb dX2_testAtPlace_8 rfl (lv_at hl 1 rfl) ?_
  obtain ⟨b_10, h⟩ := bnd_some h
  refine k_iald C B 12 0 rfl rfl b_10 dX2_testAtPlace_9 ?_
  cases h
  exact k_iretq (q := wa_9) C B dX2_testAtPlace_10
end
theorem tX2_testAtPlace {l : Launch} {D : va_G} {Es : (Nat → Nat) × (Nat → Nat)} {a b : Nat → Nat} {cI cJ cT : ClassId} {ch_nodes : Nat → Int32} {ch_signs : Nat → Int32} {ch_felt : Nat → Int32} {ch_count : Int32} {te_inputs : Nat → Int32} {te_dues : Nat → Int32} {te_count : Int32} {no_bits : Nat → Int32} {no_wishedInputs : Int32} {no_wishedMany : Int32} {no_hiddenUnlike : Nat → Int64} {fw_waits : Nat → Int32} {fw_wl : Nat} {fw_wa : Nat} {fw_order : Nat → Int32} {fw_sum : Int32} {fw_set : Int32} {fw_fresh : Int32} {x1 : Int32} {z_r : Int32} {z_fw_waits : Nat → Int32} {z_fw_wl : Nat} {z_fw_order : Nat → Int32} {z_fw_sum : Int32} {z_fw_set : Int32} {z_fw_fresh : Int32} {mc ms : Nat} (N : Nat) (h : fX2_testAtPlace N ch_count te_count no_bits x1 fw_waits fw_wl fw_order fw_sum fw_set fw_fresh = some (z_r, z_fw_waits, z_fw_wl, z_fw_order, z_fw_sum, z_fw_set, z_fw_fresh)) (hA : stA fw_fresh te_count fw_wl = (mc, ms)) : CtIq l yX2_testAtPlace wsX2_testAtPlace (rmX2_testAtPlace mc ms) D (tyl cI cJ cT) Es [.ref (a 38), .int x1] (wd_ch_te_no_fw a b cI cJ cT ch_nodes ch_signs ch_felt ch_count te_inputs te_dues te_count no_bits no_wishedInputs no_wishedMany no_hiddenUnlike fw_waits fw_wl fw_wa fw_order fw_sum fw_set fw_fresh) z_r (fun q => (wd_ch_te_no_fw a b cI cJ cT ch_nodes ch_signs ch_felt ch_count te_inputs te_dues te_count no_bits no_wishedInputs no_wishedMany no_hiddenUnlike z_fw_waits z_fw_wl q z_fw_order z_fw_sum z_fw_set z_fw_fresh)) mc ms :=
  CtIq.of (own := RX2) (cc := cX2_testAtPlace) (nL := 2) (ret := (some .int)) (by decide +kernel) rfl rfl (Nat.le_of_ble_eq_true rfl) rfl (fun p e s m below meth c A ls C B hl => qX2_testAtPlace_0 C (N := N) hA x1 h _ _ _ B hl)

abbrev rmX11_fewest (mc ms : Nat) : Room := { frames := 4, cells := mc, slots := ms, locals := 89 }
theorem hdX11_fewest : yX11_fewest.cls ≠ "java/lang/invoke/MethodHandle" ∧ yX11_fewest.cls ≠ "java/lang/invoke/VarHandle" ∧ (parseMethodDescriptor yX11_fewest.desc).map (fun d => d.parameters.length) = some 1 := by decide +kernel
theorem iX11_fewest_X11 : ∀ w ∈ wsX110, w ∈ wsX11_fewest := by decide +kernel
theorem gfX11_fewest_69 {p : Program} {l : Launch} {e : Env} {R : Room} {s : State} {m : MethodId} {args : Array Value} {below : List Frame} {meth : Method} {c : Code} {H : Heap} {locs : List Loc} {cells slots : Nat} {Q : State → Prop} {D : va_G} {A : Nat → Prop} {tys : List (ClassId × FieldType)} {Es : (Nat → Nat) × (Nat → Nat)} {ws : va_W} {pc : Nat} {ls : Array Slot} {rest : List Value} {a : Nat} (C : CT p s m args meth c RX11 cX11_fewest 2 (some .int) wsX11_fewest D A tys Es) (B : DB D A ws s H locs) (q0 : Nat) {fs : List Value} {v : Value} (he : ws[q0]? = some (a, .inr (11, fs))) (hv : fs[7]? = some v) (hdg : decode cX11_fewest pc = .ok (.getfield 69, 3)) (kk : W p l e R s m args below meth c H locs cells slots Q (F0 m (pc + 3) ls (v :: rest))) : W p l e R s m args below meth c H locs cells slots Q (F0 m pc ls (.ref a :: rest)) :=
  k_get (Cn := RX11) (T := TX11) (N := 11) (index := 69) C B iX11_fewest_X11 rfl 7 (by decide) (by decide +kernel) q0 he hv hdg kk
section
variable {p : Program} {l : Launch} {e : Env} {s : State} {m : MethodId} {args : Array Value} {below : List Frame} {meth : Method} {c : Code} {D : va_G} {A : Nat → Prop} {Es : (Nat → Nat) × (Nat → Nat)} {a b : Nat → Nat} {cI cJ cT : ClassId}
set_option maxHeartbeats 4000000 in
set_option maxRecDepth 100000 in
theorem qX11_fewest_0 (C : CT p s m args meth c RX11 cX11_fewest 2 (some .int) wsX11_fewest D A (tyl cI cJ cT) Es) {N : Nat} {ch_nodes : Nat → Int32} {ch_signs : Nat → Int32} {ch_felt : Nat → Int32} {ch_count : Int32} {te_inputs : Nat → Int32} {te_dues : Nat → Int32} {te_count : Int32} {no_bits : Nat → Int32} {no_wishedInputs : Int32} {no_wishedMany : Int32} {no_hiddenUnlike : Nat → Int64} {fw_waits : Nat → Int32} {fw_wl : Nat} {fw_wa : Nat} {fw_order : Nat → Int32} {fw_sum : Int32} {fw_set : Int32} {fw_fresh : Int32} {z_r : Int32} {z_fw_waits : Nat → Int32} {z_fw_wl : Nat} {z_fw_order : Nat → Int32} {z_fw_sum : Int32} {z_fw_set : Int32} {z_fw_fresh : Int32} {mc ms : Nat}  : ∀ (x1 : Int32), ((x1 = 0 ∨ x1 = 1) → stA fw_fresh te_count fw_wl = (mc, ms)) → fX11_fewest N ch_count te_count no_bits x1 fw_waits fw_wl fw_order fw_sum fw_set fw_fresh = some (z_r, z_fw_waits, z_fw_wl, z_fw_order, z_fw_sum, z_fw_set, z_fw_fresh) → ∀ (H : Heap) (locs : List Loc) (ls : Array Slot), DB D A (wd_nt_ch_te_no_fw a b cI cJ cT ch_nodes ch_signs ch_felt ch_count te_inputs te_dues te_count no_bits no_wishedInputs no_wishedMany no_hiddenUnlike fw_waits fw_wl fw_wa fw_order fw_sum fw_set fw_fresh) s H locs → lv_has ls 2 [(0, .ref (a 0)), (1, .int x1)] → W p l e (rmX11_fewest mc ms) s m args below meth c H locs 0 0 (ZIq below args s D A (tyl cI cJ cT) z_r (fun q => (wd_nt_ch_te_no_fw a b cI cJ cT ch_nodes ch_signs ch_felt ch_count te_inputs te_dues te_count no_bits no_wishedInputs no_wishedMany no_hiddenUnlike z_fw_waits z_fw_wl q z_fw_order z_fw_sum z_fw_set z_fw_fresh)) mc ms) (F0 m 0 ls []) := by
  have hx := C.1.1
  have hb := C.1.2.1
  have hown := C.1.2.2.2.1
  have hts := C.1.2.2.2.2
  intro x1 hA h H locs ls B hl
  rw [fX11_fewest] at h
  refine lv_iload_n hx hb dX11_fewest_0 rfl (lv_at hl 1 rfl) ?_
  by_cases c_1 : x1 = 0
  · rw [if_pos c_1] at h
    refine lv_lookup (off := 27) (tgt := 28) hx hb dX11_fewest_1 (by decide) (by rw [c_1]; try rfl) (by decide) ?_
    refine lv_aload_n hx hb dX11_fewest_28 rfl (lv_at hl 0 rfl) ?_
    refine gfX11_fewest_69 C B 0 rfl rfl dX11_fewest_29 ?_
    obtain ⟨⟨r_2, fw_waits_3, fw_wl_4, fw_order_5, fw_sum_6, fw_set_7, fw_fresh_8⟩, g_9, h⟩ := ob_some h
    try dsimp only at h
    refine kc_VIq C B (q0 := 10) (ci := 2) (As := []) (rest := []) (w2 := fun q => (wd_nt_ch_te_no_fw a b cI cJ cT ch_nodes ch_signs ch_felt ch_count te_inputs te_dues te_count no_bits no_wishedInputs no_wishedMany no_hiddenUnlike fw_waits_3 fw_wl_4 q fw_order_5 fw_sum_6 fw_set_7 fw_fresh_8)) (tX2_leastSet (a := a) (b := b) N g_9 (hA (Or.inl c_1))) gX11_fewest_X2_leastSet rfl ⟨rfl, rfl⟩ ⟨rfl, hdX2_leastSet⟩ ⟨Nat.le_of_ble_eq_true rfl, Nat.le_of_ble_eq_true rfl⟩ rfl rfl [2, 3, 4, 5, 6, 7, 8, 9, 10, 11, 12, 13, 14] [0, 1] [0, 1, 2, 3, 4, 5, 6, 7, 8, 9, 10, 11, 12, 13, 14] rfl rfl rfl rfl rfl (fun _ => rfl) rfl rfl hl.1 rfl (Nat.le_of_ble_eq_true rfl) ⟨Nat.le_of_eq (Nat.zero_add _), Nat.le_of_eq (Nat.zero_add _)⟩ dX11_fewest_32 (fun wa_10 H locs B => ?_)
    refine W.widen (k := mc) (n := ms) (Nat.le_of_eq (Nat.zero_add _)) (Nat.le_of_eq (Nat.zero_add _)) ?_
    cases h
    exact k_iretq (q := wa_10) C B dX11_fewest_35
  · rw [if_neg c_1] at h
    by_cases c_11 : x1 = 1
    · rw [if_pos c_11] at h
      refine lv_lookup (off := 35) (tgt := 36) hx hb dX11_fewest_1 (by decide) (by rw [c_11]; try rfl) (by decide) ?_
      refine lv_aload_n hx hb dX11_fewest_36 rfl (lv_at hl 0 rfl) ?_
      refine gfX11_fewest_69 C B 0 rfl rfl dX11_fewest_37 ?_
      obtain ⟨⟨r_12, fw_waits_13, fw_wl_14, fw_order_15, fw_sum_16, fw_set_17, fw_fresh_18⟩, g_21, h⟩ := ob_some h
      try dsimp only at h
      refine kc_VIq C B (q0 := 10) (ci := 2) (As := []) (rest := []) (w2 := fun q => (wd_nt_ch_te_no_fw a b cI cJ cT ch_nodes ch_signs ch_felt ch_count te_inputs te_dues te_count no_bits no_wishedInputs no_wishedMany no_hiddenUnlike fw_waits_13 fw_wl_14 q fw_order_15 fw_sum_16 fw_set_17 fw_fresh_18)) (tX2_leastSet (a := a) (b := b) N g_21 (hA (Or.inr c_11))) gX11_fewest_X2_leastSet rfl ⟨rfl, rfl⟩ ⟨rfl, hdX2_leastSet⟩ ⟨Nat.le_of_ble_eq_true rfl, Nat.le_of_ble_eq_true rfl⟩ rfl rfl [2, 3, 4, 5, 6, 7, 8, 9, 10, 11, 12, 13, 14] [0, 1] [0, 1, 2, 3, 4, 5, 6, 7, 8, 9, 10, 11, 12, 13, 14] rfl rfl rfl rfl rfl (fun _ => rfl) rfl rfl hl.1 rfl (Nat.le_of_ble_eq_true rfl) ⟨Nat.le_of_eq (Nat.zero_add _), Nat.le_of_eq (Nat.zero_add _)⟩ dX11_fewest_40 (fun wa_22 H locs B => ?_)
      refine W.widen (k := mc) (n := ms) (Nat.le_of_eq (Nat.zero_add _)) (Nat.le_of_eq (Nat.zero_add _)) ?_
      obtain ⟨r_23, g_24, h⟩ := ob_some h
      try dsimp only at h
      refine kc_SI C B (As := [.int r_12]) (rest := []) (w2 := (wd_nt_ch_te_no_fw a b cI cJ cT ch_nodes ch_signs ch_felt ch_count te_inputs te_dues te_count no_bits no_wishedInputs no_wishedMany no_hiddenUnlike fw_waits_13 fw_wl_14 wa_22 fw_order_15 fw_sum_16 fw_set_17 fw_fresh_18)) (tJ6_bitCount_0f7a4 N g_24) gX11_fewest_J6_bitCount_0f7a4 rfl ⟨rfl, rfl⟩ hdJ6_bitCount_0f7a4 ⟨Nat.le_of_ble_eq_true rfl, Nat.le_of_ble_eq_true rfl⟩ [] [0, 1, 2, 3, 4, 5, 6, 7, 8, 9, 10, 11, 12, 13, 14] [0, 1, 2, 3, 4, 5, 6, 7, 8, 9, 10, 11, 12, 13, 14] rfl rfl rfl rfl rfl rfl rfl rfl hl.1 rfl (Nat.le_of_ble_eq_true rfl) ⟨Nat.le_refl _, Nat.le_refl _⟩ dX11_fewest_43 (fun H locs B => ?_)
      cases h
      exact k_iretq (q := wa_22) C B dX11_fewest_46
    · rw [if_neg c_11] at h
      refine lv_lookup (off := 46) (tgt := 47) hx hb dX11_fewest_1 (by decide) ((lv_osw c_1 (k := 0) rfl).trans ((lv_osw c_11 (k := 1) rfl).trans rfl)) (by decide) ?_
      refine lv_bipush (v := -2) hx hb dX11_fewest_47 (by decide) ?_
      cases h
      refine W.widen (k := mc) (n := ms) (Nat.zero_le _) (Nat.zero_le _) ?_
      exact k_iretq (q := fw_wa) C B dX11_fewest_49
end
theorem tX11_fewest {l : Launch} {D : va_G} {Es : (Nat → Nat) × (Nat → Nat)} {a b : Nat → Nat} {cI cJ cT : ClassId} {ch_nodes : Nat → Int32} {ch_signs : Nat → Int32} {ch_felt : Nat → Int32} {ch_count : Int32} {te_inputs : Nat → Int32} {te_dues : Nat → Int32} {te_count : Int32} {no_bits : Nat → Int32} {no_wishedInputs : Int32} {no_wishedMany : Int32} {no_hiddenUnlike : Nat → Int64} {fw_waits : Nat → Int32} {fw_wl : Nat} {fw_wa : Nat} {fw_order : Nat → Int32} {fw_sum : Int32} {fw_set : Int32} {fw_fresh : Int32} {x1 : Int32} {z_r : Int32} {z_fw_waits : Nat → Int32} {z_fw_wl : Nat} {z_fw_order : Nat → Int32} {z_fw_sum : Int32} {z_fw_set : Int32} {z_fw_fresh : Int32} {mc ms : Nat} (N : Nat) (h : fX11_fewest N ch_count te_count no_bits x1 fw_waits fw_wl fw_order fw_sum fw_set fw_fresh = some (z_r, z_fw_waits, z_fw_wl, z_fw_order, z_fw_sum, z_fw_set, z_fw_fresh)) (hA : (x1 = 0 ∨ x1 = 1) → stA fw_fresh te_count fw_wl = (mc, ms)) : CtIq l yX11_fewest wsX11_fewest (rmX11_fewest mc ms) D (tyl cI cJ cT) Es [.ref (a 0), .int x1] (wd_nt_ch_te_no_fw a b cI cJ cT ch_nodes ch_signs ch_felt ch_count te_inputs te_dues te_count no_bits no_wishedInputs no_wishedMany no_hiddenUnlike fw_waits fw_wl fw_wa fw_order fw_sum fw_set fw_fresh) z_r (fun q => (wd_nt_ch_te_no_fw a b cI cJ cT ch_nodes ch_signs ch_felt ch_count te_inputs te_dues te_count no_bits no_wishedInputs no_wishedMany no_hiddenUnlike z_fw_waits z_fw_wl q z_fw_order z_fw_sum z_fw_set z_fw_fresh)) mc ms :=
  CtIq.of (own := RX11) (cc := cX11_fewest) (nL := 2) (ret := (some .int)) (by decide +kernel) rfl rfl (Nat.le_of_ble_eq_true rfl) rfl (fun p e s m below meth c A ls C B hl => qX11_fewest_0 C (N := N) x1 hA h _ _ _ B hl)

abbrev rmX11_soon (mc ms : Nat) : Room := { frames := 4, cells := mc, slots := ms, locals := 90 }
theorem hdX11_soon : yX11_soon.cls ≠ "java/lang/invoke/MethodHandle" ∧ yX11_soon.cls ≠ "java/lang/invoke/VarHandle" ∧ (parseMethodDescriptor yX11_soon.desc).map (fun d => d.parameters.length) = some 1 := by decide +kernel
theorem iX11_soon_X11 : ∀ w ∈ wsX110, w ∈ wsX11_soon := by decide +kernel
theorem gfX11_soon_69 {p : Program} {l : Launch} {e : Env} {R : Room} {s : State} {m : MethodId} {args : Array Value} {below : List Frame} {meth : Method} {c : Code} {H : Heap} {locs : List Loc} {cells slots : Nat} {Q : State → Prop} {D : va_G} {A : Nat → Prop} {tys : List (ClassId × FieldType)} {Es : (Nat → Nat) × (Nat → Nat)} {ws : va_W} {pc : Nat} {ls : Array Slot} {rest : List Value} {a : Nat} (C : CT p s m args meth c RX11 cX11_soon 2 (some .int) wsX11_soon D A tys Es) (B : DB D A ws s H locs) (q0 : Nat) {fs : List Value} {v : Value} (he : ws[q0]? = some (a, .inr (11, fs))) (hv : fs[7]? = some v) (hdg : decode cX11_soon pc = .ok (.getfield 69, 3)) (kk : W p l e R s m args below meth c H locs cells slots Q (F0 m (pc + 3) ls (v :: rest))) : W p l e R s m args below meth c H locs cells slots Q (F0 m pc ls (.ref a :: rest)) :=
  k_get (Cn := RX11) (T := TX11) (N := 11) (index := 69) C B iX11_soon_X11 rfl 7 (by decide) (by decide +kernel) q0 he hv hdg kk
section
variable {p : Program} {l : Launch} {e : Env} {s : State} {m : MethodId} {args : Array Value} {below : List Frame} {meth : Method} {c : Code} {D : va_G} {A : Nat → Prop} {Es : (Nat → Nat) × (Nat → Nat)} {a b : Nat → Nat} {cI cJ cT : ClassId}
set_option maxHeartbeats 4000000 in
set_option maxRecDepth 100000 in
theorem qX11_soon_0 (C : CT p s m args meth c RX11 cX11_soon 2 (some .int) wsX11_soon D A (tyl cI cJ cT) Es) {N : Nat} {ch_nodes : Nat → Int32} {ch_signs : Nat → Int32} {ch_felt : Nat → Int32} {ch_count : Int32} {te_inputs : Nat → Int32} {te_dues : Nat → Int32} {te_count : Int32} {no_bits : Nat → Int32} {no_wishedInputs : Int32} {no_wishedMany : Int32} {no_hiddenUnlike : Nat → Int64} {fw_waits : Nat → Int32} {fw_wl : Nat} {fw_wa : Nat} {fw_order : Nat → Int32} {fw_sum : Int32} {fw_set : Int32} {fw_fresh : Int32} {z_r : Int32} {z_fw_waits : Nat → Int32} {z_fw_wl : Nat} {z_fw_order : Nat → Int32} {z_fw_sum : Int32} {z_fw_set : Int32} {z_fw_fresh : Int32} {mc ms : Nat}  : ∀ (x1 : Int32), ((x1 = -1 ∨ ¬ (x1 < 0 ∨ te_count ≤ x1)) → stA fw_fresh te_count fw_wl = (mc, ms)) → fX11_soon N ch_count te_count no_bits x1 fw_waits fw_wl fw_order fw_sum fw_set fw_fresh = some (z_r, z_fw_waits, z_fw_wl, z_fw_order, z_fw_sum, z_fw_set, z_fw_fresh) → ∀ (H : Heap) (locs : List Loc) (ls : Array Slot), DB D A (wd_nt_ch_te_no_fw a b cI cJ cT ch_nodes ch_signs ch_felt ch_count te_inputs te_dues te_count no_bits no_wishedInputs no_wishedMany no_hiddenUnlike fw_waits fw_wl fw_wa fw_order fw_sum fw_set fw_fresh) s H locs → lv_has ls 2 [(0, .ref (a 0)), (1, .int x1)] → W p l e (rmX11_soon mc ms) s m args below meth c H locs 0 0 (ZIq below args s D A (tyl cI cJ cT) z_r (fun q => (wd_nt_ch_te_no_fw a b cI cJ cT ch_nodes ch_signs ch_felt ch_count te_inputs te_dues te_count no_bits no_wishedInputs no_wishedMany no_hiddenUnlike z_fw_waits z_fw_wl q z_fw_order z_fw_sum z_fw_set z_fw_fresh)) mc ms) (F0 m 0 ls []) := by
  have hx := C.1.1
  have hb := C.1.2.1
  have hown := C.1.2.2.2.1
  have hts := C.1.2.2.2.2
  intro x1 hA h H locs ls B hl
  rw [fX11_soon] at h
  refine lv_iload_n hx hb dX11_soon_0 rfl (lv_at hl 1 rfl) ?_
  refine lv_iconst (v := -1) hx hb dX11_soon_1 (by decide) ?_
  refine lv_icmp_ne (tgt := 13) hx hb dX11_soon_2 (by decide) (fun c_1 => ?_) (fun c_1 => ?_)
  · rw [if_neg c_1] at h
    refine lv_aload_n hx hb dX11_soon_13 rfl (lv_at hl 0 rfl) ?_
    refine lv_iload_n hx hb dX11_soon_14 rfl (lv_at hl 1 rfl) ?_
    obtain ⟨r_2, g_13, h⟩ := ob_some h
    try dsimp only at h
    refine kc_VI C B (q0 := 0) (ci := 11) (As := [.int x1]) (rest := []) (w2 := (wd_nt_ch_te_no_fw a b cI cJ cT ch_nodes ch_signs ch_felt ch_count te_inputs te_dues te_count no_bits no_wishedInputs no_wishedMany no_hiddenUnlike fw_waits fw_wl fw_wa fw_order fw_sum fw_set fw_fresh)) (tX11_isTest (a := a) (b := b) N g_13) gX11_soon_X11_isTest rfl ⟨rfl, rfl⟩ ⟨rfl, hdX11_isTest⟩ ⟨Nat.le_of_ble_eq_true rfl, Nat.le_of_ble_eq_true rfl⟩ rfl rfl [0, 1, 6, 7, 8] [2, 3, 4, 5, 9, 10, 11, 12, 13, 14] [10, 11, 0, 1, 2, 3, 12, 13, 14, 4, 5, 6, 7, 8, 9] rfl rfl rfl rfl rfl rfl rfl rfl hl.1 rfl (Nat.le_of_ble_eq_true rfl) ⟨Nat.zero_le _, Nat.zero_le _⟩ dX11_soon_15 (fun H locs B => ?_)
    refine lv_if_eq (tgt := 32) hx hb dX11_soon_18 (by decide) (fun c_3 => ?_) (fun c_3 => ?_)
    · rw [if_pos c_3] at h
      refine lv_bipush (v := -6) hx hb dX11_soon_32 (by decide) ?_
      cases h
      refine W.widen (k := mc) (n := ms) (Nat.zero_le _) (Nat.zero_le _) ?_
      exact k_iretq (q := fw_wa) C B dX11_soon_34
    · rw [if_neg c_3] at h
      refine lv_aload_n hx hb dX11_soon_21 rfl (lv_at hl 0 rfl) ?_
      refine gfX11_soon_69 C B 0 rfl rfl dX11_soon_22 ?_
      refine lv_iload_n hx hb dX11_soon_25 rfl (lv_at hl 1 rfl) ?_
      obtain ⟨⟨r_4, fw_waits_5, fw_wl_6, fw_order_7, fw_sum_8, fw_set_9, fw_fresh_10⟩, g_11, h⟩ := ob_some h
      try dsimp only at h
      refine kc_VIq C B (q0 := 10) (ci := 2) (As := [.int x1]) (rest := []) (w2 := fun q => (wd_nt_ch_te_no_fw a b cI cJ cT ch_nodes ch_signs ch_felt ch_count te_inputs te_dues te_count no_bits no_wishedInputs no_wishedMany no_hiddenUnlike fw_waits_5 fw_wl_6 q fw_order_7 fw_sum_8 fw_set_9 fw_fresh_10)) (tX2_testAtPlace (a := a) (b := b) N g_11 (hA (Or.inr (isT_some g_13 c_3)))) gX11_soon_X2_testAtPlace rfl ⟨rfl, rfl⟩ ⟨rfl, hdX2_testAtPlace⟩ ⟨Nat.le_of_ble_eq_true rfl, Nat.le_of_ble_eq_true rfl⟩ rfl rfl [2, 3, 4, 5, 6, 7, 8, 9, 10, 11, 12, 13, 14] [0, 1] [0, 1, 2, 3, 4, 5, 6, 7, 8, 9, 10, 11, 12, 13, 14] rfl rfl rfl rfl rfl (fun _ => rfl) rfl rfl hl.1 rfl (Nat.le_of_ble_eq_true rfl) ⟨Nat.le_of_eq (Nat.zero_add _), Nat.le_of_eq (Nat.zero_add _)⟩ dX11_soon_26 (fun wa_12 H locs B => ?_)
      refine W.widen (k := mc) (n := ms) (Nat.le_of_eq (Nat.zero_add _)) (Nat.le_of_eq (Nat.zero_add _)) ?_
      refine lv_goto (tgt := 34) hx hb dX11_soon_29 (by decide) ?_
      cases h
      exact k_iretq (q := wa_12) C B dX11_soon_34
  · rw [if_pos c_1] at h
    refine lv_aload_n hx hb dX11_soon_5 rfl (lv_at hl 0 rfl) ?_
    refine gfX11_soon_69 C B 0 rfl rfl dX11_soon_6 ?_
    obtain ⟨⟨r_14, fw_waits_15, fw_wl_16, fw_order_17, fw_sum_18, fw_set_19, fw_fresh_20⟩, g_21, h⟩ := ob_some h
    try dsimp only at h
    refine kc_VIq C B (q0 := 10) (ci := 2) (As := []) (rest := []) (w2 := fun q => (wd_nt_ch_te_no_fw a b cI cJ cT ch_nodes ch_signs ch_felt ch_count te_inputs te_dues te_count no_bits no_wishedInputs no_wishedMany no_hiddenUnlike fw_waits_15 fw_wl_16 q fw_order_17 fw_sum_18 fw_set_19 fw_fresh_20)) (tX2_leastSum (a := a) (b := b) N g_21 (hA (Or.inl c_1))) gX11_soon_X2_leastSum rfl ⟨rfl, rfl⟩ ⟨rfl, hdX2_leastSum⟩ ⟨Nat.le_of_ble_eq_true rfl, Nat.le_of_ble_eq_true rfl⟩ rfl rfl [2, 3, 4, 5, 6, 7, 8, 9, 10, 11, 12, 13, 14] [0, 1] [0, 1, 2, 3, 4, 5, 6, 7, 8, 9, 10, 11, 12, 13, 14] rfl rfl rfl rfl rfl (fun _ => rfl) rfl rfl hl.1 rfl (Nat.le_of_ble_eq_true rfl) ⟨Nat.le_of_eq (Nat.zero_add _), Nat.le_of_eq (Nat.zero_add _)⟩ dX11_soon_9 (fun wa_22 H locs B => ?_)
    refine W.widen (k := mc) (n := ms) (Nat.le_of_eq (Nat.zero_add _)) (Nat.le_of_eq (Nat.zero_add _)) ?_
    cases h
    exact k_iretq (q := wa_22) C B dX11_soon_12
end
theorem tX11_soon {l : Launch} {D : va_G} {Es : (Nat → Nat) × (Nat → Nat)} {a b : Nat → Nat} {cI cJ cT : ClassId} {ch_nodes : Nat → Int32} {ch_signs : Nat → Int32} {ch_felt : Nat → Int32} {ch_count : Int32} {te_inputs : Nat → Int32} {te_dues : Nat → Int32} {te_count : Int32} {no_bits : Nat → Int32} {no_wishedInputs : Int32} {no_wishedMany : Int32} {no_hiddenUnlike : Nat → Int64} {fw_waits : Nat → Int32} {fw_wl : Nat} {fw_wa : Nat} {fw_order : Nat → Int32} {fw_sum : Int32} {fw_set : Int32} {fw_fresh : Int32} {x1 : Int32} {z_r : Int32} {z_fw_waits : Nat → Int32} {z_fw_wl : Nat} {z_fw_order : Nat → Int32} {z_fw_sum : Int32} {z_fw_set : Int32} {z_fw_fresh : Int32} {mc ms : Nat} (N : Nat) (h : fX11_soon N ch_count te_count no_bits x1 fw_waits fw_wl fw_order fw_sum fw_set fw_fresh = some (z_r, z_fw_waits, z_fw_wl, z_fw_order, z_fw_sum, z_fw_set, z_fw_fresh)) (hA : (x1 = -1 ∨ ¬ (x1 < 0 ∨ te_count ≤ x1)) → stA fw_fresh te_count fw_wl = (mc, ms)) : CtIq l yX11_soon wsX11_soon (rmX11_soon mc ms) D (tyl cI cJ cT) Es [.ref (a 0), .int x1] (wd_nt_ch_te_no_fw a b cI cJ cT ch_nodes ch_signs ch_felt ch_count te_inputs te_dues te_count no_bits no_wishedInputs no_wishedMany no_hiddenUnlike fw_waits fw_wl fw_wa fw_order fw_sum fw_set fw_fresh) z_r (fun q => (wd_nt_ch_te_no_fw a b cI cJ cT ch_nodes ch_signs ch_felt ch_count te_inputs te_dues te_count no_bits no_wishedInputs no_wishedMany no_hiddenUnlike z_fw_waits z_fw_wl q z_fw_order z_fw_sum z_fw_set z_fw_fresh)) mc ms :=
  CtIq.of (own := RX11) (cc := cX11_soon) (nL := 2) (ret := (some .int)) (by decide +kernel) rfl rfl (Nat.le_of_ble_eq_true rfl) rfl (fun p e s m below meth c A ls C B hl => qX11_soon_0 C (N := N) x1 hA h _ _ _ B hl)
