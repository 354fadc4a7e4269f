abbrev rmX12_in : Room := { frames := 0, cells := 0, slots := 0, locals := 0 }
theorem hdX12_in : yX12_in.cls ≠ "java/lang/invoke/MethodHandle" ∧ yX12_in.cls ≠ "java/lang/invoke/VarHandle" ∧ (parseMethodDescriptor yX12_in.desc).map (fun d => d.parameters.length) = some 3 := by decide +kernel
section
variable {p : Program} {l : Launch} {e : Env} {s : State} {m : MethodId} {args : Array Value} {below : List Frame} {meth : Method} {c : Code} {D : va_G} {A : Nat → Prop} {Es : (Nat → Nat) × (Nat → Nat)} {a b : Nat → Nat} {cI cJ cT : ClassId}
set_option maxHeartbeats 4000000 in
set_option maxRecDepth 100000 in
theorem qX12_in_0 (C : CT p s m args meth c RX12 cX12_in 6 (some .boolean) wsX12_in D A (tyl cI cJ cT) Es) {N : Nat} {z_r : Int32} : ∀ (x0 : Int64) (x2 : Int64) (x4 : Int64), fX12_in N x0 x2 x4 = some z_r → ∀ (H : Heap) (locs : List Loc) (ls : Array Slot), DB D A [] s H locs → lv_has ls 6 [(0, .long x0), (2, .long x2), (4, .long x4)] → W p l e rmX12_in s m args below meth c H locs 0 0 (ZI below args s D A (tyl cI cJ cT) z_r [] 0 0) (F0 m 0 ls []) := by
  have hx := C.1.1
  have hb := C.1.2.1
  have hown := C.1.2.2.2.1
  have hts := C.1.2.2.2.2
  intro x0 x2 x4 h H locs ls B hl
  rw [fX12_in] at h
  refine lv_lload_n hx hb dX12_in_0 rfl (lv_at hl 0 rfl) ?_
  refine lv_lload_n hx hb dX12_in_1 rfl (lv_at hl 1 rfl) ?_
  refine W.lcmp hx hb dX12_in_2 ?_
  refine lv_if_lt (tgt := 17) hx hb dX12_in_3 (by decide) (fun c_1 => ?_) (fun c_1 => ?_)
  · rw [if_pos c_1] at h
    refine lv_iconst (v := 0) hx hb dX12_in_17 (by decide) ?_
    cases h
    exact k_zret C B (by decide) dX12_in_18
  · rw [if_neg c_1] at h
    refine lv_lload_n hx hb dX12_in_6 rfl (lv_at hl 0 rfl) ?_
    refine lv_lload hx hb dX12_in_7 (lv_at hl 2 rfl) ?_
    refine W.lcmp hx hb dX12_in_9 ?_
    refine lv_if_gt (tgt := 17) hx hb dX12_in_10 (by decide) (fun c_2 => ?_) (fun c_2 => ?_)
    · rw [if_pos c_2] at h
      refine lv_iconst (v := 0) hx hb dX12_in_17 (by decide) ?_
      cases h
      exact k_zret C B (by decide) dX12_in_18
    · rw [if_neg c_2] at h
      refine lv_iconst (v := 1) hx hb dX12_in_13 (by decide) ?_
      refine lv_goto (tgt := 18) hx hb dX12_in_14 (by decide) ?_
      cases h
      exact k_zret C B (by decide) dX12_in_18
end
theorem tX12_in {l : Launch} {D : va_G} {Es : (Nat → Nat) × (Nat → Nat)} {cI cJ cT : ClassId} {x0 : Int64} {x2 : Int64} {x4 : Int64} {z_r : Int32} (N : Nat) (h : fX12_in N x0 x2 x4 = some z_r) : CtI l yX12_in wsX12_in rmX12_in D (tyl cI cJ cT) Es [.long x0, .long x2, .long x4] [] z_r [] :=
  CtI.of (own := RX12) (cc := cX12_in) (nL := 6) (ret := (some .boolean)) (by decide +kernel) rfl rfl (Nat.le_of_ble_eq_true rfl) rfl (fun p e s m below meth c A ls C B hl => qX12_in_0 C (N := N) x0 x2 x4 h _ _ _ B hl)

abbrev rmX12_ones : Room := { frames := 0, cells := 0, slots := 0, locals := 0 }
theorem hdX12_ones : yX12_ones.cls ≠ "java/lang/invoke/MethodHandle" ∧ yX12_ones.cls ≠ "java/lang/invoke/VarHandle" ∧ (parseMethodDescriptor yX12_ones.desc).map (fun d => d.parameters.length) = some 1 := by decide +kernel
section
variable {p : Program} {l : Launch} {e : Env} {s : State} {m : MethodId} {args : Array Value} {below : List Frame} {meth : Method} {c : Code} {D : va_G} {A : Nat → Prop} {Es : (Nat → Nat) × (Nat → Nat)} {a b : Nat → Nat} {cI cJ cT : ClassId}
set_option maxHeartbeats 4000000 in
set_option maxRecDepth 100000 in
theorem qX12_ones_4 (C : CT p s m args meth c RX12 cX12_ones 3 (some .int) wsX12_ones D A (tyl cI cJ cT) Es) {N : Nat} {z_r : Int32} : ∀ (n : Nat) (x0 : Int32) (x1 : Int32) (x2 : Int32), bX12_ones_4 N n x0 x1 x2 = some z_r → ∀ (H : Heap) (locs : List Loc) (ls : Array Slot), DB D A [] s H locs → lv_has ls 3 [(0, .int x0), (1, .int x1), (2, .int x2)] → W p l e rmX12_ones s m args below meth c H locs 0 0 (ZI below args s D A (tyl cI cJ cT) z_r [] 0 0) (F0 m 4 ls []) := by
  have hx := C.1.1
  have hb := C.1.2.1
  have hown := C.1.2.2.2.1
  have hts := C.1.2.2.2.2
  intro n
  induction n with
  | zero => intro x0 x1 x2 h; cases h
  | succ n ih =>
    intro x0 x1 x2 h H locs ls B hl
    rw [bX12_ones_4] at h
    refine lv_iload_n hx hb dX12_ones_4 rfl (lv_at hl 2 rfl) ?_
    refine lv_bipush (v := 14) hx hb dX12_ones_5 (by decide) ?_
    refine lv_icmp_ge (tgt := 24) hx hb dX12_ones_7 (by decide) (fun c_1 => ?_) (fun c_1 => ?_)
    · rw [if_pos c_1] at h
      refine lv_iload_n hx hb dX12_ones_24 rfl (lv_at hl 1 rfl) ?_
      cases h
      exact k_iret C B dX12_ones_25
    · rw [if_neg c_1] at h
      refine lv_iload_n hx hb dX12_ones_10 rfl (lv_at hl 1 rfl) ?_
      refine lv_iload_n hx hb dX12_ones_11 rfl (lv_at hl 0 rfl) ?_
      refine lv_iload_n hx hb dX12_ones_12 rfl (lv_at hl 2 rfl) ?_
      refine lv_ishr hx hb dX12_ones_13 ?_
      refine lv_iconst (v := 1) hx hb dX12_ones_14 (by decide) ?_
      refine lv_iand hx hb dX12_ones_15 ?_
      refine lv_iadd hx hb dX12_ones_16 ?_
      refine lv_istore_n (lv' := [(1, .int (x1 + ((x0 >>> (x2 &&& 31)) &&& (1 : Int32)))), (0, .int x0), (2, .int x2)]) hx hb dX12_ones_17 rfl hl (by decide) rfl (fun ls hl => ?_)
      refine lv_iinc (v := (x2 + 1)) (lv' := [(2, .int (x2 + 1)), (1, .int (x1 + ((x0 >>> (x2 &&& 31)) &&& (1 : Int32)))), (0, .int x0)]) hx hb dX12_ones_18 hl (k := 2) rfl rfl (by decide) rfl (fun ls hl => ?_)
      refine lv_goto (tgt := 4) hx hb dX12_ones_21 (by decide) ?_
      exact ih x0 (x1 + ((x0 >>> (x2 &&& 31)) &&& (1 : Int32))) (x2 + 1) h H locs ls B (lv_sub hl [2, 1, 0] rfl)
set_option maxHeartbeats 4000000 in
set_option maxRecDepth 100000 in
theorem qX12_ones_0 (C : CT p s m args meth c RX12 cX12_ones 3 (some .int) wsX12_ones D A (tyl cI cJ cT) Es) {N : Nat} {z_r : Int32} : ∀ (x0 : Int32), fX12_ones N x0 = some z_r → ∀ (H : Heap) (locs : List Loc) (ls : Array Slot), DB D A [] s H locs → lv_has ls 3 [(0, .int x0)] → W p l e rmX12_ones s m args below meth c H locs 0 0 (ZI below args s D A (tyl cI cJ cT) z_r [] 0 0) (F0 m 0 ls []) := by
  have hx := C.1.1
  have hb := C.1.2.1
  have hown := C.1.2.2.2.1
  have hts := C.1.2.2.2.2
  intro x0 h H locs ls B hl
  rw [fX12_ones] at h
  refine lv_iconst (v := 0) hx hb dX12_ones_0 (by decide) ?_
  refine lv_istore_n (lv' := [(1, .int (0 : Int32)), (0, .int x0)]) hx hb dX12_ones_1 rfl hl (by decide) rfl (fun ls hl => ?_)
  refine lv_iconst (v := 0) hx hb dX12_ones_2 (by decide) ?_
  refine lv_istore_n (lv' := [(2, .int (0 : Int32)), (1, .int (0 : Int32)), (0, .int x0)]) hx hb dX12_ones_3 rfl hl (by decide) rfl (fun ls hl => ?_)
  exact qX12_ones_4 C N x0 (0 : Int32) (0 : Int32) h H locs ls B (lv_sub hl [2, 1, 0] rfl)
end
theorem tX12_ones {l : Launch} {D : va_G} {Es : (Nat → Nat) × (Nat → Nat)} {cI cJ cT : ClassId} {x0 : Int32} {z_r : Int32} (N : Nat) (h : fX12_ones N x0 = some z_r) : CtI l yX12_ones wsX12_ones rmX12_ones D (tyl cI cJ cT) Es [.int x0] [] z_r [] :=
  CtI.of (own := RX12) (cc := cX12_ones) (nL := 3) (ret := (some .int)) (by decide +kernel) rfl rfl (Nat.le_of_ble_eq_true rfl) rfl (fun p e s m below meth c A ls C B hl => qX12_ones_0 C (N := N) x0 h _ _ _ B hl)

abbrev rmX12_say : Room := { frames := 1, cells := 0, slots := 0, locals := 25 }
theorem hdX12_say : yX12_say.cls ≠ "java/lang/invoke/MethodHandle" ∧ yX12_say.cls ≠ "java/lang/invoke/VarHandle" ∧ (parseMethodDescriptor yX12_say.desc).map (fun d => d.parameters.length) = some 1 := by decide +kernel
theorem mX12_say_l77 : (Cond.constantLong RX12 77 (33)) ∈ wsX12_say := by decide +kernel
theorem mX12_say_l79 : (Cond.constantLong RX12 79 (126)) ∈ wsX12_say := by decide +kernel
theorem iX12_say_X12 : ∀ w ∈ wsX120, w ∈ wsX12_say := by decide +kernel
theorem gfX12_say_85 {p : Program} {l : Launch} {e : Env} {R : Room} {s : State} {m : MethodId} {args : Array Value} {below : List Frame} {meth : Method} {c : Code} {H : Heap} {locs : List Loc} {cells slots : Nat} {Q : State → Prop} {D : va_G} {A : Nat → Prop} {tys : List (ClassId × FieldType)} {Es : (Nat → Nat) × (Nat → Nat)} {ws : va_W} {pc : Nat} {ls : Array Slot} {rest : List Value} {a : Nat} (C : CT p s m args meth c RX12 cX12_say 2 (some .int) wsX12_say D A tys Es) (B : DB D A ws s H locs) (q0 : Nat) {fs : List Value} {v : Value} (he : ws[q0]? = some (a, .inr (12, fs))) (hv : fs[1]? = some v) (hdg : decode cX12_say pc = .ok (.getfield 85, 3)) (kk : W p l e R s m args below meth c H locs cells slots Q (F0 m (pc + 3) ls (v :: rest))) : W p l e R s m args below meth c H locs cells slots Q (F0 m pc ls (.ref a :: rest)) :=
  k_get (Cn := RX12) (T := TX12) (N := 25) (index := 85) C B iX12_say_X12 rfl 1 (by decide) (by decide +kernel) q0 he hv hdg kk
theorem gfX12_say_7 {p : Program} {l : Launch} {e : Env} {R : Room} {s : State} {m : MethodId} {args : Array Value} {below : List Frame} {meth : Method} {c : Code} {H : Heap} {locs : List Loc} {cells slots : Nat} {Q : State → Prop} {D : va_G} {A : Nat → Prop} {tys : List (ClassId × FieldType)} {Es : (Nat → Nat) × (Nat → Nat)} {ws : va_W} {pc : Nat} {ls : Array Slot} {rest : List Value} {a : Nat} (C : CT p s m args meth c RX12 cX12_say 2 (some .int) wsX12_say D A tys Es) (B : DB D A ws s H locs) (q0 : Nat) {fs : List Value} {v : Value} (he : ws[q0]? = some (a, .inr (12, fs))) (hv : fs[0]? = some v) (hdg : decode cX12_say pc = .ok (.getfield 7, 3)) (kk : W p l e R s m args below meth c H locs cells slots Q (F0 m (pc + 3) ls (v :: rest))) : W p l e R s m args below meth c H locs cells slots Q (F0 m pc ls (.ref a :: rest)) :=
  k_get (Cn := RX12) (T := TX12) (N := 25) (index := 7) C B iX12_say_X12 rfl 0 (by decide) (by decide +kernel) q0 he hv hdg kk
theorem pfX12_say_85 {p : Program} {l : Launch} {e : Env} {R : Room} {s : State} {m : MethodId} {args : Array Value} {below : List Frame} {meth : Method} {c : Code} {H : Heap} {locs : List Loc} {cells slots : Nat} {Q : State → Prop} {D : va_G} {A : Nat → Prop} {tys : List (ClassId × FieldType)} {Es : (Nat → Nat) × (Nat → Nat)} {ws : va_W} {pc : Nat} {ls : Array Slot} {rest : List Value} {a : Nat} (C : CT p s m args meth c RX12 cX12_say 2 (some .int) wsX12_say D A tys Es) (B : DB D A ws s H locs) (q0 : Nat) {fs : List Value} {v : Value} (hn : narrow .int v = v) (hfit : fits .int v = true) (he : ws[q0]? = some (a, .inr (12, fs))) (hl : 1 < fs.length) (hdg : decode cX12_say pc = .ok (.putfield 85, 3)) (kk : ∀ (H1 : Heap) (locs1 : List Loc), DB D A (ws.set q0 (a, .inr (12, fs.set 1 v))) s H1 locs1 → W p l e R s m args below meth c H1 locs1 cells slots Q (F0 m (pc + 3) ls rest)) : W p l e R s m args below meth c H locs cells slots Q (F0 m pc ls (v :: .ref a :: rest)) :=
  k_put (Cn := RX12) (T := TX12) (N := 25) (index := 85) C B iX12_say_X12 rfl tyX12 tyX12_ok nmX12 1 (by decide) (by decide +kernel) rfl q0 (by decide +kernel) hn hfit he hl hdg kk
section
variable {p : Program} {l : Launch} {e : Env} {s : State} {m : MethodId} {args : Array Value} {below : List Frame} {meth : Method} {c : Code} {D : va_G} {A : Nat → Prop} {Es : (Nat → Nat) × (Nat → Nat)} {a b : Nat → Nat} {cI cJ cT : ClassId}
set_option maxHeartbeats 4000000 in
set_option maxRecDepth 100000 in
theorem qX12_say_0 (C : CT p s m args meth c RX12 cX12_say 2 (some .int) wsX12_say D A (tyl cI cJ cT) Es) {N : Nat} {mo_nodeSign : Nat → Int32} {mo_nodeOn : Nat → Int32} {mo_nodeSize : Nat → Int32} {mo_nodeMany : Nat → Int32} {mo_due : Nat → Int32} {mo_openNode : Nat → Int32} {mo_value : Nat → Int32} {mo_isLaid : Int32} {mo_changes : Int32} {mo_changeNode : Nat → Int32} {mo_changeSign : Nat → Int32} {mo_differs : Nat → Int32} {mo_results : Nat → Int32} {mo_own : Nat → Int32} {mo_kinds : Nat → Int32} {mo_testInputs : Nat → Int32} {mo_testDue : Nat → Int32} {mo_tests : Int32} {mo_noticed : Nat → Int32} {mo_missed : Nat → Int32} {mo_leastFrom : Nat → Int32} {mo_blameUpper : Nat → Int32} {mo_blameLower : Nat → Int32} {z_r : Int32} {z_mo_signs : Nat → Int32} {z_mo_signMany : Int32} : ∀ (x1 : Int32) (mo_signs : Nat → Int32) (mo_signMany : Int32), fX12_say N x1 mo_signs mo_signMany = some (z_r, z_mo_signs, z_mo_signMany) → ∀ (H : Heap) (locs : List Loc) (ls : Array Slot), DB D A (wd_mo a b cI cJ cT mo_signs mo_signMany mo_nodeSign mo_nodeOn mo_nodeSize mo_nodeMany mo_due mo_openNode mo_value mo_isLaid mo_changes mo_changeNode mo_changeSign mo_differs mo_results mo_own mo_kinds mo_testInputs mo_testDue mo_tests mo_noticed mo_missed mo_leastFrom mo_blameUpper mo_blameLower) s H locs → lv_has ls 2 [(0, .ref (b 0)), (1, .int x1)] → W p l e rmX12_say s m args below meth c H locs 0 0 (ZI below args s D A (tyl cI cJ cT) z_r (wd_mo a b cI cJ cT z_mo_signs z_mo_signMany mo_nodeSign mo_nodeOn mo_nodeSize mo_nodeMany mo_due mo_openNode mo_value mo_isLaid mo_changes mo_changeNode mo_changeSign mo_differs mo_results mo_own mo_kinds mo_testInputs mo_testDue mo_tests mo_noticed mo_missed mo_leastFrom mo_blameUpper mo_blameLower) 0 0) (F0 m 0 ls []) := by
  have hx := C.1.1
  have hb := C.1.2.1
  have hown := C.1.2.2.2.1
  have hts := C.1.2.2.2.2
  intro x1 mo_signs mo_signMany h H locs ls B hl
  rw [fX12_say] at h
  refine lv_iload_n hx hb dX12_say_0 rfl (lv_at hl 1 rfl) ?_
  refine lv_i2l (v := (Int32.toInt64 x1)) hx hb dX12_say_1 rfl ?_
  refine lv_ldc2 (v := 33) hx hb hown (hts _ mX12_say_l77) dX12_say_2 ?_
  refine lv_ldc2 (v := 126) hx hb hown (hts _ mX12_say_l79) dX12_say_5 ?_
  obtain ⟨r_1, g_5, h⟩ := ob_some h
  try dsimp only at h
  refine kc_SI C B (As := [.long (Int32.toInt64 x1), .long (33 : Int64), .long (126 : Int64)]) (rest := []) (w2 := (wd_mo a b cI cJ cT mo_signs mo_signMany mo_nodeSign mo_nodeOn mo_nodeSize mo_nodeMany mo_due mo_openNode mo_value mo_isLaid mo_changes mo_changeNode mo_changeSign mo_differs mo_results mo_own mo_kinds mo_testInputs mo_testDue mo_tests mo_noticed mo_missed mo_leastFrom mo_blameUpper mo_blameLower)) (tX12_in N g_5) gX12_say_X12_in rfl ⟨rfl, rfl⟩ hdX12_in ⟨Nat.le_of_ble_eq_true rfl, Nat.le_of_ble_eq_true rfl⟩ [] [0, 1, 2, 3, 4, 5, 6, 7, 8, 9, 10, 11, 12, 13, 14, 15, 16, 17, 18, 19, 20, 21] [0, 1, 2, 3, 4, 5, 6, 7, 8, 9, 10, 11, 12, 13, 14, 15, 16, 17, 18, 19, 20, 21] rfl rfl rfl rfl rfl rfl rfl rfl hl.1 rfl (Nat.le_of_ble_eq_true rfl) ⟨Nat.zero_le _, Nat.zero_le _⟩ dX12_say_8 (fun H locs B => ?_)
  refine lv_if_ne (tgt := 17) hx hb dX12_say_11 (by decide) (fun c_2 => ?_) (fun c_2 => ?_)
  · rw [if_neg c_2] at h
    refine lv_aload_n hx hb dX12_say_17 rfl (lv_at hl 0 rfl) ?_
    refine gfX12_say_85 C B 0 rfl rfl dX12_say_18 ?_
    refine lv_bipush (v := 40) hx hb dX12_say_21 (by decide) ?_
    refine lv_icmp_ne (tgt := 29) hx hb dX12_say_23 (by decide) (fun c_3 => ?_) (fun c_3 => ?_)
    · rw [if_neg c_3] at h
      refine lv_aload_n hx hb dX12_say_29 rfl (lv_at hl 0 rfl) ?_
      refine gfX12_say_7 C B 0 rfl rfl dX12_say_30 ?_
      refine lv_aload_n hx hb dX12_say_33 rfl (lv_at hl 0 rfl) ?_
      refine gfX12_say_85 C B 0 rfl rfl dX12_say_34 ?_
      refine lv_iload_n hx hb dX12_say_37 rfl (lv_at hl 1 rfl) ?_
      obtain ⟨b_4, h⟩ := bnd_some h
      refine k_iast C B 1 0 rfl rfl b_4 dX12_say_38 (fun H locs B => ?_)
      have B : DB D A (wd_mo a b cI cJ cT (upd mo_signs (Int32.toNatClampNeg mo_signMany) x1) mo_signMany mo_nodeSign mo_nodeOn mo_nodeSize mo_nodeMany mo_due mo_openNode mo_value mo_isLaid mo_changes mo_changeNode mo_changeSign mo_differs mo_results mo_own mo_kinds mo_testInputs mo_testDue mo_tests mo_noticed mo_missed mo_leastFrom mo_blameUpper mo_blameLower) s H locs := B
      refine lv_aload_n hx hb dX12_say_39 rfl (lv_at hl 0 rfl) ?_
      refine lv_dup hx hb dX12_say_40 rfl ?_
      refine gfX12_say_85 C B 0 rfl rfl dX12_say_41 ?_
      refine lv_iconst (v := 1) hx hb dX12_say_44 (by decide) ?_
      refine lv_iadd hx hb dX12_say_45 ?_
      refine pfX12_say_85 C B 0 rfl (by rfl) rfl (Nat.le_of_ble_eq_true rfl) dX12_say_46 (fun H locs B => ?_)
      have B : DB D A (wd_mo a b cI cJ cT (upd mo_signs (Int32.toNatClampNeg mo_signMany) x1) (mo_signMany + (1 : Int32)) mo_nodeSign mo_nodeOn mo_nodeSize mo_nodeMany mo_due mo_openNode mo_value mo_isLaid mo_changes mo_changeNode mo_changeSign mo_differs mo_results mo_own mo_kinds mo_testInputs mo_testDue mo_tests mo_noticed mo_missed mo_leastFrom mo_blameUpper mo_blameLower) s H locs := B
      refine lv_aload_n hx hb dX12_say_49 rfl (lv_at hl 0 rfl) ?_
      refine gfX12_say_85 C B 0 rfl rfl dX12_say_50 ?_
      cases h
      exact k_iret C B dX12_say_53
    · rw [if_pos c_3] at h
      refine lv_bipush (v := -4) hx hb dX12_say_26 (by decide) ?_
      cases h
      exact k_iret C B dX12_say_28
  · rw [if_pos c_2] at h
    refine lv_bipush (v := -2) hx hb dX12_say_14 (by decide) ?_
    cases h
    exact k_iret C B dX12_say_16
end
theorem tX12_say {l : Launch} {D : va_G} {Es : (Nat → Nat) × (Nat → Nat)} {a b : Nat → Nat} {cI cJ cT : ClassId} {mo_signs : Nat → Int32} {mo_signMany : Int32} {mo_nodeSign : Nat → Int32} {mo_nodeOn : Nat → Int32} {mo_nodeSize : Nat → Int32} {mo_nodeMany : Nat → Int32} {mo_due : Nat → Int32} {mo_openNode : Nat → Int32} {mo_value : Nat → Int32} {mo_isLaid : Int32} {mo_changes : Int32} {mo_changeNode : Nat → Int32} {mo_changeSign : Nat → Int32} {mo_differs : Nat → Int32} {mo_results : Nat → Int32} {mo_own : Nat → Int32} {mo_kinds : Nat → Int32} {mo_testInputs : Nat → Int32} {mo_testDue : Nat → Int32} {mo_tests : Int32} {mo_noticed : Nat → Int32} {mo_missed : Nat → Int32} {mo_leastFrom : Nat → Int32} {mo_blameUpper : Nat → Int32} {mo_blameLower : Nat → Int32} {x1 : Int32} {z_r : Int32} {z_mo_signs : Nat → Int32} {z_mo_signMany : Int32} (N : Nat) (h : fX12_say N x1 mo_signs mo_signMany = some (z_r, z_mo_signs, z_mo_signMany)) : CtI l yX12_say wsX12_say rmX12_say D (tyl cI cJ cT) Es [.ref (b 0), .int x1] (wd_mo a b cI cJ cT mo_signs mo_signMany mo_nodeSign mo_nodeOn mo_nodeSize mo_nodeMany mo_due mo_openNode mo_value mo_isLaid mo_changes mo_changeNode mo_changeSign mo_differs mo_results mo_own mo_kinds mo_testInputs mo_testDue mo_tests mo_noticed mo_missed mo_leastFrom mo_blameUpper mo_blameLower) z_r (wd_mo a b cI cJ cT z_mo_signs z_mo_signMany mo_nodeSign mo_nodeOn mo_nodeSize mo_nodeMany mo_due mo_openNode mo_value mo_isLaid mo_changes mo_changeNode mo_changeSign mo_differs mo_results mo_own mo_kinds mo_testInputs mo_testDue mo_tests mo_noticed mo_missed mo_leastFrom mo_blameUpper mo_blameLower) :=
  CtI.of (own := RX12) (cc := cX12_say) (nL := 2) (ret := (some .int)) (by decide +kernel) rfl rfl (Nat.le_of_ble_eq_true rfl) rfl (fun p e s m below meth c A ls C B hl => qX12_say_0 C (N := N) x1 mo_signs mo_signMany h _ _ _ B hl)

abbrev rmX12_wipe : Room := { frames := 0, cells := 0, slots := 0, locals := 0 }
theorem hdX12_wipe : yX12_wipe.cls ≠ "java/lang/invoke/MethodHandle" ∧ yX12_wipe.cls ≠ "java/lang/invoke/VarHandle" ∧ (parseMethodDescriptor yX12_wipe.desc).map (fun d => d.parameters.length) = some 0 := by decide +kernel
theorem iX12_wipe_X12 : ∀ w ∈ wsX120, w ∈ wsX12_wipe := by decide +kernel
theorem gfX12_wipe_85 {p : Program} {l : Launch} {e : Env} {R : Room} {s : State} {m : MethodId} {args : Array Value} {below : List Frame} {meth : Method} {c : Code} {H : Heap} {locs : List Loc} {cells slots : Nat} {Q : State → Prop} {D : va_G} {A : Nat → Prop} {tys : List (ClassId × FieldType)} {Es : (Nat → Nat) × (Nat → Nat)} {ws : va_W} {pc : Nat} {ls : Array Slot} {rest : List Value} {a : Nat} (C : CT p s m args meth c RX12 cX12_wipe 2 (some .int) wsX12_wipe D A tys Es) (B : DB D A ws s H locs) (q0 : Nat) {fs : List Value} {v : Value} (he : ws[q0]? = some (a, .inr (12, fs))) (hv : fs[1]? = some v) (hdg : decode cX12_wipe pc = .ok (.getfield 85, 3)) (kk : W p l e R s m args below meth c H locs cells slots Q (F0 m (pc + 3) ls (v :: rest))) : W p l e R s m args below meth c H locs cells slots Q (F0 m pc ls (.ref a :: rest)) :=
  k_get (Cn := RX12) (T := TX12) (N := 25) (index := 85) C B iX12_wipe_X12 rfl 1 (by decide) (by decide +kernel) q0 he hv hdg kk
theorem pfX12_wipe_85 {p : Program} {l : Launch} {e : Env} {R : Room} {s : State} {m : MethodId} {args : Array Value} {below : List Frame} {meth : Method} {c : Code} {H : Heap} {locs : List Loc} {cells slots : Nat} {Q : State → Prop} {D : va_G} {A : Nat → Prop} {tys : List (ClassId × FieldType)} {Es : (Nat → Nat) × (Nat → Nat)} {ws : va_W} {pc : Nat} {ls : Array Slot} {rest : List Value} {a : Nat} (C : CT p s m args meth c RX12 cX12_wipe 2 (some .int) wsX12_wipe D A tys Es) (B : DB D A ws s H locs) (q0 : Nat) {fs : List Value} {v : Value} (hn : narrow .int v = v) (hfit : fits .int v = true) (he : ws[q0]? = some (a, .inr (12, fs))) (hl : 1 < fs.length) (hdg : decode cX12_wipe pc = .ok (.putfield 85, 3)) (kk : ∀ (H1 : Heap) (locs1 : List Loc), DB D A (ws.set q0 (a, .inr (12, fs.set 1 v))) s H1 locs1 → W p l e R s m args below meth c H1 locs1 cells slots Q (F0 m (pc + 3) ls rest)) : W p l e R s m args below meth c H locs cells slots Q (F0 m pc ls (v :: .ref a :: rest)) :=
  k_put (Cn := RX12) (T := TX12) (N := 25) (index := 85) C B iX12_wipe_X12 rfl tyX12 tyX12_ok nmX12 1 (by decide) (by decide +kernel) rfl q0 (by decide +kernel) hn hfit he hl hdg kk
section
variable {p : Program} {l : Launch} {e : Env} {s : State} {m : MethodId} {args : Array Value} {below : List Frame} {meth : Method} {c : Code} {D : va_G} {A : Nat → Prop} {Es : (Nat → Nat) × (Nat → Nat)} {a b : Nat → Nat} {cI cJ cT : ClassId}
set_option maxHeartbeats 4000000 in
set_option maxRecDepth 100000 in
theorem qX12_wipe_0 (C : CT p s m args meth c RX12 cX12_wipe 2 (some .int) wsX12_wipe D A (tyl cI cJ cT) Es) {N : Nat} {mo_signs : Nat → Int32} {mo_nodeSign : Nat → Int32} {mo_nodeOn : Nat → Int32} {mo_nodeSize : Nat → Int32} {mo_nodeMany : Nat → Int32} {mo_due : Nat → Int32} {mo_openNode : Nat → Int32} {mo_value : Nat → Int32} {mo_isLaid : Int32} {mo_changes : Int32} {mo_changeNode : Nat → Int32} {mo_changeSign : Nat → Int32} {mo_differs : Nat → Int32} {mo_results : Nat → Int32} {mo_own : Nat → Int32} {mo_kinds : Nat → Int32} {mo_testInputs : Nat → Int32} {mo_testDue : Nat → Int32} {mo_tests : Int32} {mo_noticed : Nat → Int32} {mo_missed : Nat → Int32} {mo_leastFrom : Nat → Int32} {mo_blameUpper : Nat → Int32} {mo_blameLower : Nat → Int32} {z_r : Int32} {z_mo_signMany : Int32} : ∀ (mo_signMany : Int32), fX12_wipe N mo_signMany = some (z_r, z_mo_signMany) → ∀ (H : Heap) (locs : List Loc) (ls : Array Slot), DB D A (wd_mo a b cI cJ cT mo_signs mo_signMany mo_nodeSign mo_nodeOn mo_nodeSize mo_nodeMany mo_due mo_openNode mo_value mo_isLaid mo_changes mo_changeNode mo_changeSign mo_differs mo_results mo_own mo_kinds mo_testInputs mo_testDue mo_tests mo_noticed mo_missed mo_leastFrom mo_blameUpper mo_blameLower) s H locs → lv_has ls 2 [(0, .ref (b 0))] → W p l e rmX12_wipe s m args below meth c H locs 0 0 (ZI below args s D A (tyl cI cJ cT) z_r (wd_mo a b cI cJ cT mo_signs z_mo_signMany mo_nodeSign mo_nodeOn mo_nodeSize mo_nodeMany mo_due mo_openNode mo_value mo_isLaid mo_changes mo_changeNode mo_changeSign mo_differs mo_results mo_own mo_kinds mo_testInputs mo_testDue mo_tests mo_noticed mo_missed mo_leastFrom mo_blameUpper mo_blameLower) 0 0) (F0 m 0 ls []) := by
  have hx := C.1.1
  have hb := C.1.2.1
  have hown := C.1.2.2.2.1
  have hts := C.1.2.2.2.2
  intro mo_signMany h H locs ls B hl
  rw [fX12_wipe] at h
  refine lv_aload_n hx hb dX12_wipe_0 rfl (lv_at hl 0 rfl) ?_
  refine gfX12_wipe_85 C B 0 rfl rfl dX12_wipe_1 ?_
  refine lv_istore_n (lv' := [(1, .int mo_signMany), (0, .ref (b 0))]) hx hb dX12_wipe_4 rfl hl (by decide) rfl (fun ls hl => ?_)
  refine lv_aload_n hx hb dX12_wipe_5 rfl (lv_at hl 1 rfl) ?_
  refine lv_iconst (v := 0) hx hb dX12_wipe_6 (by decide) ?_
  refine pfX12_wipe_85 C B 0 rfl (by rfl) rfl (Nat.le_of_ble_eq_true rfl) dX12_wipe_7 (fun H locs B => ?_)
  have B : DB D A (wd_mo a b cI cJ cT mo_signs (0 : Int32) mo_nodeSign mo_nodeOn mo_nodeSize mo_nodeMany mo_due mo_openNode mo_value mo_isLaid mo_changes mo_changeNode mo_changeSign mo_differs mo_results mo_own mo_kinds mo_testInputs mo_testDue mo_tests mo_noticed mo_missed mo_leastFrom mo_blameUpper mo_blameLower) s H locs := B
  refine lv_iload_n hx hb dX12_wipe_10 rfl (lv_at hl 0 rfl) ?_
  cases h
  exact k_iret C B dX12_wipe_11
end
theorem tX12_wipe {l : Launch} {D : va_G} {Es : (Nat → Nat) × (Nat → Nat)} {a b : Nat → Nat} {cI cJ cT : ClassId} {mo_signs : Nat → Int32} {mo_signMany : Int32} {mo_nodeSign : Nat → Int32} {mo_nodeOn : Nat → Int32} {mo_nodeSize : Nat → Int32} {mo_nodeMany : Nat → Int32} {mo_due : Nat → Int32} {mo_openNode : Nat → Int32} {mo_value : Nat → Int32} {mo_isLaid : Int32} {mo_changes : Int32} {mo_changeNode : Nat → Int32} {mo_changeSign : Nat → Int32} {mo_differs : Nat → Int32} {mo_results : Nat → Int32} {mo_own : Nat → Int32} {mo_kinds : Nat → Int32} {mo_testInputs : Nat → Int32} {mo_testDue : Nat → Int32} {mo_tests : Int32} {mo_noticed : Nat → Int32} {mo_missed : Nat → Int32} {mo_leastFrom : Nat → Int32} {mo_blameUpper : Nat → Int32} {mo_blameLower : Nat → Int32} {z_r : Int32} {z_mo_signMany : Int32} (N : Nat) (h : fX12_wipe N mo_signMany = some (z_r, z_mo_signMany)) : CtI l yX12_wipe wsX12_wipe rmX12_wipe D (tyl cI cJ cT) Es [.ref (b 0)] (wd_mo a b cI cJ cT mo_signs mo_signMany mo_nodeSign mo_nodeOn mo_nodeSize mo_nodeMany mo_due mo_openNode mo_value mo_isLaid mo_changes mo_changeNode mo_changeSign mo_differs mo_results mo_own mo_kinds mo_testInputs mo_testDue mo_tests mo_noticed mo_missed mo_leastFrom mo_blameUpper mo_blameLower) z_r (wd_mo a b cI cJ cT mo_signs z_mo_signMany mo_nodeSign mo_nodeOn mo_nodeSize mo_nodeMany mo_due mo_openNode mo_value mo_isLaid mo_changes mo_changeNode mo_changeSign mo_differs mo_results mo_own mo_kinds mo_testInputs mo_testDue mo_tests mo_noticed mo_missed mo_leastFrom mo_blameUpper mo_blameLower) :=
  CtI.of (own := RX12) (cc := cX12_wipe) (nL := 2) (ret := (some .int)) (by decide +kernel) rfl rfl (Nat.le_of_ble_eq_true rfl) rfl (fun p e s m below meth c A ls C B hl => qX12_wipe_0 C (N := N) mo_signMany h _ _ _ B hl)

abbrev rmX12_isInput : Room := { frames := 1, cells := 0, slots := 0, locals := 25 }
theorem hdX12_isInput : yX12_isInput.cls ≠ "java/lang/invoke/MethodHandle" ∧ yX12_isInput.cls ≠ "java/lang/invoke/VarHandle" ∧ (parseMethodDescriptor yX12_isInput.desc).map (fun d => d.parameters.length) = some 1 := by decide +kernel
theorem mX12_isInput_l89 : (Cond.constantLong RX12 89 (97)) ∈ wsX12_isInput := by decide +kernel
theorem mX12_isInput_l91 : (Cond.constantLong RX12 91 (99)) ∈ wsX12_isInput := by decide +kernel
section
variable {p : Program} {l : Launch} {e : Env} {s : State} {m : MethodId} {args : Array Value} {below : List Frame} {meth : Method} {c : Code} {D : va_G} {A : Nat → Prop} {Es : (Nat → Nat) × (Nat → Nat)} {a b : Nat → Nat} {cI cJ cT : ClassId}
set_option maxHeartbeats 4000000 in
set_option maxRecDepth 100000 in
theorem qX12_isInput_0 (C : CT p s m args meth c RX12 cX12_isInput 1 (some .boolean) wsX12_isInput D A (tyl cI cJ cT) Es) {N : Nat} {z_r : Int32} : ∀ (x0 : Int32), fX12_isInput N x0 = some z_r → ∀ (H : Heap) (locs : List Loc) (ls : Array Slot), DB D A [] s H locs → lv_has ls 1 [(0, .int x0)] → W p l e rmX12_isInput s m args below meth c H locs 0 0 (ZI below args s D A (tyl cI cJ cT) z_r [] 0 0) (F0 m 0 ls []) := by
  have hx := C.1.1
  have hb := C.1.2.1
  have hown := C.1.2.2.2.1
  have hts := C.1.2.2.2.2
  intro x0 h H locs ls B hl
  rw [fX12_isInput] at h
  refine lv_iload_n hx hb dX12_isInput_0 rfl (lv_at hl 0 rfl) ?_
  refine lv_i2l (v := (Int32.toInt64 x0)) hx hb dX12_isInput_1 rfl ?_
  refine lv_ldc2 (v := 97) hx hb hown (hts _ mX12_isInput_l89) dX12_isInput_2 ?_
  refine lv_ldc2 (v := 99) hx hb hown (hts _ mX12_isInput_l91) dX12_isInput_5 ?_
  obtain ⟨r_1, g_3, h⟩ := ob_some h
  try dsimp only at h
  refine kc_SI C B (As := [.long (Int32.toInt64 x0), .long (97 : Int64), .long (99 : Int64)]) (rest := []) (w2 := []) (tX12_in N g_3) gX12_isInput_X12_in rfl ⟨rfl, rfl⟩ hdX12_in ⟨Nat.le_of_ble_eq_true rfl, Nat.le_of_ble_eq_true rfl⟩ [] [] [] rfl rfl rfl rfl rfl rfl rfl rfl hl.1 rfl (Nat.le_of_ble_eq_true rfl) ⟨Nat.zero_le _, Nat.zero_le _⟩ dX12_isInput_8 (fun H locs B => ?_)
  obtain ⟨z_2, h⟩ := bo_some h
  cases h
  exact k_zret C B z_2 dX12_isInput_11
end
theorem tX12_isInput {l : Launch} {D : va_G} {Es : (Nat → Nat) × (Nat → Nat)} {cI cJ cT : ClassId} {x0 : Int32} {z_r : Int32} (N : Nat) (h : fX12_isInput N x0 = some z_r) : CtI l yX12_isInput wsX12_isInput rmX12_isInput D (tyl cI cJ cT) Es [.int x0] [] z_r [] :=
  CtI.of (own := RX12) (cc := cX12_isInput) (nL := 1) (ret := (some .boolean)) (by decide +kernel) rfl rfl (Nat.le_of_ble_eq_true rfl) rfl (fun p e s m below meth c A ls C B hl => qX12_isInput_0 C (N := N) x0 h _ _ _ B hl)

abbrev rmX12_isNumber : Room := { frames := 1, cells := 0, slots := 0, locals := 25 }
theorem hdX12_isNumber : yX12_isNumber.cls ≠ "java/lang/invoke/MethodHandle" ∧ yX12_isNumber.cls ≠ "java/lang/invoke/VarHandle" ∧ (parseMethodDescriptor yX12_isNumber.desc).map (fun d => d.parameters.length) = some 1 := by decide +kernel
theorem mX12_isNumber_l93 : (Cond.constantLong RX12 93 (48)) ∈ wsX12_isNumber := by decide +kernel
theorem mX12_isNumber_l95 : (Cond.constantLong RX12 95 (55)) ∈ wsX12_isNumber := by decide +kernel
section
variable {p : Program} {l : Launch} {e : Env} {s : State} {m : MethodId} {args : Array Value} {below : List Frame} {meth : Method} {c : Code} {D : va_G} {A : Nat → Prop} {Es : (Nat → Nat) × (Nat → Nat)} {a b : Nat → Nat} {cI cJ cT : ClassId}
set_option maxHeartbeats 4000000 in
set_option maxRecDepth 100000 in
theorem qX12_isNumber_0 (C : CT p s m args meth c RX12 cX12_isNumber 1 (some .boolean) wsX12_isNumber D A (tyl cI cJ cT) Es) {N : Nat} {z_r : Int32} : ∀ (x0 : Int32), fX12_isNumber N x0 = some z_r → ∀ (H : Heap) (locs : List Loc) (ls : Array Slot), DB D A [] s H locs → lv_has ls 1 [(0, .int x0)] → W p l e rmX12_isNumber s m args below meth c H locs 0 0 (ZI below args s D A (tyl cI cJ cT) z_r [] 0 0) (F0 m 0 ls []) := by
  have hx := C.1.1
  have hb := C.1.2.1
  have hown := C.1.2.2.2.1
  have hts := C.1.2.2.2.2
  intro x0 h H locs ls B hl
  rw [fX12_isNumber] at h
  refine lv_iload_n hx hb dX12_isNumber_0 rfl (lv_at hl 0 rfl) ?_
  refine lv_i2l (v := (Int32.toInt64 x0)) hx hb dX12_isNumber_1 rfl ?_
  refine lv_ldc2 (v := 48) hx hb hown (hts _ mX12_isNumber_l93) dX12_isNumber_2 ?_
  refine lv_ldc2 (v := 55) hx hb hown (hts _ mX12_isNumber_l95) dX12_isNumber_5 ?_
  obtain ⟨r_1, g_3, h⟩ := ob_some h
  try dsimp only at h
  refine kc_SI C B (As := [.long (Int32.toInt64 x0), .long (48 : Int64), .long (55 : Int64)]) (rest := []) (w2 := []) (tX12_in N g_3) gX12_isNumber_X12_in rfl ⟨rfl, rfl⟩ hdX12_in ⟨Nat.le_of_ble_eq_true rfl, Nat.le_of_ble_eq_true rfl⟩ [] [] [] rfl rfl rfl rfl rfl rfl rfl rfl hl.1 rfl (Nat.le_of_ble_eq_true rfl) ⟨Nat.zero_le _, Nat.zero_le _⟩ dX12_isNumber_8 (fun H locs B => ?_)
  obtain ⟨z_2, h⟩ := bo_some h
  cases h
  exact k_zret C B z_2 dX12_isNumber_11
end
theorem tX12_isNumber {l : Launch} {D : va_G} {Es : (Nat → Nat) × (Nat → Nat)} {cI cJ cT : ClassId} {x0 : Int32} {z_r : Int32} (N : Nat) (h : fX12_isNumber N x0 = some z_r) : CtI l yX12_isNumber wsX12_isNumber rmX12_isNumber D (tyl cI cJ cT) Es [.int x0] [] z_r [] :=
  CtI.of (own := RX12) (cc := cX12_isNumber) (nL := 1) (ret := (some .boolean)) (by decide +kernel) rfl rfl (Nat.le_of_ble_eq_true rfl) rfl (fun p e s m below meth c A ls C B hl => qX12_isNumber_0 C (N := N) x0 h _ _ _ B hl)

abbrev rmX12_partsOf : Room := { frames := 2, cells := 0, slots := 0, locals := 45 }
theorem hdX12_partsOf : yX12_partsOf.cls ≠ "java/lang/invoke/MethodHandle" ∧ yX12_partsOf.cls ≠ "java/lang/invoke/VarHandle" ∧ (parseMethodDescriptor yX12_partsOf.desc).map (fun d => d.parameters.length) = some 1 := by decide +kernel
section
variable {p : Program} {l : Launch} {e : Env} {s : State} {m : MethodId} {args : Array Value} {below : List Frame} {meth : Method} {c : Code} {D : va_G} {A : Nat → Prop} {Es : (Nat → Nat) × (Nat → Nat)} {a b : Nat → Nat} {cI cJ cT : ClassId}
set_option maxHeartbeats 4000000 in
set_option maxRecDepth 100000 in
theorem qX12_partsOf_0 (C : CT p s m args meth c RX12 cX12_partsOf 1 (some .int) wsX12_partsOf D A (tyl cI cJ cT) Es) {N : Nat} {z_r : Int32} : ∀ (x0 : Int32), fX12_partsOf N x0 = some z_r → ∀ (H : Heap) (locs : List Loc) (ls : Array Slot), DB D A [] s H locs → lv_has ls 1 [(0, .int x0)] → W p l e rmX12_partsOf s m args below meth c H locs 0 0 (ZI below args s D A (tyl cI cJ cT) z_r [] 0 0) (F0 m 0 ls []) := by
  have hx := C.1.1
  have hb := C.1.2.1
  have hown := C.1.2.2.2.1
  have hts := C.1.2.2.2.2
  intro x0 h H locs ls B hl
  rw [fX12_partsOf] at h
  refine lv_iload_n hx hb dX12_partsOf_0 rfl (lv_at hl 0 rfl) ?_
  obtain ⟨r_1, g_14, h⟩ := ob_some h
  try dsimp only at h
  refine kc_SI C B (As := [.int x0]) (rest := []) (w2 := []) (tX12_isInput N g_14) gX12_partsOf_X12_isInput rfl ⟨rfl, rfl⟩ hdX12_isInput ⟨Nat.le_of_ble_eq_true rfl, Nat.le_of_ble_eq_true rfl⟩ [] [] [] rfl rfl rfl rfl rfl rfl rfl rfl hl.1 rfl (Nat.le_of_ble_eq_true rfl) ⟨Nat.zero_le _, Nat.zero_le _⟩ dX12_partsOf_1 (fun H locs B => ?_)
  refine lv_if_ne (tgt := 14) hx hb dX12_partsOf_4 (by decide) (fun c_2 => ?_) (fun c_2 => ?_)
  · rw [if_neg c_2] at h
    refine lv_iconst (v := 0) hx hb dX12_partsOf_14 (by decide) ?_
    cases h
    exact k_iret C B dX12_partsOf_15
  · rw [if_pos c_2] at h
    refine lv_iload_n hx hb dX12_partsOf_7 rfl (lv_at hl 0 rfl) ?_
    obtain ⟨r_3, g_13, h⟩ := ob_some h
    try dsimp only at h
    refine kc_SI C B (As := [.int x0]) (rest := []) (w2 := []) (tX12_isNumber N g_13) gX12_partsOf_X12_isNumber rfl ⟨rfl, rfl⟩ hdX12_isNumber ⟨Nat.le_of_ble_eq_true rfl, Nat.le_of_ble_eq_true rfl⟩ [] [] [] rfl rfl rfl rfl rfl rfl rfl rfl hl.1 rfl (Nat.le_of_ble_eq_true rfl) ⟨Nat.zero_le _, Nat.zero_le _⟩ dX12_partsOf_8 (fun H locs B => ?_)
    refine lv_if_eq (tgt := 16) hx hb dX12_partsOf_11 (by decide) (fun c_4 => ?_) (fun c_4 => ?_)
    · rw [if_pos c_4] at h
      refine lv_iload_n hx hb dX12_partsOf_16 rfl (lv_at hl 0 rfl) ?_
      by_cases c_5 : x0 = 42
      · rw [if_pos c_5] at h
        refine lv_lookup (off := 75) (tgt := 92) hx hb dX12_partsOf_17 (by decide) (by rw [c_5]; try rfl) (by decide) ?_
        refine lv_iconst (v := 2) hx hb dX12_partsOf_92 (by decide) ?_
        cases h
        exact k_iret C B dX12_partsOf_93
      · rw [if_neg c_5] at h
        by_cases c_6 : x0 = 43
        · rw [if_pos c_6] at h
          refine lv_lookup (off := 75) (tgt := 92) hx hb dX12_partsOf_17 (by decide) (by rw [c_6]; try rfl) (by decide) ?_
          refine lv_iconst (v := 2) hx hb dX12_partsOf_92 (by decide) ?_
          cases h
          exact k_iret C B dX12_partsOf_93
        · rw [if_neg c_6] at h
          by_cases c_7 : x0 = 45
          · rw [if_pos c_7] at h
            refine lv_lookup (off := 75) (tgt := 92) hx hb dX12_partsOf_17 (by decide) (by rw [c_7]; try rfl) (by decide) ?_
            refine lv_iconst (v := 2) hx hb dX12_partsOf_92 (by decide) ?_
            cases h
            exact k_iret C B dX12_partsOf_93
          · rw [if_neg c_7] at h
            by_cases c_8 : x0 = 60
            · rw [if_pos c_8] at h
              refine lv_lookup (off := 77) (tgt := 94) hx hb dX12_partsOf_17 (by decide) (by rw [c_8]; try rfl) (by decide) ?_
              refine lv_iconst (v := 4) hx hb dX12_partsOf_94 (by decide) ?_
              cases h
              exact k_iret C B dX12_partsOf_95
            · rw [if_neg c_8] at h
              by_cases c_9 : x0 = 61
              · rw [if_pos c_9] at h
                refine lv_lookup (off := 77) (tgt := 94) hx hb dX12_partsOf_17 (by decide) (by rw [c_9]; try rfl) (by decide) ?_
                refine lv_iconst (v := 4) hx hb dX12_partsOf_94 (by decide) ?_
                cases h
                exact k_iret C B dX12_partsOf_95
              · rw [if_neg c_9] at h
                by_cases c_10 : x0 = 62
                · rw [if_pos c_10] at h
                  refine lv_lookup (off := 77) (tgt := 94) hx hb dX12_partsOf_17 (by decide) (by rw [c_10]; try rfl) (by decide) ?_
                  refine lv_iconst (v := 4) hx hb dX12_partsOf_94 (by decide) ?_
                  cases h
                  exact k_iret C B dX12_partsOf_95
                · rw [if_neg c_10] at h
                  by_cases c_11 : x0 = 77
                  · rw [if_pos c_11] at h
                    refine lv_lookup (off := 75) (tgt := 92) hx hb dX12_partsOf_17 (by decide) (by rw [c_11]; try rfl) (by decide) ?_
                    refine lv_iconst (v := 2) hx hb dX12_partsOf_92 (by decide) ?_
                    cases h
                    exact k_iret C B dX12_partsOf_93
                  · rw [if_neg c_11] at h
                    by_cases c_12 : x0 = 109
                    · rw [if_pos c_12] at h
                      refine lv_lookup (off := 75) (tgt := 92) hx hb dX12_partsOf_17 (by decide) (by rw [c_12]; try rfl) (by decide) ?_
                      refine lv_iconst (v := 2) hx hb dX12_partsOf_92 (by decide) ?_
                      cases h
                      exact k_iret C B dX12_partsOf_93
                    · rw [if_neg c_12] at h
                      refine lv_lookup (off := 79) (tgt := 96) hx hb dX12_partsOf_17 (by decide) ((lv_osw c_5 (k := 42) rfl).trans ((lv_osw c_6 (k := 43) rfl).trans ((lv_osw c_7 (k := 45) rfl).trans ((lv_osw c_8 (k := 60) rfl).trans ((lv_osw c_9 (k := 61) rfl).trans ((lv_osw c_10 (k := 62) rfl).trans ((lv_osw c_11 (k := 77) rfl).trans ((lv_osw c_12 (k := 109) rfl).trans rfl)))))))) (by decide) ?_
                      refine lv_iconst (v := -1) hx hb dX12_partsOf_96 (by decide) ?_
                      cases h
                      exact k_iret C B dX12_partsOf_97
    · rw [if_neg c_4] at h
      refine lv_iconst (v := 0) hx hb dX12_partsOf_14 (by decide) ?_
      cases h
      exact k_iret C B dX12_partsOf_15
end
theorem tX12_partsOf {l : Launch} {D : va_G} {Es : (Nat → Nat) × (Nat → Nat)} {cI cJ cT : ClassId} {x0 : Int32} {z_r : Int32} (N : Nat) (h : fX12_partsOf N x0 = some z_r) : CtI l yX12_partsOf wsX12_partsOf rmX12_partsOf D (tyl cI cJ cT) Es [.int x0] [] z_r [] :=
  CtI.of (own := RX12) (cc := cX12_partsOf) (nL := 1) (ret := (some .int)) (by decide +kernel) rfl rfl (Nat.le_of_ble_eq_true rfl) rfl (fun p e s m below meth c A ls C B hl => qX12_partsOf_0 C (N := N) x0 h _ _ _ B hl)

abbrev rmX12_fault : Room := { frames := 3, cells := 0, slots := 0, locals := 65 }
theorem hdX12_fault : yX12_fault.cls ≠ "java/lang/invoke/MethodHandle" ∧ yX12_fault.cls ≠ "java/lang/invoke/VarHandle" ∧ (parseMethodDescriptor yX12_fault.desc).map (fun d => d.parameters.length) = some 0 := by decide +kernel
theorem iX12_fault_X12 : ∀ w ∈ wsX120, w ∈ wsX12_fault := by decide +kernel
theorem gfX12_fault_25 {p : Program} {l : Launch} {e : Env} {R : Room} {s : State} {m : MethodId} {args : Array Value} {below : List Frame} {meth : Method} {c : Code} {H : Heap} {locs : List Loc} {cells slots : Nat} {Q : State → Prop} {D : va_G} {A : Nat → Prop} {tys : List (ClassId × FieldType)} {Es : (Nat → Nat) × (Nat → Nat)} {ws : va_W} {pc : Nat} {ls : Array Slot} {rest : List Value} {a : Nat} (C : CT p s m args meth c RX12 cX12_fault 5 (some .int) wsX12_fault D A tys Es) (B : DB D A ws s H locs) (q0 : Nat) {fs : List Value} {v : Value} (he : ws[q0]? = some (a, .inr (12, fs))) (hv : fs[6]? = some v) (hdg : decode cX12_fault pc = .ok (.getfield 25, 3)) (kk : W p l e R s m args below meth c H locs cells slots Q (F0 m (pc + 3) ls (v :: rest))) : W p l e R s m args below meth c H locs cells slots Q (F0 m pc ls (.ref a :: rest)) :=
  k_get (Cn := RX12) (T := TX12) (N := 25) (index := 25) C B iX12_fault_X12 rfl 6 (by decide) (by decide +kernel) q0 he hv hdg kk
theorem gfX12_fault_85 {p : Program} {l : Launch} {e : Env} {R : Room} {s : State} {m : MethodId} {args : Array Value} {below : List Frame} {meth : Method} {c : Code} {H : Heap} {locs : List Loc} {cells slots : Nat} {Q : State → Prop} {D : va_G} {A : Nat → Prop} {tys : List (ClassId × FieldType)} {Es : (Nat → Nat) × (Nat → Nat)} {ws : va_W} {pc : Nat} {ls : Array Slot} {rest : List Value} {a : Nat} (C : CT p s m args meth c RX12 cX12_fault 5 (some .int) wsX12_fault D A tys Es) (B : DB D A ws s H locs) (q0 : Nat) {fs : List Value} {v : Value} (he : ws[q0]? = some (a, .inr (12, fs))) (hv : fs[1]? = some v) (hdg : decode cX12_fault pc = .ok (.getfield 85, 3)) (kk : W p l e R s m args below meth c H locs cells slots Q (F0 m (pc + 3) ls (v :: rest))) : W p l e R s m args below meth c H locs cells slots Q (F0 m pc ls (.ref a :: rest)) :=
  k_get (Cn := RX12) (T := TX12) (N := 25) (index := 85) C B iX12_fault_X12 rfl 1 (by decide) (by decide +kernel) q0 he hv hdg kk
theorem gfX12_fault_7 {p : Program} {l : Launch} {e : Env} {R : Room} {s : State} {m : MethodId} {args : Array Value} {below : List Frame} {meth : Method} {c : Code} {H : Heap} {locs : List Loc} {cells slots : Nat} {Q : State → Prop} {D : va_G} {A : Nat → Prop} {tys : List (ClassId × FieldType)} {Es : (Nat → Nat) × (Nat → Nat)} {ws : va_W} {pc : Nat} {ls : Array Slot} {rest : List Value} {a : Nat} (C : CT p s m args meth c RX12 cX12_fault 5 (some .int) wsX12_fault D A tys Es) (B : DB D A ws s H locs) (q0 : Nat) {fs : List Value} {v : Value} (he : ws[q0]? = some (a, .inr (12, fs))) (hv : fs[0]? = some v) (hdg : decode cX12_fault pc = .ok (.getfield 7, 3)) (kk : W p l e R s m args below meth c H locs cells slots Q (F0 m (pc + 3) ls (v :: rest))) : W p l e R s m args below meth c H locs cells slots Q (F0 m pc ls (.ref a :: rest)) :=
  k_get (Cn := RX12) (T := TX12) (N := 25) (index := 7) C B iX12_fault_X12 rfl 0 (by decide) (by decide +kernel) q0 he hv hdg kk
section
variable {p : Program} {l : Launch} {e : Env} {s : State} {m : MethodId} {args : Array Value} {below : List Frame} {meth : Method} {c : Code} {D : va_G} {A : Nat → Prop} {Es : (Nat → Nat) × (Nat → Nat)} {a b : Nat → Nat} {cI cJ cT : ClassId}
set_option maxHeartbeats 4000000 in
set_option maxRecDepth 100000 in
theorem qX12_fault_87 (C : CT p s m args meth c RX12 cX12_fault 5 (some .int) wsX12_fault D A (tyl cI cJ cT) Es) {N : Nat} {mo_signs : Nat → Int32} {mo_signMany : Int32} {mo_nodeSign : Nat → Int32} {mo_nodeOn : Nat → Int32} {mo_nodeSize : Nat → Int32} {mo_nodeMany : Nat → Int32} {mo_openNode : Nat → Int32} {mo_value : Nat → Int32} {mo_isLaid : Int32} {mo_changes : Int32} {mo_changeNode : Nat → Int32} {mo_changeSign : Nat → Int32} {mo_differs : Nat → Int32} {mo_results : Nat → Int32} {mo_own : Nat → Int32} {mo_kinds : Nat → Int32} {mo_testInputs : Nat → Int32} {mo_testDue : Nat → Int32} {mo_tests : Int32} {mo_noticed : Nat → Int32} {mo_missed : Nat → Int32} {mo_leastFrom : Nat → Int32} {mo_blameUpper : Nat → Int32} {mo_blameLower : Nat → Int32} {z_r : Int32} {z_mo_due : Nat → Int32} {k6 : Int32 → Int32 → Int32 → (Nat → Int32) → Option (Int32 × (Nat → Int32))} (hk6 : ∀ (x1 : Int32) (x2 : Int32) (x3 : Int32) (mo_due : Nat → Int32), k6 x1 x2 x3 mo_due = some (z_r, z_mo_due) → ∀ (H : Heap) (locs : List Loc) (ls : Array Slot), DB D A (wd_mo a b cI cJ cT mo_signs mo_signMany mo_nodeSign mo_nodeOn mo_nodeSize mo_nodeMany mo_due mo_openNode mo_value mo_isLaid mo_changes mo_changeNode mo_changeSign mo_differs mo_results mo_own mo_kinds mo_testInputs mo_testDue mo_tests mo_noticed mo_missed mo_leastFrom mo_blameUpper mo_blameLower) s H locs → lv_has ls 5 [(0, .ref (b 0)), (1, .int x1), (2, .int x2), (3, .int x3)] → W p l e rmX12_fault s m args below meth c H locs 0 0 (ZI below args s D A (tyl cI cJ cT) z_r (wd_mo a b cI cJ cT mo_signs mo_signMany mo_nodeSign mo_nodeOn mo_nodeSize mo_nodeMany z_mo_due mo_openNode mo_value mo_isLaid mo_changes mo_changeNode mo_changeSign mo_differs mo_results mo_own mo_kinds mo_testInputs mo_testDue mo_tests mo_noticed mo_missed mo_leastFrom mo_blameUpper mo_blameLower) 0 0) (F0 m 6 ls [])) : ∀ (x1 : Int32) (x3 : Int32) (mo_due : Nat → Int32), bX12_fault_87 N mo_signs mo_signMany k6 x1 x3 mo_due = some (z_r, z_mo_due) → ∀ (H : Heap) (locs : List Loc) (ls : Array Slot), DB D A (wd_mo a b cI cJ cT mo_signs mo_signMany mo_nodeSign mo_nodeOn mo_nodeSize mo_nodeMany mo_due mo_openNode mo_value mo_isLaid mo_changes mo_changeNode mo_changeSign mo_differs mo_results mo_own mo_kinds mo_testInputs mo_testDue mo_tests mo_noticed mo_missed mo_leastFrom mo_blameUpper mo_blameLower) s H locs → lv_has ls 5 [(0, .ref (b 0)), (1, .int x1), (3, .int x3)] → W p l e rmX12_fault s m args below meth c H locs 0 0 (ZI below args s D A (tyl cI cJ cT) z_r (wd_mo a b cI cJ cT mo_signs mo_signMany mo_nodeSign mo_nodeOn mo_nodeSize mo_nodeMany z_mo_due mo_openNode mo_value mo_isLaid mo_changes mo_changeNode mo_changeSign mo_differs mo_results mo_own mo_kinds mo_testInputs mo_testDue mo_tests mo_noticed mo_missed mo_leastFrom mo_blameUpper mo_blameLower) 0 0) (F0 m 87 ls []) := by
  have hx := C.1.1
  have hb := C.1.2.1
  have hown := C.1.2.2.2.1
  have hts := C.1.2.2.2.2
  intro x1 x3 mo_due h H locs ls B hl
  rw [bX12_fault_87] at h
  refine lv_iload_n hx hb dX12_fault_87 rfl (lv_at hl 1 rfl) ?_
  refine lv_if_ne (tgt := 95) hx hb dX12_fault_88 (by decide) (fun c_1 => ?_) (fun c_1 => ?_)
  · rw [if_neg c_1] at h
    refine lv_iconst (v := 0) hx hb dX12_fault_95 (by decide) ?_
    refine lv_istore_n (lv' := [(2, .int (0 : Int32)), (0, .ref (b 0)), (1, .int x1), (3, .int x3)]) hx hb dX12_fault_96 rfl hl (by decide) rfl (fun ls hl => ?_)
    refine lv_iinc (v := (x3 + 1)) (lv' := [(3, .int (x3 + 1)), (2, .int (0 : Int32)), (0, .ref (b 0)), (1, .int x1)]) hx hb dX12_fault_97 hl (k := 3) rfl rfl (by decide) rfl (fun ls hl => ?_)
    refine lv_goto (tgt := 6) hx hb dX12_fault_100 (by decide) ?_
    exact hk6 x1 (0 : Int32) (x3 + 1) mo_due h H locs ls B (lv_sub hl [2, 3, 1, 0] rfl)
  · rw [if_pos c_1] at h
    refine lv_iconst (v := 1) hx hb dX12_fault_91 (by decide) ?_
    refine lv_goto (tgt := 96) hx hb dX12_fault_92 (by decide) ?_
    refine lv_istore_n (lv' := [(2, .int (1 : Int32)), (0, .ref (b 0)), (1, .int x1), (3, .int x3)]) hx hb dX12_fault_96 rfl hl (by decide) rfl (fun ls hl => ?_)
    refine lv_iinc (v := (x3 + 1)) (lv' := [(3, .int (x3 + 1)), (2, .int (1 : Int32)), (0, .ref (b 0)), (1, .int x1)]) hx hb dX12_fault_97 hl (k := 3) rfl rfl (by decide) rfl (fun ls hl => ?_)
    refine lv_goto (tgt := 6) hx hb dX12_fault_100 (by decide) ?_
    exact hk6 x1 (1 : Int32) (x3 + 1) mo_due h H locs ls B (lv_sub hl [2, 3, 1, 0] rfl)
set_option maxHeartbeats 4000000 in
set_option maxRecDepth 100000 in
theorem qX12_fault_58 (C : CT p s m args meth c RX12 cX12_fault 5 (some .int) wsX12_fault D A (tyl cI cJ cT) Es) {N : Nat} {mo_signs : Nat → Int32} {mo_signMany : Int32} {mo_nodeSign : Nat → Int32} {mo_nodeOn : Nat → Int32} {mo_nodeSize : Nat → Int32} {mo_nodeMany : Nat → Int32} {mo_openNode : Nat → Int32} {mo_value : Nat → Int32} {mo_isLaid : Int32} {mo_changes : Int32} {mo_changeNode : Nat → Int32} {mo_changeSign : Nat → Int32} {mo_differs : Nat → Int32} {mo_results : Nat → Int32} {mo_own : Nat → Int32} {mo_kinds : Nat → Int32} {mo_testInputs : Nat → Int32} {mo_testDue : Nat → Int32} {mo_tests : Int32} {mo_noticed : Nat → Int32} {mo_missed : Nat → Int32} {mo_leastFrom : Nat → Int32} {mo_blameUpper : Nat → Int32} {mo_blameLower : Nat → Int32} {z_r : Int32} {z_mo_due : Nat → Int32} {k6 : Int32 → Int32 → Int32 → (Nat → Int32) → Option (Int32 × (Nat → Int32))} (hk6 : ∀ (x1 : Int32) (x2 : Int32) (x3 : Int32) (mo_due : Nat → Int32), k6 x1 x2 x3 mo_due = some (z_r, z_mo_due) → ∀ (H : Heap) (locs : List Loc) (ls : Array Slot), DB D A (wd_mo a b cI cJ cT mo_signs mo_signMany mo_nodeSign mo_nodeOn mo_nodeSize mo_nodeMany mo_due mo_openNode mo_value mo_isLaid mo_changes mo_changeNode mo_changeSign mo_differs mo_results mo_own mo_kinds mo_testInputs mo_testDue mo_tests mo_noticed mo_missed mo_leastFrom mo_blameUpper mo_blameLower) s H locs → lv_has ls 5 [(0, .ref (b 0)), (1, .int x1), (2, .int x2), (3, .int x3)] → W p l e rmX12_fault s m args below meth c H locs 0 0 (ZI below args s D A (tyl cI cJ cT) z_r (wd_mo a b cI cJ cT mo_signs mo_signMany mo_nodeSign mo_nodeOn mo_nodeSize mo_nodeMany z_mo_due mo_openNode mo_value mo_isLaid mo_changes mo_changeNode mo_changeSign mo_differs mo_results mo_own mo_kinds mo_testInputs mo_testDue mo_tests mo_noticed mo_missed mo_leastFrom mo_blameUpper mo_blameLower) 0 0) (F0 m 6 ls [])) : ∀ (n : Nat) (x1 : Int32) (x3 : Int32) (mo_due : Nat → Int32), bX12_fault_58 N mo_signs mo_signMany k6 n x1 x3 mo_due = some (z_r, z_mo_due) → ∀ (H : Heap) (locs : List Loc) (ls : Array Slot), DB D A (wd_mo a b cI cJ cT mo_signs mo_signMany mo_nodeSign mo_nodeOn mo_nodeSize mo_nodeMany mo_due mo_openNode mo_value mo_isLaid mo_changes mo_changeNode mo_changeSign mo_differs mo_results mo_own mo_kinds mo_testInputs mo_testDue mo_tests mo_noticed mo_missed mo_leastFrom mo_blameUpper mo_blameLower) s H locs → lv_has ls 5 [(0, .ref (b 0)), (1, .int x1), (3, .int x3)] → W p l e rmX12_fault s m args below meth c H locs 0 0 (ZI below args s D A (tyl cI cJ cT) z_r (wd_mo a b cI cJ cT mo_signs mo_signMany mo_nodeSign mo_nodeOn mo_nodeSize mo_nodeMany z_mo_due mo_openNode mo_value mo_isLaid mo_changes mo_changeNode mo_changeSign mo_differs mo_results mo_own mo_kinds mo_testInputs mo_testDue mo_tests mo_noticed mo_missed mo_leastFrom mo_blameUpper mo_blameLower) 0 0) (F0 m 58 ls []) := by
  have hx := C.1.1
  have hb := C.1.2.1
  have hown := C.1.2.2.2.1
  have hts := C.1.2.2.2.2
  intro n
  induction n with
  | zero => intro x1 x3 mo_due h; cases h
  | succ n ih =>
    intro x1 x3 mo_due h H locs ls B hl
    rw [bX12_fault_58] at h
    refine lv_iload_n hx hb dX12_fault_58 rfl (lv_at hl 1 rfl) ?_
    refine lv_if_le (tgt := 87) hx hb dX12_fault_59 (by decide) (fun c_1 => ?_) (fun c_1 => ?_)
    · rw [if_pos c_1] at h
      exact qX12_fault_87 C hk6 x1 x3 mo_due h H locs ls B (lv_sub hl [0, 1, 2] rfl)
    · rw [if_neg c_1] at h
      refine lv_aload_n hx hb dX12_fault_62 rfl (lv_at hl 0 rfl) ?_
      refine gfX12_fault_25 C B 0 rfl rfl dX12_fault_63 ?_
      refine lv_iload_n hx hb dX12_fault_66 rfl (lv_at hl 1 rfl) ?_
      obtain ⟨b_2, h⟩ := bnd_some h
      refine k_iald C B 6 0 rfl rfl b_2 dX12_fault_67 ?_
      refine lv_if_ne (tgt := 87) hx hb dX12_fault_68 (by decide) (fun c_3 => ?_) (fun c_3 => ?_)
      · rw [if_neg c_3] at h
        exact qX12_fault_87 C hk6 x1 x3 mo_due h H locs ls B (lv_sub hl [0, 1, 2] rfl)
      · rw [if_pos c_3] at h
        refine lv_iinc (v := (x1 + (-1))) (lv' := [(1, .int (x1 + (-1))), (0, .ref (b 0)), (3, .int x3)]) hx hb dX12_fault_71 hl (k := 1) rfl rfl (by decide) rfl (fun ls hl => ?_)
        refine lv_aload_n hx hb dX12_fault_74 rfl (lv_at hl 1 rfl) ?_
        refine gfX12_fault_25 C B 0 rfl rfl dX12_fault_75 ?_
        refine lv_iload_n hx hb dX12_fault_78 rfl (lv_at hl 0 rfl) ?_
        refine lv_dup2_11 hx hb dX12_fault_79 rfl rfl ?_
        obtain ⟨b_4, h⟩ := bnd_some h
        refine k_iald C B 6 0 rfl rfl b_4 dX12_fault_80 ?_
        refine lv_iconst (v := 1) hx hb dX12_fault_81 (by decide) ?_
        refine lv_isub hx hb dX12_fault_82 ?_
        refine k_iast C B 6 0 rfl rfl b_4 dX12_fault_83 (fun H locs B => ?_)
        have B : DB D A (wd_mo a b cI cJ cT mo_signs mo_signMany mo_nodeSign mo_nodeOn mo_nodeSize mo_nodeMany (upd mo_due (Int32.toNatClampNeg (x1 + (-1))) ((mo_due (Int32.toNatClampNeg (x1 + (-1)))) - (1 : Int32))) mo_openNode mo_value mo_isLaid mo_changes mo_changeNode mo_changeSign mo_differs mo_results mo_own mo_kinds mo_testInputs mo_testDue mo_tests mo_noticed mo_missed mo_leastFrom mo_blameUpper mo_blameLower) s H locs := B
        refine lv_goto (tgt := 58) hx hb dX12_fault_84 (by decide) ?_
        exact ih (x1 + (-1)) x3 (upd mo_due (Int32.toNatClampNeg (x1 + (-1))) ((mo_due (Int32.toNatClampNeg (x1 + (-1)))) - (1 : Int32))) h H locs ls B (lv_sub hl [1, 0, 2] rfl)
set_option maxHeartbeats 4000000 in
set_option maxRecDepth 100000 in
theorem qX12_fault_47 (C : CT p s m args meth c RX12 cX12_fault 5 (some .int) wsX12_fault D A (tyl cI cJ cT) Es) {N : Nat} {mo_signs : Nat → Int32} {mo_signMany : Int32} {mo_nodeSign : Nat → Int32} {mo_nodeOn : Nat → Int32} {mo_nodeSize : Nat → Int32} {mo_nodeMany : Nat → Int32} {mo_openNode : Nat → Int32} {mo_value : Nat → Int32} {mo_isLaid : Int32} {mo_changes : Int32} {mo_changeNode : Nat → Int32} {mo_changeSign : Nat → Int32} {mo_differs : Nat → Int32} {mo_results : Nat → Int32} {mo_own : Nat → Int32} {mo_kinds : Nat → Int32} {mo_testInputs : Nat → Int32} {mo_testDue : Nat → Int32} {mo_tests : Int32} {mo_noticed : Nat → Int32} {mo_missed : Nat → Int32} {mo_leastFrom : Nat → Int32} {mo_blameUpper : Nat → Int32} {mo_blameLower : Nat → Int32} {z_r : Int32} {z_mo_due : Nat → Int32} {k6 : Int32 → Int32 → Int32 → (Nat → Int32) → Option (Int32 × (Nat → Int32))} (hk6 : ∀ (x1 : Int32) (x2 : Int32) (x3 : Int32) (mo_due : Nat → Int32), k6 x1 x2 x3 mo_due = some (z_r, z_mo_due) → ∀ (H : Heap) (locs : List Loc) (ls : Array Slot), DB D A (wd_mo a b cI cJ cT mo_signs mo_signMany mo_nodeSign mo_nodeOn mo_nodeSize mo_nodeMany mo_due mo_openNode mo_value mo_isLaid mo_changes mo_changeNode mo_changeSign mo_differs mo_results mo_own mo_kinds mo_testInputs mo_testDue mo_tests mo_noticed mo_missed mo_leastFrom mo_blameUpper mo_blameLower) s H locs → lv_has ls 5 [(0, .ref (b 0)), (1, .int x1), (2, .int x2), (3, .int x3)] → W p l e rmX12_fault s m args below meth c H locs 0 0 (ZI below args s D A (tyl cI cJ cT) z_r (wd_mo a b cI cJ cT mo_signs mo_signMany mo_nodeSign mo_nodeOn mo_nodeSize mo_nodeMany z_mo_due mo_openNode mo_value mo_isLaid mo_changes mo_changeNode mo_changeSign mo_differs mo_results mo_own mo_kinds mo_testInputs mo_testDue mo_tests mo_noticed mo_missed mo_leastFrom mo_blameUpper mo_blameLower) 0 0) (F0 m 6 ls [])) : ∀ (x1 : Int32) (x3 : Int32) (x4 : Int32) (mo_due : Nat → Int32), bX12_fault_47 N mo_signs mo_signMany k6 x1 x3 x4 mo_due = some (z_r, z_mo_due) → ∀ (H : Heap) (locs : List Loc) (ls : Array Slot), DB D A (wd_mo a b cI cJ cT mo_signs mo_signMany mo_nodeSign mo_nodeOn mo_nodeSize mo_nodeMany mo_due mo_openNode mo_value mo_isLaid mo_changes mo_changeNode mo_changeSign mo_differs mo_results mo_own mo_kinds mo_testInputs mo_testDue mo_tests mo_noticed mo_missed mo_leastFrom mo_blameUpper mo_blameLower) s H locs → lv_has ls 5 [(0, .ref (b 0)), (1, .int x1), (3, .int x3), (4, .int x4)] → W p l e rmX12_fault s m args below meth c H locs 0 0 (ZI below args s D A (tyl cI cJ cT) z_r (wd_mo a b cI cJ cT mo_signs mo_signMany mo_nodeSign mo_nodeOn mo_nodeSize mo_nodeMany z_mo_due mo_openNode mo_value mo_isLaid mo_changes mo_changeNode mo_changeSign mo_differs mo_results mo_own mo_kinds mo_testInputs mo_testDue mo_tests mo_noticed mo_missed mo_leastFrom mo_blameUpper mo_blameLower) 0 0) (F0 m 47 ls []) := by
  have hx := C.1.1
  have hb := C.1.2.1
  have hown := C.1.2.2.2.1
  have hts := C.1.2.2.2.2
  intro x1 x3 x4 mo_due h H locs ls B hl
  rw [bX12_fault_47] at h
  refine lv_iinc (v := (x1 + 1)) (lv' := [(1, .int (x1 + 1)), (0, .ref (b 0)), (3, .int x3), (4, .int x4)]) hx hb dX12_fault_47 hl (k := 1) rfl rfl (by decide) rfl (fun ls hl => ?_)
  refine lv_aload_n hx hb dX12_fault_50 rfl (lv_at hl 1 rfl) ?_
  refine gfX12_fault_25 C B 0 rfl rfl dX12_fault_51 ?_
  refine lv_iload_n hx hb dX12_fault_54 rfl (lv_at hl 0 rfl) ?_
  refine lv_iload hx hb dX12_fault_55 (lv_at hl 3 rfl) ?_
  obtain ⟨b_1, h⟩ := bnd_some h
  refine k_iast C B 6 0 rfl rfl b_1 dX12_fault_57 (fun H locs B => ?_)
  have B : DB D A (wd_mo a b cI cJ cT mo_signs mo_signMany mo_nodeSign mo_nodeOn mo_nodeSize mo_nodeMany (upd mo_due (Int32.toNatClampNeg (x1 + 1)) x4) mo_openNode mo_value mo_isLaid mo_changes mo_changeNode mo_changeSign mo_differs mo_results mo_own mo_kinds mo_testInputs mo_testDue mo_tests mo_noticed mo_missed mo_leastFrom mo_blameUpper mo_blameLower) s H locs := B
  exact qX12_fault_58 C hk6 N (x1 + 1) x3 (upd mo_due (Int32.toNatClampNeg (x1 + 1)) x4) h H locs ls B (lv_sub hl [1, 0, 2] rfl)
set_option maxHeartbeats 4000000 in
set_option maxRecDepth 100000 in
theorem qX12_fault_6 (C : CT p s m args meth c RX12 cX12_fault 5 (some .int) wsX12_fault D A (tyl cI cJ cT) Es) {N : Nat} {mo_signs : Nat → Int32} {mo_signMany : Int32} {mo_nodeSign : Nat → Int32} {mo_nodeOn : Nat → Int32} {mo_nodeSize : Nat → Int32} {mo_nodeMany : Nat → Int32} {mo_openNode : Nat → Int32} {mo_value : Nat → Int32} {mo_isLaid : Int32} {mo_changes : Int32} {mo_changeNode : Nat → Int32} {mo_changeSign : Nat → Int32} {mo_differs : Nat → Int32} {mo_results : Nat → Int32} {mo_own : Nat → Int32} {mo_kinds : Nat → Int32} {mo_testInputs : Nat → Int32} {mo_testDue : Nat → Int32} {mo_tests : Int32} {mo_noticed : Nat → Int32} {mo_missed : Nat → Int32} {mo_leastFrom : Nat → Int32} {mo_blameUpper : Nat → Int32} {mo_blameLower : Nat → Int32} {z_r : Int32} {z_mo_due : Nat → Int32} : ∀ (n : Nat) (x1 : Int32) (x2 : Int32) (x3 : Int32) (mo_due : Nat → Int32), bX12_fault_6 N mo_signs mo_signMany n x1 x2 x3 mo_due = some (z_r, z_mo_due) → ∀ (H : Heap) (locs : List Loc) (ls : Array Slot), DB D A (wd_mo a b cI cJ cT mo_signs mo_signMany mo_nodeSign mo_nodeOn mo_nodeSize mo_nodeMany mo_due mo_openNode mo_value mo_isLaid mo_changes mo_changeNode mo_changeSign mo_differs mo_results mo_own mo_kinds mo_testInputs mo_testDue mo_tests mo_noticed mo_missed mo_leastFrom mo_blameUpper mo_blameLower) s H locs → lv_has ls 5 [(0, .ref (b 0)), (1, .int x1), (2, .int x2), (3, .int x3)] → W p l e rmX12_fault s m args below meth c H locs 0 0 (ZI below args s D A (tyl cI cJ cT) z_r (wd_mo a b cI cJ cT mo_signs mo_signMany mo_nodeSign mo_nodeOn mo_nodeSize mo_nodeMany z_mo_due mo_openNode mo_value mo_isLaid mo_changes mo_changeNode mo_changeSign mo_differs mo_results mo_own mo_kinds mo_testInputs mo_testDue mo_tests mo_noticed mo_missed mo_leastFrom mo_blameUpper mo_blameLower) 0 0) (F0 m 6 ls []) := by
  have hx := C.1.1
  have hb := C.1.2.1
  have hown := C.1.2.2.2.1
  have hts := C.1.2.2.2.2
  intro n
  induction n with
  | zero => intro x1 x2 x3 mo_due h; cases h
  | succ n ih =>
    intro x1 x2 x3 mo_due h H locs ls B hl
    rw [bX12_fault_6] at h
    refine lv_iload_n hx hb dX12_fault_6 rfl (lv_at hl 3 rfl) ?_
    refine lv_aload_n hx hb dX12_fault_7 rfl (lv_at hl 0 rfl) ?_
    refine gfX12_fault_85 C B 0 rfl rfl dX12_fault_8 ?_
    refine lv_icmp_ge (tgt := 103) hx hb dX12_fault_11 (by decide) (fun c_1 => ?_) (fun c_1 => ?_)
    · rw [if_pos c_1] at h
      refine lv_iload_n hx hb dX12_fault_103 rfl (lv_at hl 2 rfl) ?_
      refine lv_if_eq (tgt := 112) hx hb dX12_fault_104 (by decide) (fun c_2 => ?_) (fun c_2 => ?_)
      · rw [if_pos c_2] at h
        refine lv_aload_n hx hb dX12_fault_112 rfl (lv_at hl 0 rfl) ?_
        refine gfX12_fault_85 C B 0 rfl rfl dX12_fault_113 ?_
        cases h
        exact k_iret C B dX12_fault_116
      · rw [if_neg c_2] at h
        refine lv_bipush (v := -6) hx hb dX12_fault_107 (by decide) ?_
        refine lv_goto (tgt := 116) hx hb dX12_fault_109 (by decide) ?_
        cases h
        exact k_iret C B dX12_fault_116
    · rw [if_neg c_1] at h
      refine lv_aload_n hx hb dX12_fault_14 rfl (lv_at hl 0 rfl) ?_
      refine gfX12_fault_7 C B 0 rfl rfl dX12_fault_15 ?_
      refine lv_iload_n hx hb dX12_fault_18 rfl (lv_at hl 3 rfl) ?_
      obtain ⟨b_3, h⟩ := bnd_some h
      refine k_iald C B 1 0 rfl rfl b_3 dX12_fault_19 ?_
      obtain ⟨r_4, g_9, h⟩ := ob_some h
      try dsimp only at h
      refine kc_SI C B (As := [.int (mo_signs (Int32.toNatClampNeg x3))]) (rest := []) (w2 := (wd_mo a b cI cJ cT mo_signs mo_signMany mo_nodeSign mo_nodeOn mo_nodeSize mo_nodeMany mo_due mo_openNode mo_value mo_isLaid mo_changes mo_changeNode mo_changeSign mo_differs mo_results mo_own mo_kinds mo_testInputs mo_testDue mo_tests mo_noticed mo_missed mo_leastFrom mo_blameUpper mo_blameLower)) (tX12_partsOf N g_9) gX12_fault_X12_partsOf rfl ⟨rfl, rfl⟩ hdX12_partsOf ⟨Nat.le_of_ble_eq_true rfl, Nat.le_of_ble_eq_true rfl⟩ [] [0, 1, 2, 3, 4, 5, 6, 7, 8, 9, 10, 11, 12, 13, 14, 15, 16, 17, 18, 19, 20, 21] [0, 1, 2, 3, 4, 5, 6, 7, 8, 9, 10, 11, 12, 13, 14, 15, 16, 17, 18, 19, 20, 21] rfl rfl rfl rfl rfl rfl rfl rfl hl.1 rfl (Nat.le_of_ble_eq_true rfl) ⟨Nat.zero_le _, Nat.zero_le _⟩ dX12_fault_20 (fun H locs B => ?_)
      refine lv_istore (lv' := [(4, .int r_4), (0, .ref (b 0)), (1, .int x1), (2, .int x2), (3, .int x3)]) hx hb dX12_fault_23 hl (by decide) rfl (fun ls hl => ?_)
      refine lv_iload_n hx hb dX12_fault_25 rfl (lv_at hl 3 rfl) ?_
      refine lv_if_ne (tgt := 45) hx hb dX12_fault_26 (by decide) (fun c_5 => ?_) (fun c_5 => ?_)
      · rw [if_neg c_5] at h
        refine lv_iload_n hx hb dX12_fault_45 rfl (lv_at hl 4 rfl) ?_
        cases h
        exact k_iret C B dX12_fault_46
      · rw [if_pos c_5] at h
        refine lv_iload hx hb dX12_fault_29 (lv_at hl 0 rfl) ?_
        refine lv_if_lt (tgt := 45) hx hb dX12_fault_31 (by decide) (fun c_6 => ?_) (fun c_6 => ?_)
        · rw [if_pos c_6] at h
          refine lv_iload_n hx hb dX12_fault_45 rfl (lv_at hl 4 rfl) ?_
          cases h
          exact k_iret C B dX12_fault_46
        · rw [if_neg c_6] at h
          refine lv_iload hx hb dX12_fault_34 (lv_at hl 0 rfl) ?_
          refine lv_if_le (tgt := 47) hx hb dX12_fault_36 (by decide) (fun c_7 => ?_) (fun c_7 => ?_)
          · rw [if_pos c_7] at h
            exact qX12_fault_47 C ih x1 x3 r_4 mo_due h H locs ls B (lv_sub hl [1, 2, 4, 0] rfl)
          · rw [if_neg c_7] at h
            refine lv_iload_n hx hb dX12_fault_39 rfl (lv_at hl 2 rfl) ?_
            refine lv_bipush (v := 9) hx hb dX12_fault_40 (by decide) ?_
            refine lv_icmp_lt (tgt := 47) hx hb dX12_fault_42 (by decide) (fun c_8 => ?_) (fun c_8 => ?_)
            · rw [if_pos c_8] at h
              exact qX12_fault_47 C ih x1 x3 r_4 mo_due h H locs ls B (lv_sub hl [1, 2, 4, 0] rfl)
            · rw [if_neg c_8] at h
              refine lv_iload_n hx hb dX12_fault_45 rfl (lv_at hl 4 rfl) ?_
              cases h
              exact k_iret C B dX12_fault_46
set_option maxHeartbeats 4000000 in
set_option maxRecDepth 100000 in
theorem qX12_fault_0 (C : CT p s m args meth c RX12 cX12_fault 5 (some .int) wsX12_fault D A (tyl cI cJ cT) Es) {N : Nat} {mo_signs : Nat → Int32} {mo_signMany : Int32} {mo_nodeSign : Nat → Int32} {mo_nodeOn : Nat → Int32} {mo_nodeSize : Nat → Int32} {mo_nodeMany : Nat → Int32} {mo_openNode : Nat → Int32} {mo_value : Nat → Int32} {mo_isLaid : Int32} {mo_changes : Int32} {mo_changeNode : Nat → Int32} {mo_changeSign : Nat → Int32} {mo_differs : Nat → Int32} {mo_results : Nat → Int32} {mo_own : Nat → Int32} {mo_kinds : Nat → Int32} {mo_testInputs : Nat → Int32} {mo_testDue : Nat → Int32} {mo_tests : Int32} {mo_noticed : Nat → Int32} {mo_missed : Nat → Int32} {mo_leastFrom : Nat → Int32} {mo_blameUpper : Nat → Int32} {mo_blameLower : Nat → Int32} {z_r : Int32} {z_mo_due : Nat → Int32} : ∀ (mo_due : Nat → Int32), fX12_fault N mo_signs mo_signMany mo_due = some (z_r, z_mo_due) → ∀ (H : Heap) (locs : List Loc) (ls : Array Slot), DB D A (wd_mo a b cI cJ cT mo_signs mo_signMany mo_nodeSign mo_nodeOn mo_nodeSize mo_nodeMany mo_due mo_openNode mo_value mo_isLaid mo_changes mo_changeNode mo_changeSign mo_differs mo_results mo_own mo_kinds mo_testInputs mo_testDue mo_tests mo_noticed mo_missed mo_leastFrom mo_blameUpper mo_blameLower) s H locs → lv_has ls 5 [(0, .ref (b 0))] → W p l e rmX12_fault s m args below meth c H locs 0 0 (ZI below args s D A (tyl cI cJ cT) z_r (wd_mo a b cI cJ cT mo_signs mo_signMany mo_nodeSign mo_nodeOn mo_nodeSize mo_nodeMany z_mo_due mo_openNode mo_value mo_isLaid mo_changes mo_changeNode mo_changeSign mo_differs mo_results mo_own mo_kinds mo_testInputs mo_testDue mo_tests mo_noticed mo_missed mo_leastFrom mo_blameUpper mo_blameLower) 0 0) (F0 m 0 ls []) := by
  have hx := C.1.1
  have hb := C.1.2.1
  have hown := C.1.2.2.2.1
  have hts := C.1.2.2.2.2
  intro mo_due h H locs ls B hl
  rw [fX12_fault] at h
  refine lv_iconst (v := 0) hx hb dX12_fault_0 (by decide) ?_
  refine lv_istore_n (lv' := [(1, .int (0 : Int32)), (0, .ref (b 0))]) hx hb dX12_fault_1 rfl hl (by decide) rfl (fun ls hl => ?_)
  refine lv_iconst (v := 0) hx hb dX12_fault_2 (by decide) ?_
  refine lv_istore_n (lv' := [(2, .int (0 : Int32)), (1, .int (0 : Int32)), (0, .ref (b 0))]) hx hb dX12_fault_3 rfl hl (by decide) rfl (fun ls hl => ?_)
  refine lv_iconst (v := 0) hx hb dX12_fault_4 (by decide) ?_
  refine lv_istore_n (lv' := [(3, .int (0 : Int32)), (2, .int (0 : Int32)), (1, .int (0 : Int32)), (0, .ref (b 0))]) hx hb dX12_fault_5 rfl hl (by decide) rfl (fun ls hl => ?_)
  exact qX12_fault_6 C N (0 : Int32) (0 : Int32) (0 : Int32) mo_due h H locs ls B (lv_sub hl [3, 2, 1, 0] rfl)
end
theorem tX12_fault {l : Launch} {D : va_G} {Es : (Nat → Nat) × (Nat → Nat)} {a b : Nat → Nat} {cI cJ cT : ClassId} {mo_signs : Nat → Int32} {mo_signMany : Int32} {mo_nodeSign : Nat → Int32} {mo_nodeOn : Nat → Int32} {mo_nodeSize : Nat → Int32} {mo_nodeMany : Nat → Int32} {mo_due : Nat → Int32} {mo_openNode : Nat → Int32} {mo_value : Nat → Int32} {mo_isLaid : Int32} {mo_changes : Int32} {mo_changeNode : Nat → Int32} {mo_changeSign : Nat → Int32} {mo_differs : Nat → Int32} {mo_results : Nat → Int32} {mo_own : Nat → Int32} {mo_kinds : Nat → Int32} {mo_testInputs : Nat → Int32} {mo_testDue : Nat → Int32} {mo_tests : Int32} {mo_noticed : Nat → Int32} {mo_missed : Nat → Int32} {mo_leastFrom : Nat → Int32} {mo_blameUpper : Nat → Int32} {mo_blameLower : Nat → Int32} {z_r : Int32} {z_mo_due : Nat → Int32} (N : Nat) (h : fX12_fault N mo_signs mo_signMany mo_due = some (z_r, z_mo_due)) : CtI l yX12_fault wsX12_fault rmX12_fault D (tyl cI cJ cT) Es [.ref (b 0)] (wd_mo a b cI cJ cT mo_signs mo_signMany mo_nodeSign mo_nodeOn mo_nodeSize mo_nodeMany mo_due mo_openNode mo_value mo_isLaid mo_changes mo_changeNode mo_changeSign mo_differs mo_results mo_own mo_kinds mo_testInputs mo_testDue mo_tests mo_noticed mo_missed mo_leastFrom mo_blameUpper mo_blameLower) z_r (wd_mo a b cI cJ cT mo_signs mo_signMany mo_nodeSign mo_nodeOn mo_nodeSize mo_nodeMany z_mo_due mo_openNode mo_value mo_isLaid mo_changes mo_changeNode mo_changeSign mo_differs mo_results mo_own mo_kinds mo_testInputs mo_testDue mo_tests mo_noticed mo_missed mo_leastFrom mo_blameUpper mo_blameLower) :=
  CtI.of (own := RX12) (cc := cX12_fault) (nL := 5) (ret := (some .int)) (by decide +kernel) rfl rfl (Nat.le_of_ble_eq_true rfl) rfl (fun p e s m below meth c A ls C B hl => qX12_fault_0 C (N := N) mo_due h _ _ _ B hl)

abbrev rmX12_read : Room := { frames := 4, cells := 0, slots := 0, locals := 89 }
theorem hdX12_read : yX12_read.cls ≠ "java/lang/invoke/MethodHandle" ∧ yX12_read.cls ≠ "java/lang/invoke/VarHandle" ∧ (parseMethodDescriptor yX12_read.desc).map (fun d => d.parameters.length) = some 1 := by decide +kernel
theorem iX12_read_X12 : ∀ w ∈ wsX120, w ∈ wsX12_read := by decide +kernel
theorem gfX12_read_25 {p : Program} {l : Launch} {e : Env} {R : Room} {s : State} {m : MethodId} {args : Array Value} {below : List Frame} {meth : Method} {c : Code} {H : Heap} {locs : List Loc} {cells slots : Nat} {Q : State → Prop} {D : va_G} {A : Nat → Prop} {tys : List (ClassId × FieldType)} {Es : (Nat → Nat) × (Nat → Nat)} {ws : va_W} {pc : Nat} {ls : Array Slot} {rest : List Value} {a : Nat} (C : CT p s m args meth c RX12 cX12_read 5 (some .int) wsX12_read D A tys Es) (B : DB D A ws s H locs) (q0 : Nat) {fs : List Value} {v : Value} (he : ws[q0]? = some (a, .inr (12, fs))) (hv : fs[6]? = some v) (hdg : decode cX12_read pc = .ok (.getfield 25, 3)) (kk : W p l e R s m args below meth c H locs cells slots Q (F0 m (pc + 3) ls (v :: rest))) : W p l e R s m args below meth c H locs cells slots Q (F0 m pc ls (.ref a :: rest)) :=
  k_get (Cn := RX12) (T := TX12) (N := 25) (index := 25) C B iX12_read_X12 rfl 6 (by decide) (by decide +kernel) q0 he hv hdg kk
theorem gfX12_read_19 {p : Program} {l : Launch} {e : Env} {R : Room} {s : State} {m : MethodId} {args : Array Value} {below : List Frame} {meth : Method} {c : Code} {H : Heap} {locs : List Loc} {cells slots : Nat} {Q : State → Prop} {D : va_G} {A : Nat → Prop} {tys : List (ClassId × FieldType)} {Es : (Nat → Nat) × (Nat → Nat)} {ws : va_W} {pc : Nat} {ls : Array Slot} {rest : List Value} {a : Nat} (C : CT p s m args meth c RX12 cX12_read 5 (some .int) wsX12_read D A tys Es) (B : DB D A ws s H locs) (q0 : Nat) {fs : List Value} {v : Value} (he : ws[q0]? = some (a, .inr (12, fs))) (hv : fs[4]? = some v) (hdg : decode cX12_read pc = .ok (.getfield 19, 3)) (kk : W p l e R s m args below meth c H locs cells slots Q (F0 m (pc + 3) ls (v :: rest))) : W p l e R s m args below meth c H locs cells slots Q (F0 m pc ls (.ref a :: rest)) :=
  k_get (Cn := RX12) (T := TX12) (N := 25) (index := 19) C B iX12_read_X12 rfl 4 (by decide) (by decide +kernel) q0 he hv hdg kk
theorem gfX12_read_28 {p : Program} {l : Launch} {e : Env} {R : Room} {s : State} {m : MethodId} {args : Array Value} {below : List Frame} {meth : Method} {c : Code} {H : Heap} {locs : List Loc} {cells slots : Nat} {Q : State → Prop} {D : va_G} {A : Nat → Prop} {tys : List (ClassId × FieldType)} {Es : (Nat → Nat) × (Nat → Nat)} {ws : va_W} {pc : Nat} {ls : Array Slot} {rest : List Value} {a : Nat} (C : CT p s m args meth c RX12 cX12_read 5 (some .int) wsX12_read D A tys Es) (B : DB D A ws s H locs) (q0 : Nat) {fs : List Value} {v : Value} (he : ws[q0]? = some (a, .inr (12, fs))) (hv : fs[7]? = some v) (hdg : decode cX12_read pc = .ok (.getfield 28, 3)) (kk : W p l e R s m args below meth c H locs cells slots Q (F0 m (pc + 3) ls (v :: rest))) : W p l e R s m args below meth c H locs cells slots Q (F0 m pc ls (.ref a :: rest)) :=
  k_get (Cn := RX12) (T := TX12) (N := 25) (index := 28) C B iX12_read_X12 rfl 7 (by decide) (by decide +kernel) q0 he hv hdg kk
theorem gfX12_read_7 {p : Program} {l : Launch} {e : Env} {R : Room} {s : State} {m : MethodId} {args : Array Value} {below : List Frame} {meth : Method} {c : Code} {H : Heap} {locs : List Loc} {cells slots : Nat} {Q : State → Prop} {D : va_G} {A : Nat → Prop} {tys : List (ClassId × FieldType)} {Es : (Nat → Nat) × (Nat → Nat)} {ws : va_W} {pc : Nat} {ls : Array Slot} {rest : List Value} {a : Nat} (C : CT p s m args meth c RX12 cX12_read 5 (some .int) wsX12_read D A tys Es) (B : DB D A ws s H locs) (q0 : Nat) {fs : List Value} {v : Value} (he : ws[q0]? = some (a, .inr (12, fs))) (hv : fs[0]? = some v) (hdg : decode cX12_read pc = .ok (.getfield 7, 3)) (kk : W p l e R s m args below meth c H locs cells slots Q (F0 m (pc + 3) ls (v :: rest))) : W p l e R s m args below meth c H locs cells slots Q (F0 m pc ls (.ref a :: rest)) :=
  k_get (Cn := RX12) (T := TX12) (N := 25) (index := 7) C B iX12_read_X12 rfl 0 (by decide) (by decide +kernel) q0 he hv hdg kk
theorem gfX12_read_85 {p : Program} {l : Launch} {e : Env} {R : Room} {s : State} {m : MethodId} {args : Array Value} {below : List Frame} {meth : Method} {c : Code} {H : Heap} {locs : List Loc} {cells slots : Nat} {Q : State → Prop} {D : va_G} {A : Nat → Prop} {tys : List (ClassId × FieldType)} {Es : (Nat → Nat) × (Nat → Nat)} {ws : va_W} {pc : Nat} {ls : Array Slot} {rest : List Value} {a : Nat} (C : CT p s m args meth c RX12 cX12_read 5 (some .int) wsX12_read D A tys Es) (B : DB D A ws s H locs) (q0 : Nat) {fs : List Value} {v : Value} (he : ws[q0]? = some (a, .inr (12, fs))) (hv : fs[1]? = some v) (hdg : decode cX12_read pc = .ok (.getfield 85, 3)) (kk : W p l e R s m args below meth c H locs cells slots Q (F0 m (pc + 3) ls (v :: rest))) : W p l e R s m args below meth c H locs cells slots Q (F0 m pc ls (.ref a :: rest)) :=
  k_get (Cn := RX12) (T := TX12) (N := 25) (index := 85) C B iX12_read_X12 rfl 1 (by decide) (by decide +kernel) q0 he hv hdg kk
theorem gfX12_read_22 {p : Program} {l : Launch} {e : Env} {R : Room} {s : State} {m : MethodId} {args : Array Value} {below : List Frame} {meth : Method} {c : Code} {H : Heap} {locs : List Loc} {cells slots : Nat} {Q : State → Prop} {D : va_G} {A : Nat → Prop} {tys : List (ClassId × FieldType)} {Es : (Nat → Nat) × (Nat → Nat)} {ws : va_W} {pc : Nat} {ls : Array Slot} {rest : List Value} {a : Nat} (C : CT p s m args meth c RX12 cX12_read 5 (some .int) wsX12_read D A tys Es) (B : DB D A ws s H locs) (q0 : Nat) {fs : List Value} {v : Value} (he : ws[q0]? = some (a, .inr (12, fs))) (hv : fs[5]? = some v) (hdg : decode cX12_read pc = .ok (.getfield 22, 3)) (kk : W p l e R s m args below meth c H locs cells slots Q (F0 m (pc + 3) ls (v :: rest))) : W p l e R s m args below meth c H locs cells slots Q (F0 m pc ls (.ref a :: rest)) :=
  k_get (Cn := RX12) (T := TX12) (N := 25) (index := 22) C B iX12_read_X12 rfl 5 (by decide) (by decide +kernel) q0 he hv hdg kk
theorem pfX12_read_112 {p : Program} {l : Launch} {e : Env} {R : Room} {s : State} {m : MethodId} {args : Array Value} {below : List Frame} {meth : Method} {c : Code} {H : Heap} {locs : List Loc} {cells slots : Nat} {Q : State → Prop} {D : va_G} {A : Nat → Prop} {tys : List (ClassId × FieldType)} {Es : (Nat → Nat) × (Nat → Nat)} {ws : va_W} {pc : Nat} {ls : Array Slot} {rest : List Value} {a : Nat} (C : CT p s m args meth c RX12 cX12_read 5 (some .int) wsX12_read D A tys Es) (B : DB D A ws s H locs) (q0 : Nat) {fs : List Value} {v : Value} (hn : narrow .boolean v = v) (hfit : fits .boolean v = true) (he : ws[q0]? = some (a, .inr (12, fs))) (hl : 9 < fs.length) (hdg : decode cX12_read pc = .ok (.putfield 112, 3)) (kk : ∀ (H1 : Heap) (locs1 : List Loc), DB D A (ws.set q0 (a, .inr (12, fs.set 9 v))) s H1 locs1 → W p l e R s m args below meth c H1 locs1 cells slots Q (F0 m (pc + 3) ls rest)) : W p l e R s m args below meth c H locs cells slots Q (F0 m pc ls (v :: .ref a :: rest)) :=
  k_put (Cn := RX12) (T := TX12) (N := 25) (index := 112) C B iX12_read_X12 rfl tyX12 tyX12_ok nmX12 9 (by decide) (by decide +kernel) rfl q0 (by decide +kernel) hn hfit he hl hdg kk
theorem pfX12_read_85 {p : Program} {l : Launch} {e : Env} {R : Room} {s : State} {m : MethodId} {args : Array Value} {below : List Frame} {meth : Method} {c : Code} {H : Heap} {locs : List Loc} {cells slots : Nat} {Q : State → Prop} {D : va_G} {A : Nat → Prop} {tys : List (ClassId × FieldType)} {Es : (Nat → Nat) × (Nat → Nat)} {ws : va_W} {pc : Nat} {ls : Array Slot} {rest : List Value} {a : Nat} (C : CT p s m args meth c RX12 cX12_read 5 (some .int) wsX12_read D A tys Es) (B : DB D A ws s H locs) (q0 : Nat) {fs : List Value} {v : Value} (hn : narrow .int v = v) (hfit : fits .int v = true) (he : ws[q0]? = some (a, .inr (12, fs))) (hl : 1 < fs.length) (hdg : decode cX12_read pc = .ok (.putfield 85, 3)) (kk : ∀ (H1 : Heap) (locs1 : List Loc), DB D A (ws.set q0 (a, .inr (12, fs.set 1 v))) s H1 locs1 → W p l e R s m args below meth c H1 locs1 cells slots Q (F0 m (pc + 3) ls rest)) : W p l e R s m args below meth c H locs cells slots Q (F0 m pc ls (v :: .ref a :: rest)) :=
  k_put (Cn := RX12) (T := TX12) (N := 25) (index := 85) C B iX12_read_X12 rfl tyX12 tyX12_ok nmX12 1 (by decide) (by decide +kernel) rfl q0 (by decide +kernel) hn hfit he hl hdg kk
theorem gfX12_read_13 {p : Program} {l : Launch} {e : Env} {R : Room} {s : State} {m : MethodId} {args : Array Value} {below : List Frame} {meth : Method} {c : Code} {H : Heap} {locs : List Loc} {cells slots : Nat} {Q : State → Prop} {D : va_G} {A : Nat → Prop} {tys : List (ClassId × FieldType)} {Es : (Nat → Nat) × (Nat → Nat)} {ws : va_W} {pc : Nat} {ls : Array Slot} {rest : List Value} {a : Nat} (C : CT p s m args meth c RX12 cX12_read 5 (some .int) wsX12_read D A tys Es) (B : DB D A ws s H locs) (q0 : Nat) {fs : List Value} {v : Value} (he : ws[q0]? = some (a, .inr (12, fs))) (hv : fs[2]? = some v) (hdg : decode cX12_read pc = .ok (.getfield 13, 3)) (kk : W p l e R s m args below meth c H locs cells slots Q (F0 m (pc + 3) ls (v :: rest))) : W p l e R s m args below meth c H locs cells slots Q (F0 m pc ls (.ref a :: rest)) :=
  k_get (Cn := RX12) (T := TX12) (N := 25) (index := 13) C B iX12_read_X12 rfl 2 (by decide) (by decide +kernel) q0 he hv hdg kk
theorem gfX12_read_16 {p : Program} {l : Launch} {e : Env} {R : Room} {s : State} {m : MethodId} {args : Array Value} {below : List Frame} {meth : Method} {c : Code} {H : Heap} {locs : List Loc} {cells slots : Nat} {Q : State → Prop} {D : va_G} {A : Nat → Prop} {tys : List (ClassId × FieldType)} {Es : (Nat → Nat) × (Nat → Nat)} {ws : va_W} {pc : Nat} {ls : Array Slot} {rest : List Value} {a : Nat} (C : CT p s m args meth c RX12 cX12_read 5 (some .int) wsX12_read D A tys Es) (B : DB D A ws s H locs) (q0 : Nat) {fs : List Value} {v : Value} (he : ws[q0]? = some (a, .inr (12, fs))) (hv : fs[3]? = some v) (hdg : decode cX12_read pc = .ok (.getfield 16, 3)) (kk : W p l e R s m args below meth c H locs cells slots Q (F0 m (pc + 3) ls (v :: rest))) : W p l e R s m args below meth c H locs cells slots Q (F0 m pc ls (.ref a :: rest)) :=
  k_get (Cn := RX12) (T := TX12) (N := 25) (index := 16) C B iX12_read_X12 rfl 3 (by decide) (by decide +kernel) q0 he hv hdg kk
section
variable {p : Program} {l : Launch} {e : Env} {s : State} {m : MethodId} {args : Array Value} {below : List Frame} {meth : Method} {c : Code} {D : va_G} {A : Nat → Prop} {Es : (Nat → Nat) × (Nat → Nat)} {a b : Nat → Nat} {cI cJ cT : ClassId}
set_option maxHeartbeats 4000000 in
set_option maxRecDepth 100000 in
theorem qX12_read_114 (C : CT p s m args meth c RX12 cX12_read 5 (some .int) wsX12_read D A (tyl cI cJ cT) Es) {N : Nat} {mo_signs : Nat → Int32} {mo_value : Nat → Int32} {mo_changes : Int32} {mo_changeNode : Nat → Int32} {mo_changeSign : Nat → Int32} {mo_differs : Nat → Int32} {mo_results : Nat → Int32} {mo_own : Nat → Int32} {mo_kinds : Nat → Int32} {mo_testInputs : Nat → Int32} {mo_testDue : Nat → Int32} {mo_tests : Int32} {mo_noticed : Nat → Int32} {mo_missed : Nat → Int32} {mo_leastFrom : Nat → Int32} {mo_blameUpper : Nat → Int32} {mo_blameLower : Nat → Int32} {z_r : Int32} {z_mo_signMany : Int32} {z_mo_nodeSign : Nat → Int32} {z_mo_nodeOn : Nat → Int32} {z_mo_nodeSize : Nat → Int32} {z_mo_nodeMany : Nat → Int32} {z_mo_due : Nat → Int32} {z_mo_openNode : Nat → Int32} {z_mo_isLaid : Int32} {k38 : Int32 → Int32 → Int32 → (Int32) → (Nat → Int32) → (Nat → Int32) → (Nat → Int32) → (Nat → Int32) → (Nat → Int32) → (Nat → Int32) → (Int32) → Option (Int32 × (Int32) × (Nat → Int32) × (Nat → Int32) × (Nat → Int32) × (Nat → Int32) × (Nat → Int32) × (Nat → Int32) × (Int32))} (hk38 : ∀ (x1 : Int32) (x2 : Int32) (x3 : Int32) (mo_signMany : Int32) (mo_nodeSign : Nat → Int32) (mo_nodeOn : Nat → Int32) (mo_nodeSize : Nat → Int32) (mo_nodeMany : Nat → Int32) (mo_due : Nat → Int32) (mo_openNode : Nat → Int32) (mo_isLaid : Int32), k38 x1 x2 x3 mo_signMany mo_nodeSign mo_nodeOn mo_nodeSize mo_nodeMany mo_due mo_openNode mo_isLaid = some (z_r, z_mo_signMany, z_mo_nodeSign, z_mo_nodeOn, z_mo_nodeSize, z_mo_nodeMany, z_mo_due, z_mo_openNode, z_mo_isLaid) → ∀ (H : Heap) (locs : List Loc) (ls : Array Slot), DB D A (wd_mo a b cI cJ cT mo_signs mo_signMany mo_nodeSign mo_nodeOn mo_nodeSize mo_nodeMany mo_due mo_openNode mo_value mo_isLaid mo_changes mo_changeNode mo_changeSign mo_differs mo_results mo_own mo_kinds mo_testInputs mo_testDue mo_tests mo_noticed mo_missed mo_leastFrom mo_blameUpper mo_blameLower) s H locs → lv_has ls 5 [(0, .ref (b 0)), (1, .int x1), (2, .int x2), (3, .int x3)] → W p l e rmX12_read s m args below meth c H locs 0 0 (ZI below args s D A (tyl cI cJ cT) z_r (wd_mo a b cI cJ cT mo_signs z_mo_signMany z_mo_nodeSign z_mo_nodeOn z_mo_nodeSize z_mo_nodeMany z_mo_due z_mo_openNode mo_value z_mo_isLaid mo_changes mo_changeNode mo_changeSign mo_differs mo_results mo_own mo_kinds mo_testInputs mo_testDue mo_tests mo_noticed mo_missed mo_leastFrom mo_blameUpper mo_blameLower) 0 0) (F0 m 38 ls [])) : ∀ (n : Nat) (x1 : Int32) (x2 : Int32) (x3 : Int32) (mo_signMany : Int32) (mo_nodeSign : Nat → Int32) (mo_nodeOn : Nat → Int32) (mo_nodeSize : Nat → Int32) (mo_nodeMany : Nat → Int32) (mo_due : Nat → Int32) (mo_openNode : Nat → Int32) (mo_isLaid : Int32), bX12_read_114 N mo_signs k38 n x1 x2 x3 mo_signMany mo_nodeSign mo_nodeOn mo_nodeSize mo_nodeMany mo_due mo_openNode mo_isLaid = some (z_r, z_mo_signMany, z_mo_nodeSign, z_mo_nodeOn, z_mo_nodeSize, z_mo_nodeMany, z_mo_due, z_mo_openNode, z_mo_isLaid) → ∀ (H : Heap) (locs : List Loc) (ls : Array Slot), DB D A (wd_mo a b cI cJ cT mo_signs mo_signMany mo_nodeSign mo_nodeOn mo_nodeSize mo_nodeMany mo_due mo_openNode mo_value mo_isLaid mo_changes mo_changeNode mo_changeSign mo_differs mo_results mo_own mo_kinds mo_testInputs mo_testDue mo_tests mo_noticed mo_missed mo_leastFrom mo_blameUpper mo_blameLower) s H locs → lv_has ls 5 [(0, .ref (b 0)), (1, .int x1), (2, .int x2), (3, .int x3)] → W p l e rmX12_read s m args below meth c H locs 0 0 (ZI below args s D A (tyl cI cJ cT) z_r (wd_mo a b cI cJ cT mo_signs z_mo_signMany z_mo_nodeSign z_mo_nodeOn z_mo_nodeSize z_mo_nodeMany z_mo_due z_mo_openNode mo_value z_mo_isLaid mo_changes mo_changeNode mo_changeSign mo_differs mo_results mo_own mo_kinds mo_testInputs mo_testDue mo_tests mo_noticed mo_missed mo_leastFrom mo_blameUpper mo_blameLower) 0 0) (F0 m 114 ls []) := by
  have hx := C.1.1
  have hb := C.1.2.1
  have hown := C.1.2.2.2.1
  have hts := C.1.2.2.2.2
  intro n
  induction n with
  | zero => intro x1 x2 x3 mo_signMany mo_nodeSign mo_nodeOn mo_nodeSize mo_nodeMany mo_due mo_openNode mo_isLaid h; cases h
  | succ n ih =>
    intro x1 x2 x3 mo_signMany mo_nodeSign mo_nodeOn mo_nodeSize mo_nodeMany mo_due mo_openNode mo_isLaid h H locs ls B hl
    rw [bX12_read_114] at h
    refine lv_iload_n hx hb dX12_read_114 rfl (lv_at hl 2 rfl) ?_
    refine lv_if_le (tgt := 169) hx hb dX12_read_115 (by decide) (fun c_1 => ?_) (fun c_1 => ?_)
    · rw [if_pos c_1] at h
      refine lv_iinc (v := (x3 + 1)) (lv' := [(3, .int (x3 + 1)), (0, .ref (b 0)), (1, .int x1), (2, .int x2)]) hx hb dX12_read_169 hl (k := 3) rfl rfl (by decide) rfl (fun ls hl => ?_)
      refine lv_goto (tgt := 38) hx hb dX12_read_172 (by decide) ?_
      exact hk38 x1 x2 (x3 + 1) mo_signMany mo_nodeSign mo_nodeOn mo_nodeSize mo_nodeMany mo_due mo_openNode mo_isLaid h H locs ls B (lv_sub hl [1, 2, 3, 0] rfl)
    · rw [if_neg c_1] at h
      refine lv_aload_n hx hb dX12_read_118 rfl (lv_at hl 0 rfl) ?_
      refine gfX12_read_25 C B 0 rfl rfl dX12_read_119 ?_
      refine lv_iload_n hx hb dX12_read_122 rfl (lv_at hl 2 rfl) ?_
      obtain ⟨b_2, h⟩ := bnd_some h
      refine k_iald C B 6 0 rfl rfl b_2 dX12_read_123 ?_
      refine lv_if_ne (tgt := 169) hx hb dX12_read_124 (by decide) (fun c_3 => ?_) (fun c_3 => ?_)
      · rw [if_neg c_3] at h
        refine lv_iinc (v := (x3 + 1)) (lv' := [(3, .int (x3 + 1)), (0, .ref (b 0)), (1, .int x1), (2, .int x2)]) hx hb dX12_read_169 hl (k := 3) rfl rfl (by decide) rfl (fun ls hl => ?_)
        refine lv_goto (tgt := 38) hx hb dX12_read_172 (by decide) ?_
        exact hk38 x1 x2 (x3 + 1) mo_signMany mo_nodeSign mo_nodeOn mo_nodeSize mo_nodeMany mo_due mo_openNode mo_isLaid h H locs ls B (lv_sub hl [1, 2, 3, 0] rfl)
      · rw [if_pos c_3] at h
        refine lv_aload_n hx hb dX12_read_127 rfl (lv_at hl 0 rfl) ?_
        refine gfX12_read_19 C B 0 rfl rfl dX12_read_128 ?_
        refine lv_bipush (v := 24) hx hb dX12_read_131 (by decide) ?_
        refine lv_iload_n hx hb dX12_read_133 rfl (lv_at hl 1 rfl) ?_
        refine lv_imul hx hb dX12_read_134 ?_
        refine lv_aload_n hx hb dX12_read_135 rfl (lv_at hl 0 rfl) ?_
        refine gfX12_read_28 C B 0 rfl rfl dX12_read_136 ?_
        refine lv_iload_n hx hb dX12_read_139 rfl (lv_at hl 2 rfl) ?_
        refine k_iald C B 7 0 rfl rfl b_2 dX12_read_140 ?_
        refine lv_iadd hx hb dX12_read_141 ?_
        refine lv_iload_n hx hb dX12_read_142 rfl (lv_at hl 3 rfl) ?_
        refine lv_aload_n hx hb dX12_read_143 rfl (lv_at hl 0 rfl) ?_
        refine gfX12_read_28 C B 0 rfl rfl dX12_read_144 ?_
        refine lv_iload_n hx hb dX12_read_147 rfl (lv_at hl 2 rfl) ?_
        refine k_iald C B 7 0 rfl rfl b_2 dX12_read_148 ?_
        refine lv_isub hx hb dX12_read_149 ?_
        refine lv_iconst (v := 1) hx hb dX12_read_150 (by decide) ?_
        refine lv_iadd hx hb dX12_read_151 ?_
        obtain ⟨b_4, h⟩ := bnd_some h
        refine k_iast C B 4 0 rfl rfl b_4 dX12_read_152 (fun H locs B => ?_)
        have B : DB D A (wd_mo a b cI cJ cT mo_signs mo_signMany mo_nodeSign mo_nodeOn (upd mo_nodeSize (Int32.toNatClampNeg (((24 : Int32) * x1) + (mo_openNode (Int32.toNatClampNeg x2)))) ((x3 - (mo_openNode (Int32.toNatClampNeg x2))) + (1 : Int32))) mo_nodeMany mo_due mo_openNode mo_value mo_isLaid mo_changes mo_changeNode mo_changeSign mo_differs mo_results mo_own mo_kinds mo_testInputs mo_testDue mo_tests mo_noticed mo_missed mo_leastFrom mo_blameUpper mo_blameLower) s H locs := B
        refine lv_iinc (v := (x2 + (-1))) (lv' := [(2, .int (x2 + (-1))), (0, .ref (b 0)), (1, .int x1), (3, .int x3)]) hx hb dX12_read_153 hl (k := 2) rfl rfl (by decide) rfl (fun ls hl => ?_)
        refine lv_aload_n hx hb dX12_read_156 rfl (lv_at hl 1 rfl) ?_
        refine gfX12_read_25 C B 0 rfl rfl dX12_read_157 ?_
        refine lv_iload_n hx hb dX12_read_160 rfl (lv_at hl 0 rfl) ?_
        refine lv_dup2_11 hx hb dX12_read_161 rfl rfl ?_
        obtain ⟨b_5, h⟩ := bnd_some h
        refine k_iald C B 6 0 rfl rfl b_5 dX12_read_162 ?_
        refine lv_iconst (v := 1) hx hb dX12_read_163 (by decide) ?_
        refine lv_isub hx hb dX12_read_164 ?_
        refine k_iast C B 6 0 rfl rfl b_5 dX12_read_165 (fun H locs B => ?_)
        have B : DB D A (wd_mo a b cI cJ cT mo_signs mo_signMany mo_nodeSign mo_nodeOn (upd mo_nodeSize (Int32.toNatClampNeg (((24 : Int32) * x1) + (mo_openNode (Int32.toNatClampNeg x2)))) ((x3 - (mo_openNode (Int32.toNatClampNeg x2))) + (1 : Int32))) mo_nodeMany (upd mo_due (Int32.toNatClampNeg (x2 + (-1))) ((mo_due (Int32.toNatClampNeg (x2 + (-1)))) - (1 : Int32))) mo_openNode mo_value mo_isLaid mo_changes mo_changeNode mo_changeSign mo_differs mo_results mo_own mo_kinds mo_testInputs mo_testDue mo_tests mo_noticed mo_missed mo_leastFrom mo_blameUpper mo_blameLower) s H locs := B
        refine lv_goto (tgt := 114) hx hb dX12_read_166 (by decide) ?_
        exact ih x1 (x2 + (-1)) x3 mo_signMany mo_nodeSign mo_nodeOn (upd mo_nodeSize (Int32.toNatClampNeg (((24 : Int32) * x1) + (mo_openNode (Int32.toNatClampNeg x2)))) ((x3 - (mo_openNode (Int32.toNatClampNeg x2))) + (1 : Int32))) mo_nodeMany (upd mo_due (Int32.toNatClampNeg (x2 + (-1))) ((mo_due (Int32.toNatClampNeg (x2 + (-1)))) - (1 : Int32))) mo_openNode mo_isLaid h H locs ls B (lv_sub hl [1, 2, 0, 3] rfl)
set_option maxHeartbeats 4000000 in
set_option maxRecDepth 100000 in
theorem qX12_read_88 (C : CT p s m args meth c RX12 cX12_read 5 (some .int) wsX12_read D A (tyl cI cJ cT) Es) {N : Nat} {mo_signs : Nat → Int32} {mo_value : Nat → Int32} {mo_changes : Int32} {mo_changeNode : Nat → Int32} {mo_changeSign : Nat → Int32} {mo_differs : Nat → Int32} {mo_results : Nat → Int32} {mo_own : Nat → Int32} {mo_kinds : Nat → Int32} {mo_testInputs : Nat → Int32} {mo_testDue : Nat → Int32} {mo_tests : Int32} {mo_noticed : Nat → Int32} {mo_missed : Nat → Int32} {mo_leastFrom : Nat → Int32} {mo_blameUpper : Nat → Int32} {mo_blameLower : Nat → Int32} {z_r : Int32} {z_mo_signMany : Int32} {z_mo_nodeSign : Nat → Int32} {z_mo_nodeOn : Nat → Int32} {z_mo_nodeSize : Nat → Int32} {z_mo_nodeMany : Nat → Int32} {z_mo_due : Nat → Int32} {z_mo_openNode : Nat → Int32} {z_mo_isLaid : Int32} {k38 : Int32 → Int32 → Int32 → (Int32) → (Nat → Int32) → (Nat → Int32) → (Nat → Int32) → (Nat → Int32) → (Nat → Int32) → (Nat → Int32) → (Int32) → Option (Int32 × (Int32) × (Nat → Int32) × (Nat → Int32) × (Nat → Int32) × (Nat → Int32) × (Nat → Int32) × (Nat → Int32) × (Int32))} (hk38 : ∀ (x1 : Int32) (x2 : Int32) (x3 : Int32) (mo_signMany : Int32) (mo_nodeSign : Nat → Int32) (mo_nodeOn : Nat → Int32) (mo_nodeSize : Nat → Int32) (mo_nodeMany : Nat → Int32) (mo_due : Nat → Int32) (mo_openNode : Nat → Int32) (mo_isLaid : Int32), k38 x1 x2 x3 mo_signMany mo_nodeSign mo_nodeOn mo_nodeSize mo_nodeMany mo_due mo_openNode mo_isLaid = some (z_r, z_mo_signMany, z_mo_nodeSign, z_mo_nodeOn, z_mo_nodeSize, z_mo_nodeMany, z_mo_due, z_mo_openNode, z_mo_isLaid) → ∀ (H : Heap) (locs : List Loc) (ls : Array Slot), DB D A (wd_mo a b cI cJ cT mo_signs mo_signMany mo_nodeSign mo_nodeOn mo_nodeSize mo_nodeMany mo_due mo_openNode mo_value mo_isLaid mo_changes mo_changeNode mo_changeSign mo_differs mo_results mo_own mo_kinds mo_testInputs mo_testDue mo_tests mo_noticed mo_missed mo_leastFrom mo_blameUpper mo_blameLower) s H locs → lv_has ls 5 [(0, .ref (b 0)), (1, .int x1), (2, .int x2), (3, .int x3)] → W p l e rmX12_read s m args below meth c H locs 0 0 (ZI below args s D A (tyl cI cJ cT) z_r (wd_mo a b cI cJ cT mo_signs z_mo_signMany z_mo_nodeSign z_mo_nodeOn z_mo_nodeSize z_mo_nodeMany z_mo_due z_mo_openNode mo_value z_mo_isLaid mo_changes mo_changeNode mo_changeSign mo_differs mo_results mo_own mo_kinds mo_testInputs mo_testDue mo_tests mo_noticed mo_missed mo_leastFrom mo_blameUpper mo_blameLower) 0 0) (F0 m 38 ls [])) : ∀ (x1 : Int32) (x2 : Int32) (x3 : Int32) (y1 : Int32) (y2 : Int32) (mo_signMany : Int32) (mo_nodeSign : Nat → Int32) (mo_nodeOn : Nat → Int32) (mo_nodeSize : Nat → Int32) (mo_nodeMany : Nat → Int32) (mo_due : Nat → Int32) (mo_openNode : Nat → Int32) (mo_isLaid : Int32), bX12_read_88 N mo_signs k38 x1 x2 x3 y1 y2 mo_signMany mo_nodeSign mo_nodeOn mo_nodeSize mo_nodeMany mo_due mo_openNode mo_isLaid = some (z_r, z_mo_signMany, z_mo_nodeSign, z_mo_nodeOn, z_mo_nodeSize, z_mo_nodeMany, z_mo_due, z_mo_openNode, z_mo_isLaid) → ∀ (H : Heap) (locs : List Loc) (ls : Array Slot), DB D A (wd_mo a b cI cJ cT mo_signs mo_signMany mo_nodeSign mo_nodeOn mo_nodeSize mo_nodeMany mo_due mo_openNode mo_value mo_isLaid mo_changes mo_changeNode mo_changeSign mo_differs mo_results mo_own mo_kinds mo_testInputs mo_testDue mo_tests mo_noticed mo_missed mo_leastFrom mo_blameUpper mo_blameLower) s H locs → lv_has ls 5 [(0, .ref (b 0)), (1, .int x1), (2, .int x2), (3, .int x3)] → W p l e rmX12_read s m args below meth c H locs 0 0 (ZI below args s D A (tyl cI cJ cT) z_r (wd_mo a b cI cJ cT mo_signs z_mo_signMany z_mo_nodeSign z_mo_nodeOn z_mo_nodeSize z_mo_nodeMany z_mo_due z_mo_openNode mo_value z_mo_isLaid mo_changes mo_changeNode mo_changeSign mo_differs mo_results mo_own mo_kinds mo_testInputs mo_testDue mo_tests mo_noticed mo_missed mo_leastFrom mo_blameUpper mo_blameLower) 0 0) (F0 m 88 ls [.int y2, .int y1, .ref (b 3)]) := by
  have hx := C.1.1
  have hb := C.1.2.1
  have hown := C.1.2.2.2.1
  have hts := C.1.2.2.2.2
  intro x1 x2 x3 y1 y2 mo_signMany mo_nodeSign mo_nodeOn mo_nodeSize mo_nodeMany mo_due mo_openNode mo_isLaid h H locs ls B hl
  rw [bX12_read_88] at h
  obtain ⟨b_1, h⟩ := bnd_some h
  refine k_iast C B 3 0 rfl rfl b_1 dX12_read_88 (fun H locs B => ?_)
  have B : DB D A (wd_mo a b cI cJ cT mo_signs mo_signMany mo_nodeSign (upd mo_nodeOn (Int32.toNatClampNeg y1) y2) mo_nodeSize mo_nodeMany mo_due mo_openNode mo_value mo_isLaid mo_changes mo_changeNode mo_changeSign mo_differs mo_results mo_own mo_kinds mo_testInputs mo_testDue mo_tests mo_noticed mo_missed mo_leastFrom mo_blameUpper mo_blameLower) s H locs := B
  refine lv_iinc (v := (x2 + 1)) (lv' := [(2, .int (x2 + 1)), (0, .ref (b 0)), (1, .int x1), (3, .int x3)]) hx hb dX12_read_89 hl (k := 2) rfl rfl (by decide) rfl (fun ls hl => ?_)
  refine lv_aload_n hx hb dX12_read_92 rfl (lv_at hl 1 rfl) ?_
  refine gfX12_read_28 C B 0 rfl rfl dX12_read_93 ?_
  refine lv_iload_n hx hb dX12_read_96 rfl (lv_at hl 0 rfl) ?_
  refine lv_iload_n hx hb dX12_read_97 rfl (lv_at hl 3 rfl) ?_
  obtain ⟨b_2, h⟩ := bnd_some h
  refine k_iast C B 7 0 rfl rfl b_2 dX12_read_98 (fun H locs B => ?_)
  have B : DB D A (wd_mo a b cI cJ cT mo_signs mo_signMany mo_nodeSign (upd mo_nodeOn (Int32.toNatClampNeg y1) y2) mo_nodeSize mo_nodeMany mo_due (upd mo_openNode (Int32.toNatClampNeg (x2 + 1)) x3) mo_value mo_isLaid mo_changes mo_changeNode mo_changeSign mo_differs mo_results mo_own mo_kinds mo_testInputs mo_testDue mo_tests mo_noticed mo_missed mo_leastFrom mo_blameUpper mo_blameLower) s H locs := B
  refine lv_aload_n hx hb dX12_read_99 rfl (lv_at hl 1 rfl) ?_
  refine gfX12_read_25 C B 0 rfl rfl dX12_read_100 ?_
  refine lv_iload_n hx hb dX12_read_103 rfl (lv_at hl 0 rfl) ?_
  refine lv_aload_n hx hb dX12_read_104 rfl (lv_at hl 1 rfl) ?_
  refine gfX12_read_7 C B 0 rfl rfl dX12_read_105 ?_
  refine lv_iload_n hx hb dX12_read_108 rfl (lv_at hl 3 rfl) ?_
  obtain ⟨b_3, h⟩ := bnd_some h
  refine k_iald C B 1 0 rfl rfl b_3 dX12_read_109 ?_
  obtain ⟨r_4, g_5, h⟩ := ob_some h
  try dsimp only at h
  refine kc_SI C B (As := [.int (mo_signs (Int32.toNatClampNeg x3))]) (rest := [.int (x2 + 1), .ref (b 6)]) (w2 := (wd_mo a b cI cJ cT mo_signs mo_signMany mo_nodeSign (upd mo_nodeOn (Int32.toNatClampNeg y1) y2) mo_nodeSize mo_nodeMany mo_due (upd mo_openNode (Int32.toNatClampNeg (x2 + 1)) x3) mo_value mo_isLaid mo_changes mo_changeNode mo_changeSign mo_differs mo_results mo_own mo_kinds mo_testInputs mo_testDue mo_tests mo_noticed mo_missed mo_leastFrom mo_blameUpper mo_blameLower)) (tX12_partsOf N g_5) gX12_read_X12_partsOf rfl ⟨rfl, rfl⟩ hdX12_partsOf ⟨Nat.le_of_ble_eq_true rfl, Nat.le_of_ble_eq_true rfl⟩ [] [0, 1, 2, 3, 4, 5, 6, 7, 8, 9, 10, 11, 12, 13, 14, 15, 16, 17, 18, 19, 20, 21] [0, 1, 2, 3, 4, 5, 6, 7, 8, 9, 10, 11, 12, 13, 14, 15, 16, 17, 18, 19, 20, 21] rfl rfl rfl rfl rfl rfl rfl rfl hl.1 rfl (Nat.le_of_ble_eq_true rfl) ⟨Nat.zero_le _, Nat.zero_le _⟩ dX12_read_110 (fun H locs B => ?_)
  refine k_iast C B 6 0 rfl rfl b_2 dX12_read_113 (fun H locs B => ?_)
  have B : DB D A (wd_mo a b cI cJ cT mo_signs mo_signMany mo_nodeSign (upd mo_nodeOn (Int32.toNatClampNeg y1) y2) mo_nodeSize mo_nodeMany (upd mo_due (Int32.toNatClampNeg (x2 + 1)) r_4) (upd mo_openNode (Int32.toNatClampNeg (x2 + 1)) x3) mo_value mo_isLaid mo_changes mo_changeNode mo_changeSign mo_differs mo_results mo_own mo_kinds mo_testInputs mo_testDue mo_tests mo_noticed mo_missed mo_leastFrom mo_blameUpper mo_blameLower) s H locs := B
  exact qX12_read_114 C hk38 N x1 (x2 + 1) x3 mo_signMany mo_nodeSign (upd mo_nodeOn (Int32.toNatClampNeg y1) y2) mo_nodeSize mo_nodeMany (upd mo_due (Int32.toNatClampNeg (x2 + 1)) r_4) (upd mo_openNode (Int32.toNatClampNeg (x2 + 1)) x3) mo_isLaid h H locs ls B (lv_sub hl [1, 2, 0, 3] rfl)
set_option maxHeartbeats 4000000 in
set_option maxRecDepth 100000 in
theorem qX12_read_38 (C : CT p s m args meth c RX12 cX12_read 5 (some .int) wsX12_read D A (tyl cI cJ cT) Es) {N : Nat} {mo_signs : Nat → Int32} {mo_value : Nat → Int32} {mo_changes : Int32} {mo_changeNode : Nat → Int32} {mo_changeSign : Nat → Int32} {mo_differs : Nat → Int32} {mo_results : Nat → Int32} {mo_own : Nat → Int32} {mo_kinds : Nat → Int32} {mo_testInputs : Nat → Int32} {mo_testDue : Nat → Int32} {mo_tests : Int32} {mo_noticed : Nat → Int32} {mo_missed : Nat → Int32} {mo_leastFrom : Nat → Int32} {mo_blameUpper : Nat → Int32} {mo_blameLower : Nat → Int32} {z_r : Int32} {z_mo_signMany : Int32} {z_mo_nodeSign : Nat → Int32} {z_mo_nodeOn : Nat → Int32} {z_mo_nodeSize : Nat → Int32} {z_mo_nodeMany : Nat → Int32} {z_mo_due : Nat → Int32} {z_mo_openNode : Nat → Int32} {z_mo_isLaid : Int32} : ∀ (n : Nat) (x1 : Int32) (x2 : Int32) (x3 : Int32) (mo_signMany : Int32) (mo_nodeSign : Nat → Int32) (mo_nodeOn : Nat → Int32) (mo_nodeSize : Nat → Int32) (mo_nodeMany : Nat → Int32) (mo_due : Nat → Int32) (mo_openNode : Nat → Int32) (mo_isLaid : Int32), bX12_read_38 N mo_signs n x1 x2 x3 mo_signMany mo_nodeSign mo_nodeOn mo_nodeSize mo_nodeMany mo_due mo_openNode mo_isLaid = some (z_r, z_mo_signMany, z_mo_nodeSign, z_mo_nodeOn, z_mo_nodeSize, z_mo_nodeMany, z_mo_due, z_mo_openNode, z_mo_isLaid) → ∀ (H : Heap) (locs : List Loc) (ls : Array Slot), DB D A (wd_mo a b cI cJ cT mo_signs mo_signMany mo_nodeSign mo_nodeOn mo_nodeSize mo_nodeMany mo_due mo_openNode mo_value mo_isLaid mo_changes mo_changeNode mo_changeSign mo_differs mo_results mo_own mo_kinds mo_testInputs mo_testDue mo_tests mo_noticed mo_missed mo_leastFrom mo_blameUpper mo_blameLower) s H locs → lv_has ls 5 [(0, .ref (b 0)), (1, .int x1), (2, .int x2), (3, .int x3)] → W p l e rmX12_read s m args below meth c H locs 0 0 (ZI below args s D A (tyl cI cJ cT) z_r (wd_mo a b cI cJ cT mo_signs z_mo_signMany z_mo_nodeSign z_mo_nodeOn z_mo_nodeSize z_mo_nodeMany z_mo_due z_mo_openNode mo_value z_mo_isLaid mo_changes mo_changeNode mo_changeSign mo_differs mo_results mo_own mo_kinds mo_testInputs mo_testDue mo_tests mo_noticed mo_missed mo_leastFrom mo_blameUpper mo_blameLower) 0 0) (F0 m 38 ls []) := by
  have hx := C.1.1
  have hb := C.1.2.1
  have hown := C.1.2.2.2.1
  have hts := C.1.2.2.2.2
  intro n
  induction n with
  | zero => intro x1 x2 x3 mo_signMany mo_nodeSign mo_nodeOn mo_nodeSize mo_nodeMany mo_due mo_openNode mo_isLaid h; cases h
  | succ n ih =>
    intro x1 x2 x3 mo_signMany mo_nodeSign mo_nodeOn mo_nodeSize mo_nodeMany mo_due mo_openNode mo_isLaid h H locs ls B hl
    rw [bX12_read_38] at h
    refine lv_iload_n hx hb dX12_read_38 rfl (lv_at hl 3 rfl) ?_
    refine lv_aload_n hx hb dX12_read_39 rfl (lv_at hl 0 rfl) ?_
    refine gfX12_read_85 C B 0 rfl rfl dX12_read_40 ?_
    refine lv_icmp_ge (tgt := 175) hx hb dX12_read_43 (by decide) (fun c_1 => ?_) (fun c_1 => ?_)
    · rw [if_pos c_1] at h
      refine lv_aload_n hx hb dX12_read_175 rfl (lv_at hl 0 rfl) ?_
      refine gfX12_read_22 C B 0 rfl rfl dX12_read_176 ?_
      refine lv_iload_n hx hb dX12_read_179 rfl (lv_at hl 1 rfl) ?_
      refine lv_aload_n hx hb dX12_read_180 rfl (lv_at hl 0 rfl) ?_
      refine gfX12_read_85 C B 0 rfl rfl dX12_read_181 ?_
      obtain ⟨b_2, h⟩ := bnd_some h
      refine k_iast C B 5 0 rfl rfl b_2 dX12_read_184 (fun H locs B => ?_)
      have B : DB D A (wd_mo a b cI cJ cT mo_signs mo_signMany mo_nodeSign mo_nodeOn mo_nodeSize (upd mo_nodeMany (Int32.toNatClampNeg x1) mo_signMany) mo_due mo_openNode mo_value mo_isLaid mo_changes mo_changeNode mo_changeSign mo_differs mo_results mo_own mo_kinds mo_testInputs mo_testDue mo_tests mo_noticed mo_missed mo_leastFrom mo_blameUpper mo_blameLower) s H locs := B
      refine lv_aload_n hx hb dX12_read_185 rfl (lv_at hl 0 rfl) ?_
      refine lv_iconst (v := 0) hx hb dX12_read_186 (by decide) ?_
      refine pfX12_read_85 C B 0 rfl (by rfl) rfl (Nat.le_of_ble_eq_true rfl) dX12_read_187 (fun H locs B => ?_)
      have B : DB D A (wd_mo a b cI cJ cT mo_signs (0 : Int32) mo_nodeSign mo_nodeOn mo_nodeSize (upd mo_nodeMany (Int32.toNatClampNeg x1) mo_signMany) mo_due mo_openNode mo_value mo_isLaid mo_changes mo_changeNode mo_changeSign mo_differs mo_results mo_own mo_kinds mo_testInputs mo_testDue mo_tests mo_noticed mo_missed mo_leastFrom mo_blameUpper mo_blameLower) s H locs := B
      refine lv_aload_n hx hb dX12_read_190 rfl (lv_at hl 0 rfl) ?_
      refine lv_iconst (v := 0) hx hb dX12_read_191 (by decide) ?_
      refine pfX12_read_112 C B 0 (by decide) (by rfl) rfl (Nat.le_of_ble_eq_true rfl) dX12_read_192 (fun H locs B => ?_)
      have B : DB D A (wd_mo a b cI cJ cT mo_signs (0 : Int32) mo_nodeSign mo_nodeOn mo_nodeSize (upd mo_nodeMany (Int32.toNatClampNeg x1) mo_signMany) mo_due mo_openNode mo_value (0 : Int32) mo_changes mo_changeNode mo_changeSign mo_differs mo_results mo_own mo_kinds mo_testInputs mo_testDue mo_tests mo_noticed mo_missed mo_leastFrom mo_blameUpper mo_blameLower) s H locs := B
      refine lv_aload_n hx hb dX12_read_195 rfl (lv_at hl 0 rfl) ?_
      refine gfX12_read_22 C B 0 rfl rfl dX12_read_196 ?_
      refine lv_iload_n hx hb dX12_read_199 rfl (lv_at hl 1 rfl) ?_
      refine k_iald C B 5 0 rfl rfl b_2 dX12_read_200 ?_
      cases h
      exact k_iret C B dX12_read_201
    · rw [if_neg c_1] at h
      refine lv_bipush (v := 24) hx hb dX12_read_46 (by decide) ?_
      refine lv_iload_n hx hb dX12_read_48 rfl (lv_at hl 1 rfl) ?_
      refine lv_imul hx hb dX12_read_49 ?_
      refine lv_iload_n hx hb dX12_read_50 rfl (lv_at hl 3 rfl) ?_
      refine lv_iadd hx hb dX12_read_51 ?_
      refine lv_istore (lv' := [(4, .int (((24 : Int32) * x1) + x3)), (0, .ref (b 0)), (1, .int x1), (2, .int x2), (3, .int x3)]) hx hb dX12_read_52 hl (by decide) rfl (fun ls hl => ?_)
      refine lv_aload_n hx hb dX12_read_54 rfl (lv_at hl 1 rfl) ?_
      refine gfX12_read_13 C B 0 rfl rfl dX12_read_55 ?_
      refine lv_iload hx hb dX12_read_58 (lv_at hl 0 rfl) ?_
      refine lv_aload_n hx hb dX12_read_60 rfl (lv_at hl 1 rfl) ?_
      refine gfX12_read_7 C B 0 rfl rfl dX12_read_61 ?_
      refine lv_iload_n hx hb dX12_read_64 rfl (lv_at hl 4 rfl) ?_
      obtain ⟨b_3, h⟩ := bnd_some h
      refine k_iald C B 1 0 rfl rfl b_3 dX12_read_65 ?_
      obtain ⟨b_4, h⟩ := bnd_some h
      refine k_iast C B 2 0 rfl rfl b_4 dX12_read_66 (fun H locs B => ?_)
      have B : DB D A (wd_mo a b cI cJ cT mo_signs mo_signMany (upd mo_nodeSign (Int32.toNatClampNeg (((24 : Int32) * x1) + x3)) (mo_signs (Int32.toNatClampNeg x3))) mo_nodeOn mo_nodeSize mo_nodeMany mo_due mo_openNode mo_value mo_isLaid mo_changes mo_changeNode mo_changeSign mo_differs mo_results mo_own mo_kinds mo_testInputs mo_testDue mo_tests mo_noticed mo_missed mo_leastFrom mo_blameUpper mo_blameLower) s H locs := B
      refine lv_aload_n hx hb dX12_read_67 rfl (lv_at hl 1 rfl) ?_
      refine gfX12_read_16 C B 0 rfl rfl dX12_read_68 ?_
      refine lv_iload hx hb dX12_read_71 (lv_at hl 0 rfl) ?_
      refine lv_iload_n hx hb dX12_read_73 rfl (lv_at hl 3 rfl) ?_
      refine lv_if_ne (tgt := 82) hx hb dX12_read_74 (by decide) (fun c_5 => ?_) (fun c_5 => ?_)
      · rw [if_neg c_5] at h
        refine lv_aload_n hx hb dX12_read_82 rfl (lv_at hl 1 rfl) ?_
        refine gfX12_read_28 C B 0 rfl rfl dX12_read_83 ?_
        refine lv_iload_n hx hb dX12_read_86 rfl (lv_at hl 3 rfl) ?_
        obtain ⟨b_6, h⟩ := bnd_some h
        refine k_iald C B 7 0 rfl rfl b_6 dX12_read_87 ?_
        exact qX12_read_88 C ih x1 x2 x3 (((24 : Int32) * x1) + x3) (mo_openNode (Int32.toNatClampNeg x2)) mo_signMany (upd mo_nodeSign (Int32.toNatClampNeg (((24 : Int32) * x1) + x3)) (mo_signs (Int32.toNatClampNeg x3))) mo_nodeOn mo_nodeSize mo_nodeMany mo_due mo_openNode mo_isLaid h H locs ls B (lv_sub hl [1, 2, 3, 4] rfl)
      · rw [if_pos c_5] at h
        refine lv_bipush (v := -6) hx hb dX12_read_77 (by decide) ?_
        refine lv_goto (tgt := 88) hx hb dX12_read_79 (by decide) ?_
        exact qX12_read_88 C ih x1 x2 x3 (((24 : Int32) * x1) + x3) (-6 : Int32) mo_signMany (upd mo_nodeSign (Int32.toNatClampNeg (((24 : Int32) * x1) + x3)) (mo_signs (Int32.toNatClampNeg x3))) mo_nodeOn mo_nodeSize mo_nodeMany mo_due mo_openNode mo_isLaid h H locs ls B (lv_sub hl [1, 2, 3, 4] rfl)
set_option maxHeartbeats 4000000 in
set_option maxRecDepth 100000 in
theorem qX12_read_0 (C : CT p s m args meth c RX12 cX12_read 5 (some .int) wsX12_read D A (tyl cI cJ cT) Es) {N : Nat} {mo_signs : Nat → Int32} {mo_value : Nat → Int32} {mo_changes : Int32} {mo_changeNode : Nat → Int32} {mo_changeSign : Nat → Int32} {mo_differs : Nat → Int32} {mo_results : Nat → Int32} {mo_own : Nat → Int32} {mo_kinds : Nat → Int32} {mo_testInputs : Nat → Int32} {mo_testDue : Nat → Int32} {mo_tests : Int32} {mo_noticed : Nat → Int32} {mo_missed : Nat → Int32} {mo_leastFrom : Nat → Int32} {mo_blameUpper : Nat → Int32} {mo_blameLower : Nat → Int32} {z_r : Int32} {z_mo_signMany : Int32} {z_mo_nodeSign : Nat → Int32} {z_mo_nodeOn : Nat → Int32} {z_mo_nodeSize : Nat → Int32} {z_mo_nodeMany : Nat → Int32} {z_mo_due : Nat → Int32} {z_mo_openNode : Nat → Int32} {z_mo_isLaid : Int32} : ∀ (x1 : Int32) (mo_signMany : Int32) (mo_nodeSign : Nat → Int32) (mo_nodeOn : Nat → Int32) (mo_nodeSize : Nat → Int32) (mo_nodeMany : Nat → Int32) (mo_due : Nat → Int32) (mo_openNode : Nat → Int32) (mo_isLaid : Int32), fX12_read N mo_signs x1 mo_signMany mo_nodeSign mo_nodeOn mo_nodeSize mo_nodeMany mo_due mo_openNode mo_isLaid = some (z_r, z_mo_signMany, z_mo_nodeSign, z_mo_nodeOn, z_mo_nodeSize, z_mo_nodeMany, z_mo_due, z_mo_openNode, z_mo_isLaid) → ∀ (H : Heap) (locs : List Loc) (ls : Array Slot), DB D A (wd_mo a b cI cJ cT mo_signs mo_signMany mo_nodeSign mo_nodeOn mo_nodeSize mo_nodeMany mo_due mo_openNode mo_value mo_isLaid mo_changes mo_changeNode mo_changeSign mo_differs mo_results mo_own mo_kinds mo_testInputs mo_testDue mo_tests mo_noticed mo_missed mo_leastFrom mo_blameUpper mo_blameLower) s H locs → lv_has ls 5 [(0, .ref (b 0)), (1, .int x1)] → W p l e rmX12_read s m args below meth c H locs 0 0 (ZI below args s D A (tyl cI cJ cT) z_r (wd_mo a b cI cJ cT mo_signs z_mo_signMany z_mo_nodeSign z_mo_nodeOn z_mo_nodeSize z_mo_nodeMany z_mo_due z_mo_openNode mo_value z_mo_isLaid mo_changes mo_changeNode mo_changeSign mo_differs mo_results mo_own mo_kinds mo_testInputs mo_testDue mo_tests mo_noticed mo_missed mo_leastFrom mo_blameUpper mo_blameLower) 0 0) (F0 m 0 ls []) := by
  have hx := C.1.1
  have hb := C.1.2.1
  have hown := C.1.2.2.2.1
  have hts := C.1.2.2.2.2
  intro x1 mo_signMany mo_nodeSign mo_nodeOn mo_nodeSize mo_nodeMany mo_due mo_openNode mo_isLaid h H locs ls B hl
  rw [fX12_read] at h
  refine lv_iload_n hx hb dX12_read_0 rfl (lv_at hl 1 rfl) ?_
  refine lv_i2l (v := (Int32.toInt64 x1)) hx hb dX12_read_1 rfl ?_
  refine lv_lconst (v := 0) hx hb dX12_read_2 (by decide) ?_
  refine lv_lconst (v := 1) hx hb dX12_read_3 (by decide) ?_
  obtain ⟨r_1, g_8, h⟩ := ob_some h
  try dsimp only at h
  refine kc_SI C B (As := [.long (Int32.toInt64 x1), .long (0 : Int64), .long (1 : Int64)]) (rest := []) (w2 := (wd_mo a b cI cJ cT mo_signs mo_signMany mo_nodeSign mo_nodeOn mo_nodeSize mo_nodeMany mo_due mo_openNode mo_value mo_isLaid mo_changes mo_changeNode mo_changeSign mo_differs mo_results mo_own mo_kinds mo_testInputs mo_testDue mo_tests mo_noticed mo_missed mo_leastFrom mo_blameUpper mo_blameLower)) (tX12_in N g_8) gX12_read_X12_in rfl ⟨rfl, rfl⟩ hdX12_in ⟨Nat.le_of_ble_eq_true rfl, Nat.le_of_ble_eq_true rfl⟩ [] [0, 1, 2, 3, 4, 5, 6, 7, 8, 9, 10, 11, 12, 13, 14, 15, 16, 17, 18, 19, 20, 21] [0, 1, 2, 3, 4, 5, 6, 7, 8, 9, 10, 11, 12, 13, 14, 15, 16, 17, 18, 19, 20, 21] rfl rfl rfl rfl rfl rfl rfl rfl hl.1 rfl (Nat.le_of_ble_eq_true rfl) ⟨Nat.zero_le _, Nat.zero_le _⟩ dX12_read_4 (fun H locs B => ?_)
  refine lv_if_ne (tgt := 12) hx hb dX12_read_7 (by decide) (fun c_2 => ?_) (fun c_2 => ?_)
  · rw [if_neg c_2] at h
    refine lv_aload_n hx hb dX12_read_12 rfl (lv_at hl 0 rfl) ?_
    obtain ⟨⟨r_3, mo_due_4⟩, g_7, h⟩ := ob_some h
    try dsimp only at h
    refine kc_VI C B (q0 := 0) (ci := 12) (As := []) (rest := []) (w2 := (wd_mo a b cI cJ cT mo_signs mo_signMany mo_nodeSign mo_nodeOn mo_nodeSize mo_nodeMany mo_due_4 mo_openNode mo_value mo_isLaid mo_changes mo_changeNode mo_changeSign mo_differs mo_results mo_own mo_kinds mo_testInputs mo_testDue mo_tests mo_noticed mo_missed mo_leastFrom mo_blameUpper mo_blameLower)) (tX12_fault (a := a) (b := b) N g_7) gX12_read_X12_fault rfl ⟨rfl, rfl⟩ ⟨rfl, hdX12_fault⟩ ⟨Nat.le_of_ble_eq_true rfl, Nat.le_of_ble_eq_true rfl⟩ rfl rfl [0, 1, 2, 3, 4, 5, 6, 7, 8, 9, 10, 11, 12, 13, 14, 15, 16, 17, 18, 19, 20, 21] [] [0, 1, 2, 3, 4, 5, 6, 7, 8, 9, 10, 11, 12, 13, 14, 15, 16, 17, 18, 19, 20, 21] rfl rfl rfl rfl rfl rfl rfl rfl hl.1 rfl (Nat.le_of_ble_eq_true rfl) ⟨Nat.zero_le _, Nat.zero_le _⟩ dX12_read_13 (fun H locs B => ?_)
    refine lv_if_lt (tgt := 22) hx hb dX12_read_16 (by decide) (fun c_5 => ?_) (fun c_5 => ?_)
    · rw [if_pos c_5] at h
      refine lv_aload_n hx hb dX12_read_22 rfl (lv_at hl 0 rfl) ?_
      refine gfX12_read_85 C B 0 rfl rfl dX12_read_23 ?_
      refine lv_bipush (v := 24) hx hb dX12_read_26 (by decide) ?_
      refine lv_icmp_le (tgt := 34) hx hb dX12_read_28 (by decide) (fun c_6 => ?_) (fun c_6 => ?_)
      · rw [if_pos c_6] at h
        refine lv_iconst (v := 0) hx hb dX12_read_34 (by decide) ?_
        refine lv_istore_n (lv' := [(2, .int (0 : Int32)), (0, .ref (b 0)), (1, .int x1)]) hx hb dX12_read_35 rfl hl (by decide) rfl (fun ls hl => ?_)
        refine lv_iconst (v := 0) hx hb dX12_read_36 (by decide) ?_
        refine lv_istore_n (lv' := [(3, .int (0 : Int32)), (2, .int (0 : Int32)), (0, .ref (b 0)), (1, .int x1)]) hx hb dX12_read_37 rfl hl (by decide) rfl (fun ls hl => ?_)
        exact qX12_read_38 C N x1 (0 : Int32) (0 : Int32) mo_signMany mo_nodeSign mo_nodeOn mo_nodeSize mo_nodeMany mo_due_4 mo_openNode mo_isLaid h H locs ls B (lv_sub hl [2, 3, 1, 0] rfl)
      · rw [if_neg c_6] at h
        refine lv_bipush (v := -4) hx hb dX12_read_31 (by decide) ?_
        cases h
        exact k_iret C B dX12_read_33
    · rw [if_neg c_5] at h
      refine lv_bipush (v := -5) hx hb dX12_read_19 (by decide) ?_
      cases h
      exact k_iret C B dX12_read_21
  · rw [if_pos c_2] at h
    refine lv_iconst (v := -1) hx hb dX12_read_10 (by decide) ?_
    cases h
    exact k_iret C B dX12_read_11
end
theorem tX12_read {l : Launch} {D : va_G} {Es : (Nat → Nat) × (Nat → Nat)} {a b : Nat → Nat} {cI cJ cT : ClassId} {mo_signs : Nat → Int32} {mo_signMany : Int32} {mo_nodeSign : Nat → Int32} {mo_nodeOn : Nat → Int32} {mo_nodeSize : Nat → Int32} {mo_nodeMany : Nat → Int32} {mo_due : Nat → Int32} {mo_openNode : Nat → Int32} {mo_value : Nat → Int32} {mo_isLaid : Int32} {mo_changes : Int32} {mo_changeNode : Nat → Int32} {mo_changeSign : Nat → Int32} {mo_differs : Nat → Int32} {mo_results : Nat → Int32} {mo_own : Nat → Int32} {mo_kinds : Nat → Int32} {mo_testInputs : Nat → Int32} {mo_testDue : Nat → Int32} {mo_tests : Int32} {mo_noticed : Nat → Int32} {mo_missed : Nat → Int32} {mo_leastFrom : Nat → Int32} {mo_blameUpper : Nat → Int32} {mo_blameLower : Nat → Int32} {x1 : Int32} {z_r : Int32} {z_mo_signMany : Int32} {z_mo_nodeSign : Nat → Int32} {z_mo_nodeOn : Nat → Int32} {z_mo_nodeSize : Nat → Int32} {z_mo_nodeMany : Nat → Int32} {z_mo_due : Nat → Int32} {z_mo_openNode : Nat → Int32} {z_mo_isLaid : Int32} (N : Nat) (h : fX12_read N mo_signs x1 mo_signMany mo_nodeSign mo_nodeOn mo_nodeSize mo_nodeMany mo_due mo_openNode mo_isLaid = some (z_r, z_mo_signMany, z_mo_nodeSign, z_mo_nodeOn, z_mo_nodeSize, z_mo_nodeMany, z_mo_due, z_mo_openNode, z_mo_isLaid)) : CtI l yX12_read wsX12_read rmX12_read D (tyl cI cJ cT) Es [.ref (b 0), .int x1] (wd_mo a b cI cJ cT mo_signs mo_signMany mo_nodeSign mo_nodeOn mo_nodeSize mo_nodeMany mo_due mo_openNode mo_value mo_isLaid mo_changes mo_changeNode mo_changeSign mo_differs mo_results mo_own mo_kinds mo_testInputs mo_testDue mo_tests mo_noticed mo_missed mo_leastFrom mo_blameUpper mo_blameLower) z_r (wd_mo a b cI cJ cT mo_signs z_mo_signMany z_mo_nodeSign z_mo_nodeOn z_mo_nodeSize z_mo_nodeMany z_mo_due z_mo_openNode mo_value z_mo_isLaid mo_changes mo_changeNode mo_changeSign mo_differs mo_results mo_own mo_kinds mo_testInputs mo_testDue mo_tests mo_noticed mo_missed mo_leastFrom mo_blameUpper mo_blameLower) :=
  CtI.of (own := RX12) (cc := cX12_read) (nL := 5) (ret := (some .int)) (by decide +kernel) rfl rfl (Nat.le_of_ble_eq_true rfl) rfl (fun p e s m below meth c A ls C B hl => qX12_read_0 C (N := N) x1 mo_signMany mo_nodeSign mo_nodeOn mo_nodeSize mo_nodeMany mo_due mo_openNode mo_isLaid h _ _ _ B hl)

abbrev rmX12_isNode : Room := { frames := 1, cells := 0, slots := 0, locals := 25 }
theorem hdX12_isNode : yX12_isNode.cls ≠ "java/lang/invoke/MethodHandle" ∧ yX12_isNode.cls ≠ "java/lang/invoke/VarHandle" ∧ (parseMethodDescriptor yX12_isNode.desc).map (fun d => d.parameters.length) = some 2 := by decide +kernel
theorem iX12_isNode_X12 : ∀ w ∈ wsX120, w ∈ wsX12_isNode := by decide +kernel
theorem gfX12_isNode_22 {p : Program} {l : Launch} {e : Env} {R : Room} {s : State} {m : MethodId} {args : Array Value} {below : List Frame} {meth : Method} {c : Code} {H : Heap} {locs : List Loc} {cells slots : Nat} {Q : State → Prop} {D : va_G} {A : Nat → Prop} {tys : List (ClassId × FieldType)} {Es : (Nat → Nat) × (Nat → Nat)} {ws : va_W} {pc : Nat} {ls : Array Slot} {rest : List Value} {a : Nat} (C : CT p s m args meth c RX12 cX12_isNode 3 (some .boolean) wsX12_isNode D A tys Es) (B : DB D A ws s H locs) (q0 : Nat) {fs : List Value} {v : Value} (he : ws[q0]? = some (a, .inr (12, fs))) (hv : fs[5]? = some v) (hdg : decode cX12_isNode pc = .ok (.getfield 22, 3)) (kk : W p l e R s m args below meth c H locs cells slots Q (F0 m (pc + 3) ls (v :: rest))) : W p l e R s m args below meth c H locs cells slots Q (F0 m pc ls (.ref a :: rest)) :=
  k_get (Cn := RX12) (T := TX12) (N := 25) (index := 22) C B iX12_isNode_X12 rfl 5 (by decide) (by decide +kernel) q0 he hv hdg kk
section
variable {p : Program} {l : Launch} {e : Env} {s : State} {m : MethodId} {args : Array Value} {below : List Frame} {meth : Method} {c : Code} {D : va_G} {A : Nat → Prop} {Es : (Nat → Nat) × (Nat → Nat)} {a b : Nat → Nat} {cI cJ cT : ClassId}
set_option maxHeartbeats 4000000 in
set_option maxRecDepth 100000 in
theorem qX12_isNode_0 (C : CT p s m args meth c RX12 cX12_isNode 3 (some .boolean) wsX12_isNode D A (tyl cI cJ cT) Es) {N : Nat} {mo_signs : Nat → Int32} {mo_signMany : Int32} {mo_nodeSign : Nat → Int32} {mo_nodeOn : Nat → Int32} {mo_nodeSize : Nat → Int32} {mo_nodeMany : Nat → Int32} {mo_due : Nat → Int32} {mo_openNode : Nat → Int32} {mo_value : Nat → Int32} {mo_isLaid : Int32} {mo_changes : Int32} {mo_changeNode : Nat → Int32} {mo_changeSign : Nat → Int32} {mo_differs : Nat → Int32} {mo_results : Nat → Int32} {mo_own : Nat → Int32} {mo_kinds : Nat → Int32} {mo_testInputs : Nat → Int32} {mo_testDue : Nat → Int32} {mo_tests : Int32} {mo_noticed : Nat → Int32} {mo_missed : Nat → Int32} {mo_leastFrom : Nat → Int32} {mo_blameUpper : Nat → Int32} {mo_blameLower : Nat → Int32} {z_r : Int32} : ∀ (x1 : Int32) (x2 : Int32), fX12_isNode N mo_nodeMany x1 x2 = some z_r → ∀ (H : Heap) (locs : List Loc) (ls : Array Slot), DB D A (wd_mo a b cI cJ cT mo_signs mo_signMany mo_nodeSign mo_nodeOn mo_nodeSize mo_nodeMany mo_due mo_openNode mo_value mo_isLaid mo_changes mo_changeNode mo_changeSign mo_differs mo_results mo_own mo_kinds mo_testInputs mo_testDue mo_tests mo_noticed mo_missed mo_leastFrom mo_blameUpper mo_blameLower) s H locs → lv_has ls 3 [(0, .ref (b 0)), (1, .int x1), (2, .int x2)] → W p l e rmX12_isNode s m args below meth c H locs 0 0 (ZI below args s D A (tyl cI cJ cT) z_r (wd_mo a b cI cJ cT mo_signs mo_signMany mo_nodeSign mo_nodeOn mo_nodeSize mo_nodeMany mo_due mo_openNode mo_value mo_isLaid mo_changes mo_changeNode mo_changeSign mo_differs mo_results mo_own mo_kinds mo_testInputs mo_testDue mo_tests mo_noticed mo_missed mo_leastFrom mo_blameUpper mo_blameLower) 0 0) (F0 m 0 ls []) := by
  have hx := C.1.1
  have hb := C.1.2.1
  have hown := C.1.2.2.2.1
  have hts := C.1.2.2.2.2
  intro x1 x2 h H locs ls B hl
  rw [fX12_isNode] at h
  refine lv_iload_n hx hb dX12_isNode_0 rfl (lv_at hl 1 rfl) ?_
  refine lv_i2l (v := (Int32.toInt64 x1)) hx hb dX12_isNode_1 rfl ?_
  refine lv_lconst (v := 0) hx hb dX12_isNode_2 (by decide) ?_
  refine lv_lconst (v := 1) hx hb dX12_isNode_3 (by decide) ?_
  obtain ⟨r_1, g_7, h⟩ := ob_some h
  try dsimp only at h
  refine kc_SI C B (As := [.long (Int32.toInt64 x1), .long (0 : Int64), .long (1 : Int64)]) (rest := []) (w2 := (wd_mo a b cI cJ cT mo_signs mo_signMany mo_nodeSign mo_nodeOn mo_nodeSize mo_nodeMany mo_due mo_openNode mo_value mo_isLaid mo_changes mo_changeNode mo_changeSign mo_differs mo_results mo_own mo_kinds mo_testInputs mo_testDue mo_tests mo_noticed mo_missed mo_leastFrom mo_blameUpper mo_blameLower)) (tX12_in N g_7) gX12_isNode_X12_in rfl ⟨rfl, rfl⟩ hdX12_in ⟨Nat.le_of_ble_eq_true rfl, Nat.le_of_ble_eq_true rfl⟩ [] [0, 1, 2, 3, 4, 5, 6, 7, 8, 9, 10, 11, 12, 13, 14, 15, 16, 17, 18, 19, 20, 21] [0, 1, 2, 3, 4, 5, 6, 7, 8, 9, 10, 11, 12, 13, 14, 15, 16, 17, 18, 19, 20, 21] rfl rfl rfl rfl rfl rfl rfl rfl hl.1 rfl (Nat.le_of_ble_eq_true rfl) ⟨Nat.zero_le _, Nat.zero_le _⟩ dX12_isNode_4 (fun H locs B => ?_)
  refine lv_if_eq (tgt := 32) hx hb dX12_isNode_7 (by decide) (fun c_2 => ?_) (fun c_2 => ?_)
  · rw [if_pos c_2] at h
    refine lv_iconst (v := 0) hx hb dX12_isNode_32 (by decide) ?_
    cases h
    exact k_zret C B (by decide) dX12_isNode_33
  · rw [if_neg c_2] at h
    refine lv_iload_n hx hb dX12_isNode_10 rfl (lv_at hl 2 rfl) ?_
    refine lv_i2l (v := (Int32.toInt64 x2)) hx hb dX12_isNode_11 rfl ?_
    refine lv_lconst (v := 0) hx hb dX12_isNode_12 (by decide) ?_
    refine lv_aload_n hx hb dX12_isNode_13 rfl (lv_at hl 0 rfl) ?_
    refine gfX12_isNode_22 C B 0 rfl rfl dX12_isNode_14 ?_
    refine lv_iload_n hx hb dX12_isNode_17 rfl (lv_at hl 1 rfl) ?_
    obtain ⟨b_3, h⟩ := bnd_some h
    refine k_iald C B 5 0 rfl rfl b_3 dX12_isNode_18 ?_
    refine lv_iconst (v := 1) hx hb dX12_isNode_19 (by decide) ?_
    refine lv_isub hx hb dX12_isNode_20 ?_
    refine lv_i2l (v := (Int32.toInt64 ((mo_nodeMany (Int32.toNatClampNeg x1)) - (1 : Int32)))) hx hb dX12_isNode_21 rfl ?_
    obtain ⟨r_4, g_6, h⟩ := ob_some h
    try dsimp only at h
    refine kc_SI C B (As := [.long (Int32.toInt64 x2), .long (0 : Int64), .long (Int32.toInt64 ((mo_nodeMany (Int32.toNatClampNeg x1)) - (1 : Int32)))]) (rest := []) (w2 := (wd_mo a b cI cJ cT mo_signs mo_signMany mo_nodeSign mo_nodeOn mo_nodeSize mo_nodeMany mo_due mo_openNode mo_value mo_isLaid mo_changes mo_changeNode mo_changeSign mo_differs mo_results mo_own mo_kinds mo_testInputs mo_testDue mo_tests mo_noticed mo_missed mo_leastFrom mo_blameUpper mo_blameLower)) (tX12_in N g_6) gX12_isNode_X12_in rfl ⟨rfl, rfl⟩ hdX12_in ⟨Nat.le_of_ble_eq_true rfl, Nat.le_of_ble_eq_true rfl⟩ [] [0, 1, 2, 3, 4, 5, 6, 7, 8, 9, 10, 11, 12, 13, 14, 15, 16, 17, 18, 19, 20, 21] [0, 1, 2, 3, 4, 5, 6, 7, 8, 9, 10, 11, 12, 13, 14, 15, 16, 17, 18, 19, 20, 21] rfl rfl rfl rfl rfl rfl rfl rfl hl.1 rfl (Nat.le_of_ble_eq_true rfl) ⟨Nat.zero_le _, Nat.zero_le _⟩ dX12_isNode_22 (fun H locs B => ?_)
    refine lv_if_eq (tgt := 32) hx hb dX12_isNode_25 (by decide) (fun c_5 => ?_) (fun c_5 => ?_)
    · rw [if_pos c_5] at h
      refine lv_iconst (v := 0) hx hb dX12_isNode_32 (by decide) ?_
      cases h
      exact k_zret C B (by decide) dX12_isNode_33
    · rw [if_neg c_5] at h
      refine lv_iconst (v := 1) hx hb dX12_isNode_28 (by decide) ?_
      refine lv_goto (tgt := 33) hx hb dX12_isNode_29 (by decide) ?_
      cases h
      exact k_zret C B (by decide) dX12_isNode_33
end
theorem tX12_isNode {l : Launch} {D : va_G} {Es : (Nat → Nat) × (Nat → Nat)} {a b : Nat → Nat} {cI cJ cT : ClassId} {mo_signs : Nat → Int32} {mo_signMany : Int32} {mo_nodeSign : Nat → Int32} {mo_nodeOn : Nat → Int32} {mo_nodeSize : Nat → Int32} {mo_nodeMany : Nat → Int32} {mo_due : Nat → Int32} {mo_openNode : Nat → Int32} {mo_value : Nat → Int32} {mo_isLaid : Int32} {mo_changes : Int32} {mo_changeNode : Nat → Int32} {mo_changeSign : Nat → Int32} {mo_differs : Nat → Int32} {mo_results : Nat → Int32} {mo_own : Nat → Int32} {mo_kinds : Nat → Int32} {mo_testInputs : Nat → Int32} {mo_testDue : Nat → Int32} {mo_tests : Int32} {mo_noticed : Nat → Int32} {mo_missed : Nat → Int32} {mo_leastFrom : Nat → Int32} {mo_blameUpper : Nat → Int32} {mo_blameLower : Nat → Int32} {x1 : Int32} {x2 : Int32} {z_r : Int32} (N : Nat) (h : fX12_isNode N mo_nodeMany x1 x2 = some z_r) : CtI l yX12_isNode wsX12_isNode rmX12_isNode D (tyl cI cJ cT) Es [.ref (b 0), .int x1, .int x2] (wd_mo a b cI cJ cT mo_signs mo_signMany mo_nodeSign mo_nodeOn mo_nodeSize mo_nodeMany mo_due mo_openNode mo_value mo_isLaid mo_changes mo_changeNode mo_changeSign mo_differs mo_results mo_own mo_kinds mo_testInputs mo_testDue mo_tests mo_noticed mo_missed mo_leastFrom mo_blameUpper mo_blameLower) z_r (wd_mo a b cI cJ cT mo_signs mo_signMany mo_nodeSign mo_nodeOn mo_nodeSize mo_nodeMany mo_due mo_openNode mo_value mo_isLaid mo_changes mo_changeNode mo_changeSign mo_differs mo_results mo_own mo_kinds mo_testInputs mo_testDue mo_tests mo_noticed mo_missed mo_leastFrom mo_blameUpper mo_blameLower) :=
  CtI.of (own := RX12) (cc := cX12_isNode) (nL := 3) (ret := (some .boolean)) (by decide +kernel) rfl rfl (Nat.le_of_ble_eq_true rfl) rfl (fun p e s m below meth c A ls C B hl => qX12_isNode_0 C (N := N) x1 x2 h _ _ _ B hl)

abbrev rmX12_node : Room := { frames := 2, cells := 0, slots := 0, locals := 47 }
theorem hdX12_node : yX12_node.cls ≠ "java/lang/invoke/MethodHandle" ∧ yX12_node.cls ≠ "java/lang/invoke/VarHandle" ∧ (parseMethodDescriptor yX12_node.desc).map (fun d => d.parameters.length) = some 3 := by decide +kernel
theorem iX12_node_X12 : ∀ w ∈ wsX120, w ∈ wsX12_node := by decide +kernel
theorem gfX12_node_19 {p : Program} {l : Launch} {e : Env} {R : Room} {s : State} {m : MethodId} {args : Array Value} {below : List Frame} {meth : Method} {c : Code} {H : Heap} {locs : List Loc} {cells slots : Nat} {Q : State → Prop} {D : va_G} {A : Nat → Prop} {tys : List (ClassId × FieldType)} {Es : (Nat → Nat) × (Nat → Nat)} {ws : va_W} {pc : Nat} {ls : Array Slot} {rest : List Value} {a : Nat} (C : CT p s m args meth c RX12 cX12_node 5 (some .int) wsX12_node D A tys Es) (B : DB D A ws s H locs) (q0 : Nat) {fs : List Value} {v : Value} (he : ws[q0]? = some (a, .inr (12, fs))) (hv : fs[4]? = some v) (hdg : decode cX12_node pc = .ok (.getfield 19, 3)) (kk : W p l e R s m args below meth c H locs cells slots Q (F0 m (pc + 3) ls (v :: rest))) : W p l e R s m args below meth c H locs cells slots Q (F0 m pc ls (.ref a :: rest)) :=
  k_get (Cn := RX12) (T := TX12) (N := 25) (index := 19) C B iX12_node_X12 rfl 4 (by decide) (by decide +kernel) q0 he hv hdg kk
theorem gfX12_node_16 {p : Program} {l : Launch} {e : Env} {R : Room} {s : State} {m : MethodId} {args : Array Value} {below : List Frame} {meth : Method} {c : Code} {H : Heap} {locs : List Loc} {cells slots : Nat} {Q : State → Prop} {D : va_G} {A : Nat → Prop} {tys : List (ClassId × FieldType)} {Es : (Nat → Nat) × (Nat → Nat)} {ws : va_W} {pc : Nat} {ls : Array Slot} {rest : List Value} {a : Nat} (C : CT p s m args meth c RX12 cX12_node 5 (some .int) wsX12_node D A tys Es) (B : DB D A ws s H locs) (q0 : Nat) {fs : List Value} {v : Value} (he : ws[q0]? = some (a, .inr (12, fs))) (hv : fs[3]? = some v) (hdg : decode cX12_node pc = .ok (.getfield 16, 3)) (kk : W p l e R s m args below meth c H locs cells slots Q (F0 m (pc + 3) ls (v :: rest))) : W p l e R s m args below meth c H locs cells slots Q (F0 m pc ls (.ref a :: rest)) :=
  k_get (Cn := RX12) (T := TX12) (N := 25) (index := 16) C B iX12_node_X12 rfl 3 (by decide) (by decide +kernel) q0 he hv hdg kk
theorem gfX12_node_13 {p : Program} {l : Launch} {e : Env} {R : Room} {s : State} {m : MethodId} {args : Array Value} {below : List Frame} {meth : Method} {c : Code} {H : Heap} {locs : List Loc} {cells slots : Nat} {Q : State → Prop} {D : va_G} {A : Nat → Prop} {tys : List (ClassId × FieldType)} {Es : (Nat → Nat) × (Nat → Nat)} {ws : va_W} {pc : Nat} {ls : Array Slot} {rest : List Value} {a : Nat} (C : CT p s m args meth c RX12 cX12_node 5 (some .int) wsX12_node D A tys Es) (B : DB D A ws s H locs) (q0 : Nat) {fs : List Value} {v : Value} (he : ws[q0]? = some (a, .inr (12, fs))) (hv : fs[2]? = some v) (hdg : decode cX12_node pc = .ok (.getfield 13, 3)) (kk : W p l e R s m args below meth c H locs cells slots Q (F0 m (pc + 3) ls (v :: rest))) : W p l e R s m args below meth c H locs cells slots Q (F0 m pc ls (.ref a :: rest)) :=
  k_get (Cn := RX12) (T := TX12) (N := 25) (index := 13) C B iX12_node_X12 rfl 2 (by decide) (by decide +kernel) q0 he hv hdg kk
section
variable {p : Program} {l : Launch} {e : Env} {s : State} {m : MethodId} {args : Array Value} {below : List Frame} {meth : Method} {c : Code} {D : va_G} {A : Nat → Prop} {Es : (Nat → Nat) × (Nat → Nat)} {a b : Nat → Nat} {cI cJ cT : ClassId}
set_option maxHeartbeats 4000000 in
set_option maxRecDepth 100000 in
theorem qX12_node_0 (C : CT p s m args meth c RX12 cX12_node 5 (some .int) wsX12_node D A (tyl cI cJ cT) Es) {N : Nat} {mo_signs : Nat → Int32} {mo_signMany : Int32} {mo_nodeSign : Nat → Int32} {mo_nodeOn : Nat → Int32} {mo_nodeSize : Nat → Int32} {mo_nodeMany : Nat → Int32} {mo_due : Nat → Int32} {mo_openNode : Nat → Int32} {mo_value : Nat → Int32} {mo_isLaid : Int32} {mo_changes : Int32} {mo_changeNode : Nat → Int32} {mo_changeSign : Nat → Int32} {mo_differs : Nat → Int32} {mo_results : Nat → Int32} {mo_own : Nat → Int32} {mo_kinds : Nat → Int32} {mo_testInputs : Nat → Int32} {mo_testDue : Nat → Int32} {mo_tests : Int32} {mo_noticed : Nat → Int32} {mo_missed : Nat → Int32} {mo_leastFrom : Nat → Int32} {mo_blameUpper : Nat → Int32} {mo_blameLower : Nat → Int32} {z_r : Int32} : ∀ (x1 : Int32) (x2 : Int32) (x3 : Int32), fX12_node N mo_nodeSign mo_nodeOn mo_nodeSize mo_nodeMany x1 x2 x3 = some z_r → ∀ (H : Heap) (locs : List Loc) (ls : Array Slot), DB D A (wd_mo a b cI cJ cT mo_signs mo_signMany mo_nodeSign mo_nodeOn mo_nodeSize mo_nodeMany mo_due mo_openNode mo_value mo_isLaid mo_changes mo_changeNode mo_changeSign mo_differs mo_results mo_own mo_kinds mo_testInputs mo_testDue mo_tests mo_noticed mo_missed mo_leastFrom mo_blameUpper mo_blameLower) s H locs → lv_has ls 5 [(0, .ref (b 0)), (1, .int x1), (2, .int x2), (3, .int x3)] → W p l e rmX12_node s m args below meth c H locs 0 0 (ZI below args s D A (tyl cI cJ cT) z_r (wd_mo a b cI cJ cT mo_signs mo_signMany mo_nodeSign mo_nodeOn mo_nodeSize mo_nodeMany mo_due mo_openNode mo_value mo_isLaid mo_changes mo_changeNode mo_changeSign mo_differs mo_results mo_own mo_kinds mo_testInputs mo_testDue mo_tests mo_noticed mo_missed mo_leastFrom mo_blameUpper mo_blameLower) 0 0) (F0 m 0 ls []) := by
  have hx := C.1.1
  have hb := C.1.2.1
  have hown := C.1.2.2.2.1
  have hts := C.1.2.2.2.2
  intro x1 x2 x3 h H locs ls B hl
  rw [fX12_node] at h
  refine lv_aload_n hx hb dX12_node_0 rfl (lv_at hl 0 rfl) ?_
  refine lv_iload_n hx hb dX12_node_1 rfl (lv_at hl 1 rfl) ?_
  refine lv_iload_n hx hb dX12_node_2 rfl (lv_at hl 2 rfl) ?_
  obtain ⟨r_1, g_9, h⟩ := ob_some h
  try dsimp only at h
  refine kc_VI C B (q0 := 0) (ci := 12) (As := [.int x1, .int x2]) (rest := []) (w2 := (wd_mo a b cI cJ cT mo_signs mo_signMany mo_nodeSign mo_nodeOn mo_nodeSize mo_nodeMany mo_due mo_openNode mo_value mo_isLaid mo_changes mo_changeNode mo_changeSign mo_differs mo_results mo_own mo_kinds mo_testInputs mo_testDue mo_tests mo_noticed mo_missed mo_leastFrom mo_blameUpper mo_blameLower)) (tX12_isNode (a := a) (b := b) N g_9) gX12_node_X12_isNode rfl ⟨rfl, rfl⟩ ⟨rfl, hdX12_isNode⟩ ⟨Nat.le_of_ble_eq_true rfl, Nat.le_of_ble_eq_true rfl⟩ rfl rfl [0, 1, 2, 3, 4, 5, 6, 7, 8, 9, 10, 11, 12, 13, 14, 15, 16, 17, 18, 19, 20, 21] [] [0, 1, 2, 3, 4, 5, 6, 7, 8, 9, 10, 11, 12, 13, 14, 15, 16, 17, 18, 19, 20, 21] rfl rfl rfl rfl rfl rfl rfl rfl hl.1 rfl (Nat.le_of_ble_eq_true rfl) ⟨Nat.zero_le _, Nat.zero_le _⟩ dX12_node_3 (fun H locs B => ?_)
  refine lv_if_ne (tgt := 11) hx hb dX12_node_6 (by decide) (fun c_2 => ?_) (fun c_2 => ?_)
  · rw [if_neg c_2] at h
    refine lv_bipush (v := 24) hx hb dX12_node_11 (by decide) ?_
    refine lv_iload_n hx hb dX12_node_13 rfl (lv_at hl 1 rfl) ?_
    refine lv_imul hx hb dX12_node_14 ?_
    refine lv_iload_n hx hb dX12_node_15 rfl (lv_at hl 2 rfl) ?_
    refine lv_iadd hx hb dX12_node_16 ?_
    refine lv_istore (lv' := [(4, .int (((24 : Int32) * x1) + x2)), (0, .ref (b 0)), (1, .int x1), (2, .int x2), (3, .int x3)]) hx hb dX12_node_17 hl (by decide) rfl (fun ls hl => ?_)
    refine lv_iload_n hx hb dX12_node_19 rfl (lv_at hl 4 rfl) ?_
    refine lv_if_ne (tgt := 33) hx hb dX12_node_20 (by decide) (fun c_3 => ?_) (fun c_3 => ?_)
    · rw [if_neg c_3] at h
      refine lv_iload_n hx hb dX12_node_33 rfl (lv_at hl 4 rfl) ?_
      refine lv_iconst (v := 1) hx hb dX12_node_34 (by decide) ?_
      refine lv_icmp_ne (tgt := 48) hx hb dX12_node_35 (by decide) (fun c_4 => ?_) (fun c_4 => ?_)
      · rw [if_neg c_4] at h
        refine lv_iload_n hx hb dX12_node_48 rfl (lv_at hl 4 rfl) ?_
        refine lv_iconst (v := 2) hx hb dX12_node_49 (by decide) ?_
        refine lv_icmp_ne (tgt := 63) hx hb dX12_node_50 (by decide) (fun c_5 => ?_) (fun c_5 => ?_)
        · rw [if_neg c_5] at h
          refine lv_bipush (v := -2) hx hb dX12_node_63 (by decide) ?_
          cases h
          exact k_iret C B dX12_node_65
        · rw [if_pos c_5] at h
          refine lv_aload_n hx hb dX12_node_53 rfl (lv_at hl 1 rfl) ?_
          refine gfX12_node_19 C B 0 rfl rfl dX12_node_54 ?_
          refine lv_iload hx hb dX12_node_57 (lv_at hl 0 rfl) ?_
          obtain ⟨b_6, h⟩ := bnd_some h
          refine k_iald C B 4 0 rfl rfl b_6 dX12_node_59 ?_
          refine lv_goto (tgt := 65) hx hb dX12_node_60 (by decide) ?_
          cases h
          exact k_iret C B dX12_node_65
      · rw [if_pos c_4] at h
        refine lv_aload_n hx hb dX12_node_38 rfl (lv_at hl 1 rfl) ?_
        refine gfX12_node_16 C B 0 rfl rfl dX12_node_39 ?_
        refine lv_iload hx hb dX12_node_42 (lv_at hl 0 rfl) ?_
        obtain ⟨b_7, h⟩ := bnd_some h
        refine k_iald C B 3 0 rfl rfl b_7 dX12_node_44 ?_
        refine lv_goto (tgt := 65) hx hb dX12_node_45 (by decide) ?_
        cases h
        exact k_iret C B dX12_node_65
    · rw [if_pos c_3] at h
      refine lv_aload_n hx hb dX12_node_23 rfl (lv_at hl 1 rfl) ?_
      refine gfX12_node_13 C B 0 rfl rfl dX12_node_24 ?_
      refine lv_iload hx hb dX12_node_27 (lv_at hl 0 rfl) ?_
      obtain ⟨b_8, h⟩ := bnd_some h
      refine k_iald C B 2 0 rfl rfl b_8 dX12_node_29 ?_
      refine lv_goto (tgt := 65) hx hb dX12_node_30 (by decide) ?_
      cases h
      exact k_iret C B dX12_node_65
  · rw [if_pos c_2] at h
    refine lv_iconst (v := -1) hx hb dX12_node_9 (by decide) ?_
    cases h
    exact k_iret C B dX12_node_10
end
theorem tX12_node {l : Launch} {D : va_G} {Es : (Nat → Nat) × (Nat → Nat)} {a b : Nat → Nat} {cI cJ cT : ClassId} {mo_signs : Nat → Int32} {mo_signMany : Int32} {mo_nodeSign : Nat → Int32} {mo_nodeOn : Nat → Int32} {mo_nodeSize : Nat → Int32} {mo_nodeMany : Nat → Int32} {mo_due : Nat → Int32} {mo_openNode : Nat → Int32} {mo_value : Nat → Int32} {mo_isLaid : Int32} {mo_changes : Int32} {mo_changeNode : Nat → Int32} {mo_changeSign : Nat → Int32} {mo_differs : Nat → Int32} {mo_results : Nat → Int32} {mo_own : Nat → Int32} {mo_kinds : Nat → Int32} {mo_testInputs : Nat → Int32} {mo_testDue : Nat → Int32} {mo_tests : Int32} {mo_noticed : Nat → Int32} {mo_missed : Nat → Int32} {mo_leastFrom : Nat → Int32} {mo_blameUpper : Nat → Int32} {mo_blameLower : Nat → Int32} {x1 : Int32} {x2 : Int32} {x3 : Int32} {z_r : Int32} (N : Nat) (h : fX12_node N mo_nodeSign mo_nodeOn mo_nodeSize mo_nodeMany x1 x2 x3 = some z_r) : CtI l yX12_node wsX12_node rmX12_node D (tyl cI cJ cT) Es [.ref (b 0), .int x1, .int x2, .int x3] (wd_mo a b cI cJ cT mo_signs mo_signMany mo_nodeSign mo_nodeOn mo_nodeSize mo_nodeMany mo_due mo_openNode mo_value mo_isLaid mo_changes mo_changeNode mo_changeSign mo_differs mo_results mo_own mo_kinds mo_testInputs mo_testDue mo_tests mo_noticed mo_missed mo_leastFrom mo_blameUpper mo_blameLower) z_r (wd_mo a b cI cJ cT mo_signs mo_signMany mo_nodeSign mo_nodeOn mo_nodeSize mo_nodeMany mo_due mo_openNode mo_value mo_isLaid mo_changes mo_changeNode mo_changeSign mo_differs mo_results mo_own mo_kinds mo_testInputs mo_testDue mo_tests mo_noticed mo_missed mo_leastFrom mo_blameUpper mo_blameLower) :=
  CtI.of (own := RX12) (cc := cX12_node) (nL := 5) (ret := (some .int)) (by decide +kernel) rfl rfl (Nat.le_of_ble_eq_true rfl) rfl (fun p e s m below meth c A ls C B hl => qX12_node_0 C (N := N) x1 x2 x3 h _ _ _ B hl)

abbrev rmX12_act : Room := { frames := 0, cells := 0, slots := 0, locals := 0 }
theorem hdX12_act : yX12_act.cls ≠ "java/lang/invoke/MethodHandle" ∧ yX12_act.cls ≠ "java/lang/invoke/VarHandle" ∧ (parseMethodDescriptor yX12_act.desc).map (fun d => d.parameters.length) = some 3 := by decide +kernel
section
variable {p : Program} {l : Launch} {e : Env} {s : State} {m : MethodId} {args : Array Value} {below : List Frame} {meth : Method} {c : Code} {D : va_G} {A : Nat → Prop} {Es : (Nat → Nat) × (Nat → Nat)} {a b : Nat → Nat} {cI cJ cT : ClassId}
set_option maxHeartbeats 4000000 in
set_option maxRecDepth 100000 in
theorem qX12_act_0 (C : CT p s m args meth c RX12 cX12_act 3 (some .int) wsX12_act D A (tyl cI cJ cT) Es) {N : Nat} {z_r : Int32} : ∀ (x0 : Int32) (x1 : Int32) (x2 : Int32), fX12_act N x0 x1 x2 = some z_r → ∀ (H : Heap) (locs : List Loc) (ls : Array Slot), DB D A [] s H locs → lv_has ls 3 [(0, .int x0), (1, .int x1), (2, .int x2)] → W p l e rmX12_act s m args below meth c H locs 0 0 (ZI below args s D A (tyl cI cJ cT) z_r [] 0 0) (F0 m 0 ls []) := by
  have hx := C.1.1
  have hb := C.1.2.1
  have hown := C.1.2.2.2.1
  have hts := C.1.2.2.2.2
  intro x0 x1 x2 h H locs ls B hl
  rw [fX12_act] at h
  refine lv_iload_n hx hb dX12_act_0 rfl (lv_at hl 0 rfl) ?_
  by_cases c_1 : x0 = 42
  · rw [if_pos c_1] at h
    refine lv_lookup (off := 57) (tgt := 58) hx hb dX12_act_1 (by decide) (by rw [c_1]; try rfl) (by decide) ?_
    refine lv_iload_n hx hb dX12_act_58 rfl (lv_at hl 1 rfl) ?_
    refine lv_iload_n hx hb dX12_act_59 rfl (lv_at hl 2 rfl) ?_
    refine lv_imul hx hb dX12_act_60 ?_
    refine lv_bipush (v := 7) hx hb dX12_act_61 (by decide) ?_
    refine lv_iand hx hb dX12_act_63 ?_
    cases h
    exact k_iret C B dX12_act_64
  · rw [if_neg c_1] at h
    by_cases c_2 : x0 = 43
    · rw [if_pos c_2] at h
      refine lv_lookup (off := 43) (tgt := 44) hx hb dX12_act_1 (by decide) (by rw [c_2]; try rfl) (by decide) ?_
      refine lv_iload_n hx hb dX12_act_44 rfl (lv_at hl 1 rfl) ?_
      refine lv_iload_n hx hb dX12_act_45 rfl (lv_at hl 2 rfl) ?_
      refine lv_iadd hx hb dX12_act_46 ?_
      refine lv_bipush (v := 7) hx hb dX12_act_47 (by decide) ?_
      refine lv_iand hx hb dX12_act_49 ?_
      cases h
      exact k_iret C B dX12_act_50
    · rw [if_neg c_2] at h
      by_cases c_3 : x0 = 45
      · rw [if_pos c_3] at h
        refine lv_lookup (off := 50) (tgt := 51) hx hb dX12_act_1 (by decide) (by rw [c_3]; try rfl) (by decide) ?_
        refine lv_iload_n hx hb dX12_act_51 rfl (lv_at hl 1 rfl) ?_
        refine lv_iload_n hx hb dX12_act_52 rfl (lv_at hl 2 rfl) ?_
        refine lv_isub hx hb dX12_act_53 ?_
        refine lv_bipush (v := 7) hx hb dX12_act_54 (by decide) ?_
        refine lv_iand hx hb dX12_act_56 ?_
        cases h
        exact k_iret C B dX12_act_57
      · rw [if_neg c_3] at h
        by_cases c_4 : x0 = 109
        · rw [if_pos c_4] at h
          refine lv_lookup (off := 64) (tgt := 65) hx hb dX12_act_1 (by decide) (by rw [c_4]; try rfl) (by decide) ?_
          refine lv_iload_n hx hb dX12_act_65 rfl (lv_at hl 1 rfl) ?_
          refine lv_iload_n hx hb dX12_act_66 rfl (lv_at hl 2 rfl) ?_
          refine lv_icmp_ge (tgt := 74) hx hb dX12_act_67 (by decide) (fun c_5 => ?_) (fun c_5 => ?_)
          · rw [if_pos c_5] at h
            refine lv_iload_n hx hb dX12_act_74 rfl (lv_at hl 2 rfl) ?_
            cases h
            exact k_iret C B dX12_act_75
          · rw [if_neg c_5] at h
            refine lv_iload_n hx hb dX12_act_70 rfl (lv_at hl 1 rfl) ?_
            refine lv_goto (tgt := 75) hx hb dX12_act_71 (by decide) ?_
            cases h
            exact k_iret C B dX12_act_75
        · rw [if_neg c_4] at h
          refine lv_lookup (off := 75) (tgt := 76) hx hb dX12_act_1 (by decide) ((lv_osw c_1 (k := 42) rfl).trans ((lv_osw c_2 (k := 43) rfl).trans ((lv_osw c_3 (k := 45) rfl).trans ((lv_osw c_4 (k := 109) rfl).trans rfl)))) (by decide) ?_
          refine lv_iload_n hx hb dX12_act_76 rfl (lv_at hl 1 rfl) ?_
          refine lv_iload_n hx hb dX12_act_77 rfl (lv_at hl 2 rfl) ?_
          refine lv_icmp_le (tgt := 85) hx hb dX12_act_78 (by decide) (fun c_6 => ?_) (fun c_6 => ?_)
          · rw [if_pos c_6] at h
            refine lv_iload_n hx hb dX12_act_85 rfl (lv_at hl 2 rfl) ?_
            cases h
            exact k_iret C B dX12_act_86
          · rw [if_neg c_6] at h
            refine lv_iload_n hx hb dX12_act_81 rfl (lv_at hl 1 rfl) ?_
            refine lv_goto (tgt := 86) hx hb dX12_act_82 (by decide) ?_
            cases h
            exact k_iret C B dX12_act_86
end
theorem tX12_act {l : Launch} {D : va_G} {Es : (Nat → Nat) × (Nat → Nat)} {cI cJ cT : ClassId} {x0 : Int32} {x1 : Int32} {x2 : Int32} {z_r : Int32} (N : Nat) (h : fX12_act N x0 x1 x2 = some z_r) : CtI l yX12_act wsX12_act rmX12_act D (tyl cI cJ cT) Es [.int x0, .int x1, .int x2] [] z_r [] :=
  CtI.of (own := RX12) (cc := cX12_act) (nL := 3) (ret := (some .int)) (by decide +kernel) rfl rfl (Nat.le_of_ble_eq_true rfl) rfl (fun p e s m below meth c A ls C B hl => qX12_act_0 C (N := N) x0 x1 x2 h _ _ _ B hl)

abbrev rmX12_stands : Room := { frames := 0, cells := 0, slots := 0, locals := 0 }
theorem hdX12_stands : yX12_stands.cls ≠ "java/lang/invoke/MethodHandle" ∧ yX12_stands.cls ≠ "java/lang/invoke/VarHandle" ∧ (parseMethodDescriptor yX12_stands.desc).map (fun d => d.parameters.length) = some 3 := by decide +kernel
section
variable {p : Program} {l : Launch} {e : Env} {s : State} {m : MethodId} {args : Array Value} {below : List Frame} {meth : Method} {c : Code} {D : va_G} {A : Nat → Prop} {Es : (Nat → Nat) × (Nat → Nat)} {a b : Nat → Nat} {cI cJ cT : ClassId}
set_option maxHeartbeats 4000000 in
set_option maxRecDepth 100000 in
theorem qX12_stands_0 (C : CT p s m args meth c RX12 cX12_stands 3 (some .boolean) wsX12_stands D A (tyl cI cJ cT) Es) {N : Nat} {z_r : Int32} : ∀ (x0 : Int32) (x1 : Int32) (x2 : Int32), fX12_stands N x0 x1 x2 = some z_r → ∀ (H : Heap) (locs : List Loc) (ls : Array Slot), DB D A [] s H locs → lv_has ls 3 [(0, .int x0), (1, .int x1), (2, .int x2)] → W p l e rmX12_stands s m args below meth c H locs 0 0 (ZI below args s D A (tyl cI cJ cT) z_r [] 0 0) (F0 m 0 ls []) := by
  have hx := C.1.1
  have hb := C.1.2.1
  have hown := C.1.2.2.2.1
  have hts := C.1.2.2.2.2
  intro x0 x1 x2 h H locs ls B hl
  rw [fX12_stands] at h
  refine lv_iload_n hx hb dX12_stands_0 rfl (lv_at hl 0 rfl) ?_
  refine lv_bipush (v := 60) hx hb dX12_stands_1 (by decide) ?_
  refine lv_icmp_ne (tgt := 19) hx hb dX12_stands_3 (by decide) (fun c_1 => ?_) (fun c_1 => ?_)
  · rw [if_neg c_1] at h
    refine lv_iload_n hx hb dX12_stands_19 rfl (lv_at hl 0 rfl) ?_
    refine lv_bipush (v := 62) hx hb dX12_stands_20 (by decide) ?_
    refine lv_icmp_ne (tgt := 38) hx hb dX12_stands_22 (by decide) (fun c_2 => ?_) (fun c_2 => ?_)
    · rw [if_neg c_2] at h
      refine lv_iload_n hx hb dX12_stands_38 rfl (lv_at hl 1 rfl) ?_
      refine lv_iload_n hx hb dX12_stands_39 rfl (lv_at hl 2 rfl) ?_
      refine lv_icmp_ne (tgt := 47) hx hb dX12_stands_40 (by decide) (fun c_3 => ?_) (fun c_3 => ?_)
      · rw [if_neg c_3] at h
        refine lv_iconst (v := 0) hx hb dX12_stands_47 (by decide) ?_
        cases h
        exact k_zret C B (by decide) dX12_stands_48
      · rw [if_pos c_3] at h
        refine lv_iconst (v := 1) hx hb dX12_stands_43 (by decide) ?_
        refine lv_goto (tgt := 48) hx hb dX12_stands_44 (by decide) ?_
        cases h
        exact k_zret C B (by decide) dX12_stands_48
    · rw [if_pos c_2] at h
      refine lv_iload_n hx hb dX12_stands_25 rfl (lv_at hl 1 rfl) ?_
      refine lv_iload_n hx hb dX12_stands_26 rfl (lv_at hl 2 rfl) ?_
      refine lv_icmp_le (tgt := 34) hx hb dX12_stands_27 (by decide) (fun c_4 => ?_) (fun c_4 => ?_)
      · rw [if_pos c_4] at h
        refine lv_iconst (v := 0) hx hb dX12_stands_34 (by decide) ?_
        refine lv_goto (tgt := 48) hx hb dX12_stands_35 (by decide) ?_
        cases h
        exact k_zret C B (by decide) dX12_stands_48
      · rw [if_neg c_4] at h
        refine lv_iconst (v := 1) hx hb dX12_stands_30 (by decide) ?_
        refine lv_goto (tgt := 48) hx hb dX12_stands_31 (by decide) ?_
        cases h
        exact k_zret C B (by decide) dX12_stands_48
  · rw [if_pos c_1] at h
    refine lv_iload_n hx hb dX12_stands_6 rfl (lv_at hl 1 rfl) ?_
    refine lv_iload_n hx hb dX12_stands_7 rfl (lv_at hl 2 rfl) ?_
    refine lv_icmp_ge (tgt := 15) hx hb dX12_stands_8 (by decide) (fun c_5 => ?_) (fun c_5 => ?_)
    · rw [if_pos c_5] at h
      refine lv_iconst (v := 0) hx hb dX12_stands_15 (by decide) ?_
      refine lv_goto (tgt := 48) hx hb dX12_stands_16 (by decide) ?_
      cases h
      exact k_zret C B (by decide) dX12_stands_48
    · rw [if_neg c_5] at h
      refine lv_iconst (v := 1) hx hb dX12_stands_11 (by decide) ?_
      refine lv_goto (tgt := 48) hx hb dX12_stands_12 (by decide) ?_
      cases h
      exact k_zret C B (by decide) dX12_stands_48
end
theorem tX12_stands {l : Launch} {D : va_G} {Es : (Nat → Nat) × (Nat → Nat)} {cI cJ cT : ClassId} {x0 : Int32} {x1 : Int32} {x2 : Int32} {z_r : Int32} (N : Nat) (h : fX12_stands N x0 x1 x2 = some z_r) : CtI l yX12_stands wsX12_stands rmX12_stands D (tyl cI cJ cT) Es [.int x0, .int x1, .int x2] [] z_r [] :=
  CtI.of (own := RX12) (cc := cX12_stands) (nL := 3) (ret := (some .boolean)) (by decide +kernel) rfl rfl (Nat.le_of_ble_eq_true rfl) rfl (fun p e s m below meth c A ls C B hl => qX12_stands_0 C (N := N) x0 x1 x2 h _ _ _ B hl)

abbrev rmX12_work : Room := { frames := 3, cells := 0, slots := 0, locals := 65 }
theorem hdX12_work : yX12_work.cls ≠ "java/lang/invoke/MethodHandle" ∧ yX12_work.cls ≠ "java/lang/invoke/VarHandle" ∧ (parseMethodDescriptor yX12_work.desc).map (fun d => d.parameters.length) = some 4 := by decide +kernel
theorem iX12_work_X12 : ∀ w ∈ wsX120, w ∈ wsX12_work := by decide +kernel
theorem gfX12_work_31 {p : Program} {l : Launch} {e : Env} {R : Room} {s : State} {m : MethodId} {args : Array Value} {below : List Frame} {meth : Method} {c : Code} {H : Heap} {locs : List Loc} {cells slots : Nat} {Q : State → Prop} {D : va_G} {A : Nat → Prop} {tys : List (ClassId × FieldType)} {Es : (Nat → Nat) × (Nat → Nat)} {ws : va_W} {pc : Nat} {ls : Array Slot} {rest : List Value} {a : Nat} (C : CT p s m args meth c RX12 cX12_work 12 none wsX12_work D A tys Es) (B : DB D A ws s H locs) (q0 : Nat) {fs : List Value} {v : Value} (he : ws[q0]? = some (a, .inr (12, fs))) (hv : fs[8]? = some v) (hdg : decode cX12_work pc = .ok (.getfield 31, 3)) (kk : W p l e R s m args below meth c H locs cells slots Q (F0 m (pc + 3) ls (v :: rest))) : W p l e R s m args below meth c H locs cells slots Q (F0 m pc ls (.ref a :: rest)) :=
  k_get (Cn := RX12) (T := TX12) (N := 25) (index := 31) C B iX12_work_X12 rfl 8 (by decide) (by decide +kernel) q0 he hv hdg kk
theorem gfX12_work_19 {p : Program} {l : Launch} {e : Env} {R : Room} {s : State} {m : MethodId} {args : Array Value} {below : List Frame} {meth : Method} {c : Code} {H : Heap} {locs : List Loc} {cells slots : Nat} {Q : State → Prop} {D : va_G} {A : Nat → Prop} {tys : List (ClassId × FieldType)} {Es : (Nat → Nat) × (Nat → Nat)} {ws : va_W} {pc : Nat} {ls : Array Slot} {rest : List Value} {a : Nat} (C : CT p s m args meth c RX12 cX12_work 12 none wsX12_work D A tys Es) (B : DB D A ws s H locs) (q0 : Nat) {fs : List Value} {v : Value} (he : ws[q0]? = some (a, .inr (12, fs))) (hv : fs[4]? = some v) (hdg : decode cX12_work pc = .ok (.getfield 19, 3)) (kk : W p l e R s m args below meth c H locs cells slots Q (F0 m (pc + 3) ls (v :: rest))) : W p l e R s m args below meth c H locs cells slots Q (F0 m pc ls (.ref a :: rest)) :=
  k_get (Cn := RX12) (T := TX12) (N := 25) (index := 19) C B iX12_work_X12 rfl 4 (by decide) (by decide +kernel) q0 he hv hdg kk
theorem gfX12_work_13 {p : Program} {l : Launch} {e : Env} {R : Room} {s : State} {m : MethodId} {args : Array Value} {below : List Frame} {meth : Method} {c : Code} {H : Heap} {locs : List Loc} {cells slots : Nat} {Q : State → Prop} {D : va_G} {A : Nat → Prop} {tys : List (ClassId × FieldType)} {Es : (Nat → Nat) × (Nat → Nat)} {ws : va_W} {pc : Nat} {ls : Array Slot} {rest : List Value} {a : Nat} (C : CT p s m args meth c RX12 cX12_work 12 none wsX12_work D A tys Es) (B : DB D A ws s H locs) (q0 : Nat) {fs : List Value} {v : Value} (he : ws[q0]? = some (a, .inr (12, fs))) (hv : fs[2]? = some v) (hdg : decode cX12_work pc = .ok (.getfield 13, 3)) (kk : W p l e R s m args below meth c H locs cells slots Q (F0 m (pc + 3) ls (v :: rest))) : W p l e R s m args below meth c H locs cells slots Q (F0 m pc ls (.ref a :: rest)) :=
  k_get (Cn := RX12) (T := TX12) (N := 25) (index := 13) C B iX12_work_X12 rfl 2 (by decide) (by decide +kernel) q0 he hv hdg kk
theorem gfX12_work_22 {p : Program} {l : Launch} {e : Env} {R : Room} {s : State} {m : MethodId} {args : Array Value} {below : List Frame} {meth : Method} {c : Code} {H : Heap} {locs : List Loc} {cells slots : Nat} {Q : State → Prop} {D : va_G} {A : Nat → Prop} {tys : List (ClassId × FieldType)} {Es : (Nat → Nat) × (Nat → Nat)} {ws : va_W} {pc : Nat} {ls : Array Slot} {rest : List Value} {a : Nat} (C : CT p s m args meth c RX12 cX12_work 12 none wsX12_work D A tys Es) (B : DB D A ws s H locs) (q0 : Nat) {fs : List Value} {v : Value} (he : ws[q0]? = some (a, .inr (12, fs))) (hv : fs[5]? = some v) (hdg : decode cX12_work pc = .ok (.getfield 22, 3)) (kk : W p l e R s m args below meth c H locs cells slots Q (F0 m (pc + 3) ls (v :: rest))) : W p l e R s m args below meth c H locs cells slots Q (F0 m pc ls (.ref a :: rest)) :=
  k_get (Cn := RX12) (T := TX12) (N := 25) (index := 22) C B iX12_work_X12 rfl 5 (by decide) (by decide +kernel) q0 he hv hdg kk
section
variable {p : Program} {l : Launch} {e : Env} {s : State} {m : MethodId} {args : Array Value} {below : List Frame} {meth : Method} {c : Code} {D : va_G} {A : Nat → Prop} {Es : (Nat → Nat) × (Nat → Nat)} {a b : Nat → Nat} {cI cJ cT : ClassId}
set_option maxHeartbeats 4000000 in
set_option maxRecDepth 100000 in
theorem qX12_work_234 (C : CT p s m args meth c RX12 cX12_work 12 none wsX12_work D A (tyl cI cJ cT) Es) {N : Nat} {mo_signs : Nat → Int32} {mo_signMany : Int32} {mo_nodeSign : Nat → Int32} {mo_nodeOn : Nat → Int32} {mo_nodeSize : Nat → Int32} {mo_nodeMany : Nat → Int32} {mo_due : Nat → Int32} {mo_openNode : Nat → Int32} {mo_isLaid : Int32} {mo_changes : Int32} {mo_changeNode : Nat → Int32} {mo_changeSign : Nat → Int32} {mo_differs : Nat → Int32} {mo_results : Nat → Int32} {mo_own : Nat → Int32} {mo_kinds : Nat → Int32} {mo_testInputs : Nat → Int32} {mo_testDue : Nat → Int32} {mo_tests : Int32} {mo_noticed : Nat → Int32} {mo_missed : Nat → Int32} {mo_leastFrom : Nat → Int32} {mo_blameUpper : Nat → Int32} {mo_blameLower : Nat → Int32} {z_mo_value : Nat → Int32} {k16 : Int32 → Int32 → Int32 → Int32 → Int32 → (Nat → Int32) → Option ((Nat → Int32))} (hk16 : ∀ (x2 : Int32) (x3 : Int32) (x4 : Int32) (x5 : Int32) (x6 : Int32) (mo_value : Nat → Int32), k16 x2 x3 x4 x5 x6 mo_value = some z_mo_value → ∀ (H : Heap) (locs : List Loc) (ls : Array Slot), DB D A (wd_mo a b cI cJ cT mo_signs mo_signMany mo_nodeSign mo_nodeOn mo_nodeSize mo_nodeMany mo_due mo_openNode mo_value mo_isLaid mo_changes mo_changeNode mo_changeSign mo_differs mo_results mo_own mo_kinds mo_testInputs mo_testDue mo_tests mo_noticed mo_missed mo_leastFrom mo_blameUpper mo_blameLower) s H locs → lv_has ls 12 [(0, .ref (b 0)), (2, .int x2), (3, .int x3), (4, .int x4), (5, .int x5), (6, .int x6)] → W p l e rmX12_work s m args below meth c H locs 0 0 (ZV below args s D A (tyl cI cJ cT) (wd_mo a b cI cJ cT mo_signs mo_signMany mo_nodeSign mo_nodeOn mo_nodeSize mo_nodeMany mo_due mo_openNode z_mo_value mo_isLaid mo_changes mo_changeNode mo_changeSign mo_differs mo_results mo_own mo_kinds mo_testInputs mo_testDue mo_tests mo_noticed mo_missed mo_leastFrom mo_blameUpper mo_blameLower) 0 0) (F0 m 16 ls [])) : ∀ (x2 : Int32) (x3 : Int32) (x4 : Int32) (x5 : Int32) (x6 : Int32) (y1 : Int32) (y2 : Int32) (mo_value : Nat → Int32), bX12_work_234 N mo_nodeSign mo_nodeSize mo_nodeMany k16 x2 x3 x4 x5 x6 y1 y2 mo_value = some z_mo_value → ∀ (H : Heap) (locs : List Loc) (ls : Array Slot), DB D A (wd_mo a b cI cJ cT mo_signs mo_signMany mo_nodeSign mo_nodeOn mo_nodeSize mo_nodeMany mo_due mo_openNode mo_value mo_isLaid mo_changes mo_changeNode mo_changeSign mo_differs mo_results mo_own mo_kinds mo_testInputs mo_testDue mo_tests mo_noticed mo_missed mo_leastFrom mo_blameUpper mo_blameLower) s H locs → lv_has ls 12 [(0, .ref (b 0)), (2, .int x2), (3, .int x3), (4, .int x4), (5, .int x5), (6, .int x6)] → W p l e rmX12_work s m args below meth c H locs 0 0 (ZV below args s D A (tyl cI cJ cT) (wd_mo a b cI cJ cT mo_signs mo_signMany mo_nodeSign mo_nodeOn mo_nodeSize mo_nodeMany mo_due mo_openNode z_mo_value mo_isLaid mo_changes mo_changeNode mo_changeSign mo_differs mo_results mo_own mo_kinds mo_testInputs mo_testDue mo_tests mo_noticed mo_missed mo_leastFrom mo_blameUpper mo_blameLower) 0 0) (F0 m 234 ls [.int y2, .int y1, .ref (b 8)]) := by
  have hx := C.1.1
  have hb := C.1.2.1
  have hown := C.1.2.2.2.1
  have hts := C.1.2.2.2.2
  intro x2 x3 x4 x5 x6 y1 y2 mo_value h H locs ls B hl
  rw [bX12_work_234] at h
  obtain ⟨b_1, h⟩ := bnd_some h
  refine k_iast C B 8 0 rfl rfl b_1 dX12_work_234 (fun H locs B => ?_)
  have B : DB D A (wd_mo a b cI cJ cT mo_signs mo_signMany mo_nodeSign mo_nodeOn mo_nodeSize mo_nodeMany mo_due mo_openNode (upd mo_value (Int32.toNatClampNeg y1) y2) mo_isLaid mo_changes mo_changeNode mo_changeSign mo_differs mo_results mo_own mo_kinds mo_testInputs mo_testDue mo_tests mo_noticed mo_missed mo_leastFrom mo_blameUpper mo_blameLower) s H locs := B
  refine lv_iinc (v := (x6 + (-1))) (lv' := [(6, .int (x6 + (-1))), (0, .ref (b 0)), (2, .int x2), (3, .int x3), (4, .int x4), (5, .int x5)]) hx hb dX12_work_235 hl (k := 5) rfl rfl (by decide) rfl (fun ls hl => ?_)
  refine lv_goto (tgt := 16) hx hb dX12_work_238 (by decide) ?_
  exact hk16 x2 x3 x4 x5 (x6 + (-1)) (upd mo_value (Int32.toNatClampNeg y1) y2) h H locs ls B (lv_sub hl [1, 2, 3, 4, 5, 0] rfl)
set_option maxHeartbeats 4000000 in
set_option maxRecDepth 100000 in
theorem qX12_work_187 (C : CT p s m args meth c RX12 cX12_work 12 none wsX12_work D A (tyl cI cJ cT) Es) {N : Nat} {mo_signs : Nat → Int32} {mo_signMany : Int32} {mo_nodeSign : Nat → Int32} {mo_nodeOn : Nat → Int32} {mo_nodeSize : Nat → Int32} {mo_nodeMany : Nat → Int32} {mo_due : Nat → Int32} {mo_openNode : Nat → Int32} {mo_isLaid : Int32} {mo_changes : Int32} {mo_changeNode : Nat → Int32} {mo_changeSign : Nat → Int32} {mo_differs : Nat → Int32} {mo_results : Nat → Int32} {mo_own : Nat → Int32} {mo_kinds : Nat → Int32} {mo_testInputs : Nat → Int32} {mo_testDue : Nat → Int32} {mo_tests : Int32} {mo_noticed : Nat → Int32} {mo_missed : Nat → Int32} {mo_leastFrom : Nat → Int32} {mo_blameUpper : Nat → Int32} {mo_blameLower : Nat → Int32} {z_mo_value : Nat → Int32} {k16 : Int32 → Int32 → Int32 → Int32 → Int32 → (Nat → Int32) → Option ((Nat → Int32))} (hk16 : ∀ (x2 : Int32) (x3 : Int32) (x4 : Int32) (x5 : Int32) (x6 : Int32) (mo_value : Nat → Int32), k16 x2 x3 x4 x5 x6 mo_value = some z_mo_value → ∀ (H : Heap) (locs : List Loc) (ls : Array Slot), DB D A (wd_mo a b cI cJ cT mo_signs mo_signMany mo_nodeSign mo_nodeOn mo_nodeSize mo_nodeMany mo_due mo_openNode mo_value mo_isLaid mo_changes mo_changeNode mo_changeSign mo_differs mo_results mo_own mo_kinds mo_testInputs mo_testDue mo_tests mo_noticed mo_missed mo_leastFrom mo_blameUpper mo_blameLower) s H locs → lv_has ls 12 [(0, .ref (b 0)), (2, .int x2), (3, .int x3), (4, .int x4), (5, .int x5), (6, .int x6)] → W p l e rmX12_work s m args below meth c H locs 0 0 (ZV below args s D A (tyl cI cJ cT) (wd_mo a b cI cJ cT mo_signs mo_signMany mo_nodeSign mo_nodeOn mo_nodeSize mo_nodeMany mo_due mo_openNode z_mo_value mo_isLaid mo_changes mo_changeNode mo_changeSign mo_differs mo_results mo_own mo_kinds mo_testInputs mo_testDue mo_tests mo_noticed mo_missed mo_leastFrom mo_blameUpper mo_blameLower) 0 0) (F0 m 16 ls [])) : ∀ (x2 : Int32) (x3 : Int32) (x4 : Int32) (x5 : Int32) (x6 : Int32) (x7 : Int32) (x9 : Int32) (x10 : Int32) (x11 : Int32) (mo_value : Nat → Int32), bX12_work_187 N mo_nodeSign mo_nodeSize mo_nodeMany k16 x2 x3 x4 x5 x6 x7 x9 x10 x11 mo_value = some z_mo_value → ∀ (H : Heap) (locs : List Loc) (ls : Array Slot), DB D A (wd_mo a b cI cJ cT mo_signs mo_signMany mo_nodeSign mo_nodeOn mo_nodeSize mo_nodeMany mo_due mo_openNode mo_value mo_isLaid mo_changes mo_changeNode mo_changeSign mo_differs mo_results mo_own mo_kinds mo_testInputs mo_testDue mo_tests mo_noticed mo_missed mo_leastFrom mo_blameUpper mo_blameLower) s H locs → lv_has ls 12 [(0, .ref (b 0)), (2, .int x2), (3, .int x3), (4, .int x4), (5, .int x5), (6, .int x6), (7, .int x7), (9, .int x9), (10, .int x10), (11, .int x11)] → W p l e rmX12_work s m args below meth c H locs 0 0 (ZV below args s D A (tyl cI cJ cT) (wd_mo a b cI cJ cT mo_signs mo_signMany mo_nodeSign mo_nodeOn mo_nodeSize mo_nodeMany mo_due mo_openNode z_mo_value mo_isLaid mo_changes mo_changeNode mo_changeSign mo_differs mo_results mo_own mo_kinds mo_testInputs mo_testDue mo_tests mo_noticed mo_missed mo_leastFrom mo_blameUpper mo_blameLower) 0 0) (F0 m 187 ls []) := by
  have hx := C.1.1
  have hb := C.1.2.1
  have hown := C.1.2.2.2.1
  have hts := C.1.2.2.2.2
  intro x2 x3 x4 x5 x6 x7 x9 x10 x11 mo_value h H locs ls B hl
  rw [bX12_work_187] at h
  refine lv_aload_n hx hb dX12_work_187 rfl (lv_at hl 0 rfl) ?_
  refine gfX12_work_31 C B 0 rfl rfl dX12_work_188 ?_
  refine lv_iload hx hb dX12_work_191 (lv_at hl 5 rfl) ?_
  refine lv_iload hx hb dX12_work_193 (lv_at hl 6 rfl) ?_
  refine lv_aload_n hx hb dX12_work_195 rfl (lv_at hl 0 rfl) ?_
  refine gfX12_work_31 C B 0 rfl rfl dX12_work_196 ?_
  refine lv_iload hx hb dX12_work_199 (lv_at hl 5 rfl) ?_
  refine lv_iconst (v := 1) hx hb dX12_work_201 (by decide) ?_
  refine lv_iadd hx hb dX12_work_202 ?_
  obtain ⟨b_1, h⟩ := bnd_some h
  refine k_iald C B 8 0 rfl rfl b_1 dX12_work_203 ?_
  refine lv_aload_n hx hb dX12_work_204 rfl (lv_at hl 0 rfl) ?_
  refine gfX12_work_31 C B 0 rfl rfl dX12_work_205 ?_
  refine lv_iload hx hb dX12_work_208 (lv_at hl 7 rfl) ?_
  obtain ⟨b_2, h⟩ := bnd_some h
  refine k_iald C B 8 0 rfl rfl b_2 dX12_work_210 ?_
  obtain ⟨r_3, g_7, h⟩ := ob_some h
  try dsimp only at h
  refine kc_SI C B (As := [.int x7, .int (mo_value (Int32.toNatClampNeg (x6 + (1 : Int32)))), .int (mo_value (Int32.toNatClampNeg x9))]) (rest := [.int x6, .ref (b 8)]) (w2 := (wd_mo a b cI cJ cT mo_signs mo_signMany mo_nodeSign mo_nodeOn mo_nodeSize mo_nodeMany mo_due mo_openNode mo_value mo_isLaid mo_changes mo_changeNode mo_changeSign mo_differs mo_results mo_own mo_kinds mo_testInputs mo_testDue mo_tests mo_noticed mo_missed mo_leastFrom mo_blameUpper mo_blameLower)) (tX12_stands N g_7) gX12_work_X12_stands rfl ⟨rfl, rfl⟩ hdX12_stands ⟨Nat.le_of_ble_eq_true rfl, Nat.le_of_ble_eq_true rfl⟩ [] [0, 1, 2, 3, 4, 5, 6, 7, 8, 9, 10, 11, 12, 13, 14, 15, 16, 17, 18, 19, 20, 21] [0, 1, 2, 3, 4, 5, 6, 7, 8, 9, 10, 11, 12, 13, 14, 15, 16, 17, 18, 19, 20, 21] rfl rfl rfl rfl rfl rfl rfl rfl hl.1 rfl (Nat.le_of_ble_eq_true rfl) ⟨Nat.zero_le _, Nat.zero_le _⟩ dX12_work_211 (fun H locs B => ?_)
  refine lv_if_eq (tgt := 227) hx hb dX12_work_214 (by decide) (fun c_4 => ?_) (fun c_4 => ?_)
  · rw [if_pos c_4] at h
    refine lv_aload_n hx hb dX12_work_227 rfl (lv_at hl 0 rfl) ?_
    refine gfX12_work_31 C B 0 rfl rfl dX12_work_228 ?_
    refine lv_iload hx hb dX12_work_231 (lv_at hl 9 rfl) ?_
    obtain ⟨b_5, h⟩ := bnd_some h
    refine k_iald C B 8 0 rfl rfl b_5 dX12_work_233 ?_
    exact qX12_work_234 C hk16 x2 x3 x4 x5 x6 x6 (mo_value (Int32.toNatClampNeg x11)) mo_value h H locs ls B (lv_sub hl [0, 1, 2, 3, 4, 5] rfl)
  · rw [if_neg c_4] at h
    refine lv_aload_n hx hb dX12_work_217 rfl (lv_at hl 0 rfl) ?_
    refine gfX12_work_31 C B 0 rfl rfl dX12_work_218 ?_
    refine lv_iload hx hb dX12_work_221 (lv_at hl 8 rfl) ?_
    obtain ⟨b_6, h⟩ := bnd_some h
    refine k_iald C B 8 0 rfl rfl b_6 dX12_work_223 ?_
    refine lv_goto (tgt := 234) hx hb dX12_work_224 (by decide) ?_
    exact qX12_work_234 C hk16 x2 x3 x4 x5 x6 x6 (mo_value (Int32.toNatClampNeg x10)) mo_value h H locs ls B (lv_sub hl [0, 1, 2, 3, 4, 5] rfl)
set_option maxHeartbeats 4000000 in
set_option maxRecDepth 100000 in
theorem qX12_work_172 (C : CT p s m args meth c RX12 cX12_work 12 none wsX12_work D A (tyl cI cJ cT) Es) {N : Nat} {mo_signs : Nat → Int32} {mo_signMany : Int32} {mo_nodeSign : Nat → Int32} {mo_nodeOn : Nat → Int32} {mo_nodeSize : Nat → Int32} {mo_nodeMany : Nat → Int32} {mo_due : Nat → Int32} {mo_openNode : Nat → Int32} {mo_isLaid : Int32} {mo_changes : Int32} {mo_changeNode : Nat → Int32} {mo_changeSign : Nat → Int32} {mo_differs : Nat → Int32} {mo_results : Nat → Int32} {mo_own : Nat → Int32} {mo_kinds : Nat → Int32} {mo_testInputs : Nat → Int32} {mo_testDue : Nat → Int32} {mo_tests : Int32} {mo_noticed : Nat → Int32} {mo_missed : Nat → Int32} {mo_leastFrom : Nat → Int32} {mo_blameUpper : Nat → Int32} {mo_blameLower : Nat → Int32} {z_mo_value : Nat → Int32} {k16 : Int32 → Int32 → Int32 → Int32 → Int32 → (Nat → Int32) → Option ((Nat → Int32))} (hk16 : ∀ (x2 : Int32) (x3 : Int32) (x4 : Int32) (x5 : Int32) (x6 : Int32) (mo_value : Nat → Int32), k16 x2 x3 x4 x5 x6 mo_value = some z_mo_value → ∀ (H : Heap) (locs : List Loc) (ls : Array Slot), DB D A (wd_mo a b cI cJ cT mo_signs mo_signMany mo_nodeSign mo_nodeOn mo_nodeSize mo_nodeMany mo_due mo_openNode mo_value mo_isLaid mo_changes mo_changeNode mo_changeSign mo_differs mo_results mo_own mo_kinds mo_testInputs mo_testDue mo_tests mo_noticed mo_missed mo_leastFrom mo_blameUpper mo_blameLower) s H locs → lv_has ls 12 [(0, .ref (b 0)), (2, .int x2), (3, .int x3), (4, .int x4), (5, .int x5), (6, .int x6)] → W p l e rmX12_work s m args below meth c H locs 0 0 (ZV below args s D A (tyl cI cJ cT) (wd_mo a b cI cJ cT mo_signs mo_signMany mo_nodeSign mo_nodeOn mo_nodeSize mo_nodeMany mo_due mo_openNode z_mo_value mo_isLaid mo_changes mo_changeNode mo_changeSign mo_differs mo_results mo_own mo_kinds mo_testInputs mo_testDue mo_tests mo_noticed mo_missed mo_leastFrom mo_blameUpper mo_blameLower) 0 0) (F0 m 16 ls [])) : ∀ (x2 : Int32) (x3 : Int32) (x4 : Int32) (x5 : Int32) (x6 : Int32) (x7 : Int32) (x9 : Int32) (x10 : Int32) (mo_value : Nat → Int32), bX12_work_172 N mo_nodeSign mo_nodeSize mo_nodeMany k16 x2 x3 x4 x5 x6 x7 x9 x10 mo_value = some z_mo_value → ∀ (H : Heap) (locs : List Loc) (ls : Array Slot), DB D A (wd_mo a b cI cJ cT mo_signs mo_signMany mo_nodeSign mo_nodeOn mo_nodeSize mo_nodeMany mo_due mo_openNode mo_value mo_isLaid mo_changes mo_changeNode mo_changeSign mo_differs mo_results mo_own mo_kinds mo_testInputs mo_testDue mo_tests mo_noticed mo_missed mo_leastFrom mo_blameUpper mo_blameLower) s H locs → lv_has ls 12 [(0, .ref (b 0)), (2, .int x2), (3, .int x3), (4, .int x4), (5, .int x5), (6, .int x6), (7, .int x7), (9, .int x9), (10, .int x10)] → W p l e rmX12_work s m args below meth c H locs 0 0 (ZV below args s D A (tyl cI cJ cT) (wd_mo a b cI cJ cT mo_signs mo_signMany mo_nodeSign mo_nodeOn mo_nodeSize mo_nodeMany mo_due mo_openNode z_mo_value mo_isLaid mo_changes mo_changeNode mo_changeSign mo_differs mo_results mo_own mo_kinds mo_testInputs mo_testDue mo_tests mo_noticed mo_missed mo_leastFrom mo_blameUpper mo_blameLower) 0 0) (F0 m 172 ls []) := by
  have hx := C.1.1
  have hb := C.1.2.1
  have hown := C.1.2.2.2.1
  have hts := C.1.2.2.2.2
  intro x2 x3 x4 x5 x6 x7 x9 x10 mo_value h H locs ls B hl
  rw [bX12_work_172] at h
  refine lv_iload hx hb dX12_work_172 (lv_at hl 8 rfl) ?_
  refine lv_aload_n hx hb dX12_work_174 rfl (lv_at hl 0 rfl) ?_
  refine gfX12_work_19 C B 0 rfl rfl dX12_work_175 ?_
  refine lv_iload hx hb dX12_work_178 (lv_at hl 4 rfl) ?_
  refine lv_iload hx hb dX12_work_180 (lv_at hl 8 rfl) ?_
  refine lv_iadd hx hb dX12_work_182 ?_
  obtain ⟨b_1, h⟩ := bnd_some h
  refine k_iald C B 4 0 rfl rfl b_1 dX12_work_183 ?_
  refine lv_iadd hx hb dX12_work_184 ?_
  refine lv_istore (lv' := [(11, .int (x10 + (mo_nodeSize (Int32.toNatClampNeg (x5 + x10))))), (0, .ref (b 0)), (2, .int x2), (3, .int x3), (4, .int x4), (5, .int x5), (6, .int x6), (7, .int x7), (9, .int x9), (10, .int x10)]) hx hb dX12_work_185 hl (by decide) rfl (fun ls hl => ?_)
  exact qX12_work_187 C hk16 x2 x3 x4 x5 x6 x7 x9 x10 (x10 + (mo_nodeSize (Int32.toNatClampNeg (x5 + x10)))) mo_value h H locs ls B (lv_sub hl [1, 2, 3, 4, 5, 6, 7, 8, 9, 0] rfl)
set_option maxHeartbeats 4000000 in
set_option maxRecDepth 100000 in
theorem qX12_work_120 (C : CT p s m args meth c RX12 cX12_work 12 none wsX12_work D A (tyl cI cJ cT) Es) {N : Nat} {mo_signs : Nat → Int32} {mo_signMany : Int32} {mo_nodeSign : Nat → Int32} {mo_nodeOn : Nat → Int32} {mo_nodeSize : Nat → Int32} {mo_nodeMany : Nat → Int32} {mo_due : Nat → Int32} {mo_openNode : Nat → Int32} {mo_isLaid : Int32} {mo_changes : Int32} {mo_changeNode : Nat → Int32} {mo_changeSign : Nat → Int32} {mo_differs : Nat → Int32} {mo_results : Nat → Int32} {mo_own : Nat → Int32} {mo_kinds : Nat → Int32} {mo_testInputs : Nat → Int32} {mo_testDue : Nat → Int32} {mo_tests : Int32} {mo_noticed : Nat → Int32} {mo_missed : Nat → Int32} {mo_leastFrom : Nat → Int32} {mo_blameUpper : Nat → Int32} {mo_blameLower : Nat → Int32} {z_mo_value : Nat → Int32} {k16 : Int32 → Int32 → Int32 → Int32 → Int32 → (Nat → Int32) → Option ((Nat → Int32))} (hk16 : ∀ (x2 : Int32) (x3 : Int32) (x4 : Int32) (x5 : Int32) (x6 : Int32) (mo_value : Nat → Int32), k16 x2 x3 x4 x5 x6 mo_value = some z_mo_value → ∀ (H : Heap) (locs : List Loc) (ls : Array Slot), DB D A (wd_mo a b cI cJ cT mo_signs mo_signMany mo_nodeSign mo_nodeOn mo_nodeSize mo_nodeMany mo_due mo_openNode mo_value mo_isLaid mo_changes mo_changeNode mo_changeSign mo_differs mo_results mo_own mo_kinds mo_testInputs mo_testDue mo_tests mo_noticed mo_missed mo_leastFrom mo_blameUpper mo_blameLower) s H locs → lv_has ls 12 [(0, .ref (b 0)), (2, .int x2), (3, .int x3), (4, .int x4), (5, .int x5), (6, .int x6)] → W p l e rmX12_work s m args below meth c H locs 0 0 (ZV below args s D A (tyl cI cJ cT) (wd_mo a b cI cJ cT mo_signs mo_signMany mo_nodeSign mo_nodeOn mo_nodeSize mo_nodeMany mo_due mo_openNode z_mo_value mo_isLaid mo_changes mo_changeNode mo_changeSign mo_differs mo_results mo_own mo_kinds mo_testInputs mo_testDue mo_tests mo_noticed mo_missed mo_leastFrom mo_blameUpper mo_blameLower) 0 0) (F0 m 16 ls [])) : ∀ (x2 : Int32) (x3 : Int32) (x4 : Int32) (x5 : Int32) (x6 : Int32) (x7 : Int32) (x8 : Int32) (x9 : Int32) (mo_value : Nat → Int32), bX12_work_120 N mo_nodeSign mo_nodeSize mo_nodeMany k16 x2 x3 x4 x5 x6 x7 x8 x9 mo_value = some z_mo_value → ∀ (H : Heap) (locs : List Loc) (ls : Array Slot), DB D A (wd_mo a b cI cJ cT mo_signs mo_signMany mo_nodeSign mo_nodeOn mo_nodeSize mo_nodeMany mo_due mo_openNode mo_value mo_isLaid mo_changes mo_changeNode mo_changeSign mo_differs mo_results mo_own mo_kinds mo_testInputs mo_testDue mo_tests mo_noticed mo_missed mo_leastFrom mo_blameUpper mo_blameLower) s H locs → lv_has ls 12 [(0, .ref (b 0)), (2, .int x2), (3, .int x3), (4, .int x4), (5, .int x5), (6, .int x6), (7, .int x7), (8, .int x8), (9, .int x9)] → W p l e rmX12_work s m args below meth c H locs 0 0 (ZV below args s D A (tyl cI cJ cT) (wd_mo a b cI cJ cT mo_signs mo_signMany mo_nodeSign mo_nodeOn mo_nodeSize mo_nodeMany mo_due mo_openNode z_mo_value mo_isLaid mo_changes mo_changeNode mo_changeSign mo_differs mo_results mo_own mo_kinds mo_testInputs mo_testDue mo_tests mo_noticed mo_missed mo_leastFrom mo_blameUpper mo_blameLower) 0 0) (F0 m 120 ls []) := by
  have hx := C.1.1
  have hb := C.1.2.1
  have hown := C.1.2.2.2.1
  have hts := C.1.2.2.2.2
  intro x2 x3 x4 x5 x6 x7 x8 x9 mo_value h H locs ls B hl
  rw [bX12_work_120] at h
  refine lv_iload hx hb dX12_work_120 (lv_at hl 7 rfl) ?_
  refine lv_iconst (v := 2) hx hb dX12_work_122 (by decide) ?_
  refine lv_icmp_ne (tgt := 157) hx hb dX12_work_123 (by decide) (fun c_1 => ?_) (fun c_1 => ?_)
  · rw [if_neg c_1] at h
    refine lv_iload hx hb dX12_work_157 (lv_at hl 8 rfl) ?_
    refine lv_aload_n hx hb dX12_work_159 rfl (lv_at hl 0 rfl) ?_
    refine gfX12_work_19 C B 0 rfl rfl dX12_work_160 ?_
    refine lv_iload hx hb dX12_work_163 (lv_at hl 4 rfl) ?_
    refine lv_iload hx hb dX12_work_165 (lv_at hl 8 rfl) ?_
    refine lv_iadd hx hb dX12_work_167 ?_
    obtain ⟨b_2, h⟩ := bnd_some h
    refine k_iald C B 4 0 rfl rfl b_2 dX12_work_168 ?_
    refine lv_iadd hx hb dX12_work_169 ?_
    refine lv_istore (lv' := [(10, .int (x9 + (mo_nodeSize (Int32.toNatClampNeg (x5 + x9))))), (0, .ref (b 0)), (2, .int x2), (3, .int x3), (4, .int x4), (5, .int x5), (6, .int x6), (7, .int x7), (8, .int x8), (9, .int x9)]) hx hb dX12_work_170 hl (by decide) rfl (fun ls hl => ?_)
    exact qX12_work_172 C hk16 x2 x3 x4 x5 x6 x7 x9 (x9 + (mo_nodeSize (Int32.toNatClampNeg (x5 + x9)))) mo_value h H locs ls B (lv_sub hl [1, 2, 3, 4, 5, 6, 7, 9, 0] rfl)
  · rw [if_pos c_1] at h
    refine lv_aload_n hx hb dX12_work_126 rfl (lv_at hl 0 rfl) ?_
    refine gfX12_work_31 C B 0 rfl rfl dX12_work_127 ?_
    refine lv_iload hx hb dX12_work_130 (lv_at hl 5 rfl) ?_
    refine lv_iload hx hb dX12_work_132 (lv_at hl 6 rfl) ?_
    refine lv_aload_n hx hb dX12_work_134 rfl (lv_at hl 0 rfl) ?_
    refine gfX12_work_31 C B 0 rfl rfl dX12_work_135 ?_
    refine lv_iload hx hb dX12_work_138 (lv_at hl 5 rfl) ?_
    refine lv_iconst (v := 1) hx hb dX12_work_140 (by decide) ?_
    refine lv_iadd hx hb dX12_work_141 ?_
    obtain ⟨b_3, h⟩ := bnd_some h
    refine k_iald C B 8 0 rfl rfl b_3 dX12_work_142 ?_
    refine lv_aload_n hx hb dX12_work_143 rfl (lv_at hl 0 rfl) ?_
    refine gfX12_work_31 C B 0 rfl rfl dX12_work_144 ?_
    refine lv_iload hx hb dX12_work_147 (lv_at hl 8 rfl) ?_
    obtain ⟨b_4, h⟩ := bnd_some h
    refine k_iald C B 8 0 rfl rfl b_4 dX12_work_149 ?_
    obtain ⟨r_5, g_7, h⟩ := ob_some h
    try dsimp only at h
    refine kc_SI C B (As := [.int x7, .int (mo_value (Int32.toNatClampNeg (x6 + (1 : Int32)))), .int (mo_value (Int32.toNatClampNeg x9))]) (rest := [.int x6, .ref (b 8)]) (w2 := (wd_mo a b cI cJ cT mo_signs mo_signMany mo_nodeSign mo_nodeOn mo_nodeSize mo_nodeMany mo_due mo_openNode mo_value mo_isLaid mo_changes mo_changeNode mo_changeSign mo_differs mo_results mo_own mo_kinds mo_testInputs mo_testDue mo_tests mo_noticed mo_missed mo_leastFrom mo_blameUpper mo_blameLower)) (tX12_act N g_7) gX12_work_X12_act rfl ⟨rfl, rfl⟩ hdX12_act ⟨Nat.le_of_ble_eq_true rfl, Nat.le_of_ble_eq_true rfl⟩ [] [0, 1, 2, 3, 4, 5, 6, 7, 8, 9, 10, 11, 12, 13, 14, 15, 16, 17, 18, 19, 20, 21] [0, 1, 2, 3, 4, 5, 6, 7, 8, 9, 10, 11, 12, 13, 14, 15, 16, 17, 18, 19, 20, 21] rfl rfl rfl rfl rfl rfl rfl rfl hl.1 rfl (Nat.le_of_ble_eq_true rfl) ⟨Nat.zero_le _, Nat.zero_le _⟩ dX12_work_150 (fun H locs B => ?_)
    obtain ⟨b_6, h⟩ := bnd_some h
    refine k_iast C B 8 0 rfl rfl b_6 dX12_work_153 (fun H locs B => ?_)
    have B : DB D A (wd_mo a b cI cJ cT mo_signs mo_signMany mo_nodeSign mo_nodeOn mo_nodeSize mo_nodeMany mo_due mo_openNode (upd mo_value (Int32.toNatClampNeg x6) r_5) mo_isLaid mo_changes mo_changeNode mo_changeSign mo_differs mo_results mo_own mo_kinds mo_testInputs mo_testDue mo_tests mo_noticed mo_missed mo_leastFrom mo_blameUpper mo_blameLower) s H locs := B
    refine lv_goto (tgt := 235) hx hb dX12_work_154 (by decide) ?_
    refine lv_iinc (v := (x6 + (-1))) (lv' := [(6, .int (x6 + (-1))), (0, .ref (b 0)), (2, .int x2), (3, .int x3), (4, .int x4), (5, .int x5), (7, .int x7), (8, .int x8), (9, .int x9)]) hx hb dX12_work_235 hl (k := 5) rfl rfl (by decide) rfl (fun ls hl => ?_)
    refine lv_goto (tgt := 16) hx hb dX12_work_238 (by decide) ?_
    exact hk16 x2 x3 x4 x5 (x6 + (-1)) (upd mo_value (Int32.toNatClampNeg x6) r_5) h H locs ls B (lv_sub hl [1, 2, 3, 4, 5, 0] rfl)
set_option maxHeartbeats 4000000 in
set_option maxRecDepth 100000 in
theorem qX12_work_42 (C : CT p s m args meth c RX12 cX12_work 12 none wsX12_work D A (tyl cI cJ cT) Es) {N : Nat} {mo_signs : Nat → Int32} {mo_signMany : Int32} {mo_nodeSign : Nat → Int32} {mo_nodeOn : Nat → Int32} {mo_nodeSize : Nat → Int32} {mo_nodeMany : Nat → Int32} {mo_due : Nat → Int32} {mo_openNode : Nat → Int32} {mo_isLaid : Int32} {mo_changes : Int32} {mo_changeNode : Nat → Int32} {mo_changeSign : Nat → Int32} {mo_differs : Nat → Int32} {mo_results : Nat → Int32} {mo_own : Nat → Int32} {mo_kinds : Nat → Int32} {mo_testInputs : Nat → Int32} {mo_testDue : Nat → Int32} {mo_tests : Int32} {mo_noticed : Nat → Int32} {mo_missed : Nat → Int32} {mo_leastFrom : Nat → Int32} {mo_blameUpper : Nat → Int32} {mo_blameLower : Nat → Int32} {z_mo_value : Nat → Int32} {k16 : Int32 → Int32 → Int32 → Int32 → Int32 → (Nat → Int32) → Option ((Nat → Int32))} (hk16 : ∀ (x2 : Int32) (x3 : Int32) (x4 : Int32) (x5 : Int32) (x6 : Int32) (mo_value : Nat → Int32), k16 x2 x3 x4 x5 x6 mo_value = some z_mo_value → ∀ (H : Heap) (locs : List Loc) (ls : Array Slot), DB D A (wd_mo a b cI cJ cT mo_signs mo_signMany mo_nodeSign mo_nodeOn mo_nodeSize mo_nodeMany mo_due mo_openNode mo_value mo_isLaid mo_changes mo_changeNode mo_changeSign mo_differs mo_results mo_own mo_kinds mo_testInputs mo_testDue mo_tests mo_noticed mo_missed mo_leastFrom mo_blameUpper mo_blameLower) s H locs → lv_has ls 12 [(0, .ref (b 0)), (2, .int x2), (3, .int x3), (4, .int x4), (5, .int x5), (6, .int x6)] → W p l e rmX12_work s m args below meth c H locs 0 0 (ZV below args s D A (tyl cI cJ cT) (wd_mo a b cI cJ cT mo_signs mo_signMany mo_nodeSign mo_nodeOn mo_nodeSize mo_nodeMany mo_due mo_openNode z_mo_value mo_isLaid mo_changes mo_changeNode mo_changeSign mo_differs mo_results mo_own mo_kinds mo_testInputs mo_testDue mo_tests mo_noticed mo_missed mo_leastFrom mo_blameUpper mo_blameLower) 0 0) (F0 m 16 ls [])) : ∀ (x2 : Int32) (x3 : Int32) (x4 : Int32) (x5 : Int32) (x6 : Int32) (y0 : Int32) (mo_value : Nat → Int32), bX12_work_42 N mo_nodeSign mo_nodeSize mo_nodeMany k16 x2 x3 x4 x5 x6 y0 mo_value = some z_mo_value → ∀ (H : Heap) (locs : List Loc) (ls : Array Slot), DB D A (wd_mo a b cI cJ cT mo_signs mo_signMany mo_nodeSign mo_nodeOn mo_nodeSize mo_nodeMany mo_due mo_openNode mo_value mo_isLaid mo_changes mo_changeNode mo_changeSign mo_differs mo_results mo_own mo_kinds mo_testInputs mo_testDue mo_tests mo_noticed mo_missed mo_leastFrom mo_blameUpper mo_blameLower) s H locs → lv_has ls 12 [(0, .ref (b 0)), (2, .int x2), (3, .int x3), (4, .int x4), (5, .int x5), (6, .int x6)] → W p l e rmX12_work s m args below meth c H locs 0 0 (ZV below args s D A (tyl cI cJ cT) (wd_mo a b cI cJ cT mo_signs mo_signMany mo_nodeSign mo_nodeOn mo_nodeSize mo_nodeMany mo_due mo_openNode z_mo_value mo_isLaid mo_changes mo_changeNode mo_changeSign mo_differs mo_results mo_own mo_kinds mo_testInputs mo_testDue mo_tests mo_noticed mo_missed mo_leastFrom mo_blameUpper mo_blameLower) 0 0) (F0 m 42 ls [.int y0]) := by
  have hx := C.1.1
  have hb := C.1.2.1
  have hown := C.1.2.2.2.1
  have hts := C.1.2.2.2.2
  intro x2 x3 x4 x5 x6 y0 mo_value h H locs ls B hl
  rw [bX12_work_42] at h
  refine lv_istore (lv' := [(7, .int y0), (0, .ref (b 0)), (2, .int x2), (3, .int x3), (4, .int x4), (5, .int x5), (6, .int x6)]) hx hb dX12_work_42 hl (by decide) rfl (fun ls hl => ?_)
  refine lv_iload hx hb dX12_work_44 (lv_at hl 0 rfl) ?_
  obtain ⟨r_1, g_9, h⟩ := ob_some h
  try dsimp only at h
  refine kc_SI C B (As := [.int y0]) (rest := []) (w2 := (wd_mo a b cI cJ cT mo_signs mo_signMany mo_nodeSign mo_nodeOn mo_nodeSize mo_nodeMany mo_due mo_openNode mo_value mo_isLaid mo_changes mo_changeNode mo_changeSign mo_differs mo_results mo_own mo_kinds mo_testInputs mo_testDue mo_tests mo_noticed mo_missed mo_leastFrom mo_blameUpper mo_blameLower)) (tX12_partsOf N g_9) gX12_work_X12_partsOf rfl ⟨rfl, rfl⟩ hdX12_partsOf ⟨Nat.le_of_ble_eq_true rfl, Nat.le_of_ble_eq_true rfl⟩ [] [0, 1, 2, 3, 4, 5, 6, 7, 8, 9, 10, 11, 12, 13, 14, 15, 16, 17, 18, 19, 20, 21] [0, 1, 2, 3, 4, 5, 6, 7, 8, 9, 10, 11, 12, 13, 14, 15, 16, 17, 18, 19, 20, 21] rfl rfl rfl rfl rfl rfl rfl rfl hl.1 rfl (Nat.le_of_ble_eq_true rfl) ⟨Nat.zero_le _, Nat.zero_le _⟩ dX12_work_46 (fun H locs B => ?_)
  refine lv_istore (lv' := [(8, .int r_1), (7, .int y0), (0, .ref (b 0)), (2, .int x2), (3, .int x3), (4, .int x4), (5, .int x5), (6, .int x6)]) hx hb dX12_work_49 hl (by decide) rfl (fun ls hl => ?_)
  refine lv_iload hx hb dX12_work_51 (lv_at hl 1 rfl) ?_
  obtain ⟨r_2, g_8, h⟩ := ob_some h
  try dsimp only at h
  refine kc_SI C B (As := [.int y0]) (rest := []) (w2 := (wd_mo a b cI cJ cT mo_signs mo_signMany mo_nodeSign mo_nodeOn mo_nodeSize mo_nodeMany mo_due mo_openNode mo_value mo_isLaid mo_changes mo_changeNode mo_changeSign mo_differs mo_results mo_own mo_kinds mo_testInputs mo_testDue mo_tests mo_noticed mo_missed mo_leastFrom mo_blameUpper mo_blameLower)) (tX12_isInput N g_8) gX12_work_X12_isInput rfl ⟨rfl, rfl⟩ hdX12_isInput ⟨Nat.le_of_ble_eq_true rfl, Nat.le_of_ble_eq_true rfl⟩ [] [0, 1, 2, 3, 4, 5, 6, 7, 8, 9, 10, 11, 12, 13, 14, 15, 16, 17, 18, 19, 20, 21] [0, 1, 2, 3, 4, 5, 6, 7, 8, 9, 10, 11, 12, 13, 14, 15, 16, 17, 18, 19, 20, 21] rfl rfl rfl rfl rfl rfl rfl rfl hl.1 rfl (Nat.le_of_ble_eq_true rfl) ⟨Nat.zero_le _, Nat.zero_le _⟩ dX12_work_53 (fun H locs B => ?_)
  refine lv_if_eq (tgt := 81) hx hb dX12_work_56 (by decide) (fun c_3 => ?_) (fun c_3 => ?_)
  · rw [if_pos c_3] at h
    refine lv_iload hx hb dX12_work_81 (lv_at hl 0 rfl) ?_
    refine lv_if_ne (tgt := 101) hx hb dX12_work_83 (by decide) (fun c_4 => ?_) (fun c_4 => ?_)
    · rw [if_neg c_4] at h
      refine lv_iload hx hb dX12_work_101 (lv_at hl 7 rfl) ?_
      refine lv_iconst (v := 1) hx hb dX12_work_103 (by decide) ?_
      refine lv_iadd hx hb dX12_work_104 ?_
      refine lv_aload_n hx hb dX12_work_105 rfl (lv_at hl 2 rfl) ?_
      refine gfX12_work_19 C B 0 rfl rfl dX12_work_106 ?_
      refine lv_iload hx hb dX12_work_109 (lv_at hl 6 rfl) ?_
      refine lv_iload hx hb dX12_work_111 (lv_at hl 7 rfl) ?_
      refine lv_iadd hx hb dX12_work_113 ?_
      refine lv_iconst (v := 1) hx hb dX12_work_114 (by decide) ?_
      refine lv_iadd hx hb dX12_work_115 ?_
      obtain ⟨b_5, h⟩ := bnd_some h
      refine k_iald C B 4 0 rfl rfl b_5 dX12_work_116 ?_
      refine lv_iadd hx hb dX12_work_117 ?_
      refine lv_istore (lv' := [(9, .int ((x6 + (1 : Int32)) + (mo_nodeSize (Int32.toNatClampNeg ((x5 + x6) + (1 : Int32)))))), (8, .int r_1), (7, .int y0), (0, .ref (b 0)), (2, .int x2), (3, .int x3), (4, .int x4), (5, .int x5), (6, .int x6)]) hx hb dX12_work_118 hl (by decide) rfl (fun ls hl => ?_)
      exact qX12_work_120 C hk16 x2 x3 x4 x5 x6 y0 r_1 ((x6 + (1 : Int32)) + (mo_nodeSize (Int32.toNatClampNeg ((x5 + x6) + (1 : Int32))))) mo_value h H locs ls B (lv_sub hl [3, 4, 5, 6, 7, 8, 2, 1, 0] rfl)
    · rw [if_pos c_4] at h
      refine lv_aload_n hx hb dX12_work_86 rfl (lv_at hl 2 rfl) ?_
      refine gfX12_work_31 C B 0 rfl rfl dX12_work_87 ?_
      refine lv_iload hx hb dX12_work_90 (lv_at hl 7 rfl) ?_
      refine lv_iload hx hb dX12_work_92 (lv_at hl 1 rfl) ?_
      refine lv_bipush (v := 48) hx hb dX12_work_94 (by decide) ?_
      refine lv_isub hx hb dX12_work_96 ?_
      obtain ⟨b_6, h⟩ := bnd_some h
      refine k_iast C B 8 0 rfl rfl b_6 dX12_work_97 (fun H locs B => ?_)
      have B : DB D A (wd_mo a b cI cJ cT mo_signs mo_signMany mo_nodeSign mo_nodeOn mo_nodeSize mo_nodeMany mo_due mo_openNode (upd mo_value (Int32.toNatClampNeg x6) (y0 - (48 : Int32))) mo_isLaid mo_changes mo_changeNode mo_changeSign mo_differs mo_results mo_own mo_kinds mo_testInputs mo_testDue mo_tests mo_noticed mo_missed mo_leastFrom mo_blameUpper mo_blameLower) s H locs := B
      refine lv_goto (tgt := 235) hx hb dX12_work_98 (by decide) ?_
      refine lv_iinc (v := (x6 + (-1))) (lv' := [(6, .int (x6 + (-1))), (8, .int r_1), (7, .int y0), (0, .ref (b 0)), (2, .int x2), (3, .int x3), (4, .int x4), (5, .int x5)]) hx hb dX12_work_235 hl (k := 7) rfl rfl (by decide) rfl (fun ls hl => ?_)
      refine lv_goto (tgt := 16) hx hb dX12_work_238 (by decide) ?_
      exact hk16 x2 x3 x4 x5 (x6 + (-1)) (upd mo_value (Int32.toNatClampNeg x6) (y0 - (48 : Int32))) h H locs ls B (lv_sub hl [3, 4, 5, 6, 7, 0] rfl)
  · rw [if_neg c_3] at h
    refine lv_aload_n hx hb dX12_work_59 rfl (lv_at hl 2 rfl) ?_
    refine gfX12_work_31 C B 0 rfl rfl dX12_work_60 ?_
    refine lv_iload hx hb dX12_work_63 (lv_at hl 7 rfl) ?_
    refine lv_iload_n hx hb dX12_work_65 rfl (lv_at hl 3 rfl) ?_
    refine lv_iconst (v := 3) hx hb dX12_work_66 (by decide) ?_
    refine lv_bipush (v := 99) hx hb dX12_work_67 (by decide) ?_
    refine lv_iload hx hb dX12_work_69 (lv_at hl 1 rfl) ?_
    refine lv_isub hx hb dX12_work_71 ?_
    refine lv_imul hx hb dX12_work_72 ?_
    refine lv_ishr hx hb dX12_work_73 ?_
    refine lv_bipush (v := 7) hx hb dX12_work_74 (by decide) ?_
    refine lv_iand hx hb dX12_work_76 ?_
    obtain ⟨b_7, h⟩ := bnd_some h
    refine k_iast C B 8 0 rfl rfl b_7 dX12_work_77 (fun H locs B => ?_)
    have B : DB D A (wd_mo a b cI cJ cT mo_signs mo_signMany mo_nodeSign mo_nodeOn mo_nodeSize mo_nodeMany mo_due mo_openNode (upd mo_value (Int32.toNatClampNeg x6) ((x2 >>> (((3 : Int32) * ((99 : Int32) - y0)) &&& 31)) &&& (7 : Int32))) mo_isLaid mo_changes mo_changeNode mo_changeSign mo_differs mo_results mo_own mo_kinds mo_testInputs mo_testDue mo_tests mo_noticed mo_missed mo_leastFrom mo_blameUpper mo_blameLower) s H locs := B
    refine lv_goto (tgt := 235) hx hb dX12_work_78 (by decide) ?_
    refine lv_iinc (v := (x6 + (-1))) (lv' := [(6, .int (x6 + (-1))), (8, .int r_1), (7, .int y0), (0, .ref (b 0)), (2, .int x2), (3, .int x3), (4, .int x4), (5, .int x5)]) hx hb dX12_work_235 hl (k := 7) rfl rfl (by decide) rfl (fun ls hl => ?_)
    refine lv_goto (tgt := 16) hx hb dX12_work_238 (by decide) ?_
    exact hk16 x2 x3 x4 x5 (x6 + (-1)) (upd mo_value (Int32.toNatClampNeg x6) ((x2 >>> (((3 : Int32) * ((99 : Int32) - y0)) &&& 31)) &&& (7 : Int32))) h H locs ls B (lv_sub hl [3, 4, 5, 6, 7, 0] rfl)
set_option maxHeartbeats 4000000 in
set_option maxRecDepth 100000 in
theorem qX12_work_16 (C : CT p s m args meth c RX12 cX12_work 12 none wsX12_work D A (tyl cI cJ cT) Es) {N : Nat} {mo_signs : Nat → Int32} {mo_signMany : Int32} {mo_nodeSign : Nat → Int32} {mo_nodeOn : Nat → Int32} {mo_nodeSize : Nat → Int32} {mo_nodeMany : Nat → Int32} {mo_due : Nat → Int32} {mo_openNode : Nat → Int32} {mo_isLaid : Int32} {mo_changes : Int32} {mo_changeNode : Nat → Int32} {mo_changeSign : Nat → Int32} {mo_differs : Nat → Int32} {mo_results : Nat → Int32} {mo_own : Nat → Int32} {mo_kinds : Nat → Int32} {mo_testInputs : Nat → Int32} {mo_testDue : Nat → Int32} {mo_tests : Int32} {mo_noticed : Nat → Int32} {mo_missed : Nat → Int32} {mo_leastFrom : Nat → Int32} {mo_blameUpper : Nat → Int32} {mo_blameLower : Nat → Int32} {z_mo_value : Nat → Int32} : ∀ (n : Nat) (x2 : Int32) (x3 : Int32) (x4 : Int32) (x5 : Int32) (x6 : Int32) (mo_value : Nat → Int32), bX12_work_16 N mo_nodeSign mo_nodeSize mo_nodeMany n x2 x3 x4 x5 x6 mo_value = some z_mo_value → ∀ (H : Heap) (locs : List Loc) (ls : Array Slot), DB D A (wd_mo a b cI cJ cT mo_signs mo_signMany mo_nodeSign mo_nodeOn mo_nodeSize mo_nodeMany mo_due mo_openNode mo_value mo_isLaid mo_changes mo_changeNode mo_changeSign mo_differs mo_results mo_own mo_kinds mo_testInputs mo_testDue mo_tests mo_noticed mo_missed mo_leastFrom mo_blameUpper mo_blameLower) s H locs → lv_has ls 12 [(0, .ref (b 0)), (2, .int x2), (3, .int x3), (4, .int x4), (5, .int x5), (6, .int x6)] → W p l e rmX12_work s m args below meth c H locs 0 0 (ZV below args s D A (tyl cI cJ cT) (wd_mo a b cI cJ cT mo_signs mo_signMany mo_nodeSign mo_nodeOn mo_nodeSize mo_nodeMany mo_due mo_openNode z_mo_value mo_isLaid mo_changes mo_changeNode mo_changeSign mo_differs mo_results mo_own mo_kinds mo_testInputs mo_testDue mo_tests mo_noticed mo_missed mo_leastFrom mo_blameUpper mo_blameLower) 0 0) (F0 m 16 ls []) := by
  have hx := C.1.1
  have hb := C.1.2.1
  have hown := C.1.2.2.2.1
  have hts := C.1.2.2.2.2
  intro n
  induction n with
  | zero => intro x2 x3 x4 x5 x6 mo_value h; cases h
  | succ n ih =>
    intro x2 x3 x4 x5 x6 mo_value h H locs ls B hl
    rw [bX12_work_16] at h
    refine lv_iload hx hb dX12_work_16 (lv_at hl 5 rfl) ?_
    refine lv_if_lt (tgt := 241) hx hb dX12_work_18 (by decide) (fun c_1 => ?_) (fun c_1 => ?_)
    · rw [if_pos c_1] at h
      cases h
      exact k_vret C B dX12_work_241
    · rw [if_neg c_1] at h
      refine lv_iload hx hb dX12_work_21 (lv_at hl 5 rfl) ?_
      refine lv_iload_n hx hb dX12_work_23 rfl (lv_at hl 2 rfl) ?_
      refine lv_icmp_ne (tgt := 32) hx hb dX12_work_24 (by decide) (fun c_2 => ?_) (fun c_2 => ?_)
      · rw [if_neg c_2] at h
        refine lv_aload_n hx hb dX12_work_32 rfl (lv_at hl 0 rfl) ?_
        refine gfX12_work_13 C B 0 rfl rfl dX12_work_33 ?_
        refine lv_iload hx hb dX12_work_36 (lv_at hl 4 rfl) ?_
        refine lv_iload hx hb dX12_work_38 (lv_at hl 5 rfl) ?_
        refine lv_iadd hx hb dX12_work_40 ?_
        obtain ⟨b_3, h⟩ := bnd_some h
        refine k_iald C B 2 0 rfl rfl b_3 dX12_work_41 ?_
        exact qX12_work_42 C ih x2 x3 x4 x5 x6 (mo_nodeSign (Int32.toNatClampNeg (x5 + x6))) mo_value h H locs ls B (lv_sub hl [0, 1, 2, 3, 4, 5] rfl)
      · rw [if_pos c_2] at h
        refine lv_iload hx hb dX12_work_27 (lv_at hl 3 rfl) ?_
        refine lv_goto (tgt := 42) hx hb dX12_work_29 (by decide) ?_
        exact qX12_work_42 C ih x2 x3 x4 x5 x6 x4 mo_value h H locs ls B (lv_sub hl [0, 1, 2, 3, 4, 5] rfl)
set_option maxHeartbeats 4000000 in
set_option maxRecDepth 100000 in
theorem qX12_work_0 (C : CT p s m args meth c RX12 cX12_work 12 none wsX12_work D A (tyl cI cJ cT) Es) {N : Nat} {mo_signs : Nat → Int32} {mo_signMany : Int32} {mo_nodeSign : Nat → Int32} {mo_nodeOn : Nat → Int32} {mo_nodeSize : Nat → Int32} {mo_nodeMany : Nat → Int32} {mo_due : Nat → Int32} {mo_openNode : Nat → Int32} {mo_isLaid : Int32} {mo_changes : Int32} {mo_changeNode : Nat → Int32} {mo_changeSign : Nat → Int32} {mo_differs : Nat → Int32} {mo_results : Nat → Int32} {mo_own : Nat → Int32} {mo_kinds : Nat → Int32} {mo_testInputs : Nat → Int32} {mo_testDue : Nat → Int32} {mo_tests : Int32} {mo_noticed : Nat → Int32} {mo_missed : Nat → Int32} {mo_leastFrom : Nat → Int32} {mo_blameUpper : Nat → Int32} {mo_blameLower : Nat → Int32} {z_mo_value : Nat → Int32} : ∀ (x1 : Int32) (x2 : Int32) (x3 : Int32) (x4 : Int32) (mo_value : Nat → Int32), fX12_work N mo_nodeSign mo_nodeSize mo_nodeMany x1 x2 x3 x4 mo_value = some z_mo_value → ∀ (H : Heap) (locs : List Loc) (ls : Array Slot), DB D A (wd_mo a b cI cJ cT mo_signs mo_signMany mo_nodeSign mo_nodeOn mo_nodeSize mo_nodeMany mo_due mo_openNode mo_value mo_isLaid mo_changes mo_changeNode mo_changeSign mo_differs mo_results mo_own mo_kinds mo_testInputs mo_testDue mo_tests mo_noticed mo_missed mo_leastFrom mo_blameUpper mo_blameLower) s H locs → lv_has ls 12 [(0, .ref (b 0)), (1, .int x1), (2, .int x2), (3, .int x3), (4, .int x4)] → W p l e rmX12_work s m args below meth c H locs 0 0 (ZV below args s D A (tyl cI cJ cT) (wd_mo a b cI cJ cT mo_signs mo_signMany mo_nodeSign mo_nodeOn mo_nodeSize mo_nodeMany mo_due mo_openNode z_mo_value mo_isLaid mo_changes mo_changeNode mo_changeSign mo_differs mo_results mo_own mo_kinds mo_testInputs mo_testDue mo_tests mo_noticed mo_missed mo_leastFrom mo_blameUpper mo_blameLower) 0 0) (F0 m 0 ls []) := by
  have hx := C.1.1
  have hb := C.1.2.1
  have hown := C.1.2.2.2.1
  have hts := C.1.2.2.2.2
  intro x1 x2 x3 x4 mo_value h H locs ls B hl
  rw [fX12_work] at h
  refine lv_bipush (v := 24) hx hb dX12_work_0 (by decide) ?_
  refine lv_iload_n hx hb dX12_work_2 rfl (lv_at hl 1 rfl) ?_
  refine lv_imul hx hb dX12_work_3 ?_
  refine lv_istore (lv' := [(5, .int ((24 : Int32) * x1)), (0, .ref (b 0)), (1, .int x1), (2, .int x2), (3, .int x3), (4, .int x4)]) hx hb dX12_work_4 hl (by decide) rfl (fun ls hl => ?_)
  refine lv_aload_n hx hb dX12_work_6 rfl (lv_at hl 1 rfl) ?_
  refine gfX12_work_22 C B 0 rfl rfl dX12_work_7 ?_
  refine lv_iload_n hx hb dX12_work_10 rfl (lv_at hl 2 rfl) ?_
  obtain ⟨b_1, h⟩ := bnd_some h
  refine k_iald C B 5 0 rfl rfl b_1 dX12_work_11 ?_
  refine lv_iconst (v := 1) hx hb dX12_work_12 (by decide) ?_
  refine lv_isub hx hb dX12_work_13 ?_
  refine lv_istore (lv' := [(6, .int ((mo_nodeMany (Int32.toNatClampNeg x1)) - (1 : Int32))), (5, .int ((24 : Int32) * x1)), (0, .ref (b 0)), (1, .int x1), (2, .int x2), (3, .int x3), (4, .int x4)]) hx hb dX12_work_14 hl (by decide) rfl (fun ls hl => ?_)
  exact qX12_work_16 C N x2 x3 x4 ((24 : Int32) * x1) ((mo_nodeMany (Int32.toNatClampNeg x1)) - (1 : Int32)) mo_value h H locs ls B (lv_sub hl [2, 4, 5, 6, 1, 0] rfl)
end
theorem tX12_work {l : Launch} {D : va_G} {Es : (Nat → Nat) × (Nat → Nat)} {a b : Nat → Nat} {cI cJ cT : ClassId} {mo_signs : Nat → Int32} {mo_signMany : Int32} {mo_nodeSign : Nat → Int32} {mo_nodeOn : Nat → Int32} {mo_nodeSize : Nat → Int32} {mo_nodeMany : Nat → Int32} {mo_due : Nat → Int32} {mo_openNode : Nat → Int32} {mo_value : Nat → Int32} {mo_isLaid : Int32} {mo_changes : Int32} {mo_changeNode : Nat → Int32} {mo_changeSign : Nat → Int32} {mo_differs : Nat → Int32} {mo_results : Nat → Int32} {mo_own : Nat → Int32} {mo_kinds : Nat → Int32} {mo_testInputs : Nat → Int32} {mo_testDue : Nat → Int32} {mo_tests : Int32} {mo_noticed : Nat → Int32} {mo_missed : Nat → Int32} {mo_leastFrom : Nat → Int32} {mo_blameUpper : Nat → Int32} {mo_blameLower : Nat → Int32} {x1 : Int32} {x2 : Int32} {x3 : Int32} {x4 : Int32} {z_mo_value : Nat → Int32} (N : Nat) (h : fX12_work N mo_nodeSign mo_nodeSize mo_nodeMany x1 x2 x3 x4 mo_value = some z_mo_value) : CtV l yX12_work wsX12_work rmX12_work D (tyl cI cJ cT) Es [.ref (b 0), .int x1, .int x2, .int x3, .int x4] (wd_mo a b cI cJ cT mo_signs mo_signMany mo_nodeSign mo_nodeOn mo_nodeSize mo_nodeMany mo_due mo_openNode mo_value mo_isLaid mo_changes mo_changeNode mo_changeSign mo_differs mo_results mo_own mo_kinds mo_testInputs mo_testDue mo_tests mo_noticed mo_missed mo_leastFrom mo_blameUpper mo_blameLower) (wd_mo a b cI cJ cT mo_signs mo_signMany mo_nodeSign mo_nodeOn mo_nodeSize mo_nodeMany mo_due mo_openNode z_mo_value mo_isLaid mo_changes mo_changeNode mo_changeSign mo_differs mo_results mo_own mo_kinds mo_testInputs mo_testDue mo_tests mo_noticed mo_missed mo_leastFrom mo_blameUpper mo_blameLower) :=
  CtV.of (own := RX12) (cc := cX12_work) (nL := 12) (ret := none) (by decide +kernel) rfl rfl (Nat.le_of_ble_eq_true rfl) rfl (fun p e s m below meth c A ls C B hl => qX12_work_0 C (N := N) x1 x2 x3 x4 mo_value h _ _ _ B hl)

abbrev rmX12_areInputs : Room := { frames := 1, cells := 0, slots := 0, locals := 25 }
theorem hdX12_areInputs : yX12_areInputs.cls ≠ "java/lang/invoke/MethodHandle" ∧ yX12_areInputs.cls ≠ "java/lang/invoke/VarHandle" ∧ (parseMethodDescriptor yX12_areInputs.desc).map (fun d => d.parameters.length) = some 1 := by decide +kernel
theorem mX12_areInputs_l128 : (Cond.constantLong RX12 128 (511)) ∈ wsX12_areInputs := by decide +kernel
section
variable {p : Program} {l : Launch} {e : Env} {s : State} {m : MethodId} {args : Array Value} {below : List Frame} {meth : Method} {c : Code} {D : va_G} {A : Nat → Prop} {Es : (Nat → Nat) × (Nat → Nat)} {a b : Nat → Nat} {cI cJ cT : ClassId}
set_option maxHeartbeats 4000000 in
set_option maxRecDepth 100000 in
theorem qX12_areInputs_0 (C : CT p s m args meth c RX12 cX12_areInputs 1 (some .boolean) wsX12_areInputs D A (tyl cI cJ cT) Es) {N : Nat} {z_r : Int32} : ∀ (x0 : Int32), fX12_areInputs N x0 = some z_r → ∀ (H : Heap) (locs : List Loc) (ls : Array Slot), DB D A [] s H locs → lv_has ls 1 [(0, .int x0)] → W p l e rmX12_areInputs s m args below meth c H locs 0 0 (ZI below args s D A (tyl cI cJ cT) z_r [] 0 0) (F0 m 0 ls []) := by
  have hx := C.1.1
  have hb := C.1.2.1
  have hown := C.1.2.2.2.1
  have hts := C.1.2.2.2.2
  intro x0 h H locs ls B hl
  rw [fX12_areInputs] at h
  refine lv_iload_n hx hb dX12_areInputs_0 rfl (lv_at hl 0 rfl) ?_
  refine lv_i2l (v := (Int32.toInt64 x0)) hx hb dX12_areInputs_1 rfl ?_
  refine lv_lconst (v := 0) hx hb dX12_areInputs_2 (by decide) ?_
  refine lv_ldc2 (v := 511) hx hb hown (hts _ mX12_areInputs_l128) dX12_areInputs_3 ?_
  obtain ⟨r_1, g_3, h⟩ := ob_some h
  try dsimp only at h
  refine kc_SI C B (As := [.long (Int32.toInt64 x0), .long (0 : Int64), .long (511 : Int64)]) (rest := []) (w2 := []) (tX12_in N g_3) gX12_areInputs_X12_in rfl ⟨rfl, rfl⟩ hdX12_in ⟨Nat.le_of_ble_eq_true rfl, Nat.le_of_ble_eq_true rfl⟩ [] [] [] rfl rfl rfl rfl rfl rfl rfl rfl hl.1 rfl (Nat.le_of_ble_eq_true rfl) ⟨Nat.zero_le _, Nat.zero_le _⟩ dX12_areInputs_6 (fun H locs B => ?_)
  obtain ⟨z_2, h⟩ := bo_some h
  cases h
  exact k_zret C B z_2 dX12_areInputs_9
end
theorem tX12_areInputs {l : Launch} {D : va_G} {Es : (Nat → Nat) × (Nat → Nat)} {cI cJ cT : ClassId} {x0 : Int32} {z_r : Int32} (N : Nat) (h : fX12_areInputs N x0 = some z_r) : CtI l yX12_areInputs wsX12_areInputs rmX12_areInputs D (tyl cI cJ cT) Es [.int x0] [] z_r [] :=
  CtI.of (own := RX12) (cc := cX12_areInputs) (nL := 1) (ret := (some .boolean)) (by decide +kernel) rfl rfl (Nat.le_of_ble_eq_true rfl) rfl (fun p e s m below meth c A ls C B hl => qX12_areInputs_0 C (N := N) x0 h _ _ _ B hl)

abbrev rmX12_result : Room := { frames := 4, cells := 0, slots := 0, locals := 96 }
theorem hdX12_result : yX12_result.cls ≠ "java/lang/invoke/MethodHandle" ∧ yX12_result.cls ≠ "java/lang/invoke/VarHandle" ∧ (parseMethodDescriptor yX12_result.desc).map (fun d => d.parameters.length) = some 2 := by decide +kernel
theorem iX12_result_X12 : ∀ w ∈ wsX120, w ∈ wsX12_result := by decide +kernel
theorem gfX12_result_31 {p : Program} {l : Launch} {e : Env} {R : Room} {s : State} {m : MethodId} {args : Array Value} {below : List Frame} {meth : Method} {c : Code} {H : Heap} {locs : List Loc} {cells slots : Nat} {Q : State → Prop} {D : va_G} {A : Nat → Prop} {tys : List (ClassId × FieldType)} {Es : (Nat → Nat) × (Nat → Nat)} {ws : va_W} {pc : Nat} {ls : Array Slot} {rest : List Value} {a : Nat} (C : CT p s m args meth c RX12 cX12_result 3 (some .int) wsX12_result D A tys Es) (B : DB D A ws s H locs) (q0 : Nat) {fs : List Value} {v : Value} (he : ws[q0]? = some (a, .inr (12, fs))) (hv : fs[8]? = some v) (hdg : decode cX12_result pc = .ok (.getfield 31, 3)) (kk : W p l e R s m args below meth c H locs cells slots Q (F0 m (pc + 3) ls (v :: rest))) : W p l e R s m args below meth c H locs cells slots Q (F0 m pc ls (.ref a :: rest)) :=
  k_get (Cn := RX12) (T := TX12) (N := 25) (index := 31) C B iX12_result_X12 rfl 8 (by decide) (by decide +kernel) q0 he hv hdg kk
section
variable {p : Program} {l : Launch} {e : Env} {s : State} {m : MethodId} {args : Array Value} {below : List Frame} {meth : Method} {c : Code} {D : va_G} {A : Nat → Prop} {Es : (Nat → Nat) × (Nat → Nat)} {a b : Nat → Nat} {cI cJ cT : ClassId}
set_option maxHeartbeats 4000000 in
set_option maxRecDepth 100000 in
theorem qX12_result_0 (C : CT p s m args meth c RX12 cX12_result 3 (some .int) wsX12_result D A (tyl cI cJ cT) Es) {N : Nat} {mo_signs : Nat → Int32} {mo_signMany : Int32} {mo_nodeSign : Nat → Int32} {mo_nodeOn : Nat → Int32} {mo_nodeSize : Nat → Int32} {mo_nodeMany : Nat → Int32} {mo_due : Nat → Int32} {mo_openNode : Nat → Int32} {mo_isLaid : Int32} {mo_changes : Int32} {mo_changeNode : Nat → Int32} {mo_changeSign : Nat → Int32} {mo_differs : Nat → Int32} {mo_results : Nat → Int32} {mo_own : Nat → Int32} {mo_kinds : Nat → Int32} {mo_testInputs : Nat → Int32} {mo_testDue : Nat → Int32} {mo_tests : Int32} {mo_noticed : Nat → Int32} {mo_missed : Nat → Int32} {mo_leastFrom : Nat → Int32} {mo_blameUpper : Nat → Int32} {mo_blameLower : Nat → Int32} {z_r : Int32} {z_mo_value : Nat → Int32} : ∀ (x1 : Int32) (x2 : Int32) (mo_value : Nat → Int32), fX12_result N mo_nodeSign mo_nodeSize mo_nodeMany x1 x2 mo_value = some (z_r, z_mo_value) → ∀ (H : Heap) (locs : List Loc) (ls : Array Slot), DB D A (wd_mo a b cI cJ cT mo_signs mo_signMany mo_nodeSign mo_nodeOn mo_nodeSize mo_nodeMany mo_due mo_openNode mo_value mo_isLaid mo_changes mo_changeNode mo_changeSign mo_differs mo_results mo_own mo_kinds mo_testInputs mo_testDue mo_tests mo_noticed mo_missed mo_leastFrom mo_blameUpper mo_blameLower) s H locs → lv_has ls 3 [(0, .ref (b 0)), (1, .int x1), (2, .int x2)] → W p l e rmX12_result s m args below meth c H locs 0 0 (ZI below args s D A (tyl cI cJ cT) z_r (wd_mo a b cI cJ cT mo_signs mo_signMany mo_nodeSign mo_nodeOn mo_nodeSize mo_nodeMany mo_due mo_openNode z_mo_value mo_isLaid mo_changes mo_changeNode mo_changeSign mo_differs mo_results mo_own mo_kinds mo_testInputs mo_testDue mo_tests mo_noticed mo_missed mo_leastFrom mo_blameUpper mo_blameLower) 0 0) (F0 m 0 ls []) := by
  have hx := C.1.1
  have hb := C.1.2.1
  have hown := C.1.2.2.2.1
  have hts := C.1.2.2.2.2
  intro x1 x2 mo_value h H locs ls B hl
  rw [fX12_result] at h
  refine lv_iload_n hx hb dX12_result_0 rfl (lv_at hl 1 rfl) ?_
  refine lv_i2l (v := (Int32.toInt64 x1)) hx hb dX12_result_1 rfl ?_
  refine lv_lconst (v := 0) hx hb dX12_result_2 (by decide) ?_
  refine lv_lconst (v := 1) hx hb dX12_result_3 (by decide) ?_
  obtain ⟨r_1, g_9, h⟩ := ob_some h
  try dsimp only at h
  refine kc_SI C B (As := [.long (Int32.toInt64 x1), .long (0 : Int64), .long (1 : Int64)]) (rest := []) (w2 := (wd_mo a b cI cJ cT mo_signs mo_signMany mo_nodeSign mo_nodeOn mo_nodeSize mo_nodeMany mo_due mo_openNode mo_value mo_isLaid mo_changes mo_changeNode mo_changeSign mo_differs mo_results mo_own mo_kinds mo_testInputs mo_testDue mo_tests mo_noticed mo_missed mo_leastFrom mo_blameUpper mo_blameLower)) (tX12_in N g_9) gX12_result_X12_in rfl ⟨rfl, rfl⟩ hdX12_in ⟨Nat.le_of_ble_eq_true rfl, Nat.le_of_ble_eq_true rfl⟩ [] [0, 1, 2, 3, 4, 5, 6, 7, 8, 9, 10, 11, 12, 13, 14, 15, 16, 17, 18, 19, 20, 21] [0, 1, 2, 3, 4, 5, 6, 7, 8, 9, 10, 11, 12, 13, 14, 15, 16, 17, 18, 19, 20, 21] rfl rfl rfl rfl rfl rfl rfl rfl hl.1 rfl (Nat.le_of_ble_eq_true rfl) ⟨Nat.zero_le _, Nat.zero_le _⟩ dX12_result_4 (fun H locs B => ?_)
  refine lv_if_ne (tgt := 12) hx hb dX12_result_7 (by decide) (fun c_2 => ?_) (fun c_2 => ?_)
  · rw [if_neg c_2] at h
    refine lv_iload_n hx hb dX12_result_12 rfl (lv_at hl 2 rfl) ?_
    obtain ⟨r_3, g_8, h⟩ := ob_some h
    try dsimp only at h
    refine kc_SI C B (As := [.int x2]) (rest := []) (w2 := (wd_mo a b cI cJ cT mo_signs mo_signMany mo_nodeSign mo_nodeOn mo_nodeSize mo_nodeMany mo_due mo_openNode mo_value mo_isLaid mo_changes mo_changeNode mo_changeSign mo_differs mo_results mo_own mo_kinds mo_testInputs mo_testDue mo_tests mo_noticed mo_missed mo_leastFrom mo_blameUpper mo_blameLower)) (tX12_areInputs N g_8) gX12_result_X12_areInputs rfl ⟨rfl, rfl⟩ hdX12_areInputs ⟨Nat.le_of_ble_eq_true rfl, Nat.le_of_ble_eq_true rfl⟩ [] [0, 1, 2, 3, 4, 5, 6, 7, 8, 9, 10, 11, 12, 13, 14, 15, 16, 17, 18, 19, 20, 21] [0, 1, 2, 3, 4, 5, 6, 7, 8, 9, 10, 11, 12, 13, 14, 15, 16, 17, 18, 19, 20, 21] rfl rfl rfl rfl rfl rfl rfl rfl hl.1 rfl (Nat.le_of_ble_eq_true rfl) ⟨Nat.zero_le _, Nat.zero_le _⟩ dX12_result_13 (fun H locs B => ?_)
    refine lv_if_ne (tgt := 22) hx hb dX12_result_16 (by decide) (fun c_4 => ?_) (fun c_4 => ?_)
    · rw [if_neg c_4] at h
      refine lv_aload_n hx hb dX12_result_22 rfl (lv_at hl 0 rfl) ?_
      refine lv_iload_n hx hb dX12_result_23 rfl (lv_at hl 1 rfl) ?_
      refine lv_iload_n hx hb dX12_result_24 rfl (lv_at hl 2 rfl) ?_
      refine lv_bipush (v := -6) hx hb dX12_result_25 (by decide) ?_
      refine lv_iconst (v := 0) hx hb dX12_result_27 (by decide) ?_
      obtain ⟨mo_value_5, g_7, h⟩ := ob_some h
      try dsimp only at h
      refine kc_VV C B (q0 := 0) (ci := 12) (As := [.int x1, .int x2, .int (-6 : Int32), .int (0 : Int32)]) (rest := []) (w2 := (wd_mo a b cI cJ cT mo_signs mo_signMany mo_nodeSign mo_nodeOn mo_nodeSize mo_nodeMany mo_due mo_openNode mo_value_5 mo_isLaid mo_changes mo_changeNode mo_changeSign mo_differs mo_results mo_own mo_kinds mo_testInputs mo_testDue mo_tests mo_noticed mo_missed mo_leastFrom mo_blameUpper mo_blameLower)) (tX12_work (a := a) (b := b) N g_7) gX12_result_X12_work rfl ⟨rfl, rfl⟩ ⟨rfl, hdX12_work⟩ ⟨Nat.le_of_ble_eq_true rfl, Nat.le_of_ble_eq_true rfl⟩ rfl rfl [0, 1, 2, 3, 4, 5, 6, 7, 8, 9, 10, 11, 12, 13, 14, 15, 16, 17, 18, 19, 20, 21] [] [0, 1, 2, 3, 4, 5, 6, 7, 8, 9, 10, 11, 12, 13, 14, 15, 16, 17, 18, 19, 20, 21] rfl rfl rfl rfl rfl rfl rfl rfl hl.1 rfl (Nat.le_of_ble_eq_true rfl) ⟨Nat.zero_le _, Nat.zero_le _⟩ dX12_result_28 (fun H locs B => ?_)
      refine lv_aload_n hx hb dX12_result_31 rfl (lv_at hl 0 rfl) ?_
      refine gfX12_result_31 C B 0 rfl rfl dX12_result_32 ?_
      refine lv_iconst (v := 0) hx hb dX12_result_35 (by decide) ?_
      refine k_iald C B 8 0 rfl rfl (vp_lit (by decide)) dX12_result_36 ?_
      cases h
      exact k_iret C B dX12_result_37
    · rw [if_pos c_4] at h
      refine lv_bipush (v := -2) hx hb dX12_result_19 (by decide) ?_
      cases h
      exact k_iret C B dX12_result_21
  · rw [if_pos c_2] at h
    refine lv_iconst (v := -1) hx hb dX12_result_10 (by decide) ?_
    cases h
    exact k_iret C B dX12_result_11
end
theorem tX12_result {l : Launch} {D : va_G} {Es : (Nat → Nat) × (Nat → Nat)} {a b : Nat → Nat} {cI cJ cT : ClassId} {mo_signs : Nat → Int32} {mo_signMany : Int32} {mo_nodeSign : Nat → Int32} {mo_nodeOn : Nat → Int32} {mo_nodeSize : Nat → Int32} {mo_nodeMany : Nat → Int32} {mo_due : Nat → Int32} {mo_openNode : Nat → Int32} {mo_value : Nat → Int32} {mo_isLaid : Int32} {mo_changes : Int32} {mo_changeNode : Nat → Int32} {mo_changeSign : Nat → Int32} {mo_differs : Nat → Int32} {mo_results : Nat → Int32} {mo_own : Nat → Int32} {mo_kinds : Nat → Int32} {mo_testInputs : Nat → Int32} {mo_testDue : Nat → Int32} {mo_tests : Int32} {mo_noticed : Nat → Int32} {mo_missed : Nat → Int32} {mo_leastFrom : Nat → Int32} {mo_blameUpper : Nat → Int32} {mo_blameLower : Nat → Int32} {x1 : Int32} {x2 : Int32} {z_r : Int32} {z_mo_value : Nat → Int32} (N : Nat) (h : fX12_result N mo_nodeSign mo_nodeSize mo_nodeMany x1 x2 mo_value = some (z_r, z_mo_value)) : CtI l yX12_result wsX12_result rmX12_result D (tyl cI cJ cT) Es [.ref (b 0), .int x1, .int x2] (wd_mo a b cI cJ cT mo_signs mo_signMany mo_nodeSign mo_nodeOn mo_nodeSize mo_nodeMany mo_due mo_openNode mo_value mo_isLaid mo_changes mo_changeNode mo_changeSign mo_differs mo_results mo_own mo_kinds mo_testInputs mo_testDue mo_tests mo_noticed mo_missed mo_leastFrom mo_blameUpper mo_blameLower) z_r (wd_mo a b cI cJ cT mo_signs mo_signMany mo_nodeSign mo_nodeOn mo_nodeSize mo_nodeMany mo_due mo_openNode z_mo_value mo_isLaid mo_changes mo_changeNode mo_changeSign mo_differs mo_results mo_own mo_kinds mo_testInputs mo_testDue mo_tests mo_noticed mo_missed mo_leastFrom mo_blameUpper mo_blameLower) :=
  CtI.of (own := RX12) (cc := cX12_result) (nL := 3) (ret := (some .int)) (by decide +kernel) rfl rfl (Nat.le_of_ble_eq_true rfl) rfl (fun p e s m below meth c A ls C B hl => qX12_result_0 C (N := N) x1 x2 mo_value h _ _ _ B hl)

abbrev rmX12_runsOf : Room := { frames := 4, cells := 0, slots := 0, locals := 96 }
theorem hdX12_runsOf : yX12_runsOf.cls ≠ "java/lang/invoke/MethodHandle" ∧ yX12_runsOf.cls ≠ "java/lang/invoke/VarHandle" ∧ (parseMethodDescriptor yX12_runsOf.desc).map (fun d => d.parameters.length) = some 2 := by decide +kernel
theorem iX12_runsOf_X12 : ∀ w ∈ wsX120, w ∈ wsX12_runsOf := by decide +kernel
theorem gfX12_runsOf_13 {p : Program} {l : Launch} {e : Env} {R : Room} {s : State} {m : MethodId} {args : Array Value} {below : List Frame} {meth : Method} {c : Code} {H : Heap} {locs : List Loc} {cells slots : Nat} {Q : State → Prop} {D : va_G} {A : Nat → Prop} {tys : List (ClassId × FieldType)} {Es : (Nat → Nat) × (Nat → Nat)} {ws : va_W} {pc : Nat} {ls : Array Slot} {rest : List Value} {a : Nat} (C : CT p s m args meth c RX12 cX12_runsOf 10 (some .int) wsX12_runsOf D A tys Es) (B : DB D A ws s H locs) (q0 : Nat) {fs : List Value} {v : Value} (he : ws[q0]? = some (a, .inr (12, fs))) (hv : fs[2]? = some v) (hdg : decode cX12_runsOf pc = .ok (.getfield 13, 3)) (kk : W p l e R s m args below meth c H locs cells slots Q (F0 m (pc + 3) ls (v :: rest))) : W p l e R s m args below meth c H locs cells slots Q (F0 m pc ls (.ref a :: rest)) :=
  k_get (Cn := RX12) (T := TX12) (N := 25) (index := 13) C B iX12_runsOf_X12 rfl 2 (by decide) (by decide +kernel) q0 he hv hdg kk
theorem gfX12_runsOf_31 {p : Program} {l : Launch} {e : Env} {R : Room} {s : State} {m : MethodId} {args : Array Value} {below : List Frame} {meth : Method} {c : Code} {H : Heap} {locs : List Loc} {cells slots : Nat} {Q : State → Prop} {D : va_G} {A : Nat → Prop} {tys : List (ClassId × FieldType)} {Es : (Nat → Nat) × (Nat → Nat)} {ws : va_W} {pc : Nat} {ls : Array Slot} {rest : List Value} {a : Nat} (C : CT p s m args meth c RX12 cX12_runsOf 10 (some .int) wsX12_runsOf D A tys Es) (B : DB D A ws s H locs) (q0 : Nat) {fs : List Value} {v : Value} (he : ws[q0]? = some (a, .inr (12, fs))) (hv : fs[8]? = some v) (hdg : decode cX12_runsOf pc = .ok (.getfield 31, 3)) (kk : W p l e R s m args below meth c H locs cells slots Q (F0 m (pc + 3) ls (v :: rest))) : W p l e R s m args below meth c H locs cells slots Q (F0 m pc ls (.ref a :: rest)) :=
  k_get (Cn := RX12) (T := TX12) (N := 25) (index := 31) C B iX12_runsOf_X12 rfl 8 (by decide) (by decide +kernel) q0 he hv hdg kk
theorem gfX12_runsOf_19 {p : Program} {l : Launch} {e : Env} {R : Room} {s : State} {m : MethodId} {args : Array Value} {below : List Frame} {meth : Method} {c : Code} {H : Heap} {locs : List Loc} {cells slots : Nat} {Q : State → Prop} {D : va_G} {A : Nat → Prop} {tys : List (ClassId × FieldType)} {Es : (Nat → Nat) × (Nat → Nat)} {ws : va_W} {pc : Nat} {ls : Array Slot} {rest : List Value} {a : Nat} (C : CT p s m args meth c RX12 cX12_runsOf 10 (some .int) wsX12_runsOf D A tys Es) (B : DB D A ws s H locs) (q0 : Nat) {fs : List Value} {v : Value} (he : ws[q0]? = some (a, .inr (12, fs))) (hv : fs[4]? = some v) (hdg : decode cX12_runsOf pc = .ok (.getfield 19, 3)) (kk : W p l e R s m args below meth c H locs cells slots Q (F0 m (pc + 3) ls (v :: rest))) : W p l e R s m args below meth c H locs cells slots Q (F0 m pc ls (.ref a :: rest)) :=
  k_get (Cn := RX12) (T := TX12) (N := 25) (index := 19) C B iX12_runsOf_X12 rfl 4 (by decide) (by decide +kernel) q0 he hv hdg kk
theorem gfX12_runsOf_22 {p : Program} {l : Launch} {e : Env} {R : Room} {s : State} {m : MethodId} {args : Array Value} {below : List Frame} {meth : Method} {c : Code} {H : Heap} {locs : List Loc} {cells slots : Nat} {Q : State → Prop} {D : va_G} {A : Nat → Prop} {tys : List (ClassId × FieldType)} {Es : (Nat → Nat) × (Nat → Nat)} {ws : va_W} {pc : Nat} {ls : Array Slot} {rest : List Value} {a : Nat} (C : CT p s m args meth c RX12 cX12_runsOf 10 (some .int) wsX12_runsOf D A tys Es) (B : DB D A ws s H locs) (q0 : Nat) {fs : List Value} {v : Value} (he : ws[q0]? = some (a, .inr (12, fs))) (hv : fs[5]? = some v) (hdg : decode cX12_runsOf pc = .ok (.getfield 22, 3)) (kk : W p l e R s m args below meth c H locs cells slots Q (F0 m (pc + 3) ls (v :: rest))) : W p l e R s m args below meth c H locs cells slots Q (F0 m pc ls (.ref a :: rest)) :=
  k_get (Cn := RX12) (T := TX12) (N := 25) (index := 22) C B iX12_runsOf_X12 rfl 5 (by decide) (by decide +kernel) q0 he hv hdg kk
section
variable {p : Program} {l : Launch} {e : Env} {s : State} {m : MethodId} {args : Array Value} {below : List Frame} {meth : Method} {c : Code} {D : va_G} {A : Nat → Prop} {Es : (Nat → Nat) × (Nat → Nat)} {a b : Nat → Nat} {cI cJ cT : ClassId}
set_option maxHeartbeats 4000000 in
set_option maxRecDepth 100000 in
theorem qX12_runsOf_129 (C : CT p s m args meth c RX12 cX12_runsOf 10 (some .int) wsX12_runsOf D A (tyl cI cJ cT) Es) {N : Nat} {mo_signs : Nat → Int32} {mo_signMany : Int32} {mo_nodeSign : Nat → Int32} {mo_nodeOn : Nat → Int32} {mo_nodeSize : Nat → Int32} {mo_nodeMany : Nat → Int32} {mo_due : Nat → Int32} {mo_openNode : Nat → Int32} {mo_isLaid : Int32} {mo_changes : Int32} {mo_changeNode : Nat → Int32} {mo_changeSign : Nat → Int32} {mo_differs : Nat → Int32} {mo_results : Nat → Int32} {mo_own : Nat → Int32} {mo_kinds : Nat → Int32} {mo_testInputs : Nat → Int32} {mo_testDue : Nat → Int32} {mo_tests : Int32} {mo_noticed : Nat → Int32} {mo_missed : Nat → Int32} {mo_leastFrom : Nat → Int32} {mo_blameUpper : Nat → Int32} {mo_blameLower : Nat → Int32} {z_r : Int32} {z_mo_value : Nat → Int32} {k20 : Int32 → Int32 → Int32 → Int32 → (Nat → Int32) → Option (Int32 × (Nat → Int32))} (hk20 : ∀ (x1 : Int32) (x3 : Int32) (x4 : Int32) (x5 : Int32) (mo_value : Nat → Int32), k20 x1 x3 x4 x5 mo_value = some (z_r, z_mo_value) → ∀ (H : Heap) (locs : List Loc) (ls : Array Slot), DB D A (wd_mo a b cI cJ cT mo_signs mo_signMany mo_nodeSign mo_nodeOn mo_nodeSize mo_nodeMany mo_due mo_openNode mo_value mo_isLaid mo_changes mo_changeNode mo_changeSign mo_differs mo_results mo_own mo_kinds mo_testInputs mo_testDue mo_tests mo_noticed mo_missed mo_leastFrom mo_blameUpper mo_blameLower) s H locs → lv_has ls 10 [(0, .ref (b 0)), (1, .int x1), (3, .int x3), (4, .int x4), (5, .int x5)] → W p l e rmX12_runsOf s m args below meth c H locs 0 0 (ZI below args s D A (tyl cI cJ cT) z_r (wd_mo a b cI cJ cT mo_signs mo_signMany mo_nodeSign mo_nodeOn mo_nodeSize mo_nodeMany mo_due mo_openNode z_mo_value mo_isLaid mo_changes mo_changeNode mo_changeSign mo_differs mo_results mo_own mo_kinds mo_testInputs mo_testDue mo_tests mo_noticed mo_missed mo_leastFrom mo_blameUpper mo_blameLower) 0 0) (F0 m 20 ls [])) : ∀ (x1 : Int32) (x3 : Int32) (x4 : Int32) (x5 : Int32) (x7 : Int32) (x8 : Int32) (x9 : Int32) (mo_value : Nat → Int32), bX12_runsOf_129 N mo_nodeSign mo_nodeSize mo_nodeMany k20 x1 x3 x4 x5 x7 x8 x9 mo_value = some (z_r, z_mo_value) → ∀ (H : Heap) (locs : List Loc) (ls : Array Slot), DB D A (wd_mo a b cI cJ cT mo_signs mo_signMany mo_nodeSign mo_nodeOn mo_nodeSize mo_nodeMany mo_due mo_openNode mo_value mo_isLaid mo_changes mo_changeNode mo_changeSign mo_differs mo_results mo_own mo_kinds mo_testInputs mo_testDue mo_tests mo_noticed mo_missed mo_leastFrom mo_blameUpper mo_blameLower) s H locs → lv_has ls 10 [(0, .ref (b 0)), (1, .int x1), (3, .int x3), (4, .int x4), (5, .int x5), (7, .int x7), (8, .int x8), (9, .int x9)] → W p l e rmX12_runsOf s m args below meth c H locs 0 0 (ZI below args s D A (tyl cI cJ cT) z_r (wd_mo a b cI cJ cT mo_signs mo_signMany mo_nodeSign mo_nodeOn mo_nodeSize mo_nodeMany mo_due mo_openNode z_mo_value mo_isLaid mo_changes mo_changeNode mo_changeSign mo_differs mo_results mo_own mo_kinds mo_testInputs mo_testDue mo_tests mo_noticed mo_missed mo_leastFrom mo_blameUpper mo_blameLower) 0 0) (F0 m 129 ls []) := by
  have hx := C.1.1
  have hb := C.1.2.1
  have hown := C.1.2.2.2.1
  have hts := C.1.2.2.2.2
  intro x1 x3 x4 x5 x7 x8 x9 mo_value h H locs ls B hl
  rw [bX12_runsOf_129] at h
  refine lv_iload hx hb dX12_runsOf_129 (lv_at hl 3 rfl) ?_
  refine lv_iconst (v := 1) hx hb dX12_runsOf_131 (by decide) ?_
  refine lv_aload_n hx hb dX12_runsOf_132 rfl (lv_at hl 0 rfl) ?_
  refine gfX12_runsOf_13 C B 0 rfl rfl dX12_runsOf_133 ?_
  refine lv_iload_n hx hb dX12_runsOf_136 rfl (lv_at hl 2 rfl) ?_
  refine lv_iload hx hb dX12_runsOf_137 (lv_at hl 4 rfl) ?_
  refine lv_iadd hx hb dX12_runsOf_139 ?_
  obtain ⟨b_1, h⟩ := bnd_some h
  refine k_iald C B 2 0 rfl rfl b_1 dX12_runsOf_140 ?_
  refine lv_aload_n hx hb dX12_runsOf_141 rfl (lv_at hl 0 rfl) ?_
  refine gfX12_runsOf_31 C B 0 rfl rfl dX12_runsOf_142 ?_
  refine lv_iload hx hb dX12_runsOf_145 (lv_at hl 4 rfl) ?_
  refine lv_iconst (v := 1) hx hb dX12_runsOf_147 (by decide) ?_
  refine lv_iadd hx hb dX12_runsOf_148 ?_
  obtain ⟨b_2, h⟩ := bnd_some h
  refine k_iald C B 8 0 rfl rfl b_2 dX12_runsOf_149 ?_
  refine lv_aload_n hx hb dX12_runsOf_150 rfl (lv_at hl 0 rfl) ?_
  refine gfX12_runsOf_31 C B 0 rfl rfl dX12_runsOf_151 ?_
  refine lv_iload hx hb dX12_runsOf_154 (lv_at hl 5 rfl) ?_
  obtain ⟨b_3, h⟩ := bnd_some h
  refine k_iald C B 8 0 rfl rfl b_3 dX12_runsOf_156 ?_
  obtain ⟨r_4, g_6, h⟩ := ob_some h
  try dsimp only at h
  refine kc_SI C B (As := [.int (mo_nodeSign (Int32.toNatClampNeg (x3 + x5))), .int (mo_value (Int32.toNatClampNeg (x5 + (1 : Int32)))), .int (mo_value (Int32.toNatClampNeg x7))]) (rest := [.int (1 : Int32), .int x4]) (w2 := (wd_mo a b cI cJ cT mo_signs mo_signMany mo_nodeSign mo_nodeOn mo_nodeSize mo_nodeMany mo_due mo_openNode mo_value mo_isLaid mo_changes mo_changeNode mo_changeSign mo_differs mo_results mo_own mo_kinds mo_testInputs mo_testDue mo_tests mo_noticed mo_missed mo_leastFrom mo_blameUpper mo_blameLower)) (tX12_stands N g_6) gX12_runsOf_X12_stands rfl ⟨rfl, rfl⟩ hdX12_stands ⟨Nat.le_of_ble_eq_true rfl, Nat.le_of_ble_eq_true rfl⟩ [] [0, 1, 2, 3, 4, 5, 6, 7, 8, 9, 10, 11, 12, 13, 14, 15, 16, 17, 18, 19, 20, 21] [0, 1, 2, 3, 4, 5, 6, 7, 8, 9, 10, 11, 12, 13, 14, 15, 16, 17, 18, 19, 20, 21] rfl rfl rfl rfl rfl rfl rfl rfl hl.1 rfl (Nat.le_of_ble_eq_true rfl) ⟨Nat.zero_le _, Nat.zero_le _⟩ dX12_runsOf_157 (fun H locs B => ?_)
  refine lv_if_eq (tgt := 168) hx hb dX12_runsOf_160 (by decide) (fun c_5 => ?_) (fun c_5 => ?_)
  · rw [if_pos c_5] at h
    refine lv_iload hx hb dX12_runsOf_168 (lv_at hl 7 rfl) ?_
    refine lv_ishl hx hb dX12_runsOf_170 ?_
    refine lv_ior hx hb dX12_runsOf_171 ?_
    refine lv_istore (lv' := [(4, .int (x4 ||| ((1 : Int32) <<< (x9 &&& 31)))), (0, .ref (b 0)), (1, .int x1), (3, .int x3), (5, .int x5), (7, .int x7), (8, .int x8), (9, .int x9)]) hx hb dX12_runsOf_172 hl (by decide) rfl (fun ls hl => ?_)
    refine lv_iinc (v := (x5 + 1)) (lv' := [(5, .int (x5 + 1)), (4, .int (x4 ||| ((1 : Int32) <<< (x9 &&& 31)))), (0, .ref (b 0)), (1, .int x1), (3, .int x3), (7, .int x7), (8, .int x8), (9, .int x9)]) hx hb dX12_runsOf_174 hl (k := 4) rfl rfl (by decide) rfl (fun ls hl => ?_)
    refine lv_goto (tgt := 20) hx hb dX12_runsOf_177 (by decide) ?_
    exact hk20 x1 x3 (x4 ||| ((1 : Int32) <<< (x9 &&& 31))) (x5 + 1) mo_value h H locs ls B (lv_sub hl [2, 3, 4, 1, 0] rfl)
  · rw [if_neg c_5] at h
    refine lv_iload hx hb dX12_runsOf_163 (lv_at hl 6 rfl) ?_
    refine lv_goto (tgt := 170) hx hb dX12_runsOf_165 (by decide) ?_
    refine lv_ishl hx hb dX12_runsOf_170 ?_
    refine lv_ior hx hb dX12_runsOf_171 ?_
    refine lv_istore (lv' := [(4, .int (x4 ||| ((1 : Int32) <<< (x8 &&& 31)))), (0, .ref (b 0)), (1, .int x1), (3, .int x3), (5, .int x5), (7, .int x7), (8, .int x8), (9, .int x9)]) hx hb dX12_runsOf_172 hl (by decide) rfl (fun ls hl => ?_)
    refine lv_iinc (v := (x5 + 1)) (lv' := [(5, .int (x5 + 1)), (4, .int (x4 ||| ((1 : Int32) <<< (x8 &&& 31)))), (0, .ref (b 0)), (1, .int x1), (3, .int x3), (7, .int x7), (8, .int x8), (9, .int x9)]) hx hb dX12_runsOf_174 hl (k := 4) rfl rfl (by decide) rfl (fun ls hl => ?_)
    refine lv_goto (tgt := 20) hx hb dX12_runsOf_177 (by decide) ?_
    exact hk20 x1 x3 (x4 ||| ((1 : Int32) <<< (x8 &&& 31))) (x5 + 1) mo_value h H locs ls B (lv_sub hl [2, 3, 4, 1, 0] rfl)
set_option maxHeartbeats 4000000 in
set_option maxRecDepth 100000 in
theorem qX12_runsOf_115 (C : CT p s m args meth c RX12 cX12_runsOf 10 (some .int) wsX12_runsOf D A (tyl cI cJ cT) Es) {N : Nat} {mo_signs : Nat → Int32} {mo_signMany : Int32} {mo_nodeSign : Nat → Int32} {mo_nodeOn : Nat → Int32} {mo_nodeSize : Nat → Int32} {mo_nodeMany : Nat → Int32} {mo_due : Nat → Int32} {mo_openNode : Nat → Int32} {mo_isLaid : Int32} {mo_changes : Int32} {mo_changeNode : Nat → Int32} {mo_changeSign : Nat → Int32} {mo_differs : Nat → Int32} {mo_results : Nat → Int32} {mo_own : Nat → Int32} {mo_kinds : Nat → Int32} {mo_testInputs : Nat → Int32} {mo_testDue : Nat → Int32} {mo_tests : Int32} {mo_noticed : Nat → Int32} {mo_missed : Nat → Int32} {mo_leastFrom : Nat → Int32} {mo_blameUpper : Nat → Int32} {mo_blameLower : Nat → Int32} {z_r : Int32} {z_mo_value : Nat → Int32} {k20 : Int32 → Int32 → Int32 → Int32 → (Nat → Int32) → Option (Int32 × (Nat → Int32))} (hk20 : ∀ (x1 : Int32) (x3 : Int32) (x4 : Int32) (x5 : Int32) (mo_value : Nat → Int32), k20 x1 x3 x4 x5 mo_value = some (z_r, z_mo_value) → ∀ (H : Heap) (locs : List Loc) (ls : Array Slot), DB D A (wd_mo a b cI cJ cT mo_signs mo_signMany mo_nodeSign mo_nodeOn mo_nodeSize mo_nodeMany mo_due mo_openNode mo_value mo_isLaid mo_changes mo_changeNode mo_changeSign mo_differs mo_results mo_own mo_kinds mo_testInputs mo_testDue mo_tests mo_noticed mo_missed mo_leastFrom mo_blameUpper mo_blameLower) s H locs → lv_has ls 10 [(0, .ref (b 0)), (1, .int x1), (3, .int x3), (4, .int x4), (5, .int x5)] → W p l e rmX12_runsOf s m args below meth c H locs 0 0 (ZI below args s D A (tyl cI cJ cT) z_r (wd_mo a b cI cJ cT mo_signs mo_signMany mo_nodeSign mo_nodeOn mo_nodeSize mo_nodeMany mo_due mo_openNode z_mo_value mo_isLaid mo_changes mo_changeNode mo_changeSign mo_differs mo_results mo_own mo_kinds mo_testInputs mo_testDue mo_tests mo_noticed mo_missed mo_leastFrom mo_blameUpper mo_blameLower) 0 0) (F0 m 20 ls [])) : ∀ (x1 : Int32) (x3 : Int32) (x4 : Int32) (x5 : Int32) (x7 : Int32) (x8 : Int32) (mo_value : Nat → Int32), bX12_runsOf_115 N mo_nodeSign mo_nodeSize mo_nodeMany k20 x1 x3 x4 x5 x7 x8 mo_value = some (z_r, z_mo_value) → ∀ (H : Heap) (locs : List Loc) (ls : Array Slot), DB D A (wd_mo a b cI cJ cT mo_signs mo_signMany mo_nodeSign mo_nodeOn mo_nodeSize mo_nodeMany mo_due mo_openNode mo_value mo_isLaid mo_changes mo_changeNode mo_changeSign mo_differs mo_results mo_own mo_kinds mo_testInputs mo_testDue mo_tests mo_noticed mo_missed mo_leastFrom mo_blameUpper mo_blameLower) s H locs → lv_has ls 10 [(0, .ref (b 0)), (1, .int x1), (3, .int x3), (4, .int x4), (5, .int x5), (7, .int x7), (8, .int x8)] → W p l e rmX12_runsOf s m args below meth c H locs 0 0 (ZI below args s D A (tyl cI cJ cT) z_r (wd_mo a b cI cJ cT mo_signs mo_signMany mo_nodeSign mo_nodeOn mo_nodeSize mo_nodeMany mo_due mo_openNode z_mo_value mo_isLaid mo_changes mo_changeNode mo_changeSign mo_differs mo_results mo_own mo_kinds mo_testInputs mo_testDue mo_tests mo_noticed mo_missed mo_leastFrom mo_blameUpper mo_blameLower) 0 0) (F0 m 115 ls []) := by
  have hx := C.1.1
  have hb := C.1.2.1
  have hown := C.1.2.2.2.1
  have hts := C.1.2.2.2.2
  intro x1 x3 x4 x5 x7 x8 mo_value h H locs ls B hl
  rw [bX12_runsOf_115] at h
  refine lv_iload hx hb dX12_runsOf_115 (lv_at hl 6 rfl) ?_
  refine lv_aload_n hx hb dX12_runsOf_117 rfl (lv_at hl 0 rfl) ?_
  refine gfX12_runsOf_19 C B 0 rfl rfl dX12_runsOf_118 ?_
  refine lv_iload_n hx hb dX12_runsOf_121 rfl (lv_at hl 2 rfl) ?_
  refine lv_iload hx hb dX12_runsOf_122 (lv_at hl 6 rfl) ?_
  refine lv_iadd hx hb dX12_runsOf_124 ?_
  obtain ⟨b_1, h⟩ := bnd_some h
  refine k_iald C B 4 0 rfl rfl b_1 dX12_runsOf_125 ?_
  refine lv_iadd hx hb dX12_runsOf_126 ?_
  refine lv_istore (lv' := [(9, .int (x8 + (mo_nodeSize (Int32.toNatClampNeg (x3 + x8))))), (0, .ref (b 0)), (1, .int x1), (3, .int x3), (4, .int x4), (5, .int x5), (7, .int x7), (8, .int x8)]) hx hb dX12_runsOf_127 hl (by decide) rfl (fun ls hl => ?_)
  exact qX12_runsOf_129 C hk20 x1 x3 x4 x5 x7 x8 (x8 + (mo_nodeSize (Int32.toNatClampNeg (x3 + x8)))) mo_value h H locs ls B (lv_sub hl [1, 2, 3, 4, 5, 6, 7, 0] rfl)
set_option maxHeartbeats 4000000 in
set_option maxRecDepth 100000 in
theorem qX12_runsOf_95 (C : CT p s m args meth c RX12 cX12_runsOf 10 (some .int) wsX12_runsOf D A (tyl cI cJ cT) Es) {N : Nat} {mo_signs : Nat → Int32} {mo_signMany : Int32} {mo_nodeSign : Nat → Int32} {mo_nodeOn : Nat → Int32} {mo_nodeSize : Nat → Int32} {mo_nodeMany : Nat → Int32} {mo_due : Nat → Int32} {mo_openNode : Nat → Int32} {mo_isLaid : Int32} {mo_changes : Int32} {mo_changeNode : Nat → Int32} {mo_changeSign : Nat → Int32} {mo_differs : Nat → Int32} {mo_results : Nat → Int32} {mo_own : Nat → Int32} {mo_kinds : Nat → Int32} {mo_testInputs : Nat → Int32} {mo_testDue : Nat → Int32} {mo_tests : Int32} {mo_noticed : Nat → Int32} {mo_missed : Nat → Int32} {mo_leastFrom : Nat → Int32} {mo_blameUpper : Nat → Int32} {mo_blameLower : Nat → Int32} {z_r : Int32} {z_mo_value : Nat → Int32} {k20 : Int32 → Int32 → Int32 → Int32 → (Nat → Int32) → Option (Int32 × (Nat → Int32))} (hk20 : ∀ (x1 : Int32) (x3 : Int32) (x4 : Int32) (x5 : Int32) (mo_value : Nat → Int32), k20 x1 x3 x4 x5 mo_value = some (z_r, z_mo_value) → ∀ (H : Heap) (locs : List Loc) (ls : Array Slot), DB D A (wd_mo a b cI cJ cT mo_signs mo_signMany mo_nodeSign mo_nodeOn mo_nodeSize mo_nodeMany mo_due mo_openNode mo_value mo_isLaid mo_changes mo_changeNode mo_changeSign mo_differs mo_results mo_own mo_kinds mo_testInputs mo_testDue mo_tests mo_noticed mo_missed mo_leastFrom mo_blameUpper mo_blameLower) s H locs → lv_has ls 10 [(0, .ref (b 0)), (1, .int x1), (3, .int x3), (4, .int x4), (5, .int x5)] → W p l e rmX12_runsOf s m args below meth c H locs 0 0 (ZI below args s D A (tyl cI cJ cT) z_r (wd_mo a b cI cJ cT mo_signs mo_signMany mo_nodeSign mo_nodeOn mo_nodeSize mo_nodeMany mo_due mo_openNode z_mo_value mo_isLaid mo_changes mo_changeNode mo_changeSign mo_differs mo_results mo_own mo_kinds mo_testInputs mo_testDue mo_tests mo_noticed mo_missed mo_leastFrom mo_blameUpper mo_blameLower) 0 0) (F0 m 20 ls [])) : ∀ (x1 : Int32) (x3 : Int32) (x4 : Int32) (x5 : Int32) (x6 : Int32) (x7 : Int32) (mo_value : Nat → Int32), bX12_runsOf_95 N mo_nodeSign mo_nodeSize mo_nodeMany k20 x1 x3 x4 x5 x6 x7 mo_value = some (z_r, z_mo_value) → ∀ (H : Heap) (locs : List Loc) (ls : Array Slot), DB D A (wd_mo a b cI cJ cT mo_signs mo_signMany mo_nodeSign mo_nodeOn mo_nodeSize mo_nodeMany mo_due mo_openNode mo_value mo_isLaid mo_changes mo_changeNode mo_changeSign mo_differs mo_results mo_own mo_kinds mo_testInputs mo_testDue mo_tests mo_noticed mo_missed mo_leastFrom mo_blameUpper mo_blameLower) s H locs → lv_has ls 10 [(0, .ref (b 0)), (1, .int x1), (3, .int x3), (4, .int x4), (5, .int x5), (6, .int x6), (7, .int x7)] → W p l e rmX12_runsOf s m args below meth c H locs 0 0 (ZI below args s D A (tyl cI cJ cT) z_r (wd_mo a b cI cJ cT mo_signs mo_signMany mo_nodeSign mo_nodeOn mo_nodeSize mo_nodeMany mo_due mo_openNode z_mo_value mo_isLaid mo_changes mo_changeNode mo_changeSign mo_differs mo_results mo_own mo_kinds mo_testInputs mo_testDue mo_tests mo_noticed mo_missed mo_leastFrom mo_blameUpper mo_blameLower) 0 0) (F0 m 95 ls []) := by
  have hx := C.1.1
  have hb := C.1.2.1
  have hown := C.1.2.2.2.1
  have hts := C.1.2.2.2.2
  intro x1 x3 x4 x5 x6 x7 mo_value h H locs ls B hl
  rw [bX12_runsOf_95] at h
  refine lv_iload hx hb dX12_runsOf_95 (lv_at hl 5 rfl) ?_
  refine lv_iconst (v := 4) hx hb dX12_runsOf_97 (by decide) ?_
  refine lv_icmp_ne (tgt := 174) hx hb dX12_runsOf_98 (by decide) (fun c_1 => ?_) (fun c_1 => ?_)
  · rw [if_neg c_1] at h
    refine lv_iinc (v := (x5 + 1)) (lv' := [(5, .int (x5 + 1)), (0, .ref (b 0)), (1, .int x1), (3, .int x3), (4, .int x4), (6, .int x6), (7, .int x7)]) hx hb dX12_runsOf_174 hl (k := 4) rfl rfl (by decide) rfl (fun ls hl => ?_)
    refine lv_goto (tgt := 20) hx hb dX12_runsOf_177 (by decide) ?_
    exact hk20 x1 x3 x4 (x5 + 1) mo_value h H locs ls B (lv_sub hl [1, 2, 3, 4, 0] rfl)
  · rw [if_pos c_1] at h
    refine lv_iload hx hb dX12_runsOf_101 (lv_at hl 6 rfl) ?_
    refine lv_aload_n hx hb dX12_runsOf_103 rfl (lv_at hl 0 rfl) ?_
    refine gfX12_runsOf_19 C B 0 rfl rfl dX12_runsOf_104 ?_
    refine lv_iload_n hx hb dX12_runsOf_107 rfl (lv_at hl 2 rfl) ?_
    refine lv_iload hx hb dX12_runsOf_108 (lv_at hl 6 rfl) ?_
    refine lv_iadd hx hb dX12_runsOf_110 ?_
    obtain ⟨b_2, h⟩ := bnd_some h
    refine k_iald C B 4 0 rfl rfl b_2 dX12_runsOf_111 ?_
    refine lv_iadd hx hb dX12_runsOf_112 ?_
    refine lv_istore (lv' := [(8, .int (x7 + (mo_nodeSize (Int32.toNatClampNeg (x3 + x7))))), (0, .ref (b 0)), (1, .int x1), (3, .int x3), (4, .int x4), (5, .int x5), (6, .int x6), (7, .int x7)]) hx hb dX12_runsOf_113 hl (by decide) rfl (fun ls hl => ?_)
    exact qX12_runsOf_115 C hk20 x1 x3 x4 x5 x7 (x7 + (mo_nodeSize (Int32.toNatClampNeg (x3 + x7)))) mo_value h H locs ls B (lv_sub hl [1, 2, 3, 4, 5, 7, 0] rfl)
set_option maxHeartbeats 4000000 in
set_option maxRecDepth 100000 in
theorem qX12_runsOf_79 (C : CT p s m args meth c RX12 cX12_runsOf 10 (some .int) wsX12_runsOf D A (tyl cI cJ cT) Es) {N : Nat} {mo_signs : Nat → Int32} {mo_signMany : Int32} {mo_nodeSign : Nat → Int32} {mo_nodeOn : Nat → Int32} {mo_nodeSize : Nat → Int32} {mo_nodeMany : Nat → Int32} {mo_due : Nat → Int32} {mo_openNode : Nat → Int32} {mo_isLaid : Int32} {mo_changes : Int32} {mo_changeNode : Nat → Int32} {mo_changeSign : Nat → Int32} {mo_differs : Nat → Int32} {mo_results : Nat → Int32} {mo_own : Nat → Int32} {mo_kinds : Nat → Int32} {mo_testInputs : Nat → Int32} {mo_testDue : Nat → Int32} {mo_tests : Int32} {mo_noticed : Nat → Int32} {mo_missed : Nat → Int32} {mo_leastFrom : Nat → Int32} {mo_blameUpper : Nat → Int32} {mo_blameLower : Nat → Int32} {z_r : Int32} {z_mo_value : Nat → Int32} {k20 : Int32 → Int32 → Int32 → Int32 → (Nat → Int32) → Option (Int32 × (Nat → Int32))} (hk20 : ∀ (x1 : Int32) (x3 : Int32) (x4 : Int32) (x5 : Int32) (mo_value : Nat → Int32), k20 x1 x3 x4 x5 mo_value = some (z_r, z_mo_value) → ∀ (H : Heap) (locs : List Loc) (ls : Array Slot), DB D A (wd_mo a b cI cJ cT mo_signs mo_signMany mo_nodeSign mo_nodeOn mo_nodeSize mo_nodeMany mo_due mo_openNode mo_value mo_isLaid mo_changes mo_changeNode mo_changeSign mo_differs mo_results mo_own mo_kinds mo_testInputs mo_testDue mo_tests mo_noticed mo_missed mo_leastFrom mo_blameUpper mo_blameLower) s H locs → lv_has ls 10 [(0, .ref (b 0)), (1, .int x1), (3, .int x3), (4, .int x4), (5, .int x5)] → W p l e rmX12_runsOf s m args below meth c H locs 0 0 (ZI below args s D A (tyl cI cJ cT) z_r (wd_mo a b cI cJ cT mo_signs mo_signMany mo_nodeSign mo_nodeOn mo_nodeSize mo_nodeMany mo_due mo_openNode z_mo_value mo_isLaid mo_changes mo_changeNode mo_changeSign mo_differs mo_results mo_own mo_kinds mo_testInputs mo_testDue mo_tests mo_noticed mo_missed mo_leastFrom mo_blameUpper mo_blameLower) 0 0) (F0 m 20 ls [])) : ∀ (x1 : Int32) (x3 : Int32) (x4 : Int32) (x5 : Int32) (x6 : Int32) (x7 : Int32) (mo_value : Nat → Int32), bX12_runsOf_79 N mo_nodeSign mo_nodeSize mo_nodeMany k20 x1 x3 x4 x5 x6 x7 mo_value = some (z_r, z_mo_value) → ∀ (H : Heap) (locs : List Loc) (ls : Array Slot), DB D A (wd_mo a b cI cJ cT mo_signs mo_signMany mo_nodeSign mo_nodeOn mo_nodeSize mo_nodeMany mo_due mo_openNode mo_value mo_isLaid mo_changes mo_changeNode mo_changeSign mo_differs mo_results mo_own mo_kinds mo_testInputs mo_testDue mo_tests mo_noticed mo_missed mo_leastFrom mo_blameUpper mo_blameLower) s H locs → lv_has ls 10 [(0, .ref (b 0)), (1, .int x1), (3, .int x3), (4, .int x4), (5, .int x5), (6, .int x6), (7, .int x7)] → W p l e rmX12_runsOf s m args below meth c H locs 0 0 (ZI below args s D A (tyl cI cJ cT) z_r (wd_mo a b cI cJ cT mo_signs mo_signMany mo_nodeSign mo_nodeOn mo_nodeSize mo_nodeMany mo_due mo_openNode z_mo_value mo_isLaid mo_changes mo_changeNode mo_changeSign mo_differs mo_results mo_own mo_kinds mo_testInputs mo_testDue mo_tests mo_noticed mo_missed mo_leastFrom mo_blameUpper mo_blameLower) 0 0) (F0 m 79 ls []) := by
  have hx := C.1.1
  have hb := C.1.2.1
  have hown := C.1.2.2.2.1
  have hts := C.1.2.2.2.2
  intro x1 x3 x4 x5 x6 x7 mo_value h H locs ls B hl
  rw [bX12_runsOf_79] at h
  refine lv_iload hx hb dX12_runsOf_79 (lv_at hl 3 rfl) ?_
  refine lv_iconst (v := 1) hx hb dX12_runsOf_81 (by decide) ?_
  refine lv_iload hx hb dX12_runsOf_82 (lv_at hl 4 rfl) ?_
  refine lv_iconst (v := 1) hx hb dX12_runsOf_84 (by decide) ?_
  refine lv_iadd hx hb dX12_runsOf_85 ?_
  refine lv_ishl hx hb dX12_runsOf_86 ?_
  refine lv_iconst (v := 1) hx hb dX12_runsOf_87 (by decide) ?_
  refine lv_iload hx hb dX12_runsOf_88 (lv_at hl 6 rfl) ?_
  refine lv_ishl hx hb dX12_runsOf_90 ?_
  refine lv_ior hx hb dX12_runsOf_91 ?_
  refine lv_ior hx hb dX12_runsOf_92 ?_
  refine lv_istore (lv' := [(4, .int (x4 ||| (((1 : Int32) <<< ((x5 + (1 : Int32)) &&& 31)) ||| ((1 : Int32) <<< (x7 &&& 31))))), (0, .ref (b 0)), (1, .int x1), (3, .int x3), (5, .int x5), (6, .int x6), (7, .int x7)]) hx hb dX12_runsOf_93 hl (by decide) rfl (fun ls hl => ?_)
  exact qX12_runsOf_95 C hk20 x1 x3 (x4 ||| (((1 : Int32) <<< ((x5 + (1 : Int32)) &&& 31)) ||| ((1 : Int32) <<< (x7 &&& 31)))) x5 x6 x7 mo_value h H locs ls B (lv_sub hl [1, 2, 3, 0, 4, 5, 6] rfl)
set_option maxHeartbeats 4000000 in
set_option maxRecDepth 100000 in
theorem qX12_runsOf_20 (C : CT p s m args meth c RX12 cX12_runsOf 10 (some .int) wsX12_runsOf D A (tyl cI cJ cT) Es) {N : Nat} {mo_signs : Nat → Int32} {mo_signMany : Int32} {mo_nodeSign : Nat → Int32} {mo_nodeOn : Nat → Int32} {mo_nodeSize : Nat → Int32} {mo_nodeMany : Nat → Int32} {mo_due : Nat → Int32} {mo_openNode : Nat → Int32} {mo_isLaid : Int32} {mo_changes : Int32} {mo_changeNode : Nat → Int32} {mo_changeSign : Nat → Int32} {mo_differs : Nat → Int32} {mo_results : Nat → Int32} {mo_own : Nat → Int32} {mo_kinds : Nat → Int32} {mo_testInputs : Nat → Int32} {mo_testDue : Nat → Int32} {mo_tests : Int32} {mo_noticed : Nat → Int32} {mo_missed : Nat → Int32} {mo_leastFrom : Nat → Int32} {mo_blameUpper : Nat → Int32} {mo_blameLower : Nat → Int32} {z_r : Int32} {z_mo_value : Nat → Int32} : ∀ (n : Nat) (x1 : Int32) (x3 : Int32) (x4 : Int32) (x5 : Int32) (mo_value : Nat → Int32), bX12_runsOf_20 N mo_nodeSign mo_nodeSize mo_nodeMany n x1 x3 x4 x5 mo_value = some (z_r, z_mo_value) → ∀ (H : Heap) (locs : List Loc) (ls : Array Slot), DB D A (wd_mo a b cI cJ cT mo_signs mo_signMany mo_nodeSign mo_nodeOn mo_nodeSize mo_nodeMany mo_due mo_openNode mo_value mo_isLaid mo_changes mo_changeNode mo_changeSign mo_differs mo_results mo_own mo_kinds mo_testInputs mo_testDue mo_tests mo_noticed mo_missed mo_leastFrom mo_blameUpper mo_blameLower) s H locs → lv_has ls 10 [(0, .ref (b 0)), (1, .int x1), (3, .int x3), (4, .int x4), (5, .int x5)] → W p l e rmX12_runsOf s m args below meth c H locs 0 0 (ZI below args s D A (tyl cI cJ cT) z_r (wd_mo a b cI cJ cT mo_signs mo_signMany mo_nodeSign mo_nodeOn mo_nodeSize mo_nodeMany mo_due mo_openNode z_mo_value mo_isLaid mo_changes mo_changeNode mo_changeSign mo_differs mo_results mo_own mo_kinds mo_testInputs mo_testDue mo_tests mo_noticed mo_missed mo_leastFrom mo_blameUpper mo_blameLower) 0 0) (F0 m 20 ls []) := by
  have hx := C.1.1
  have hb := C.1.2.1
  have hown := C.1.2.2.2.1
  have hts := C.1.2.2.2.2
  intro n
  induction n with
  | zero => intro x1 x3 x4 x5 mo_value h; cases h
  | succ n ih =>
    intro x1 x3 x4 x5 mo_value h H locs ls B hl
    rw [bX12_runsOf_20] at h
    refine lv_iload hx hb dX12_runsOf_20 (lv_at hl 4 rfl) ?_
    refine lv_aload_n hx hb dX12_runsOf_22 rfl (lv_at hl 0 rfl) ?_
    refine gfX12_runsOf_22 C B 0 rfl rfl dX12_runsOf_23 ?_
    refine lv_iload_n hx hb dX12_runsOf_26 rfl (lv_at hl 1 rfl) ?_
    obtain ⟨b_1, h⟩ := bnd_some h
    refine k_iald C B 5 0 rfl rfl b_1 dX12_runsOf_27 ?_
    refine lv_icmp_ge (tgt := 180) hx hb dX12_runsOf_28 (by decide) (fun c_2 => ?_) (fun c_2 => ?_)
    · rw [if_pos c_2] at h
      refine lv_iload hx hb dX12_runsOf_180 (lv_at hl 3 rfl) ?_
      cases h
      exact k_iret C B dX12_runsOf_182
    · rw [if_neg c_2] at h
      refine lv_aload_n hx hb dX12_runsOf_31 rfl (lv_at hl 0 rfl) ?_
      refine gfX12_runsOf_13 C B 0 rfl rfl dX12_runsOf_32 ?_
      refine lv_iload_n hx hb dX12_runsOf_35 rfl (lv_at hl 2 rfl) ?_
      refine lv_iload hx hb dX12_runsOf_36 (lv_at hl 4 rfl) ?_
      refine lv_iadd hx hb dX12_runsOf_38 ?_
      obtain ⟨b_3, h⟩ := bnd_some h
      refine k_iald C B 2 0 rfl rfl b_3 dX12_runsOf_39 ?_
      obtain ⟨r_4, g_8, h⟩ := ob_some h
      try dsimp only at h
      refine kc_SI C B (As := [.int (mo_nodeSign (Int32.toNatClampNeg (x3 + x5)))]) (rest := []) (w2 := (wd_mo a b cI cJ cT mo_signs mo_signMany mo_nodeSign mo_nodeOn mo_nodeSize mo_nodeMany mo_due mo_openNode mo_value mo_isLaid mo_changes mo_changeNode mo_changeSign mo_differs mo_results mo_own mo_kinds mo_testInputs mo_testDue mo_tests mo_noticed mo_missed mo_leastFrom mo_blameUpper mo_blameLower)) (tX12_partsOf N g_8) gX12_runsOf_X12_partsOf rfl ⟨rfl, rfl⟩ hdX12_partsOf ⟨Nat.le_of_ble_eq_true rfl, Nat.le_of_ble_eq_true rfl⟩ [] [0, 1, 2, 3, 4, 5, 6, 7, 8, 9, 10, 11, 12, 13, 14, 15, 16, 17, 18, 19, 20, 21] [0, 1, 2, 3, 4, 5, 6, 7, 8, 9, 10, 11, 12, 13, 14, 15, 16, 17, 18, 19, 20, 21] rfl rfl rfl rfl rfl rfl rfl rfl hl.1 rfl (Nat.le_of_ble_eq_true rfl) ⟨Nat.zero_le _, Nat.zero_le _⟩ dX12_runsOf_40 (fun H locs B => ?_)
      refine lv_istore (lv' := [(6, .int r_4), (0, .ref (b 0)), (1, .int x1), (3, .int x3), (4, .int x4), (5, .int x5)]) hx hb dX12_runsOf_43 hl (by decide) rfl (fun ls hl => ?_)
      refine lv_iload hx hb dX12_runsOf_45 (lv_at hl 0 rfl) ?_
      refine lv_if_le (tgt := 174) hx hb dX12_runsOf_47 (by decide) (fun c_5 => ?_) (fun c_5 => ?_)
      · rw [if_pos c_5] at h
        refine lv_iinc (v := (x5 + 1)) (lv' := [(5, .int (x5 + 1)), (6, .int r_4), (0, .ref (b 0)), (1, .int x1), (3, .int x3), (4, .int x4)]) hx hb dX12_runsOf_174 hl (k := 5) rfl rfl (by decide) rfl (fun ls hl => ?_)
        refine lv_goto (tgt := 20) hx hb dX12_runsOf_177 (by decide) ?_
        exact ih x1 x3 x4 (x5 + 1) mo_value h H locs ls B (lv_sub hl [2, 3, 4, 5, 0] rfl)
      · rw [if_neg c_5] at h
        refine lv_iload hx hb dX12_runsOf_50 (lv_at hl 4 rfl) ?_
        refine lv_iload hx hb dX12_runsOf_52 (lv_at hl 5 rfl) ?_
        refine lv_ishr hx hb dX12_runsOf_54 ?_
        refine lv_iconst (v := 1) hx hb dX12_runsOf_55 (by decide) ?_
        refine lv_iand hx hb dX12_runsOf_56 ?_
        refine lv_iconst (v := 1) hx hb dX12_runsOf_57 (by decide) ?_
        refine lv_icmp_ne (tgt := 174) hx hb dX12_runsOf_58 (by decide) (fun c_6 => ?_) (fun c_6 => ?_)
        · rw [if_neg c_6] at h
          refine lv_iinc (v := (x5 + 1)) (lv' := [(5, .int (x5 + 1)), (6, .int r_4), (0, .ref (b 0)), (1, .int x1), (3, .int x3), (4, .int x4)]) hx hb dX12_runsOf_174 hl (k := 5) rfl rfl (by decide) rfl (fun ls hl => ?_)
          refine lv_goto (tgt := 20) hx hb dX12_runsOf_177 (by decide) ?_
          exact ih x1 x3 x4 (x5 + 1) mo_value h H locs ls B (lv_sub hl [2, 3, 4, 5, 0] rfl)
        · rw [if_pos c_6] at h
          refine lv_iload hx hb dX12_runsOf_61 (lv_at hl 5 rfl) ?_
          refine lv_iconst (v := 1) hx hb dX12_runsOf_63 (by decide) ?_
          refine lv_iadd hx hb dX12_runsOf_64 ?_
          refine lv_aload_n hx hb dX12_runsOf_65 rfl (lv_at hl 1 rfl) ?_
          refine gfX12_runsOf_19 C B 0 rfl rfl dX12_runsOf_66 ?_
          refine lv_iload_n hx hb dX12_runsOf_69 rfl (lv_at hl 3 rfl) ?_
          refine lv_iload hx hb dX12_runsOf_70 (lv_at hl 5 rfl) ?_
          refine lv_iadd hx hb dX12_runsOf_72 ?_
          refine lv_iconst (v := 1) hx hb dX12_runsOf_73 (by decide) ?_
          refine lv_iadd hx hb dX12_runsOf_74 ?_
          obtain ⟨b_7, h⟩ := bnd_some h
          refine k_iald C B 4 0 rfl rfl b_7 dX12_runsOf_75 ?_
          refine lv_iadd hx hb dX12_runsOf_76 ?_
          refine lv_istore (lv' := [(7, .int ((x5 + (1 : Int32)) + (mo_nodeSize (Int32.toNatClampNeg ((x3 + x5) + (1 : Int32)))))), (6, .int r_4), (0, .ref (b 0)), (1, .int x1), (3, .int x3), (4, .int x4), (5, .int x5)]) hx hb dX12_runsOf_77 hl (by decide) rfl (fun ls hl => ?_)
          exact qX12_runsOf_79 C ih x1 x3 x4 x5 r_4 ((x5 + (1 : Int32)) + (mo_nodeSize (Int32.toNatClampNeg ((x3 + x5) + (1 : Int32))))) mo_value h H locs ls B (lv_sub hl [2, 3, 4, 5, 6, 1, 0] rfl)
set_option maxHeartbeats 4000000 in
set_option maxRecDepth 100000 in
theorem qX12_runsOf_0 (C : CT p s m args meth c RX12 cX12_runsOf 10 (some .int) wsX12_runsOf D A (tyl cI cJ cT) Es) {N : Nat} {mo_signs : Nat → Int32} {mo_signMany : Int32} {mo_nodeSign : Nat → Int32} {mo_nodeOn : Nat → Int32} {mo_nodeSize : Nat → Int32} {mo_nodeMany : Nat → Int32} {mo_due : Nat → Int32} {mo_openNode : Nat → Int32} {mo_isLaid : Int32} {mo_changes : Int32} {mo_changeNode : Nat → Int32} {mo_changeSign : Nat → Int32} {mo_differs : Nat → Int32} {mo_results : Nat → Int32} {mo_own : Nat → Int32} {mo_kinds : Nat → Int32} {mo_testInputs : Nat → Int32} {mo_testDue : Nat → Int32} {mo_tests : Int32} {mo_noticed : Nat → Int32} {mo_missed : Nat → Int32} {mo_leastFrom : Nat → Int32} {mo_blameUpper : Nat → Int32} {mo_blameLower : Nat → Int32} {z_r : Int32} {z_mo_value : Nat → Int32} : ∀ (x1 : Int32) (x2 : Int32) (mo_value : Nat → Int32), fX12_runsOf N mo_nodeSign mo_nodeSize mo_nodeMany x1 x2 mo_value = some (z_r, z_mo_value) → ∀ (H : Heap) (locs : List Loc) (ls : Array Slot), DB D A (wd_mo a b cI cJ cT mo_signs mo_signMany mo_nodeSign mo_nodeOn mo_nodeSize mo_nodeMany mo_due mo_openNode mo_value mo_isLaid mo_changes mo_changeNode mo_changeSign mo_differs mo_results mo_own mo_kinds mo_testInputs mo_testDue mo_tests mo_noticed mo_missed mo_leastFrom mo_blameUpper mo_blameLower) s H locs → lv_has ls 10 [(0, .ref (b 0)), (1, .int x1), (2, .int x2)] → W p l e rmX12_runsOf s m args below meth c H locs 0 0 (ZI below args s D A (tyl cI cJ cT) z_r (wd_mo a b cI cJ cT mo_signs mo_signMany mo_nodeSign mo_nodeOn mo_nodeSize mo_nodeMany mo_due mo_openNode z_mo_value mo_isLaid mo_changes mo_changeNode mo_changeSign mo_differs mo_results mo_own mo_kinds mo_testInputs mo_testDue mo_tests mo_noticed mo_missed mo_leastFrom mo_blameUpper mo_blameLower) 0 0) (F0 m 0 ls []) := by
  have hx := C.1.1
  have hb := C.1.2.1
  have hown := C.1.2.2.2.1
  have hts := C.1.2.2.2.2
  intro x1 x2 mo_value h H locs ls B hl
  rw [fX12_runsOf] at h
  refine lv_aload_n hx hb dX12_runsOf_0 rfl (lv_at hl 0 rfl) ?_
  refine lv_iload_n hx hb dX12_runsOf_1 rfl (lv_at hl 1 rfl) ?_
  refine lv_iload_n hx hb dX12_runsOf_2 rfl (lv_at hl 2 rfl) ?_
  refine lv_bipush (v := -6) hx hb dX12_runsOf_3 (by decide) ?_
  refine lv_iconst (v := 0) hx hb dX12_runsOf_5 (by decide) ?_
  obtain ⟨mo_value_1, g_2, h⟩ := ob_some h
  try dsimp only at h
  refine kc_VV C B (q0 := 0) (ci := 12) (As := [.int x1, .int x2, .int (-6 : Int32), .int (0 : Int32)]) (rest := []) (w2 := (wd_mo a b cI cJ cT mo_signs mo_signMany mo_nodeSign mo_nodeOn mo_nodeSize mo_nodeMany mo_due mo_openNode mo_value_1 mo_isLaid mo_changes mo_changeNode mo_changeSign mo_differs mo_results mo_own mo_kinds mo_testInputs mo_testDue mo_tests mo_noticed mo_missed mo_leastFrom mo_blameUpper mo_blameLower)) (tX12_work (a := a) (b := b) N g_2) gX12_runsOf_X12_work rfl ⟨rfl, rfl⟩ ⟨rfl, hdX12_work⟩ ⟨Nat.le_of_ble_eq_true rfl, Nat.le_of_ble_eq_true rfl⟩ rfl rfl [0, 1, 2, 3, 4, 5, 6, 7, 8, 9, 10, 11, 12, 13, 14, 15, 16, 17, 18, 19, 20, 21] [] [0, 1, 2, 3, 4, 5, 6, 7, 8, 9, 10, 11, 12, 13, 14, 15, 16, 17, 18, 19, 20, 21] rfl rfl rfl rfl rfl rfl rfl rfl hl.1 rfl (Nat.le_of_ble_eq_true rfl) ⟨Nat.zero_le _, Nat.zero_le _⟩ dX12_runsOf_6 (fun H locs B => ?_)
  refine lv_bipush (v := 24) hx hb dX12_runsOf_9 (by decide) ?_
  refine lv_iload_n hx hb dX12_runsOf_11 rfl (lv_at hl 1 rfl) ?_
  refine lv_imul hx hb dX12_runsOf_12 ?_
  refine lv_istore_n (lv' := [(3, .int ((24 : Int32) * x1)), (0, .ref (b 0)), (1, .int x1), (2, .int x2)]) hx hb dX12_runsOf_13 rfl hl (by decide) rfl (fun ls hl => ?_)
  refine lv_iconst (v := 1) hx hb dX12_runsOf_14 (by decide) ?_
  refine lv_istore (lv' := [(4, .int (1 : Int32)), (3, .int ((24 : Int32) * x1)), (0, .ref (b 0)), (1, .int x1), (2, .int x2)]) hx hb dX12_runsOf_15 hl (by decide) rfl (fun ls hl => ?_)
  refine lv_iconst (v := 0) hx hb dX12_runsOf_17 (by decide) ?_
  refine lv_istore (lv' := [(5, .int (0 : Int32)), (4, .int (1 : Int32)), (3, .int ((24 : Int32) * x1)), (0, .ref (b 0)), (1, .int x1), (2, .int x2)]) hx hb dX12_runsOf_18 hl (by decide) rfl (fun ls hl => ?_)
  exact qX12_runsOf_20 C N x1 ((24 : Int32) * x1) (1 : Int32) (0 : Int32) mo_value_1 h H locs ls B (lv_sub hl [3, 4, 2, 1, 0] rfl)
end
theorem tX12_runsOf {l : Launch} {D : va_G} {Es : (Nat → Nat) × (Nat → Nat)} {a b : Nat → Nat} {cI cJ cT : ClassId} {mo_signs : Nat → Int32} {mo_signMany : Int32} {mo_nodeSign : Nat → Int32} {mo_nodeOn : Nat → Int32} {mo_nodeSize : Nat → Int32} {mo_nodeMany : Nat → Int32} {mo_due : Nat → Int32} {mo_openNode : Nat → Int32} {mo_value : Nat → Int32} {mo_isLaid : Int32} {mo_changes : Int32} {mo_changeNode : Nat → Int32} {mo_changeSign : Nat → Int32} {mo_differs : Nat → Int32} {mo_results : Nat → Int32} {mo_own : Nat → Int32} {mo_kinds : Nat → Int32} {mo_testInputs : Nat → Int32} {mo_testDue : Nat → Int32} {mo_tests : Int32} {mo_noticed : Nat → Int32} {mo_missed : Nat → Int32} {mo_leastFrom : Nat → Int32} {mo_blameUpper : Nat → Int32} {mo_blameLower : Nat → Int32} {x1 : Int32} {x2 : Int32} {z_r : Int32} {z_mo_value : Nat → Int32} (N : Nat) (h : fX12_runsOf N mo_nodeSign mo_nodeSize mo_nodeMany x1 x2 mo_value = some (z_r, z_mo_value)) : CtI l yX12_runsOf wsX12_runsOf rmX12_runsOf D (tyl cI cJ cT) Es [.ref (b 0), .int x1, .int x2] (wd_mo a b cI cJ cT mo_signs mo_signMany mo_nodeSign mo_nodeOn mo_nodeSize mo_nodeMany mo_due mo_openNode mo_value mo_isLaid mo_changes mo_changeNode mo_changeSign mo_differs mo_results mo_own mo_kinds mo_testInputs mo_testDue mo_tests mo_noticed mo_missed mo_leastFrom mo_blameUpper mo_blameLower) z_r (wd_mo a b cI cJ cT mo_signs mo_signMany mo_nodeSign mo_nodeOn mo_nodeSize mo_nodeMany mo_due mo_openNode z_mo_value mo_isLaid mo_changes mo_changeNode mo_changeSign mo_differs mo_results mo_own mo_kinds mo_testInputs mo_testDue mo_tests mo_noticed mo_missed mo_leastFrom mo_blameUpper mo_blameLower) :=
  CtI.of (own := RX12) (cc := cX12_runsOf) (nL := 10) (ret := (some .int)) (by decide +kernel) rfl rfl (Nat.le_of_ble_eq_true rfl) rfl (fun p e s m below meth c A ls C B hl => qX12_runsOf_0 C (N := N) x1 x2 mo_value h _ _ _ B hl)

abbrev rmX12_runs : Room := { frames := 5, cells := 0, slots := 0, locals := 125 }
theorem hdX12_runs : yX12_runs.cls ≠ "java/lang/invoke/MethodHandle" ∧ yX12_runs.cls ≠ "java/lang/invoke/VarHandle" ∧ (parseMethodDescriptor yX12_runs.desc).map (fun d => d.parameters.length) = some 2 := by decide +kernel
section
variable {p : Program} {l : Launch} {e : Env} {s : State} {m : MethodId} {args : Array Value} {below : List Frame} {meth : Method} {c : Code} {D : va_G} {A : Nat → Prop} {Es : (Nat → Nat) × (Nat → Nat)} {a b : Nat → Nat} {cI cJ cT : ClassId}
set_option maxHeartbeats 4000000 in
set_option maxRecDepth 100000 in
theorem qX12_runs_0 (C : CT p s m args meth c RX12 cX12_runs 3 (some .int) wsX12_runs D A (tyl cI cJ cT) Es) {N : Nat} {mo_signs : Nat → Int32} {mo_signMany : Int32} {mo_nodeSign : Nat → Int32} {mo_nodeOn : Nat → Int32} {mo_nodeSize : Nat → Int32} {mo_nodeMany : Nat → Int32} {mo_due : Nat → Int32} {mo_openNode : Nat → Int32} {mo_isLaid : Int32} {mo_changes : Int32} {mo_changeNode : Nat → Int32} {mo_changeSign : Nat → Int32} {mo_differs : Nat → Int32} {mo_results : Nat → Int32} {mo_own : Nat → Int32} {mo_kinds : Nat → Int32} {mo_testInputs : Nat → Int32} {mo_testDue : Nat → Int32} {mo_tests : Int32} {mo_noticed : Nat → Int32} {mo_missed : Nat → Int32} {mo_leastFrom : Nat → Int32} {mo_blameUpper : Nat → Int32} {mo_blameLower : Nat → Int32} {z_r : Int32} {z_mo_value : Nat → Int32} : ∀ (x1 : Int32) (x2 : Int32) (mo_value : Nat → Int32), fX12_runs N mo_nodeSign mo_nodeSize mo_nodeMany x1 x2 mo_value = some (z_r, z_mo_value) → ∀ (H : Heap) (locs : List Loc) (ls : Array Slot), DB D A (wd_mo a b cI cJ cT mo_signs mo_signMany mo_nodeSign mo_nodeOn mo_nodeSize mo_nodeMany mo_due mo_openNode mo_value mo_isLaid mo_changes mo_changeNode mo_changeSign mo_differs mo_results mo_own mo_kinds mo_testInputs mo_testDue mo_tests mo_noticed mo_missed mo_leastFrom mo_blameUpper mo_blameLower) s H locs → lv_has ls 3 [(0, .ref (b 0)), (1, .int x1), (2, .int x2)] → W p l e rmX12_runs s m args below meth c H locs 0 0 (ZI below args s D A (tyl cI cJ cT) z_r (wd_mo a b cI cJ cT mo_signs mo_signMany mo_nodeSign mo_nodeOn mo_nodeSize mo_nodeMany mo_due mo_openNode z_mo_value mo_isLaid mo_changes mo_changeNode mo_changeSign mo_differs mo_results mo_own mo_kinds mo_testInputs mo_testDue mo_tests mo_noticed mo_missed mo_leastFrom mo_blameUpper mo_blameLower) 0 0) (F0 m 0 ls []) := by
  have hx := C.1.1
  have hb := C.1.2.1
  have hown := C.1.2.2.2.1
  have hts := C.1.2.2.2.2
  intro x1 x2 mo_value h H locs ls B hl
  rw [fX12_runs] at h
  refine lv_iload_n hx hb dX12_runs_0 rfl (lv_at hl 1 rfl) ?_
  refine lv_i2l (v := (Int32.toInt64 x1)) hx hb dX12_runs_1 rfl ?_
  refine lv_lconst (v := 0) hx hb dX12_runs_2 (by decide) ?_
  refine lv_lconst (v := 1) hx hb dX12_runs_3 (by decide) ?_
  obtain ⟨r_1, g_9, h⟩ := ob_some h
  try dsimp only at h
  refine kc_SI C B (As := [.long (Int32.toInt64 x1), .long (0 : Int64), .long (1 : Int64)]) (rest := []) (w2 := (wd_mo a b cI cJ cT mo_signs mo_signMany mo_nodeSign mo_nodeOn mo_nodeSize mo_nodeMany mo_due mo_openNode mo_value mo_isLaid mo_changes mo_changeNode mo_changeSign mo_differs mo_results mo_own mo_kinds mo_testInputs mo_testDue mo_tests mo_noticed mo_missed mo_leastFrom mo_blameUpper mo_blameLower)) (tX12_in N g_9) gX12_runs_X12_in rfl ⟨rfl, rfl⟩ hdX12_in ⟨Nat.le_of_ble_eq_true rfl, Nat.le_of_ble_eq_true rfl⟩ [] [0, 1, 2, 3, 4, 5, 6, 7, 8, 9, 10, 11, 12, 13, 14, 15, 16, 17, 18, 19, 20, 21] [0, 1, 2, 3, 4, 5, 6, 7, 8, 9, 10, 11, 12, 13, 14, 15, 16, 17, 18, 19, 20, 21] rfl rfl rfl rfl rfl rfl rfl rfl hl.1 rfl (Nat.le_of_ble_eq_true rfl) ⟨Nat.zero_le _, Nat.zero_le _⟩ dX12_runs_4 (fun H locs B => ?_)
  refine lv_if_ne (tgt := 12) hx hb dX12_runs_7 (by decide) (fun c_2 => ?_) (fun c_2 => ?_)
  · rw [if_neg c_2] at h
    refine lv_iload_n hx hb dX12_runs_12 rfl (lv_at hl 2 rfl) ?_
    obtain ⟨r_3, g_8, h⟩ := ob_some h
    try dsimp only at h
    refine kc_SI C B (As := [.int x2]) (rest := []) (w2 := (wd_mo a b cI cJ cT mo_signs mo_signMany mo_nodeSign mo_nodeOn mo_nodeSize mo_nodeMany mo_due mo_openNode mo_value mo_isLaid mo_changes mo_changeNode mo_changeSign mo_differs mo_results mo_own mo_kinds mo_testInputs mo_testDue mo_tests mo_noticed mo_missed mo_leastFrom mo_blameUpper mo_blameLower)) (tX12_areInputs N g_8) gX12_runs_X12_areInputs rfl ⟨rfl, rfl⟩ hdX12_areInputs ⟨Nat.le_of_ble_eq_true rfl, Nat.le_of_ble_eq_true rfl⟩ [] [0, 1, 2, 3, 4, 5, 6, 7, 8, 9, 10, 11, 12, 13, 14, 15, 16, 17, 18, 19, 20, 21] [0, 1, 2, 3, 4, 5, 6, 7, 8, 9, 10, 11, 12, 13, 14, 15, 16, 17, 18, 19, 20, 21] rfl rfl rfl rfl rfl rfl rfl rfl hl.1 rfl (Nat.le_of_ble_eq_true rfl) ⟨Nat.zero_le _, Nat.zero_le _⟩ dX12_runs_13 (fun H locs B => ?_)
    refine lv_if_eq (tgt := 28) hx hb dX12_runs_16 (by decide) (fun c_4 => ?_) (fun c_4 => ?_)
    · rw [if_pos c_4] at h
      refine lv_bipush (v := -2) hx hb dX12_runs_28 (by decide) ?_
      cases h
      exact k_iret C B dX12_runs_30
    · rw [if_neg c_4] at h
      refine lv_aload_n hx hb dX12_runs_19 rfl (lv_at hl 0 rfl) ?_
      refine lv_iload_n hx hb dX12_runs_20 rfl (lv_at hl 1 rfl) ?_
      refine lv_iload_n hx hb dX12_runs_21 rfl (lv_at hl 2 rfl) ?_
      obtain ⟨⟨r_5, mo_value_6⟩, g_7, h⟩ := ob_some h
      try dsimp only at h
      refine kc_VI C B (q0 := 0) (ci := 12) (As := [.int x1, .int x2]) (rest := []) (w2 := (wd_mo a b cI cJ cT mo_signs mo_signMany mo_nodeSign mo_nodeOn mo_nodeSize mo_nodeMany mo_due mo_openNode mo_value_6 mo_isLaid mo_changes mo_changeNode mo_changeSign mo_differs mo_results mo_own mo_kinds mo_testInputs mo_testDue mo_tests mo_noticed mo_missed mo_leastFrom mo_blameUpper mo_blameLower)) (tX12_runsOf (a := a) (b := b) N g_7) gX12_runs_X12_runsOf rfl ⟨rfl, rfl⟩ ⟨rfl, hdX12_runsOf⟩ ⟨Nat.le_of_ble_eq_true rfl, Nat.le_of_ble_eq_true rfl⟩ rfl rfl [0, 1, 2, 3, 4, 5, 6, 7, 8, 9, 10, 11, 12, 13, 14, 15, 16, 17, 18, 19, 20, 21] [] [0, 1, 2, 3, 4, 5, 6, 7, 8, 9, 10, 11, 12, 13, 14, 15, 16, 17, 18, 19, 20, 21] rfl rfl rfl rfl rfl rfl rfl rfl hl.1 rfl (Nat.le_of_ble_eq_true rfl) ⟨Nat.zero_le _, Nat.zero_le _⟩ dX12_runs_22 (fun H locs B => ?_)
      refine lv_goto (tgt := 30) hx hb dX12_runs_25 (by decide) ?_
      cases h
      exact k_iret C B dX12_runs_30
  · rw [if_pos c_2] at h
    refine lv_iconst (v := -1) hx hb dX12_runs_10 (by decide) ?_
    cases h
    exact k_iret C B dX12_runs_11
end
theorem tX12_runs {l : Launch} {D : va_G} {Es : (Nat → Nat) × (Nat → Nat)} {a b : Nat → Nat} {cI cJ cT : ClassId} {mo_signs : Nat → Int32} {mo_signMany : Int32} {mo_nodeSign : Nat → Int32} {mo_nodeOn : Nat → Int32} {mo_nodeSize : Nat → Int32} {mo_nodeMany : Nat → Int32} {mo_due : Nat → Int32} {mo_openNode : Nat → Int32} {mo_value : Nat → Int32} {mo_isLaid : Int32} {mo_changes : Int32} {mo_changeNode : Nat → Int32} {mo_changeSign : Nat → Int32} {mo_differs : Nat → Int32} {mo_results : Nat → Int32} {mo_own : Nat → Int32} {mo_kinds : Nat → Int32} {mo_testInputs : Nat → Int32} {mo_testDue : Nat → Int32} {mo_tests : Int32} {mo_noticed : Nat → Int32} {mo_missed : Nat → Int32} {mo_leastFrom : Nat → Int32} {mo_blameUpper : Nat → Int32} {mo_blameLower : Nat → Int32} {x1 : Int32} {x2 : Int32} {z_r : Int32} {z_mo_value : Nat → Int32} (N : Nat) (h : fX12_runs N mo_nodeSign mo_nodeSize mo_nodeMany x1 x2 mo_value = some (z_r, z_mo_value)) : CtI l yX12_runs wsX12_runs rmX12_runs D (tyl cI cJ cT) Es [.ref (b 0), .int x1, .int x2] (wd_mo a b cI cJ cT mo_signs mo_signMany mo_nodeSign mo_nodeOn mo_nodeSize mo_nodeMany mo_due mo_openNode mo_value mo_isLaid mo_changes mo_changeNode mo_changeSign mo_differs mo_results mo_own mo_kinds mo_testInputs mo_testDue mo_tests mo_noticed mo_missed mo_leastFrom mo_blameUpper mo_blameLower) z_r (wd_mo a b cI cJ cT mo_signs mo_signMany mo_nodeSign mo_nodeOn mo_nodeSize mo_nodeMany mo_due mo_openNode z_mo_value mo_isLaid mo_changes mo_changeNode mo_changeSign mo_differs mo_results mo_own mo_kinds mo_testInputs mo_testDue mo_tests mo_noticed mo_missed mo_leastFrom mo_blameUpper mo_blameLower) :=
  CtI.of (own := RX12) (cc := cX12_runs) (nL := 3) (ret := (some .int)) (by decide +kernel) rfl rfl (Nat.le_of_ble_eq_true rfl) rfl (fun p e s m below meth c A ls C B hl => qX12_runs_0 C (N := N) x1 x2 mo_value h _ _ _ B hl)

abbrev rmX12_layKinds : Room := { frames := 0, cells := 0, slots := 0, locals := 0 }
theorem hdX12_layKinds : yX12_layKinds.cls ≠ "java/lang/invoke/MethodHandle" ∧ yX12_layKinds.cls ≠ "java/lang/invoke/VarHandle" ∧ (parseMethodDescriptor yX12_layKinds.desc).map (fun d => d.parameters.length) = some 0 := by decide +kernel
theorem iX12_layKinds_X12 : ∀ w ∈ wsX120, w ∈ wsX12_layKinds := by decide +kernel
theorem gfX12_layKinds_50 {p : Program} {l : Launch} {e : Env} {R : Room} {s : State} {m : MethodId} {args : Array Value} {below : List Frame} {meth : Method} {c : Code} {H : Heap} {locs : List Loc} {cells slots : Nat} {Q : State → Prop} {D : va_G} {A : Nat → Prop} {tys : List (ClassId × FieldType)} {Es : (Nat → Nat) × (Nat → Nat)} {ws : va_W} {pc : Nat} {ls : Array Slot} {rest : List Value} {a : Nat} (C : CT p s m args meth c RX12 cX12_layKinds 1 none wsX12_layKinds D A tys Es) (B : DB D A ws s H locs) (q0 : Nat) {fs : List Value} {v : Value} (he : ws[q0]? = some (a, .inr (12, fs))) (hv : fs[16]? = some v) (hdg : decode cX12_layKinds pc = .ok (.getfield 50, 3)) (kk : W p l e R s m args below meth c H locs cells slots Q (F0 m (pc + 3) ls (v :: rest))) : W p l e R s m args below meth c H locs cells slots Q (F0 m pc ls (.ref a :: rest)) :=
  k_get (Cn := RX12) (T := TX12) (N := 25) (index := 50) C B iX12_layKinds_X12 rfl 16 (by decide) (by decide +kernel) q0 he hv hdg kk
section
variable {p : Program} {l : Launch} {e : Env} {s : State} {m : MethodId} {args : Array Value} {below : List Frame} {meth : Method} {c : Code} {D : va_G} {A : Nat → Prop} {Es : (Nat → Nat) × (Nat → Nat)} {a b : Nat → Nat} {cI cJ cT : ClassId}
set_option maxHeartbeats 4000000 in
set_option maxRecDepth 100000 in
theorem qX12_layKinds_0 (C : CT p s m args meth c RX12 cX12_layKinds 1 none wsX12_layKinds D A (tyl cI cJ cT) Es) {N : Nat} {mo_signs : Nat → Int32} {mo_signMany : Int32} {mo_nodeSign : Nat → Int32} {mo_nodeOn : Nat → Int32} {mo_nodeSize : Nat → Int32} {mo_nodeMany : Nat → Int32} {mo_due : Nat → Int32} {mo_openNode : Nat → Int32} {mo_value : Nat → Int32} {mo_isLaid : Int32} {mo_changes : Int32} {mo_changeNode : Nat → Int32} {mo_changeSign : Nat → Int32} {mo_differs : Nat → Int32} {mo_results : Nat → Int32} {mo_own : Nat → Int32} {mo_testInputs : Nat → Int32} {mo_testDue : Nat → Int32} {mo_tests : Int32} {mo_noticed : Nat → Int32} {mo_missed : Nat → Int32} {mo_leastFrom : Nat → Int32} {mo_blameUpper : Nat → Int32} {mo_blameLower : Nat → Int32} {z_mo_kinds : Nat → Int32} : ∀ (mo_kinds : Nat → Int32), fX12_layKinds N mo_kinds = some z_mo_kinds → ∀ (H : Heap) (locs : List Loc) (ls : Array Slot), DB D A (wd_mo a b cI cJ cT mo_signs mo_signMany mo_nodeSign mo_nodeOn mo_nodeSize mo_nodeMany mo_due mo_openNode mo_value mo_isLaid mo_changes mo_changeNode mo_changeSign mo_differs mo_results mo_own mo_kinds mo_testInputs mo_testDue mo_tests mo_noticed mo_missed mo_leastFrom mo_blameUpper mo_blameLower) s H locs → lv_has ls 1 [(0, .ref (b 0))] → W p l e rmX12_layKinds s m args below meth c H locs 0 0 (ZV below args s D A (tyl cI cJ cT) (wd_mo a b cI cJ cT mo_signs mo_signMany mo_nodeSign mo_nodeOn mo_nodeSize mo_nodeMany mo_due mo_openNode mo_value mo_isLaid mo_changes mo_changeNode mo_changeSign mo_differs mo_results mo_own z_mo_kinds mo_testInputs mo_testDue mo_tests mo_noticed mo_missed mo_leastFrom mo_blameUpper mo_blameLower) 0 0) (F0 m 0 ls []) := by
  have hx := C.1.1
  have hb := C.1.2.1
  have hown := C.1.2.2.2.1
  have hts := C.1.2.2.2.2
  intro mo_kinds h H locs ls B hl
  rw [fX12_layKinds] at h
  refine lv_aload_n hx hb dX12_layKinds_0 rfl (lv_at hl 0 rfl) ?_
  refine gfX12_layKinds_50 C B 0 rfl rfl dX12_layKinds_1 ?_
  refine lv_iconst (v := 0) hx hb dX12_layKinds_4 (by decide) ?_
  refine lv_bipush (v := 43) hx hb dX12_layKinds_5 (by decide) ?_
  refine k_iast C B 14 0 rfl rfl (vp_lit (by decide)) dX12_layKinds_7 (fun H locs B => ?_)
  have B : DB D A (wd_mo a b cI cJ cT mo_signs mo_signMany mo_nodeSign mo_nodeOn mo_nodeSize mo_nodeMany mo_due mo_openNode mo_value mo_isLaid mo_changes mo_changeNode mo_changeSign mo_differs mo_results mo_own (upd mo_kinds (Int32.toNatClampNeg (0 : Int32)) (43 : Int32)) mo_testInputs mo_testDue mo_tests mo_noticed mo_missed mo_leastFrom mo_blameUpper mo_blameLower) s H locs := B
  refine lv_aload_n hx hb dX12_layKinds_8 rfl (lv_at hl 0 rfl) ?_
  refine gfX12_layKinds_50 C B 0 rfl rfl dX12_layKinds_9 ?_
  refine lv_iconst (v := 1) hx hb dX12_layKinds_12 (by decide) ?_
  refine lv_bipush (v := 45) hx hb dX12_layKinds_13 (by decide) ?_
  refine k_iast C B 14 0 rfl rfl (vp_lit (by decide)) dX12_layKinds_15 (fun H locs B => ?_)
  have B : DB D A (wd_mo a b cI cJ cT mo_signs mo_signMany mo_nodeSign mo_nodeOn mo_nodeSize mo_nodeMany mo_due mo_openNode mo_value mo_isLaid mo_changes mo_changeNode mo_changeSign mo_differs mo_results mo_own (upd (upd mo_kinds (Int32.toNatClampNeg (0 : Int32)) (43 : Int32)) (Int32.toNatClampNeg (1 : Int32)) (45 : Int32)) mo_testInputs mo_testDue mo_tests mo_noticed mo_missed mo_leastFrom mo_blameUpper mo_blameLower) s H locs := B
  refine lv_aload_n hx hb dX12_layKinds_16 rfl (lv_at hl 0 rfl) ?_
  refine gfX12_layKinds_50 C B 0 rfl rfl dX12_layKinds_17 ?_
  refine lv_iconst (v := 2) hx hb dX12_layKinds_20 (by decide) ?_
  refine lv_bipush (v := 42) hx hb dX12_layKinds_21 (by decide) ?_
  refine k_iast C B 14 0 rfl rfl (vp_lit (by decide)) dX12_layKinds_23 (fun H locs B => ?_)
  have B : DB D A (wd_mo a b cI cJ cT mo_signs mo_signMany mo_nodeSign mo_nodeOn mo_nodeSize mo_nodeMany mo_due mo_openNode mo_value mo_isLaid mo_changes mo_changeNode mo_changeSign mo_differs mo_results mo_own (upd (upd (upd mo_kinds (Int32.toNatClampNeg (0 : Int32)) (43 : Int32)) (Int32.toNatClampNeg (1 : Int32)) (45 : Int32)) (Int32.toNatClampNeg (2 : Int32)) (42 : Int32)) mo_testInputs mo_testDue mo_tests mo_noticed mo_missed mo_leastFrom mo_blameUpper mo_blameLower) s H locs := B
  refine lv_aload_n hx hb dX12_layKinds_24 rfl (lv_at hl 0 rfl) ?_
  refine gfX12_layKinds_50 C B 0 rfl rfl dX12_layKinds_25 ?_
  refine lv_iconst (v := 3) hx hb dX12_layKinds_28 (by decide) ?_
  refine lv_bipush (v := 109) hx hb dX12_layKinds_29 (by decide) ?_
  refine k_iast C B 14 0 rfl rfl (vp_lit (by decide)) dX12_layKinds_31 (fun H locs B => ?_)
  have B : DB D A (wd_mo a b cI cJ cT mo_signs mo_signMany mo_nodeSign mo_nodeOn mo_nodeSize mo_nodeMany mo_due mo_openNode mo_value mo_isLaid mo_changes mo_changeNode mo_changeSign mo_differs mo_results mo_own (upd (upd (upd (upd mo_kinds (Int32.toNatClampNeg (0 : Int32)) (43 : Int32)) (Int32.toNatClampNeg (1 : Int32)) (45 : Int32)) (Int32.toNatClampNeg (2 : Int32)) (42 : Int32)) (Int32.toNatClampNeg (3 : Int32)) (109 : Int32)) mo_testInputs mo_testDue mo_tests mo_noticed mo_missed mo_leastFrom mo_blameUpper mo_blameLower) s H locs := B
  refine lv_aload_n hx hb dX12_layKinds_32 rfl (lv_at hl 0 rfl) ?_
  refine gfX12_layKinds_50 C B 0 rfl rfl dX12_layKinds_33 ?_
  refine lv_iconst (v := 4) hx hb dX12_layKinds_36 (by decide) ?_
  refine lv_bipush (v := 77) hx hb dX12_layKinds_37 (by decide) ?_
  refine k_iast C B 14 0 rfl rfl (vp_lit (by decide)) dX12_layKinds_39 (fun H locs B => ?_)
  have B : DB D A (wd_mo a b cI cJ cT mo_signs mo_signMany mo_nodeSign mo_nodeOn mo_nodeSize mo_nodeMany mo_due mo_openNode mo_value mo_isLaid mo_changes mo_changeNode mo_changeSign mo_differs mo_results mo_own (upd (upd (upd (upd (upd mo_kinds (Int32.toNatClampNeg (0 : Int32)) (43 : Int32)) (Int32.toNatClampNeg (1 : Int32)) (45 : Int32)) (Int32.toNatClampNeg (2 : Int32)) (42 : Int32)) (Int32.toNatClampNeg (3 : Int32)) (109 : Int32)) (Int32.toNatClampNeg (4 : Int32)) (77 : Int32)) mo_testInputs mo_testDue mo_tests mo_noticed mo_missed mo_leastFrom mo_blameUpper mo_blameLower) s H locs := B
  refine lv_aload_n hx hb dX12_layKinds_40 rfl (lv_at hl 0 rfl) ?_
  refine gfX12_layKinds_50 C B 0 rfl rfl dX12_layKinds_41 ?_
  refine lv_iconst (v := 5) hx hb dX12_layKinds_44 (by decide) ?_
  refine lv_bipush (v := 60) hx hb dX12_layKinds_45 (by decide) ?_
  refine k_iast C B 14 0 rfl rfl (vp_lit (by decide)) dX12_layKinds_47 (fun H locs B => ?_)
  have B : DB D A (wd_mo a b cI cJ cT mo_signs mo_signMany mo_nodeSign mo_nodeOn mo_nodeSize mo_nodeMany mo_due mo_openNode mo_value mo_isLaid mo_changes mo_changeNode mo_changeSign mo_differs mo_results mo_own (upd (upd (upd (upd (upd (upd mo_kinds (Int32.toNatClampNeg (0 : Int32)) (43 : Int32)) (Int32.toNatClampNeg (1 : Int32)) (45 : Int32)) (Int32.toNatClampNeg (2 : Int32)) (42 : Int32)) (Int32.toNatClampNeg (3 : Int32)) (109 : Int32)) (Int32.toNatClampNeg (4 : Int32)) (77 : Int32)) (Int32.toNatClampNeg (5 : Int32)) (60 : Int32)) mo_testInputs mo_testDue mo_tests mo_noticed mo_missed mo_leastFrom mo_blameUpper mo_blameLower) s H locs := B
  refine lv_aload_n hx hb dX12_layKinds_48 rfl (lv_at hl 0 rfl) ?_
  refine gfX12_layKinds_50 C B 0 rfl rfl dX12_layKinds_49 ?_
  refine lv_bipush (v := 6) hx hb dX12_layKinds_52 (by decide) ?_
  refine lv_bipush (v := 62) hx hb dX12_layKinds_54 (by decide) ?_
  refine k_iast C B 14 0 rfl rfl (vp_lit (by decide)) dX12_layKinds_56 (fun H locs B => ?_)
  have B : DB D A (wd_mo a b cI cJ cT mo_signs mo_signMany mo_nodeSign mo_nodeOn mo_nodeSize mo_nodeMany mo_due mo_openNode mo_value mo_isLaid mo_changes mo_changeNode mo_changeSign mo_differs mo_results mo_own (upd (upd (upd (upd (upd (upd (upd mo_kinds (Int32.toNatClampNeg (0 : Int32)) (43 : Int32)) (Int32.toNatClampNeg (1 : Int32)) (45 : Int32)) (Int32.toNatClampNeg (2 : Int32)) (42 : Int32)) (Int32.toNatClampNeg (3 : Int32)) (109 : Int32)) (Int32.toNatClampNeg (4 : Int32)) (77 : Int32)) (Int32.toNatClampNeg (5 : Int32)) (60 : Int32)) (Int32.toNatClampNeg (6 : Int32)) (62 : Int32)) mo_testInputs mo_testDue mo_tests mo_noticed mo_missed mo_leastFrom mo_blameUpper mo_blameLower) s H locs := B
  refine lv_aload_n hx hb dX12_layKinds_57 rfl (lv_at hl 0 rfl) ?_
  refine gfX12_layKinds_50 C B 0 rfl rfl dX12_layKinds_58 ?_
  refine lv_bipush (v := 7) hx hb dX12_layKinds_61 (by decide) ?_
  refine lv_bipush (v := 61) hx hb dX12_layKinds_63 (by decide) ?_
  refine k_iast C B 14 0 rfl rfl (vp_lit (by decide)) dX12_layKinds_65 (fun H locs B => ?_)
  have B : DB D A (wd_mo a b cI cJ cT mo_signs mo_signMany mo_nodeSign mo_nodeOn mo_nodeSize mo_nodeMany mo_due mo_openNode mo_value mo_isLaid mo_changes mo_changeNode mo_changeSign mo_differs mo_results mo_own (upd (upd (upd (upd (upd (upd (upd (upd mo_kinds (Int32.toNatClampNeg (0 : Int32)) (43 : Int32)) (Int32.toNatClampNeg (1 : Int32)) (45 : Int32)) (Int32.toNatClampNeg (2 : Int32)) (42 : Int32)) (Int32.toNatClampNeg (3 : Int32)) (109 : Int32)) (Int32.toNatClampNeg (4 : Int32)) (77 : Int32)) (Int32.toNatClampNeg (5 : Int32)) (60 : Int32)) (Int32.toNatClampNeg (6 : Int32)) (62 : Int32)) (Int32.toNatClampNeg (7 : Int32)) (61 : Int32)) mo_testInputs mo_testDue mo_tests mo_noticed mo_missed mo_leastFrom mo_blameUpper mo_blameLower) s H locs := B
  refine lv_aload_n hx hb dX12_layKinds_66 rfl (lv_at hl 0 rfl) ?_
  refine gfX12_layKinds_50 C B 0 rfl rfl dX12_layKinds_67 ?_
  refine lv_bipush (v := 8) hx hb dX12_layKinds_70 (by decide) ?_
  refine lv_bipush (v := 97) hx hb dX12_layKinds_72 (by decide) ?_
  refine k_iast C B 14 0 rfl rfl (vp_lit (by decide)) dX12_layKinds_74 (fun H locs B => ?_)
  have B : DB D A (wd_mo a b cI cJ cT mo_signs mo_signMany mo_nodeSign mo_nodeOn mo_nodeSize mo_nodeMany mo_due mo_openNode mo_value mo_isLaid mo_changes mo_changeNode mo_changeSign mo_differs mo_results mo_own (upd (upd (upd (upd (upd (upd (upd (upd (upd mo_kinds (Int32.toNatClampNeg (0 : Int32)) (43 : Int32)) (Int32.toNatClampNeg (1 : Int32)) (45 : Int32)) (Int32.toNatClampNeg (2 : Int32)) (42 : Int32)) (Int32.toNatClampNeg (3 : Int32)) (109 : Int32)) (Int32.toNatClampNeg (4 : Int32)) (77 : Int32)) (Int32.toNatClampNeg (5 : Int32)) (60 : Int32)) (Int32.toNatClampNeg (6 : Int32)) (62 : Int32)) (Int32.toNatClampNeg (7 : Int32)) (61 : Int32)) (Int32.toNatClampNeg (8 : Int32)) (97 : Int32)) mo_testInputs mo_testDue mo_tests mo_noticed mo_missed mo_leastFrom mo_blameUpper mo_blameLower) s H locs := B
  refine lv_aload_n hx hb dX12_layKinds_75 rfl (lv_at hl 0 rfl) ?_
  refine gfX12_layKinds_50 C B 0 rfl rfl dX12_layKinds_76 ?_
  refine lv_bipush (v := 9) hx hb dX12_layKinds_79 (by decide) ?_
  refine lv_bipush (v := 98) hx hb dX12_layKinds_81 (by decide) ?_
  refine k_iast C B 14 0 rfl rfl (vp_lit (by decide)) dX12_layKinds_83 (fun H locs B => ?_)
  have B : DB D A (wd_mo a b cI cJ cT mo_signs mo_signMany mo_nodeSign mo_nodeOn mo_nodeSize mo_nodeMany mo_due mo_openNode mo_value mo_isLaid mo_changes mo_changeNode mo_changeSign mo_differs mo_results mo_own (upd (upd (upd (upd (upd (upd (upd (upd (upd (upd mo_kinds (Int32.toNatClampNeg (0 : Int32)) (43 : Int32)) (Int32.toNatClampNeg (1 : Int32)) (45 : Int32)) (Int32.toNatClampNeg (2 : Int32)) (42 : Int32)) (Int32.toNatClampNeg (3 : Int32)) (109 : Int32)) (Int32.toNatClampNeg (4 : Int32)) (77 : Int32)) (Int32.toNatClampNeg (5 : Int32)) (60 : Int32)) (Int32.toNatClampNeg (6 : Int32)) (62 : Int32)) (Int32.toNatClampNeg (7 : Int32)) (61 : Int32)) (Int32.toNatClampNeg (8 : Int32)) (97 : Int32)) (Int32.toNatClampNeg (9 : Int32)) (98 : Int32)) mo_testInputs mo_testDue mo_tests mo_noticed mo_missed mo_leastFrom mo_blameUpper mo_blameLower) s H locs := B
  refine lv_aload_n hx hb dX12_layKinds_84 rfl (lv_at hl 0 rfl) ?_
  refine gfX12_layKinds_50 C B 0 rfl rfl dX12_layKinds_85 ?_
  refine lv_bipush (v := 10) hx hb dX12_layKinds_88 (by decide) ?_
  refine lv_bipush (v := 99) hx hb dX12_layKinds_90 (by decide) ?_
  refine k_iast C B 14 0 rfl rfl (vp_lit (by decide)) dX12_layKinds_92 (fun H locs B => ?_)
  have B : DB D A (wd_mo a b cI cJ cT mo_signs mo_signMany mo_nodeSign mo_nodeOn mo_nodeSize mo_nodeMany mo_due mo_openNode mo_value mo_isLaid mo_changes mo_changeNode mo_changeSign mo_differs mo_results mo_own (upd (upd (upd (upd (upd (upd (upd (upd (upd (upd (upd mo_kinds (Int32.toNatClampNeg (0 : Int32)) (43 : Int32)) (Int32.toNatClampNeg (1 : Int32)) (45 : Int32)) (Int32.toNatClampNeg (2 : Int32)) (42 : Int32)) (Int32.toNatClampNeg (3 : Int32)) (109 : Int32)) (Int32.toNatClampNeg (4 : Int32)) (77 : Int32)) (Int32.toNatClampNeg (5 : Int32)) (60 : Int32)) (Int32.toNatClampNeg (6 : Int32)) (62 : Int32)) (Int32.toNatClampNeg (7 : Int32)) (61 : Int32)) (Int32.toNatClampNeg (8 : Int32)) (97 : Int32)) (Int32.toNatClampNeg (9 : Int32)) (98 : Int32)) (Int32.toNatClampNeg (10 : Int32)) (99 : Int32)) mo_testInputs mo_testDue mo_tests mo_noticed mo_missed mo_leastFrom mo_blameUpper mo_blameLower) s H locs := B
  cases h
  exact k_vret C B dX12_layKinds_93
end
theorem tX12_layKinds {l : Launch} {D : va_G} {Es : (Nat → Nat) × (Nat → Nat)} {a b : Nat → Nat} {cI cJ cT : ClassId} {mo_signs : Nat → Int32} {mo_signMany : Int32} {mo_nodeSign : Nat → Int32} {mo_nodeOn : Nat → Int32} {mo_nodeSize : Nat → Int32} {mo_nodeMany : Nat → Int32} {mo_due : Nat → Int32} {mo_openNode : Nat → Int32} {mo_value : Nat → Int32} {mo_isLaid : Int32} {mo_changes : Int32} {mo_changeNode : Nat → Int32} {mo_changeSign : Nat → Int32} {mo_differs : Nat → Int32} {mo_results : Nat → Int32} {mo_own : Nat → Int32} {mo_kinds : Nat → Int32} {mo_testInputs : Nat → Int32} {mo_testDue : Nat → Int32} {mo_tests : Int32} {mo_noticed : Nat → Int32} {mo_missed : Nat → Int32} {mo_leastFrom : Nat → Int32} {mo_blameUpper : Nat → Int32} {mo_blameLower : Nat → Int32} {z_mo_kinds : Nat → Int32} (N : Nat) (h : fX12_layKinds N mo_kinds = some z_mo_kinds) : CtV l yX12_layKinds wsX12_layKinds rmX12_layKinds D (tyl cI cJ cT) Es [.ref (b 0)] (wd_mo a b cI cJ cT mo_signs mo_signMany mo_nodeSign mo_nodeOn mo_nodeSize mo_nodeMany mo_due mo_openNode mo_value mo_isLaid mo_changes mo_changeNode mo_changeSign mo_differs mo_results mo_own mo_kinds mo_testInputs mo_testDue mo_tests mo_noticed mo_missed mo_leastFrom mo_blameUpper mo_blameLower) (wd_mo a b cI cJ cT mo_signs mo_signMany mo_nodeSign mo_nodeOn mo_nodeSize mo_nodeMany mo_due mo_openNode mo_value mo_isLaid mo_changes mo_changeNode mo_changeSign mo_differs mo_results mo_own z_mo_kinds mo_testInputs mo_testDue mo_tests mo_noticed mo_missed mo_leastFrom mo_blameUpper mo_blameLower) :=
  CtV.of (own := RX12) (cc := cX12_layKinds) (nL := 1) (ret := none) (by decide +kernel) rfl rfl (Nat.le_of_ble_eq_true rfl) rfl (fun p e s m below meth c A ls C B hl => qX12_layKinds_0 C (N := N) mo_kinds h _ _ _ B hl)

abbrev rmX12_add : Room := { frames := 0, cells := 0, slots := 0, locals := 0 }
theorem hdX12_add : yX12_add.cls ≠ "java/lang/invoke/MethodHandle" ∧ yX12_add.cls ≠ "java/lang/invoke/VarHandle" ∧ (parseMethodDescriptor yX12_add.desc).map (fun d => d.parameters.length) = some 2 := by decide +kernel
theorem iX12_add_X12 : ∀ w ∈ wsX120, w ∈ wsX12_add := by decide +kernel
theorem gfX12_add_34 {p : Program} {l : Launch} {e : Env} {R : Room} {s : State} {m : MethodId} {args : Array Value} {below : List Frame} {meth : Method} {c : Code} {H : Heap} {locs : List Loc} {cells slots : Nat} {Q : State → Prop} {D : va_G} {A : Nat → Prop} {tys : List (ClassId × FieldType)} {Es : (Nat → Nat) × (Nat → Nat)} {ws : va_W} {pc : Nat} {ls : Array Slot} {rest : List Value} {a : Nat} (C : CT p s m args meth c RX12 cX12_add 3 none wsX12_add D A tys Es) (B : DB D A ws s H locs) (q0 : Nat) {fs : List Value} {v : Value} (he : ws[q0]? = some (a, .inr (12, fs))) (hv : fs[11]? = some v) (hdg : decode cX12_add pc = .ok (.getfield 34, 3)) (kk : W p l e R s m args below meth c H locs cells slots Q (F0 m (pc + 3) ls (v :: rest))) : W p l e R s m args below meth c H locs cells slots Q (F0 m pc ls (.ref a :: rest)) :=
  k_get (Cn := RX12) (T := TX12) (N := 25) (index := 34) C B iX12_add_X12 rfl 11 (by decide) (by decide +kernel) q0 he hv hdg kk
theorem gfX12_add_141 {p : Program} {l : Launch} {e : Env} {R : Room} {s : State} {m : MethodId} {args : Array Value} {below : List Frame} {meth : Method} {c : Code} {H : Heap} {locs : List Loc} {cells slots : Nat} {Q : State → Prop} {D : va_G} {A : Nat → Prop} {tys : List (ClassId × FieldType)} {Es : (Nat → Nat) × (Nat → Nat)} {ws : va_W} {pc : Nat} {ls : Array Slot} {rest : List Value} {a : Nat} (C : CT p s m args meth c RX12 cX12_add 3 none wsX12_add D A tys Es) (B : DB D A ws s H locs) (q0 : Nat) {fs : List Value} {v : Value} (he : ws[q0]? = some (a, .inr (12, fs))) (hv : fs[10]? = some v) (hdg : decode cX12_add pc = .ok (.getfield 141, 3)) (kk : W p l e R s m args below meth c H locs cells slots Q (F0 m (pc + 3) ls (v :: rest))) : W p l e R s m args below meth c H locs cells slots Q (F0 m pc ls (.ref a :: rest)) :=
  k_get (Cn := RX12) (T := TX12) (N := 25) (index := 141) C B iX12_add_X12 rfl 10 (by decide) (by decide +kernel) q0 he hv hdg kk
theorem gfX12_add_37 {p : Program} {l : Launch} {e : Env} {R : Room} {s : State} {m : MethodId} {args : Array Value} {below : List Frame} {meth : Method} {c : Code} {H : Heap} {locs : List Loc} {cells slots : Nat} {Q : State → Prop} {D : va_G} {A : Nat → Prop} {tys : List (ClassId × FieldType)} {Es : (Nat → Nat) × (Nat → Nat)} {ws : va_W} {pc : Nat} {ls : Array Slot} {rest : List Value} {a : Nat} (C : CT p s m args meth c RX12 cX12_add 3 none wsX12_add D A tys Es) (B : DB D A ws s H locs) (q0 : Nat) {fs : List Value} {v : Value} (he : ws[q0]? = some (a, .inr (12, fs))) (hv : fs[12]? = some v) (hdg : decode cX12_add pc = .ok (.getfield 37, 3)) (kk : W p l e R s m args below meth c H locs cells slots Q (F0 m (pc + 3) ls (v :: rest))) : W p l e R s m args below meth c H locs cells slots Q (F0 m pc ls (.ref a :: rest)) :=
  k_get (Cn := RX12) (T := TX12) (N := 25) (index := 37) C B iX12_add_X12 rfl 12 (by decide) (by decide +kernel) q0 he hv hdg kk
theorem pfX12_add_141 {p : Program} {l : Launch} {e : Env} {R : Room} {s : State} {m : MethodId} {args : Array Value} {below : List Frame} {meth : Method} {c : Code} {H : Heap} {locs : List Loc} {cells slots : Nat} {Q : State → Prop} {D : va_G} {A : Nat → Prop} {tys : List (ClassId × FieldType)} {Es : (Nat → Nat) × (Nat → Nat)} {ws : va_W} {pc : Nat} {ls : Array Slot} {rest : List Value} {a : Nat} (C : CT p s m args meth c RX12 cX12_add 3 none wsX12_add D A tys Es) (B : DB D A ws s H locs) (q0 : Nat) {fs : List Value} {v : Value} (hn : narrow .int v = v) (hfit : fits .int v = true) (he : ws[q0]? = some (a, .inr (12, fs))) (hl : 10 < fs.length) (hdg : decode cX12_add pc = .ok (.putfield 141, 3)) (kk : ∀ (H1 : Heap) (locs1 : List Loc), DB D A (ws.set q0 (a, .inr (12, fs.set 10 v))) s H1 locs1 → W p l e R s m args below meth c H1 locs1 cells slots Q (F0 m (pc + 3) ls rest)) : W p l e R s m args below meth c H locs cells slots Q (F0 m pc ls (v :: .ref a :: rest)) :=
  k_put (Cn := RX12) (T := TX12) (N := 25) (index := 141) C B iX12_add_X12 rfl tyX12 tyX12_ok nmX12 10 (by decide) (by decide +kernel) rfl q0 (by decide +kernel) hn hfit he hl hdg kk
section
variable {p : Program} {l : Launch} {e : Env} {s : State} {m : MethodId} {args : Array Value} {below : List Frame} {meth : Method} {c : Code} {D : va_G} {A : Nat → Prop} {Es : (Nat → Nat) × (Nat → Nat)} {a b : Nat → Nat} {cI cJ cT : ClassId}
set_option maxHeartbeats 4000000 in
set_option maxRecDepth 100000 in
theorem qX12_add_0 (C : CT p s m args meth c RX12 cX12_add 3 none wsX12_add D A (tyl cI cJ cT) Es) {N : Nat} {mo_signs : Nat → Int32} {mo_signMany : Int32} {mo_nodeSign : Nat → Int32} {mo_nodeOn : Nat → Int32} {mo_nodeSize : Nat → Int32} {mo_nodeMany : Nat → Int32} {mo_due : Nat → Int32} {mo_openNode : Nat → Int32} {mo_value : Nat → Int32} {mo_isLaid : Int32} {mo_differs : Nat → Int32} {mo_results : Nat → Int32} {mo_own : Nat → Int32} {mo_kinds : Nat → Int32} {mo_testInputs : Nat → Int32} {mo_testDue : Nat → Int32} {mo_tests : Int32} {mo_noticed : Nat → Int32} {mo_missed : Nat → Int32} {mo_leastFrom : Nat → Int32} {mo_blameUpper : Nat → Int32} {mo_blameLower : Nat → Int32} {z_mo_changes : Int32} {z_mo_changeNode : Nat → Int32} {z_mo_changeSign : Nat → Int32} : ∀ (x1 : Int32) (x2 : Int32) (mo_changes : Int32) (mo_changeNode : Nat → Int32) (mo_changeSign : Nat → Int32), fX12_add N x1 x2 mo_changes mo_changeNode mo_changeSign = some (z_mo_changes, z_mo_changeNode, z_mo_changeSign) → ∀ (H : Heap) (locs : List Loc) (ls : Array Slot), DB D A (wd_mo a b cI cJ cT mo_signs mo_signMany mo_nodeSign mo_nodeOn mo_nodeSize mo_nodeMany mo_due mo_openNode mo_value mo_isLaid mo_changes mo_changeNode mo_changeSign mo_differs mo_results mo_own mo_kinds mo_testInputs mo_testDue mo_tests mo_noticed mo_missed mo_leastFrom mo_blameUpper mo_blameLower) s H locs → lv_has ls 3 [(0, .ref (b 0)), (1, .int x1), (2, .int x2)] → W p l e rmX12_add s m args below meth c H locs 0 0 (ZV below args s D A (tyl cI cJ cT) (wd_mo a b cI cJ cT mo_signs mo_signMany mo_nodeSign mo_nodeOn mo_nodeSize mo_nodeMany mo_due mo_openNode mo_value mo_isLaid z_mo_changes z_mo_changeNode z_mo_changeSign mo_differs mo_results mo_own mo_kinds mo_testInputs mo_testDue mo_tests mo_noticed mo_missed mo_leastFrom mo_blameUpper mo_blameLower) 0 0) (F0 m 0 ls []) := by
  have hx := C.1.1
  have hb := C.1.2.1
  have hown := C.1.2.2.2.1
  have hts := C.1.2.2.2.2
  intro x1 x2 mo_changes mo_changeNode mo_changeSign h H locs ls B hl
  rw [fX12_add] at h
  refine lv_aload_n hx hb dX12_add_0 rfl (lv_at hl 0 rfl) ?_
  refine gfX12_add_34 C B 0 rfl rfl dX12_add_1 ?_
  refine lv_aload_n hx hb dX12_add_4 rfl (lv_at hl 0 rfl) ?_
  refine gfX12_add_141 C B 0 rfl rfl dX12_add_5 ?_
  refine lv_iload_n hx hb dX12_add_8 rfl (lv_at hl 1 rfl) ?_
  obtain ⟨b_1, h⟩ := bnd_some h
  refine k_iast C B 9 0 rfl rfl b_1 dX12_add_9 (fun H locs B => ?_)
  have B : DB D A (wd_mo a b cI cJ cT mo_signs mo_signMany mo_nodeSign mo_nodeOn mo_nodeSize mo_nodeMany mo_due mo_openNode mo_value mo_isLaid mo_changes (upd mo_changeNode (Int32.toNatClampNeg mo_changes) x1) mo_changeSign mo_differs mo_results mo_own mo_kinds mo_testInputs mo_testDue mo_tests mo_noticed mo_missed mo_leastFrom mo_blameUpper mo_blameLower) s H locs := B
  refine lv_aload_n hx hb dX12_add_10 rfl (lv_at hl 0 rfl) ?_
  refine gfX12_add_37 C B 0 rfl rfl dX12_add_11 ?_
  refine lv_aload_n hx hb dX12_add_14 rfl (lv_at hl 0 rfl) ?_
  refine gfX12_add_141 C B 0 rfl rfl dX12_add_15 ?_
  refine lv_iload_n hx hb dX12_add_18 rfl (lv_at hl 2 rfl) ?_
  refine k_iast C B 10 0 rfl rfl b_1 dX12_add_19 (fun H locs B => ?_)
  have B : DB D A (wd_mo a b cI cJ cT mo_signs mo_signMany mo_nodeSign mo_nodeOn mo_nodeSize mo_nodeMany mo_due mo_openNode mo_value mo_isLaid mo_changes (upd mo_changeNode (Int32.toNatClampNeg mo_changes) x1) (upd mo_changeSign (Int32.toNatClampNeg mo_changes) x2) mo_differs mo_results mo_own mo_kinds mo_testInputs mo_testDue mo_tests mo_noticed mo_missed mo_leastFrom mo_blameUpper mo_blameLower) s H locs := B
  refine lv_aload_n hx hb dX12_add_20 rfl (lv_at hl 0 rfl) ?_
  refine lv_dup hx hb dX12_add_21 rfl ?_
  refine gfX12_add_141 C B 0 rfl rfl dX12_add_22 ?_
  refine lv_iconst (v := 1) hx hb dX12_add_25 (by decide) ?_
  refine lv_iadd hx hb dX12_add_26 ?_
  refine pfX12_add_141 C B 0 rfl (by rfl) rfl (Nat.le_of_ble_eq_true rfl) dX12_add_27 (fun H locs B => ?_)
  have B : DB D A (wd_mo a b cI cJ cT mo_signs mo_signMany mo_nodeSign mo_nodeOn mo_nodeSize mo_nodeMany mo_due mo_openNode mo_value mo_isLaid (mo_changes + (1 : Int32)) (upd mo_changeNode (Int32.toNatClampNeg mo_changes) x1) (upd mo_changeSign (Int32.toNatClampNeg mo_changes) x2) mo_differs mo_results mo_own mo_kinds mo_testInputs mo_testDue mo_tests mo_noticed mo_missed mo_leastFrom mo_blameUpper mo_blameLower) s H locs := B
  cases h
  exact k_vret C B dX12_add_30
end
theorem tX12_add {l : Launch} {D : va_G} {Es : (Nat → Nat) × (Nat → Nat)} {a b : Nat → Nat} {cI cJ cT : ClassId} {mo_signs : Nat → Int32} {mo_signMany : Int32} {mo_nodeSign : Nat → Int32} {mo_nodeOn : Nat → Int32} {mo_nodeSize : Nat → Int32} {mo_nodeMany : Nat → Int32} {mo_due : Nat → Int32} {mo_openNode : Nat → Int32} {mo_value : Nat → Int32} {mo_isLaid : Int32} {mo_changes : Int32} {mo_changeNode : Nat → Int32} {mo_changeSign : Nat → Int32} {mo_differs : Nat → Int32} {mo_results : Nat → Int32} {mo_own : Nat → Int32} {mo_kinds : Nat → Int32} {mo_testInputs : Nat → Int32} {mo_testDue : Nat → Int32} {mo_tests : Int32} {mo_noticed : Nat → Int32} {mo_missed : Nat → Int32} {mo_leastFrom : Nat → Int32} {mo_blameUpper : Nat → Int32} {mo_blameLower : Nat → Int32} {x1 : Int32} {x2 : Int32} {z_mo_changes : Int32} {z_mo_changeNode : Nat → Int32} {z_mo_changeSign : Nat → Int32} (N : Nat) (h : fX12_add N x1 x2 mo_changes mo_changeNode mo_changeSign = some (z_mo_changes, z_mo_changeNode, z_mo_changeSign)) : CtV l yX12_add wsX12_add rmX12_add D (tyl cI cJ cT) Es [.ref (b 0), .int x1, .int x2] (wd_mo a b cI cJ cT mo_signs mo_signMany mo_nodeSign mo_nodeOn mo_nodeSize mo_nodeMany mo_due mo_openNode mo_value mo_isLaid mo_changes mo_changeNode mo_changeSign mo_differs mo_results mo_own mo_kinds mo_testInputs mo_testDue mo_tests mo_noticed mo_missed mo_leastFrom mo_blameUpper mo_blameLower) (wd_mo a b cI cJ cT mo_signs mo_signMany mo_nodeSign mo_nodeOn mo_nodeSize mo_nodeMany mo_due mo_openNode mo_value mo_isLaid z_mo_changes z_mo_changeNode z_mo_changeSign mo_differs mo_results mo_own mo_kinds mo_testInputs mo_testDue mo_tests mo_noticed mo_missed mo_leastFrom mo_blameUpper mo_blameLower) :=
  CtV.of (own := RX12) (cc := cX12_add) (nL := 3) (ret := none) (by decide +kernel) rfl rfl (Nat.le_of_ble_eq_true rfl) rfl (fun p e s m below meth c A ls C B hl => qX12_add_0 C (N := N) x1 x2 mo_changes mo_changeNode mo_changeSign h _ _ _ B hl)

abbrev rmX12_addFor : Room := { frames := 3, cells := 0, slots := 0, locals := 65 }
theorem hdX12_addFor : yX12_addFor.cls ≠ "java/lang/invoke/MethodHandle" ∧ yX12_addFor.cls ≠ "java/lang/invoke/VarHandle" ∧ (parseMethodDescriptor yX12_addFor.desc).map (fun d => d.parameters.length) = some 1 := by decide +kernel
theorem iX12_addFor_X12 : ∀ w ∈ wsX120, w ∈ wsX12_addFor := by decide +kernel
theorem gfX12_addFor_50 {p : Program} {l : Launch} {e : Env} {R : Room} {s : State} {m : MethodId} {args : Array Value} {below : List Frame} {meth : Method} {c : Code} {H : Heap} {locs : List Loc} {cells slots : Nat} {Q : State → Prop} {D : va_G} {A : Nat → Prop} {tys : List (ClassId × FieldType)} {Es : (Nat → Nat) × (Nat → Nat)} {ws : va_W} {pc : Nat} {ls : Array Slot} {rest : List Value} {a : Nat} (C : CT p s m args meth c RX12 cX12_addFor 6 none wsX12_addFor D A tys Es) (B : DB D A ws s H locs) (q0 : Nat) {fs : List Value} {v : Value} (he : ws[q0]? = some (a, .inr (12, fs))) (hv : fs[16]? = some v) (hdg : decode cX12_addFor pc = .ok (.getfield 50, 3)) (kk : W p l e R s m args below meth c H locs cells slots Q (F0 m (pc + 3) ls (v :: rest))) : W p l e R s m args below meth c H locs cells slots Q (F0 m pc ls (.ref a :: rest)) :=
  k_get (Cn := RX12) (T := TX12) (N := 25) (index := 50) C B iX12_addFor_X12 rfl 16 (by decide) (by decide +kernel) q0 he hv hdg kk
theorem gfX12_addFor_13 {p : Program} {l : Launch} {e : Env} {R : Room} {s : State} {m : MethodId} {args : Array Value} {below : List Frame} {meth : Method} {c : Code} {H : Heap} {locs : List Loc} {cells slots : Nat} {Q : State → Prop} {D : va_G} {A : Nat → Prop} {tys : List (ClassId × FieldType)} {Es : (Nat → Nat) × (Nat → Nat)} {ws : va_W} {pc : Nat} {ls : Array Slot} {rest : List Value} {a : Nat} (C : CT p s m args meth c RX12 cX12_addFor 6 none wsX12_addFor D A tys Es) (B : DB D A ws s H locs) (q0 : Nat) {fs : List Value} {v : Value} (he : ws[q0]? = some (a, .inr (12, fs))) (hv : fs[2]? = some v) (hdg : decode cX12_addFor pc = .ok (.getfield 13, 3)) (kk : W p l e R s m args below meth c H locs cells slots Q (F0 m (pc + 3) ls (v :: rest))) : W p l e R s m args below meth c H locs cells slots Q (F0 m pc ls (.ref a :: rest)) :=
  k_get (Cn := RX12) (T := TX12) (N := 25) (index := 13) C B iX12_addFor_X12 rfl 2 (by decide) (by decide +kernel) q0 he hv hdg kk
section
variable {p : Program} {l : Launch} {e : Env} {s : State} {m : MethodId} {args : Array Value} {below : List Frame} {meth : Method} {c : Code} {D : va_G} {A : Nat → Prop} {Es : (Nat → Nat) × (Nat → Nat)} {a b : Nat → Nat} {cI cJ cT : ClassId}
set_option maxHeartbeats 4000000 in
set_option maxRecDepth 100000 in
theorem qX12_addFor_106 (C : CT p s m args meth c RX12 cX12_addFor 6 none wsX12_addFor D A (tyl cI cJ cT) Es) {N : Nat} {mo_signs : Nat → Int32} {mo_signMany : Int32} {mo_nodeSign : Nat → Int32} {mo_nodeOn : Nat → Int32} {mo_nodeSize : Nat → Int32} {mo_nodeMany : Nat → Int32} {mo_due : Nat → Int32} {mo_openNode : Nat → Int32} {mo_value : Nat → Int32} {mo_isLaid : Int32} {mo_differs : Nat → Int32} {mo_results : Nat → Int32} {mo_own : Nat → Int32} {mo_kinds : Nat → Int32} {mo_testInputs : Nat → Int32} {mo_testDue : Nat → Int32} {mo_tests : Int32} {mo_noticed : Nat → Int32} {mo_missed : Nat → Int32} {mo_leastFrom : Nat → Int32} {mo_blameUpper : Nat → Int32} {mo_blameLower : Nat → Int32} {z_mo_changes : Int32} {z_mo_changeNode : Nat → Int32} {z_mo_changeSign : Nat → Int32} : ∀ (n : Nat) (x1 : Int32) (x2 : Int32) (x4 : Int32) (x5 : Int32) (mo_changes : Int32) (mo_changeNode : Nat → Int32) (mo_changeSign : Nat → Int32), bX12_addFor_106 N mo_nodeSign mo_kinds n x1 x2 x4 x5 mo_changes mo_changeNode mo_changeSign = some (z_mo_changes, z_mo_changeNode, z_mo_changeSign) → ∀ (H : Heap) (locs : List Loc) (ls : Array Slot), DB D A (wd_mo a b cI cJ cT mo_signs mo_signMany mo_nodeSign mo_nodeOn mo_nodeSize mo_nodeMany mo_due mo_openNode mo_value mo_isLaid mo_changes mo_changeNode mo_changeSign mo_differs mo_results mo_own mo_kinds mo_testInputs mo_testDue mo_tests mo_noticed mo_missed mo_leastFrom mo_blameUpper mo_blameLower) s H locs → lv_has ls 6 [(0, .ref (b 0)), (1, .int x1), (2, .int x2), (4, .int x4), (5, .int x5)] → W p l e rmX12_addFor s m args below meth c H locs 0 0 (ZV below args s D A (tyl cI cJ cT) (wd_mo a b cI cJ cT mo_signs mo_signMany mo_nodeSign mo_nodeOn mo_nodeSize mo_nodeMany mo_due mo_openNode mo_value mo_isLaid z_mo_changes z_mo_changeNode z_mo_changeSign mo_differs mo_results mo_own mo_kinds mo_testInputs mo_testDue mo_tests mo_noticed mo_missed mo_leastFrom mo_blameUpper mo_blameLower) 0 0) (F0 m 106 ls []) := by
  have hx := C.1.1
  have hb := C.1.2.1
  have hown := C.1.2.2.2.1
  have hts := C.1.2.2.2.2
  intro n
  induction n with
  | zero => intro x1 x2 x4 x5 mo_changes mo_changeNode mo_changeSign h; cases h
  | succ n ih =>
    intro x1 x2 x4 x5 mo_changes mo_changeNode mo_changeSign h H locs ls B hl
    rw [bX12_addFor_106] at h
    refine lv_iload hx hb dX12_addFor_106 (lv_at hl 4 rfl) ?_
    refine lv_iload hx hb dX12_addFor_108 (lv_at hl 3 rfl) ?_
    refine lv_icmp_ge (tgt := 142) hx hb dX12_addFor_110 (by decide) (fun c_1 => ?_) (fun c_1 => ?_)
    · rw [if_pos c_1] at h
      cases h
      exact k_vret C B dX12_addFor_142
    · rw [if_neg c_1] at h
      refine lv_aload_n hx hb dX12_addFor_113 rfl (lv_at hl 0 rfl) ?_
      refine gfX12_addFor_50 C B 0 rfl rfl dX12_addFor_114 ?_
      refine lv_iload hx hb dX12_addFor_117 (lv_at hl 4 rfl) ?_
      obtain ⟨b_2, h⟩ := bnd_some h
      refine k_iald C B 14 0 rfl rfl b_2 dX12_addFor_119 ?_
      refine lv_iload_n hx hb dX12_addFor_120 rfl (lv_at hl 2 rfl) ?_
      refine lv_icmp_eq (tgt := 136) hx hb dX12_addFor_121 (by decide) (fun c_3 => ?_) (fun c_3 => ?_)
      · rw [if_pos c_3] at h
        refine lv_iinc (v := (x5 + 1)) (lv' := [(5, .int (x5 + 1)), (0, .ref (b 0)), (1, .int x1), (2, .int x2), (4, .int x4)]) hx hb dX12_addFor_136 hl (k := 4) rfl rfl (by decide) rfl (fun ls hl => ?_)
        refine lv_goto (tgt := 106) hx hb dX12_addFor_139 (by decide) ?_
        exact ih x1 x2 x4 (x5 + 1) mo_changes mo_changeNode mo_changeSign h H locs ls B (lv_sub hl [1, 2, 3, 4, 0] rfl)
      · rw [if_neg c_3] at h
        refine lv_aload_n hx hb dX12_addFor_124 rfl (lv_at hl 0 rfl) ?_
        refine lv_iload_n hx hb dX12_addFor_125 rfl (lv_at hl 1 rfl) ?_
        refine lv_aload_n hx hb dX12_addFor_126 rfl (lv_at hl 0 rfl) ?_
        refine gfX12_addFor_50 C B 0 rfl rfl dX12_addFor_127 ?_
        refine lv_iload hx hb dX12_addFor_130 (lv_at hl 4 rfl) ?_
        refine k_iald C B 14 0 rfl rfl b_2 dX12_addFor_132 ?_
        obtain ⟨⟨mo_changes_4, mo_changeNode_5, mo_changeSign_6⟩, g_7, h⟩ := ob_some h
        try dsimp only at h
        refine kc_VV C B (q0 := 0) (ci := 12) (As := [.int x1, .int (mo_kinds (Int32.toNatClampNeg x5))]) (rest := []) (w2 := (wd_mo a b cI cJ cT mo_signs mo_signMany mo_nodeSign mo_nodeOn mo_nodeSize mo_nodeMany mo_due mo_openNode mo_value mo_isLaid mo_changes_4 mo_changeNode_5 mo_changeSign_6 mo_differs mo_results mo_own mo_kinds mo_testInputs mo_testDue mo_tests mo_noticed mo_missed mo_leastFrom mo_blameUpper mo_blameLower)) (tX12_add (a := a) (b := b) N g_7) gX12_addFor_X12_add rfl ⟨rfl, rfl⟩ ⟨rfl, hdX12_add⟩ ⟨Nat.le_of_ble_eq_true rfl, Nat.le_of_ble_eq_true rfl⟩ rfl rfl [0, 1, 2, 3, 4, 5, 6, 7, 8, 9, 10, 11, 12, 13, 14, 15, 16, 17, 18, 19, 20, 21] [] [0, 1, 2, 3, 4, 5, 6, 7, 8, 9, 10, 11, 12, 13, 14, 15, 16, 17, 18, 19, 20, 21] rfl rfl rfl rfl rfl rfl rfl rfl hl.1 rfl (Nat.le_of_ble_eq_true rfl) ⟨Nat.zero_le _, Nat.zero_le _⟩ dX12_addFor_133 (fun H locs B => ?_)
        refine lv_iinc (v := (x5 + 1)) (lv' := [(5, .int (x5 + 1)), (0, .ref (b 0)), (1, .int x1), (2, .int x2), (4, .int x4)]) hx hb dX12_addFor_136 hl (k := 4) rfl rfl (by decide) rfl (fun ls hl => ?_)
        refine lv_goto (tgt := 106) hx hb dX12_addFor_139 (by decide) ?_
        exact ih x1 x2 x4 (x5 + 1) mo_changes_4 mo_changeNode_5 mo_changeSign_6 h H locs ls B (lv_sub hl [1, 2, 3, 4, 0] rfl)
set_option maxHeartbeats 4000000 in
set_option maxRecDepth 100000 in
theorem qX12_addFor_74 (C : CT p s m args meth c RX12 cX12_addFor 6 none wsX12_addFor D A (tyl cI cJ cT) Es) {N : Nat} {mo_signs : Nat → Int32} {mo_signMany : Int32} {mo_nodeSign : Nat → Int32} {mo_nodeOn : Nat → Int32} {mo_nodeSize : Nat → Int32} {mo_nodeMany : Nat → Int32} {mo_due : Nat → Int32} {mo_openNode : Nat → Int32} {mo_value : Nat → Int32} {mo_isLaid : Int32} {mo_differs : Nat → Int32} {mo_results : Nat → Int32} {mo_own : Nat → Int32} {mo_kinds : Nat → Int32} {mo_testInputs : Nat → Int32} {mo_testDue : Nat → Int32} {mo_tests : Int32} {mo_noticed : Nat → Int32} {mo_missed : Nat → Int32} {mo_leastFrom : Nat → Int32} {mo_blameUpper : Nat → Int32} {mo_blameLower : Nat → Int32} {z_mo_changes : Int32} {z_mo_changeNode : Nat → Int32} {z_mo_changeSign : Nat → Int32} : ∀ (x1 : Int32) (x2 : Int32) (y0 : Int32) (mo_changes : Int32) (mo_changeNode : Nat → Int32) (mo_changeSign : Nat → Int32), bX12_addFor_74 N mo_nodeSign mo_kinds x1 x2 y0 mo_changes mo_changeNode mo_changeSign = some (z_mo_changes, z_mo_changeNode, z_mo_changeSign) → ∀ (H : Heap) (locs : List Loc) (ls : Array Slot), DB D A (wd_mo a b cI cJ cT mo_signs mo_signMany mo_nodeSign mo_nodeOn mo_nodeSize mo_nodeMany mo_due mo_openNode mo_value mo_isLaid mo_changes mo_changeNode mo_changeSign mo_differs mo_results mo_own mo_kinds mo_testInputs mo_testDue mo_tests mo_noticed mo_missed mo_leastFrom mo_blameUpper mo_blameLower) s H locs → lv_has ls 6 [(0, .ref (b 0)), (1, .int x1), (2, .int x2)] → W p l e rmX12_addFor s m args below meth c H locs 0 0 (ZV below args s D A (tyl cI cJ cT) (wd_mo a b cI cJ cT mo_signs mo_signMany mo_nodeSign mo_nodeOn mo_nodeSize mo_nodeMany mo_due mo_openNode mo_value mo_isLaid z_mo_changes z_mo_changeNode z_mo_changeSign mo_differs mo_results mo_own mo_kinds mo_testInputs mo_testDue mo_tests mo_noticed mo_missed mo_leastFrom mo_blameUpper mo_blameLower) 0 0) (F0 m 74 ls [.int y0]) := by
  have hx := C.1.1
  have hb := C.1.2.1
  have hown := C.1.2.2.2.1
  have hts := C.1.2.2.2.2
  intro x1 x2 y0 mo_changes mo_changeNode mo_changeSign h H locs ls B hl
  rw [bX12_addFor_74] at h
  refine lv_istore_n (lv' := [(3, .int y0), (0, .ref (b 0)), (1, .int x1), (2, .int x2)]) hx hb dX12_addFor_74 rfl hl (by decide) rfl (fun ls hl => ?_)
  refine lv_iload_n hx hb dX12_addFor_75 rfl (lv_at hl 3 rfl) ?_
  obtain ⟨r_1, g_6, h⟩ := ob_some h
  try dsimp only at h
  refine kc_SI C B (As := [.int x2]) (rest := []) (w2 := (wd_mo a b cI cJ cT mo_signs mo_signMany mo_nodeSign mo_nodeOn mo_nodeSize mo_nodeMany mo_due mo_openNode mo_value mo_isLaid mo_changes mo_changeNode mo_changeSign mo_differs mo_results mo_own mo_kinds mo_testInputs mo_testDue mo_tests mo_noticed mo_missed mo_leastFrom mo_blameUpper mo_blameLower)) (tX12_isInput N g_6) gX12_addFor_X12_isInput rfl ⟨rfl, rfl⟩ hdX12_isInput ⟨Nat.le_of_ble_eq_true rfl, Nat.le_of_ble_eq_true rfl⟩ [] [0, 1, 2, 3, 4, 5, 6, 7, 8, 9, 10, 11, 12, 13, 14, 15, 16, 17, 18, 19, 20, 21] [0, 1, 2, 3, 4, 5, 6, 7, 8, 9, 10, 11, 12, 13, 14, 15, 16, 17, 18, 19, 20, 21] rfl rfl rfl rfl rfl rfl rfl rfl hl.1 rfl (Nat.le_of_ble_eq_true rfl) ⟨Nat.zero_le _, Nat.zero_le _⟩ dX12_addFor_76 (fun H locs B => ?_)
  refine lv_if_eq (tgt := 87) hx hb dX12_addFor_79 (by decide) (fun c_2 => ?_) (fun c_2 => ?_)
  · rw [if_pos c_2] at h
    refine lv_iload_n hx hb dX12_addFor_87 rfl (lv_at hl 3 rfl) ?_
    obtain ⟨r_3, g_5, h⟩ := ob_some h
    try dsimp only at h
    refine kc_SI C B (As := [.int x2]) (rest := []) (w2 := (wd_mo a b cI cJ cT mo_signs mo_signMany mo_nodeSign mo_nodeOn mo_nodeSize mo_nodeMany mo_due mo_openNode mo_value mo_isLaid mo_changes mo_changeNode mo_changeSign mo_differs mo_results mo_own mo_kinds mo_testInputs mo_testDue mo_tests mo_noticed mo_missed mo_leastFrom mo_blameUpper mo_blameLower)) (tX12_partsOf N g_5) gX12_addFor_X12_partsOf rfl ⟨rfl, rfl⟩ hdX12_partsOf ⟨Nat.le_of_ble_eq_true rfl, Nat.le_of_ble_eq_true rfl⟩ [] [0, 1, 2, 3, 4, 5, 6, 7, 8, 9, 10, 11, 12, 13, 14, 15, 16, 17, 18, 19, 20, 21] [0, 1, 2, 3, 4, 5, 6, 7, 8, 9, 10, 11, 12, 13, 14, 15, 16, 17, 18, 19, 20, 21] rfl rfl rfl rfl rfl rfl rfl rfl hl.1 rfl (Nat.le_of_ble_eq_true rfl) ⟨Nat.zero_le _, Nat.zero_le _⟩ dX12_addFor_88 (fun H locs B => ?_)
    refine lv_iconst (v := 2) hx hb dX12_addFor_91 (by decide) ?_
    refine lv_icmp_ne (tgt := 99) hx hb dX12_addFor_92 (by decide) (fun c_4 => ?_) (fun c_4 => ?_)
    · rw [if_neg c_4] at h
      refine lv_bipush (v := 8) hx hb dX12_addFor_99 (by decide) ?_
      refine lv_istore (lv' := [(4, .int (8 : Int32)), (3, .int y0), (0, .ref (b 0)), (1, .int x1), (2, .int x2)]) hx hb dX12_addFor_101 hl (by decide) rfl (fun ls hl => ?_)
      refine lv_iload_n hx hb dX12_addFor_103 rfl (lv_at hl 1 rfl) ?_
      refine lv_istore (lv' := [(5, .int y0), (4, .int (8 : Int32)), (3, .int y0), (0, .ref (b 0)), (1, .int x1), (2, .int x2)]) hx hb dX12_addFor_104 hl (by decide) rfl (fun ls hl => ?_)
      exact qX12_addFor_106 C N x1 x2 (8 : Int32) y0 mo_changes mo_changeNode mo_changeSign h H locs ls B (lv_sub hl [3, 4, 5, 1, 0] rfl)
    · rw [if_pos c_4] at h
      refine lv_iconst (v := 5) hx hb dX12_addFor_95 (by decide) ?_
      refine lv_goto (tgt := 101) hx hb dX12_addFor_96 (by decide) ?_
      refine lv_istore (lv' := [(4, .int (5 : Int32)), (3, .int y0), (0, .ref (b 0)), (1, .int x1), (2, .int x2)]) hx hb dX12_addFor_101 hl (by decide) rfl (fun ls hl => ?_)
      refine lv_iload_n hx hb dX12_addFor_103 rfl (lv_at hl 1 rfl) ?_
      refine lv_istore (lv' := [(5, .int y0), (4, .int (5 : Int32)), (3, .int y0), (0, .ref (b 0)), (1, .int x1), (2, .int x2)]) hx hb dX12_addFor_104 hl (by decide) rfl (fun ls hl => ?_)
      exact qX12_addFor_106 C N x1 x2 (5 : Int32) y0 mo_changes mo_changeNode mo_changeSign h H locs ls B (lv_sub hl [3, 4, 5, 1, 0] rfl)
  · rw [if_neg c_2] at h
    refine lv_bipush (v := 11) hx hb dX12_addFor_82 (by decide) ?_
    refine lv_goto (tgt := 101) hx hb dX12_addFor_84 (by decide) ?_
    refine lv_istore (lv' := [(4, .int (11 : Int32)), (3, .int y0), (0, .ref (b 0)), (1, .int x1), (2, .int x2)]) hx hb dX12_addFor_101 hl (by decide) rfl (fun ls hl => ?_)
    refine lv_iload_n hx hb dX12_addFor_103 rfl (lv_at hl 1 rfl) ?_
    refine lv_istore (lv' := [(5, .int y0), (4, .int (11 : Int32)), (3, .int y0), (0, .ref (b 0)), (1, .int x1), (2, .int x2)]) hx hb dX12_addFor_104 hl (by decide) rfl (fun ls hl => ?_)
    exact qX12_addFor_106 C N x1 x2 (11 : Int32) y0 mo_changes mo_changeNode mo_changeSign h H locs ls B (lv_sub hl [3, 4, 5, 1, 0] rfl)
set_option maxHeartbeats 4000000 in
set_option maxRecDepth 100000 in
theorem qX12_addFor_0 (C : CT p s m args meth c RX12 cX12_addFor 6 none wsX12_addFor D A (tyl cI cJ cT) Es) {N : Nat} {mo_signs : Nat → Int32} {mo_signMany : Int32} {mo_nodeSign : Nat → Int32} {mo_nodeOn : Nat → Int32} {mo_nodeSize : Nat → Int32} {mo_nodeMany : Nat → Int32} {mo_due : Nat → Int32} {mo_openNode : Nat → Int32} {mo_value : Nat → Int32} {mo_isLaid : Int32} {mo_differs : Nat → Int32} {mo_results : Nat → Int32} {mo_own : Nat → Int32} {mo_kinds : Nat → Int32} {mo_testInputs : Nat → Int32} {mo_testDue : Nat → Int32} {mo_tests : Int32} {mo_noticed : Nat → Int32} {mo_missed : Nat → Int32} {mo_leastFrom : Nat → Int32} {mo_blameUpper : Nat → Int32} {mo_blameLower : Nat → Int32} {z_mo_changes : Int32} {z_mo_changeNode : Nat → Int32} {z_mo_changeSign : Nat → Int32} : ∀ (x1 : Int32) (mo_changes : Int32) (mo_changeNode : Nat → Int32) (mo_changeSign : Nat → Int32), fX12_addFor N mo_nodeSign mo_kinds x1 mo_changes mo_changeNode mo_changeSign = some (z_mo_changes, z_mo_changeNode, z_mo_changeSign) → ∀ (H : Heap) (locs : List Loc) (ls : Array Slot), DB D A (wd_mo a b cI cJ cT mo_signs mo_signMany mo_nodeSign mo_nodeOn mo_nodeSize mo_nodeMany mo_due mo_openNode mo_value mo_isLaid mo_changes mo_changeNode mo_changeSign mo_differs mo_results mo_own mo_kinds mo_testInputs mo_testDue mo_tests mo_noticed mo_missed mo_leastFrom mo_blameUpper mo_blameLower) s H locs → lv_has ls 6 [(0, .ref (b 0)), (1, .int x1)] → W p l e rmX12_addFor s m args below meth c H locs 0 0 (ZV below args s D A (tyl cI cJ cT) (wd_mo a b cI cJ cT mo_signs mo_signMany mo_nodeSign mo_nodeOn mo_nodeSize mo_nodeMany mo_due mo_openNode mo_value mo_isLaid z_mo_changes z_mo_changeNode z_mo_changeSign mo_differs mo_results mo_own mo_kinds mo_testInputs mo_testDue mo_tests mo_noticed mo_missed mo_leastFrom mo_blameUpper mo_blameLower) 0 0) (F0 m 0 ls []) := by
  have hx := C.1.1
  have hb := C.1.2.1
  have hown := C.1.2.2.2.1
  have hts := C.1.2.2.2.2
  intro x1 mo_changes mo_changeNode mo_changeSign h H locs ls B hl
  rw [fX12_addFor] at h
  refine lv_aload_n hx hb dX12_addFor_0 rfl (lv_at hl 0 rfl) ?_
  refine gfX12_addFor_13 C B 0 rfl rfl dX12_addFor_1 ?_
  refine lv_iload_n hx hb dX12_addFor_4 rfl (lv_at hl 1 rfl) ?_
  obtain ⟨b_1, h⟩ := bnd_some h
  refine k_iald C B 2 0 rfl rfl b_1 dX12_addFor_5 ?_
  refine lv_istore_n (lv' := [(2, .int (mo_nodeSign (Int32.toNatClampNeg x1))), (0, .ref (b 0)), (1, .int x1)]) hx hb dX12_addFor_6 rfl hl (by decide) rfl (fun ls hl => ?_)
  refine lv_iload_n hx hb dX12_addFor_7 rfl (lv_at hl 0 rfl) ?_
  obtain ⟨r_2, g_18, h⟩ := ob_some h
  try dsimp only at h
  refine kc_SI C B (As := [.int (mo_nodeSign (Int32.toNatClampNeg x1))]) (rest := []) (w2 := (wd_mo a b cI cJ cT mo_signs mo_signMany mo_nodeSign mo_nodeOn mo_nodeSize mo_nodeMany mo_due mo_openNode mo_value mo_isLaid mo_changes mo_changeNode mo_changeSign mo_differs mo_results mo_own mo_kinds mo_testInputs mo_testDue mo_tests mo_noticed mo_missed mo_leastFrom mo_blameUpper mo_blameLower)) (tX12_isNumber N g_18) gX12_addFor_X12_isNumber rfl ⟨rfl, rfl⟩ hdX12_isNumber ⟨Nat.le_of_ble_eq_true rfl, Nat.le_of_ble_eq_true rfl⟩ [] [0, 1, 2, 3, 4, 5, 6, 7, 8, 9, 10, 11, 12, 13, 14, 15, 16, 17, 18, 19, 20, 21] [0, 1, 2, 3, 4, 5, 6, 7, 8, 9, 10, 11, 12, 13, 14, 15, 16, 17, 18, 19, 20, 21] rfl rfl rfl rfl rfl rfl rfl rfl hl.1 rfl (Nat.le_of_ble_eq_true rfl) ⟨Nat.zero_le _, Nat.zero_le _⟩ dX12_addFor_8 (fun H locs B => ?_)
  refine lv_if_eq (tgt := 49) hx hb dX12_addFor_11 (by decide) (fun c_3 => ?_) (fun c_3 => ?_)
  · rw [if_pos c_3] at h
    refine lv_iload_n hx hb dX12_addFor_49 rfl (lv_at hl 0 rfl) ?_
    obtain ⟨r_4, g_9, h⟩ := ob_some h
    try dsimp only at h
    refine kc_SI C B (As := [.int (mo_nodeSign (Int32.toNatClampNeg x1))]) (rest := []) (w2 := (wd_mo a b cI cJ cT mo_signs mo_signMany mo_nodeSign mo_nodeOn mo_nodeSize mo_nodeMany mo_due mo_openNode mo_value mo_isLaid mo_changes mo_changeNode mo_changeSign mo_differs mo_results mo_own mo_kinds mo_testInputs mo_testDue mo_tests mo_noticed mo_missed mo_leastFrom mo_blameUpper mo_blameLower)) (tX12_isInput N g_9) gX12_addFor_X12_isInput rfl ⟨rfl, rfl⟩ hdX12_isInput ⟨Nat.le_of_ble_eq_true rfl, Nat.le_of_ble_eq_true rfl⟩ [] [0, 1, 2, 3, 4, 5, 6, 7, 8, 9, 10, 11, 12, 13, 14, 15, 16, 17, 18, 19, 20, 21] [0, 1, 2, 3, 4, 5, 6, 7, 8, 9, 10, 11, 12, 13, 14, 15, 16, 17, 18, 19, 20, 21] rfl rfl rfl rfl rfl rfl rfl rfl hl.1 rfl (Nat.le_of_ble_eq_true rfl) ⟨Nat.zero_le _, Nat.zero_le _⟩ dX12_addFor_50 (fun H locs B => ?_)
    refine lv_if_eq (tgt := 61) hx hb dX12_addFor_53 (by decide) (fun c_5 => ?_) (fun c_5 => ?_)
    · rw [if_pos c_5] at h
      refine lv_iload_n hx hb dX12_addFor_61 rfl (lv_at hl 0 rfl) ?_
      obtain ⟨r_6, g_8, h⟩ := ob_some h
      try dsimp only at h
      refine kc_SI C B (As := [.int (mo_nodeSign (Int32.toNatClampNeg x1))]) (rest := []) (w2 := (wd_mo a b cI cJ cT mo_signs mo_signMany mo_nodeSign mo_nodeOn mo_nodeSize mo_nodeMany mo_due mo_openNode mo_value mo_isLaid mo_changes mo_changeNode mo_changeSign mo_differs mo_results mo_own mo_kinds mo_testInputs mo_testDue mo_tests mo_noticed mo_missed mo_leastFrom mo_blameUpper mo_blameLower)) (tX12_partsOf N g_8) gX12_addFor_X12_partsOf rfl ⟨rfl, rfl⟩ hdX12_partsOf ⟨Nat.le_of_ble_eq_true rfl, Nat.le_of_ble_eq_true rfl⟩ [] [0, 1, 2, 3, 4, 5, 6, 7, 8, 9, 10, 11, 12, 13, 14, 15, 16, 17, 18, 19, 20, 21] [0, 1, 2, 3, 4, 5, 6, 7, 8, 9, 10, 11, 12, 13, 14, 15, 16, 17, 18, 19, 20, 21] rfl rfl rfl rfl rfl rfl rfl rfl hl.1 rfl (Nat.le_of_ble_eq_true rfl) ⟨Nat.zero_le _, Nat.zero_le _⟩ dX12_addFor_62 (fun H locs B => ?_)
      refine lv_iconst (v := 2) hx hb dX12_addFor_65 (by decide) ?_
      refine lv_icmp_ne (tgt := 73) hx hb dX12_addFor_66 (by decide) (fun c_7 => ?_) (fun c_7 => ?_)
      · rw [if_neg c_7] at h
        refine lv_iconst (v := 5) hx hb dX12_addFor_73 (by decide) ?_
        exact qX12_addFor_74 C x1 (mo_nodeSign (Int32.toNatClampNeg x1)) (5 : Int32) mo_changes mo_changeNode mo_changeSign h H locs ls B (lv_sub hl [1, 2, 0] rfl)
      · rw [if_pos c_7] at h
        refine lv_iconst (v := 0) hx hb dX12_addFor_69 (by decide) ?_
        refine lv_goto (tgt := 74) hx hb dX12_addFor_70 (by decide) ?_
        exact qX12_addFor_74 C x1 (mo_nodeSign (Int32.toNatClampNeg x1)) (0 : Int32) mo_changes mo_changeNode mo_changeSign h H locs ls B (lv_sub hl [1, 2, 0] rfl)
    · rw [if_neg c_5] at h
      refine lv_bipush (v := 8) hx hb dX12_addFor_56 (by decide) ?_
      refine lv_goto (tgt := 74) hx hb dX12_addFor_58 (by decide) ?_
      exact qX12_addFor_74 C x1 (mo_nodeSign (Int32.toNatClampNeg x1)) (8 : Int32) mo_changes mo_changeNode mo_changeSign h H locs ls B (lv_sub hl [1, 2, 0] rfl)
  · rw [if_neg c_3] at h
    refine lv_aload_n hx hb dX12_addFor_14 rfl (lv_at hl 1 rfl) ?_
    refine lv_iload_n hx hb dX12_addFor_15 rfl (lv_at hl 2 rfl) ?_
    refine lv_bipush (v := 48) hx hb dX12_addFor_16 (by decide) ?_
    refine lv_iload_n hx hb dX12_addFor_18 rfl (lv_at hl 0 rfl) ?_
    refine lv_bipush (v := 48) hx hb dX12_addFor_19 (by decide) ?_
    refine lv_isub hx hb dX12_addFor_21 ?_
    refine lv_iconst (v := 1) hx hb dX12_addFor_22 (by decide) ?_
    refine lv_iadd hx hb dX12_addFor_23 ?_
    refine lv_bipush (v := 7) hx hb dX12_addFor_24 (by decide) ?_
    refine lv_iand hx hb dX12_addFor_26 ?_
    refine lv_iadd hx hb dX12_addFor_27 ?_
    obtain ⟨⟨mo_changes_10, mo_changeNode_11, mo_changeSign_12⟩, g_17, h⟩ := ob_some h
    try dsimp only at h
    refine kc_VV C B (q0 := 0) (ci := 12) (As := [.int x1, .int ((48 : Int32) + ((((mo_nodeSign (Int32.toNatClampNeg x1)) - (48 : Int32)) + (1 : Int32)) &&& (7 : Int32)))]) (rest := []) (w2 := (wd_mo a b cI cJ cT mo_signs mo_signMany mo_nodeSign mo_nodeOn mo_nodeSize mo_nodeMany mo_due mo_openNode mo_value mo_isLaid mo_changes_10 mo_changeNode_11 mo_changeSign_12 mo_differs mo_results mo_own mo_kinds mo_testInputs mo_testDue mo_tests mo_noticed mo_missed mo_leastFrom mo_blameUpper mo_blameLower)) (tX12_add (a := a) (b := b) N g_17) gX12_addFor_X12_add rfl ⟨rfl, rfl⟩ ⟨rfl, hdX12_add⟩ ⟨Nat.le_of_ble_eq_true rfl, Nat.le_of_ble_eq_true rfl⟩ rfl rfl [0, 1, 2, 3, 4, 5, 6, 7, 8, 9, 10, 11, 12, 13, 14, 15, 16, 17, 18, 19, 20, 21] [] [0, 1, 2, 3, 4, 5, 6, 7, 8, 9, 10, 11, 12, 13, 14, 15, 16, 17, 18, 19, 20, 21] rfl rfl rfl rfl rfl rfl rfl rfl hl.1 rfl (Nat.le_of_ble_eq_true rfl) ⟨Nat.zero_le _, Nat.zero_le _⟩ dX12_addFor_28 (fun H locs B => ?_)
    refine lv_aload_n hx hb dX12_addFor_31 rfl (lv_at hl 1 rfl) ?_
    refine lv_iload_n hx hb dX12_addFor_32 rfl (lv_at hl 2 rfl) ?_
    refine lv_bipush (v := 48) hx hb dX12_addFor_33 (by decide) ?_
    refine lv_iload_n hx hb dX12_addFor_35 rfl (lv_at hl 0 rfl) ?_
    refine lv_bipush (v := 48) hx hb dX12_addFor_36 (by decide) ?_
    refine lv_isub hx hb dX12_addFor_38 ?_
    refine lv_iconst (v := 1) hx hb dX12_addFor_39 (by decide) ?_
    refine lv_isub hx hb dX12_addFor_40 ?_
    refine lv_bipush (v := 7) hx hb dX12_addFor_41 (by decide) ?_
    refine lv_iand hx hb dX12_addFor_43 ?_
    refine lv_iadd hx hb dX12_addFor_44 ?_
    obtain ⟨⟨mo_changes_13, mo_changeNode_14, mo_changeSign_15⟩, g_16, h⟩ := ob_some h
    try dsimp only at h
    refine kc_VV C B (q0 := 0) (ci := 12) (As := [.int x1, .int ((48 : Int32) + ((((mo_nodeSign (Int32.toNatClampNeg x1)) - (48 : Int32)) - (1 : Int32)) &&& (7 : Int32)))]) (rest := []) (w2 := (wd_mo a b cI cJ cT mo_signs mo_signMany mo_nodeSign mo_nodeOn mo_nodeSize mo_nodeMany mo_due mo_openNode mo_value mo_isLaid mo_changes_13 mo_changeNode_14 mo_changeSign_15 mo_differs mo_results mo_own mo_kinds mo_testInputs mo_testDue mo_tests mo_noticed mo_missed mo_leastFrom mo_blameUpper mo_blameLower)) (tX12_add (a := a) (b := b) N g_16) gX12_addFor_X12_add rfl ⟨rfl, rfl⟩ ⟨rfl, hdX12_add⟩ ⟨Nat.le_of_ble_eq_true rfl, Nat.le_of_ble_eq_true rfl⟩ rfl rfl [0, 1, 2, 3, 4, 5, 6, 7, 8, 9, 10, 11, 12, 13, 14, 15, 16, 17, 18, 19, 20, 21] [] [0, 1, 2, 3, 4, 5, 6, 7, 8, 9, 10, 11, 12, 13, 14, 15, 16, 17, 18, 19, 20, 21] rfl rfl rfl rfl rfl rfl rfl rfl hl.1 rfl (Nat.le_of_ble_eq_true rfl) ⟨Nat.zero_le _, Nat.zero_le _⟩ dX12_addFor_45 (fun H locs B => ?_)
    cases h
    exact k_vret C B dX12_addFor_48
end
theorem tX12_addFor {l : Launch} {D : va_G} {Es : (Nat → Nat) × (Nat → Nat)} {a b : Nat → Nat} {cI cJ cT : ClassId} {mo_signs : Nat → Int32} {mo_signMany : Int32} {mo_nodeSign : Nat → Int32} {mo_nodeOn : Nat → Int32} {mo_nodeSize : Nat → Int32} {mo_nodeMany : Nat → Int32} {mo_due : Nat → Int32} {mo_openNode : Nat → Int32} {mo_value : Nat → Int32} {mo_isLaid : Int32} {mo_changes : Int32} {mo_changeNode : Nat → Int32} {mo_changeSign : Nat → Int32} {mo_differs : Nat → Int32} {mo_results : Nat → Int32} {mo_own : Nat → Int32} {mo_kinds : Nat → Int32} {mo_testInputs : Nat → Int32} {mo_testDue : Nat → Int32} {mo_tests : Int32} {mo_noticed : Nat → Int32} {mo_missed : Nat → Int32} {mo_leastFrom : Nat → Int32} {mo_blameUpper : Nat → Int32} {mo_blameLower : Nat → Int32} {x1 : Int32} {z_mo_changes : Int32} {z_mo_changeNode : Nat → Int32} {z_mo_changeSign : Nat → Int32} (N : Nat) (h : fX12_addFor N mo_nodeSign mo_kinds x1 mo_changes mo_changeNode mo_changeSign = some (z_mo_changes, z_mo_changeNode, z_mo_changeSign)) : CtV l yX12_addFor wsX12_addFor rmX12_addFor D (tyl cI cJ cT) Es [.ref (b 0), .int x1] (wd_mo a b cI cJ cT mo_signs mo_signMany mo_nodeSign mo_nodeOn mo_nodeSize mo_nodeMany mo_due mo_openNode mo_value mo_isLaid mo_changes mo_changeNode mo_changeSign mo_differs mo_results mo_own mo_kinds mo_testInputs mo_testDue mo_tests mo_noticed mo_missed mo_leastFrom mo_blameUpper mo_blameLower) (wd_mo a b cI cJ cT mo_signs mo_signMany mo_nodeSign mo_nodeOn mo_nodeSize mo_nodeMany mo_due mo_openNode mo_value mo_isLaid z_mo_changes z_mo_changeNode z_mo_changeSign mo_differs mo_results mo_own mo_kinds mo_testInputs mo_testDue mo_tests mo_noticed mo_missed mo_leastFrom mo_blameUpper mo_blameLower) :=
  CtV.of (own := RX12) (cc := cX12_addFor) (nL := 6) (ret := none) (by decide +kernel) rfl rfl (Nat.le_of_ble_eq_true rfl) rfl (fun p e s m below meth c A ls C B hl => qX12_addFor_0 C (N := N) x1 mo_changes mo_changeNode mo_changeSign h _ _ _ B hl)
