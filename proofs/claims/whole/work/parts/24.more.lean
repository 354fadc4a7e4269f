abbrev rmX0_countRuns : Room := { frames := 3, cells := 0, slots := 0, locals := 68 }
theorem hdX0_countRuns : yX0_countRuns.cls ≠ "java/lang/invoke/MethodHandle" ∧ yX0_countRuns.cls ≠ "java/lang/invoke/VarHandle" ∧ (parseMethodDescriptor yX0_countRuns.desc).map (fun d => d.parameters.length) = some 2 := by decide +kernel
theorem iX0_countRuns_X0 : ∀ w ∈ wsX00, w ∈ wsX0_countRuns := by decide +kernel
theorem gfX0_countRuns_21 {p : Program} {l : Launch} {e : Env} {R : Room} {s : State} {m : MethodId} {args : Array Value} {below : List Frame} {meth : Method} {c : Code} {H : Heap} {locs : List Loc} {cells slots : Nat} {Q : State → Prop} {D : va_G} {A : Nat → Prop} {tys : List (ClassId × FieldType)} {Es : (Nat → Nat) × (Nat → Nat)} {ws : va_W} {pc : Nat} {ls : Array Slot} {rest : List Value} {a : Nat} (C : CT p s m args meth c RX0 cX0_countRuns 5 (some .int) wsX0_countRuns D A tys Es) (B : DB D A ws s H locs) (q0 : Nat) {fs : List Value} {v : Value} (he : ws[q0]? = some (a, .inr (0, fs))) (hv : fs[3]? = some v) (hdg : decode cX0_countRuns pc = .ok (.getfield 21, 3)) (kk : W p l e R s m args below meth c H locs cells slots Q (F0 m (pc + 3) ls (v :: rest))) : W p l e R s m args below meth c H locs cells slots Q (F0 m pc ls (.ref a :: rest)) :=
  k_get (Cn := RX0) (T := TX0) (N := 5) (index := 21) C B iX0_countRuns_X0 rfl 3 (by decide) (by decide +kernel) q0 he hv hdg kk
theorem iX0_countRuns_X8 : ∀ w ∈ wsX80, w ∈ wsX0_countRuns := by decide +kernel
theorem gfX0_countRuns_29 {p : Program} {l : Launch} {e : Env} {R : Room} {s : State} {m : MethodId} {args : Array Value} {below : List Frame} {meth : Method} {c : Code} {H : Heap} {locs : List Loc} {cells slots : Nat} {Q : State → Prop} {D : va_G} {A : Nat → Prop} {tys : List (ClassId × FieldType)} {Es : (Nat → Nat) × (Nat → Nat)} {ws : va_W} {pc : Nat} {ls : Array Slot} {rest : List Value} {a : Nat} (C : CT p s m args meth c RX0 cX0_countRuns 5 (some .int) wsX0_countRuns D A tys Es) (B : DB D A ws s H locs) (q0 : Nat) {fs : List Value} {v : Value} (he : ws[q0]? = some (a, .inr (8, fs))) (hv : fs[2]? = some v) (hdg : decode cX0_countRuns pc = .ok (.getfield 29, 3)) (kk : W p l e R s m args below meth c H locs cells slots Q (F0 m (pc + 3) ls (v :: rest))) : W p l e R s m args below meth c H locs cells slots Q (F0 m pc ls (.ref a :: rest)) :=
  k_get (Cn := RX8) (T := TX8) (N := 4) (index := 29) C B iX0_countRuns_X8 rfl 2 (by decide) (by decide +kernel) q0 he hv hdg kk
theorem gfX0_countRuns_18 {p : Program} {l : Launch} {e : Env} {R : Room} {s : State} {m : MethodId} {args : Array Value} {below : List Frame} {meth : Method} {c : Code} {H : Heap} {locs : List Loc} {cells slots : Nat} {Q : State → Prop} {D : va_G} {A : Nat → Prop} {tys : List (ClassId × FieldType)} {Es : (Nat → Nat) × (Nat → Nat)} {ws : va_W} {pc : Nat} {ls : Array Slot} {rest : List Value} {a : Nat} (C : CT p s m args meth c RX0 cX0_countRuns 5 (some .int) wsX0_countRuns D A tys Es) (B : DB D A ws s H locs) (q0 : Nat) {fs : List Value} {v : Value} (he : ws[q0]? = some (a, .inr (0, fs))) (hv : fs[2]? = some v) (hdg : decode cX0_countRuns pc = .ok (.getfield 18, 3)) (kk : W p l e R s m args below meth c H locs cells slots Q (F0 m (pc + 3) ls (v :: rest))) : W p l e R s m args below meth c H locs cells slots Q (F0 m pc ls (.ref a :: rest)) :=
  k_get (Cn := RX0) (T := TX0) (N := 5) (index := 18) C B iX0_countRuns_X0 rfl 2 (by decide) (by decide +kernel) q0 he hv hdg kk
section
variable {p : Program} {l : Launch} {e : Env} {s : State} {m : MethodId} {args : Array Value} {below : List Frame} {meth : Method} {c : Code} {D : va_G} {A : Nat → Prop} {Es : (Nat → Nat) × (Nat → Nat)} {a b : Nat → Nat} {cI cJ cT : ClassId}
set_option maxHeartbeats 4000000 in
set_option maxRecDepth 100000 in
theorem qX0_countRuns_45 (C : CT p s m args meth c RX0 cX0_countRuns 5 (some .int) wsX0_countRuns D A (tyl cI cJ cT) Es) {N : Nat} {rs_low : Nat → Int64} {rs_mid : Nat → Int64} {rs_high : Nat → Int64} {te_inputs : Nat → Int32} {te_dues : Nat → Int32} {te_count : Int32} {bl_uppers : Nat → Int32} {bl_lowers : Nat → Int32} {bl_runBits : Nat → Int32} {z_r : Int32} {k5 : Int32 → Int32 → Int32 → Int32 → Option (Int32)} (hk5 : ∀ (x1 : Int32) (x2 : Int32) (x3 : Int32) (x4 : Int32), k5 x1 x2 x3 x4 = some z_r → ∀ (H : Heap) (locs : List Loc) (ls : Array Slot), DB D A (wd_rs_te_bl a b cI cJ cT rs_low rs_mid rs_high te_inputs te_dues te_count bl_uppers bl_lowers bl_runBits) s H locs → lv_has ls 5 [(0, .ref (a 41)), (1, .int x1), (2, .int x2), (3, .int x3), (4, .int x4)] → W p l e rmX0_countRuns s m args below meth c H locs 0 0 (ZI below args s D A (tyl cI cJ cT) z_r (wd_rs_te_bl a b cI cJ cT rs_low rs_mid rs_high te_inputs te_dues te_count bl_uppers bl_lowers bl_runBits) 0 0) (F0 m 5 ls [])) : ∀ (x1 : Int32) (x2 : Int32) (x3 : Int32) (x4 : Int32), bX0_countRuns_45 N rs_low rs_mid rs_high te_inputs te_dues te_count bl_runBits k5 x1 x2 x3 x4 = some z_r → ∀ (H : Heap) (locs : List Loc) (ls : Array Slot), DB D A (wd_rs_te_bl a b cI cJ cT rs_low rs_mid rs_high te_inputs te_dues te_count bl_uppers bl_lowers bl_runBits) s H locs → lv_has ls 5 [(0, .ref (a 41)), (1, .int x1), (2, .int x2), (3, .int x3), (4, .int x4)] → W p l e rmX0_countRuns s m args below meth c H locs 0 0 (ZI below args s D A (tyl cI cJ cT) z_r (wd_rs_te_bl a b cI cJ cT rs_low rs_mid rs_high te_inputs te_dues te_count bl_uppers bl_lowers bl_runBits) 0 0) (F0 m 45 ls []) := by
  have hx := C.1.1
  have hb := C.1.2.1
  have hown := C.1.2.2.2.1
  have hts := C.1.2.2.2.2
  intro x1 x2 x3 x4 h H locs ls B hl
  rw [bX0_countRuns_45] at h
  refine lv_iinc (v := (x4 + 1)) (lv' := [(4, .int (x4 + 1)), (0, .ref (a 41)), (1, .int x1), (2, .int x2), (3, .int x3)]) hx hb dX0_countRuns_45 hl (k := 4) rfl rfl (by decide) rfl (fun ls hl => ?_)
  refine lv_goto (tgt := 5) hx hb dX0_countRuns_48 (by decide) ?_
  exact hk5 x1 x2 x3 (x4 + 1) h H locs ls B (lv_sub hl [1, 2, 3, 4, 0] rfl)
set_option maxHeartbeats 4000000 in
set_option maxRecDepth 100000 in
theorem qX0_countRuns_5 (C : CT p s m args meth c RX0 cX0_countRuns 5 (some .int) wsX0_countRuns D A (tyl cI cJ cT) Es) {N : Nat} {rs_low : Nat → Int64} {rs_mid : Nat → Int64} {rs_high : Nat → Int64} {te_inputs : Nat → Int32} {te_dues : Nat → Int32} {te_count : Int32} {bl_uppers : Nat → Int32} {bl_lowers : Nat → Int32} {bl_runBits : Nat → Int32} {z_r : Int32} : ∀ (n : Nat) (x1 : Int32) (x2 : Int32) (x3 : Int32) (x4 : Int32), bX0_countRuns_5 N rs_low rs_mid rs_high te_inputs te_dues te_count bl_runBits n x1 x2 x3 x4 = some z_r → ∀ (H : Heap) (locs : List Loc) (ls : Array Slot), DB D A (wd_rs_te_bl a b cI cJ cT rs_low rs_mid rs_high te_inputs te_dues te_count bl_uppers bl_lowers bl_runBits) s H locs → lv_has ls 5 [(0, .ref (a 41)), (1, .int x1), (2, .int x2), (3, .int x3), (4, .int x4)] → W p l e rmX0_countRuns s m args below meth c H locs 0 0 (ZI below args s D A (tyl cI cJ cT) z_r (wd_rs_te_bl a b cI cJ cT rs_low rs_mid rs_high te_inputs te_dues te_count bl_uppers bl_lowers bl_runBits) 0 0) (F0 m 5 ls []) := by
  have hx := C.1.1
  have hb := C.1.2.1
  have hown := C.1.2.2.2.1
  have hts := C.1.2.2.2.2
  intro n
  induction n with
  | zero => intro x1 x2 x3 x4 h; cases h
  | succ n ih =>
    intro x1 x2 x3 x4 h H locs ls B hl
    rw [bX0_countRuns_5] at h
    refine lv_iload hx hb dX0_countRuns_5 (lv_at hl 4 rfl) ?_
    refine lv_aload_n hx hb dX0_countRuns_7 rfl (lv_at hl 0 rfl) ?_
    refine gfX0_countRuns_21 C B 7 rfl rfl dX0_countRuns_8 ?_
    refine gfX0_countRuns_29 C B 4 rfl rfl dX0_countRuns_11 ?_
    refine lv_icmp_ge (tgt := 51) hx hb dX0_countRuns_14 (by decide) (fun c_1 => ?_) (fun c_1 => ?_)
    · rw [if_pos c_1] at h
      refine lv_iload_n hx hb dX0_countRuns_51 rfl (lv_at hl 3 rfl) ?_
      cases h
      exact k_iret C B dX0_countRuns_52
    · rw [if_neg c_1] at h
      refine lv_aload_n hx hb dX0_countRuns_17 rfl (lv_at hl 0 rfl) ?_
      refine gfX0_countRuns_21 C B 7 rfl rfl dX0_countRuns_18 ?_
      refine lv_iload hx hb dX0_countRuns_21 (lv_at hl 4 rfl) ?_
      refine lv_iconst (v := 0) hx hb dX0_countRuns_23 (by decide) ?_
      obtain ⟨r_2, g_5, h⟩ := ob_some h
      try dsimp only at h
      refine kc_VI C B (q0 := 4) (ci := 8) (As := [.int x4, .int (0 : Int32)]) (rest := []) (w2 := (wd_rs_te_bl a b cI cJ cT rs_low rs_mid rs_high te_inputs te_dues te_count bl_uppers bl_lowers bl_runBits)) (tX8_failsFor (a := a) (b := b) N g_5) gX0_countRuns_X8_failsFor rfl ⟨rfl, rfl⟩ ⟨rfl, hdX8_failsFor⟩ ⟨Nat.le_of_ble_eq_true rfl, Nat.le_of_ble_eq_true rfl⟩ rfl rfl [0, 1, 2, 3, 4, 5, 6] [7, 8, 9, 10] [4, 5, 6, 7, 8, 9, 10, 0, 1, 2, 3] rfl rfl rfl rfl rfl rfl rfl rfl hl.1 rfl (Nat.le_of_ble_eq_true rfl) ⟨Nat.zero_le _, Nat.zero_le _⟩ dX0_countRuns_24 (fun H locs B => ?_)
      refine lv_iload_n hx hb dX0_countRuns_27 rfl (lv_at hl 2 rfl) ?_
      refine lv_icmp_ne (tgt := 45) hx hb dX0_countRuns_28 (by decide) (fun c_3 => ?_) (fun c_3 => ?_)
      · rw [if_neg c_3] at h
        exact qX0_countRuns_45 C ih x1 x2 x3 x4 h H locs ls B (lv_sub hl [0, 1, 2, 3, 4] rfl)
      · rw [if_pos c_3] at h
        refine lv_iload_n hx hb dX0_countRuns_31 rfl (lv_at hl 3 rfl) ?_
        refine lv_aload_n hx hb dX0_countRuns_32 rfl (lv_at hl 0 rfl) ?_
        refine gfX0_countRuns_18 C B 7 rfl rfl dX0_countRuns_33 ?_
        refine lv_iload hx hb dX0_countRuns_36 (lv_at hl 4 rfl) ?_
        obtain ⟨b_4, h⟩ := bnd_some h
        refine k_iald C B 10 0 rfl rfl b_4 dX0_countRuns_38 ?_
        refine lv_iload_n hx hb dX0_countRuns_39 rfl (lv_at hl 1 rfl) ?_
        refine lv_iushr (v := (iush (bl_runBits (Int32.toNatClampNeg x4)) x1)) hx hb dX0_countRuns_40 rfl ?_
        refine lv_iconst (v := 1) hx hb dX0_countRuns_41 (by decide) ?_
        refine lv_iand hx hb dX0_countRuns_42 ?_
        refine lv_iadd hx hb dX0_countRuns_43 ?_
        refine lv_istore_n (lv' := [(3, .int (x3 + ((iush (bl_runBits (Int32.toNatClampNeg x4)) x1) &&& (1 : Int32)))), (0, .ref (a 41)), (1, .int x1), (2, .int x2), (4, .int x4)]) hx hb dX0_countRuns_44 rfl hl (by decide) rfl (fun ls hl => ?_)
        exact qX0_countRuns_45 C ih x1 x2 (x3 + ((iush (bl_runBits (Int32.toNatClampNeg x4)) x1) &&& (1 : Int32))) x4 h H locs ls B (lv_sub hl [1, 2, 3, 0, 4] rfl)
set_option maxHeartbeats 4000000 in
set_option maxRecDepth 100000 in
theorem qX0_countRuns_0 (C : CT p s m args meth c RX0 cX0_countRuns 5 (some .int) wsX0_countRuns D A (tyl cI cJ cT) Es) {N : Nat} {rs_low : Nat → Int64} {rs_mid : Nat → Int64} {rs_high : Nat → Int64} {te_inputs : Nat → Int32} {te_dues : Nat → Int32} {te_count : Int32} {bl_uppers : Nat → Int32} {bl_lowers : Nat → Int32} {bl_runBits : Nat → Int32} {z_r : Int32} : ∀ (x1 : Int32) (x2 : Int32), fX0_countRuns N rs_low rs_mid rs_high te_inputs te_dues te_count bl_runBits x1 x2 = some z_r → ∀ (H : Heap) (locs : List Loc) (ls : Array Slot), DB D A (wd_rs_te_bl a b cI cJ cT rs_low rs_mid rs_high te_inputs te_dues te_count bl_uppers bl_lowers bl_runBits) s H locs → lv_has ls 5 [(0, .ref (a 41)), (1, .int x1), (2, .int x2)] → W p l e rmX0_countRuns s m args below meth c H locs 0 0 (ZI below args s D A (tyl cI cJ cT) z_r (wd_rs_te_bl a b cI cJ cT rs_low rs_mid rs_high te_inputs te_dues te_count bl_uppers bl_lowers bl_runBits) 0 0) (F0 m 0 ls []) := by
  have hx := C.1.1
  have hb := C.1.2.1
  have hown := C.1.2.2.2.1
  have hts := C.1.2.2.2.2
  intro x1 x2 h H locs ls B hl
  rw [fX0_countRuns] at h
  refine lv_iconst (v := 0) hx hb dX0_countRuns_0 (by decide) ?_
  refine lv_istore_n (lv' := [(3, .int (0 : Int32)), (0, .ref (a 41)), (1, .int x1), (2, .int x2)]) hx hb dX0_countRuns_1 rfl hl (by decide) rfl (fun ls hl => ?_)
  refine lv_iconst (v := 0) hx hb dX0_countRuns_2 (by decide) ?_
  refine lv_istore (lv' := [(4, .int (0 : Int32)), (3, .int (0 : Int32)), (0, .ref (a 41)), (1, .int x1), (2, .int x2)]) hx hb dX0_countRuns_3 hl (by decide) rfl (fun ls hl => ?_)
  exact qX0_countRuns_5 C N x1 x2 (0 : Int32) (0 : Int32) h H locs ls B (lv_sub hl [2, 3, 4, 1, 0] rfl)
end
theorem tX0_countRuns {l : Launch} {D : va_G} {Es : (Nat → Nat) × (Nat → Nat)} {a b : Nat → Nat} {cI cJ cT : ClassId} {rs_low : Nat → Int64} {rs_mid : Nat → Int64} {rs_high : Nat → Int64} {te_inputs : Nat → Int32} {te_dues : Nat → Int32} {te_count : Int32} {bl_uppers : Nat → Int32} {bl_lowers : Nat → Int32} {bl_runBits : Nat → Int32} {x1 : Int32} {x2 : Int32} {z_r : Int32} (N : Nat) (h : fX0_countRuns N rs_low rs_mid rs_high te_inputs te_dues te_count bl_runBits x1 x2 = some z_r) : CtI l yX0_countRuns wsX0_countRuns rmX0_countRuns D (tyl cI cJ cT) Es [.ref (a 41), .int x1, .int x2] (wd_rs_te_bl a b cI cJ cT rs_low rs_mid rs_high te_inputs te_dues te_count bl_uppers bl_lowers bl_runBits) z_r (wd_rs_te_bl a b cI cJ cT rs_low rs_mid rs_high te_inputs te_dues te_count bl_uppers bl_lowers bl_runBits) :=
  CtI.of (own := RX0) (cc := cX0_countRuns) (nL := 5) (ret := (some .int)) (by decide +kernel) rfl rfl (Nat.le_of_ble_eq_true rfl) rfl (fun p e s m below meth c A ls C B hl => qX0_countRuns_0 C (N := N) x1 x2 h _ _ _ B hl)

abbrev rmX0_put : Room := { frames := 0, cells := 0, slots := 0, locals := 0 }
theorem hdX0_put : yX0_put.cls ≠ "java/lang/invoke/MethodHandle" ∧ yX0_put.cls ≠ "java/lang/invoke/VarHandle" ∧ (parseMethodDescriptor yX0_put.desc).map (fun d => d.parameters.length) = some 3 := by decide +kernel
theorem iX0_put_X0 : ∀ w ∈ wsX00, w ∈ wsX0_put := by decide +kernel
theorem gfX0_put_9 {p : Program} {l : Launch} {e : Env} {R : Room} {s : State} {m : MethodId} {args : Array Value} {below : List Frame} {meth : Method} {c : Code} {H : Heap} {locs : List Loc} {cells slots : Nat} {Q : State → Prop} {D : va_G} {A : Nat → Prop} {tys : List (ClassId × FieldType)} {Es : (Nat → Nat) × (Nat → Nat)} {ws : va_W} {pc : Nat} {ls : Array Slot} {rest : List Value} {a : Nat} (C : CT p s m args meth c RX0 cX0_put 4 none wsX0_put D A tys Es) (B : DB D A ws s H locs) (q0 : Nat) {fs : List Value} {v : Value} (he : ws[q0]? = some (a, .inr (0, fs))) (hv : fs[0]? = some v) (hdg : decode cX0_put pc = .ok (.getfield 9, 3)) (kk : W p l e R s m args below meth c H locs cells slots Q (F0 m (pc + 3) ls (v :: rest))) : W p l e R s m args below meth c H locs cells slots Q (F0 m pc ls (.ref a :: rest)) :=
  k_get (Cn := RX0) (T := TX0) (N := 5) (index := 9) C B iX0_put_X0 rfl 0 (by decide) (by decide +kernel) q0 he hv hdg kk
theorem gfX0_put_15 {p : Program} {l : Launch} {e : Env} {R : Room} {s : State} {m : MethodId} {args : Array Value} {below : List Frame} {meth : Method} {c : Code} {H : Heap} {locs : List Loc} {cells slots : Nat} {Q : State → Prop} {D : va_G} {A : Nat → Prop} {tys : List (ClassId × FieldType)} {Es : (Nat → Nat) × (Nat → Nat)} {ws : va_W} {pc : Nat} {ls : Array Slot} {rest : List Value} {a : Nat} (C : CT p s m args meth c RX0 cX0_put 4 none wsX0_put D A tys Es) (B : DB D A ws s H locs) (q0 : Nat) {fs : List Value} {v : Value} (he : ws[q0]? = some (a, .inr (0, fs))) (hv : fs[1]? = some v) (hdg : decode cX0_put pc = .ok (.getfield 15, 3)) (kk : W p l e R s m args below meth c H locs cells slots Q (F0 m (pc + 3) ls (v :: rest))) : W p l e R s m args below meth c H locs cells slots Q (F0 m pc ls (.ref a :: rest)) :=
  k_get (Cn := RX0) (T := TX0) (N := 5) (index := 15) C B iX0_put_X0 rfl 1 (by decide) (by decide +kernel) q0 he hv hdg kk
section
variable {p : Program} {l : Launch} {e : Env} {s : State} {m : MethodId} {args : Array Value} {below : List Frame} {meth : Method} {c : Code} {D : va_G} {A : Nat → Prop} {Es : (Nat → Nat) × (Nat → Nat)} {a b : Nat → Nat} {cI cJ cT : ClassId}
set_option maxHeartbeats 4000000 in
set_option maxRecDepth 100000 in
theorem qX0_put_21 (C : CT p s m args meth c RX0 cX0_put 4 none wsX0_put D A (tyl cI cJ cT) Es) {N : Nat} {bl_runBits : Nat → Int32} {z_bl_uppers : Nat → Int32} {z_bl_lowers : Nat → Int32} : ∀ (y1 : Int32) (y2 : Int32) (bl_uppers : Nat → Int32) (bl_lowers : Nat → Int32), bX0_put_21 N y1 y2 bl_uppers bl_lowers = some (z_bl_uppers, z_bl_lowers) → ∀ (H : Heap) (locs : List Loc) (ls : Array Slot), DB D A (wd_bl a b cI cJ cT bl_uppers bl_lowers bl_runBits) s H locs → lv_has ls 4 [] → W p l e rmX0_put s m args below meth c H locs 0 0 (ZV below args s D A (tyl cI cJ cT) (wd_bl a b cI cJ cT z_bl_uppers z_bl_lowers bl_runBits) 0 0) (F0 m 21 ls [.int y2, .int y1, .ref (a 43)]) := by
  have hx := C.1.1
  have hb := C.1.2.1
  have hown := C.1.2.2.2.1
  have hts := C.1.2.2.2.2
  intro y1 y2 bl_uppers bl_lowers h H locs ls B hl
  rw [bX0_put_21] at h
  obtain ⟨b_1, h⟩ := bnd_some h
  refine k_iast C B 2 0 rfl rfl b_1 dX0_put_21 (fun H locs B => ?_)
  have B : DB D A (wd_bl a b cI cJ cT bl_uppers (upd bl_lowers (Int32.toNatClampNeg y1) y2) bl_runBits) s H locs := B
  cases h
  exact k_vret C B dX0_put_22
set_option maxHeartbeats 4000000 in
set_option maxRecDepth 100000 in
theorem qX0_put_0 (C : CT p s m args meth c RX0 cX0_put 4 none wsX0_put D A (tyl cI cJ cT) Es) {N : Nat} {bl_runBits : Nat → Int32} {z_bl_uppers : Nat → Int32} {z_bl_lowers : Nat → Int32} : ∀ (x1 : Int32) (x2 : Int32) (x3 : Int32) (bl_uppers : Nat → Int32) (bl_lowers : Nat → Int32), fX0_put N x1 x2 x3 bl_uppers bl_lowers = some (z_bl_uppers, z_bl_lowers) → ∀ (H : Heap) (locs : List Loc) (ls : Array Slot), DB D A (wd_bl a b cI cJ cT bl_uppers bl_lowers bl_runBits) s H locs → lv_has ls 4 [(0, .ref (a 41)), (1, .int x1), (2, .int x2), (3, .int x3)] → W p l e rmX0_put s m args below meth c H locs 0 0 (ZV below args s D A (tyl cI cJ cT) (wd_bl a b cI cJ cT z_bl_uppers z_bl_lowers bl_runBits) 0 0) (F0 m 0 ls []) := by
  have hx := C.1.1
  have hb := C.1.2.1
  have hown := C.1.2.2.2.1
  have hts := C.1.2.2.2.2
  intro x1 x2 x3 bl_uppers bl_lowers h H locs ls B hl
  rw [fX0_put] at h
  refine lv_aload_n hx hb dX0_put_0 rfl (lv_at hl 0 rfl) ?_
  refine gfX0_put_9 C B 0 rfl rfl dX0_put_1 ?_
  refine lv_iload_n hx hb dX0_put_4 rfl (lv_at hl 1 rfl) ?_
  refine lv_iload_n hx hb dX0_put_5 rfl (lv_at hl 2 rfl) ?_
  obtain ⟨b_1, h⟩ := bnd_some h
  refine k_iast C B 1 0 rfl rfl b_1 dX0_put_6 (fun H locs B => ?_)
  have B : DB D A (wd_bl a b cI cJ cT (upd bl_uppers (Int32.toNatClampNeg x1) x2) bl_lowers bl_runBits) s H locs := B
  refine lv_aload_n hx hb dX0_put_7 rfl (lv_at hl 0 rfl) ?_
  refine gfX0_put_15 C B 0 rfl rfl dX0_put_8 ?_
  refine lv_iload_n hx hb dX0_put_11 rfl (lv_at hl 1 rfl) ?_
  refine lv_iload_n hx hb dX0_put_12 rfl (lv_at hl 3 rfl) ?_
  refine lv_if_ne (tgt := 20) hx hb dX0_put_13 (by decide) (fun c_2 => ?_) (fun c_2 => ?_)
  · rw [if_neg c_2] at h
    refine lv_iload_n hx hb dX0_put_20 rfl (lv_at hl 3 rfl) ?_
    exact qX0_put_21 C x1 x3 (upd bl_uppers (Int32.toNatClampNeg x1) x2) bl_lowers h H locs ls B (lv_sub hl [] rfl)
  · rw [if_pos c_2] at h
    refine lv_iconst (v := 1) hx hb dX0_put_16 (by decide) ?_
    refine lv_goto (tgt := 21) hx hb dX0_put_17 (by decide) ?_
    exact qX0_put_21 C x1 (1 : Int32) (upd bl_uppers (Int32.toNatClampNeg x1) x2) bl_lowers h H locs ls B (lv_sub hl [] rfl)
end
theorem tX0_put {l : Launch} {D : va_G} {Es : (Nat → Nat) × (Nat → Nat)} {a b : Nat → Nat} {cI cJ cT : ClassId} {bl_uppers : Nat → Int32} {bl_lowers : Nat → Int32} {bl_runBits : Nat → Int32} {x1 : Int32} {x2 : Int32} {x3 : Int32} {z_bl_uppers : Nat → Int32} {z_bl_lowers : Nat → Int32} (N : Nat) (h : fX0_put N x1 x2 x3 bl_uppers bl_lowers = some (z_bl_uppers, z_bl_lowers)) : CtV l yX0_put wsX0_put rmX0_put D (tyl cI cJ cT) Es [.ref (a 41), .int x1, .int x2, .int x3] (wd_bl a b cI cJ cT bl_uppers bl_lowers bl_runBits) (wd_bl a b cI cJ cT z_bl_uppers z_bl_lowers bl_runBits) :=
  CtV.of (own := RX0) (cc := cX0_put) (nL := 4) (ret := none) (by decide +kernel) rfl rfl (Nat.le_of_ble_eq_true rfl) rfl (fun p e s m below meth c A ls C B hl => qX0_put_0 C (N := N) x1 x2 x3 bl_uppers bl_lowers h _ _ _ B hl)

abbrev rmX0_weighNode : Room := { frames := 4, cells := 0, slots := 0, locals := 92 }
theorem hdX0_weighNode : yX0_weighNode.cls ≠ "java/lang/invoke/MethodHandle" ∧ yX0_weighNode.cls ≠ "java/lang/invoke/VarHandle" ∧ (parseMethodDescriptor yX0_weighNode.desc).map (fun d => d.parameters.length) = some 3 := by decide +kernel
section
variable {p : Program} {l : Launch} {e : Env} {s : State} {m : MethodId} {args : Array Value} {below : List Frame} {meth : Method} {c : Code} {D : va_G} {A : Nat → Prop} {Es : (Nat → Nat) × (Nat → Nat)} {a b : Nat → Nat} {cI cJ cT : ClassId}
set_option maxHeartbeats 4000000 in
set_option maxRecDepth 100000 in
theorem qX0_weighNode_0 (C : CT p s m args meth c RX0 cX0_weighNode 7 none wsX0_weighNode D A (tyl cI cJ cT) Es) {N : Nat} {rs_low : Nat → Int64} {rs_mid : Nat → Int64} {rs_high : Nat → Int64} {te_inputs : Nat → Int32} {te_dues : Nat → Int32} {te_count : Int32} {bl_runBits : Nat → Int32} {z_bl_uppers : Nat → Int32} {z_bl_lowers : Nat → Int32} : ∀ (x1 : Int32) (x2 : Int32) (x3 : Int32) (bl_uppers : Nat → Int32) (bl_lowers : Nat → Int32), fX0_weighNode N rs_low rs_mid rs_high te_inputs te_dues te_count bl_runBits x1 x2 x3 bl_uppers bl_lowers = some (z_bl_uppers, z_bl_lowers) → ∀ (H : Heap) (locs : List Loc) (ls : Array Slot), DB D A (wd_rs_te_bl a b cI cJ cT rs_low rs_mid rs_high te_inputs te_dues te_count bl_uppers bl_lowers bl_runBits) s H locs → lv_has ls 7 [(0, .ref (a 41)), (1, .int x1), (2, .int x2), (3, .int x3)] → W p l e rmX0_weighNode s m args below meth c H locs 0 0 (ZV below args s D A (tyl cI cJ cT) (wd_rs_te_bl a b cI cJ cT rs_low rs_mid rs_high te_inputs te_dues te_count z_bl_uppers z_bl_lowers bl_runBits) 0 0) (F0 m 0 ls []) := by
  have hx := C.1.1
  have hb := C.1.2.1
  have hown := C.1.2.2.2.1
  have hts := C.1.2.2.2.2
  intro x1 x2 x3 bl_uppers bl_lowers h H locs ls B hl
  rw [fX0_weighNode] at h
  refine lv_aload_n hx hb dX0_weighNode_0 rfl (lv_at hl 0 rfl) ?_
  refine lv_iload_n hx hb dX0_weighNode_1 rfl (lv_at hl 1 rfl) ?_
  refine lv_iconst (v := 1) hx hb dX0_weighNode_2 (by decide) ?_
  obtain ⟨r_1, g_15, h⟩ := ob_some h
  try dsimp only at h
  refine kc_VI C B (q0 := 7) (ci := 0) (As := [.int x1, .int (1 : Int32)]) (rest := []) (w2 := (wd_rs_te_bl a b cI cJ cT rs_low rs_mid rs_high te_inputs te_dues te_count bl_uppers bl_lowers bl_runBits)) (tX0_countRuns (a := a) (b := b) N g_15) gX0_weighNode_X0_countRuns rfl ⟨rfl, rfl⟩ ⟨rfl, hdX0_countRuns⟩ ⟨Nat.le_of_ble_eq_true rfl, Nat.le_of_ble_eq_true rfl⟩ rfl rfl [0, 1, 2, 3, 4, 5, 6, 7, 8, 9, 10] [] [0, 1, 2, 3, 4, 5, 6, 7, 8, 9, 10] rfl rfl rfl rfl rfl rfl rfl rfl hl.1 rfl (Nat.le_of_ble_eq_true rfl) ⟨Nat.zero_le _, Nat.zero_le _⟩ dX0_weighNode_3 (fun H locs B => ?_)
  refine lv_istore (lv' := [(4, .int r_1), (0, .ref (a 41)), (1, .int x1), (2, .int x2), (3, .int x3)]) hx hb dX0_weighNode_6 hl (by decide) rfl (fun ls hl => ?_)
  refine lv_aload_n hx hb dX0_weighNode_8 rfl (lv_at hl 1 rfl) ?_
  refine lv_iload_n hx hb dX0_weighNode_9 rfl (lv_at hl 2 rfl) ?_
  refine lv_iconst (v := 0) hx hb dX0_weighNode_10 (by decide) ?_
  obtain ⟨r_2, g_14, h⟩ := ob_some h
  try dsimp only at h
  refine kc_VI C B (q0 := 7) (ci := 0) (As := [.int x1, .int (0 : Int32)]) (rest := []) (w2 := (wd_rs_te_bl a b cI cJ cT rs_low rs_mid rs_high te_inputs te_dues te_count bl_uppers bl_lowers bl_runBits)) (tX0_countRuns (a := a) (b := b) N g_14) gX0_weighNode_X0_countRuns rfl ⟨rfl, rfl⟩ ⟨rfl, hdX0_countRuns⟩ ⟨Nat.le_of_ble_eq_true rfl, Nat.le_of_ble_eq_true rfl⟩ rfl rfl [0, 1, 2, 3, 4, 5, 6, 7, 8, 9, 10] [] [0, 1, 2, 3, 4, 5, 6, 7, 8, 9, 10] rfl rfl rfl rfl rfl rfl rfl rfl hl.1 rfl (Nat.le_of_ble_eq_true rfl) ⟨Nat.zero_le _, Nat.zero_le _⟩ dX0_weighNode_11 (fun H locs B => ?_)
  refine lv_istore (lv' := [(5, .int r_2), (4, .int r_1), (0, .ref (a 41)), (1, .int x1), (2, .int x2), (3, .int x3)]) hx hb dX0_weighNode_14 hl (by decide) rfl (fun ls hl => ?_)
  refine lv_iload_n hx hb dX0_weighNode_16 rfl (lv_at hl 4 rfl) ?_
  refine lv_if_ne (tgt := 30) hx hb dX0_weighNode_17 (by decide) (fun c_3 => ?_) (fun c_3 => ?_)
  · rw [if_neg c_3] at h
    refine lv_iload_n hx hb dX0_weighNode_30 rfl (lv_at hl 5 rfl) ?_
    refine lv_if_ne (tgt := 45) hx hb dX0_weighNode_31 (by decide) (fun c_4 => ?_) (fun c_4 => ?_)
    · rw [if_neg c_4] at h
      refine lv_iload hx hb dX0_weighNode_45 (lv_at hl 1 rfl) ?_
      refine lv_iload_n hx hb dX0_weighNode_47 rfl (lv_at hl 5 rfl) ?_
      refine lv_imul hx hb dX0_weighNode_48 ?_
      refine lv_istore (lv' := [(6, .int (r_1 * x3)), (5, .int r_2), (4, .int r_1), (0, .ref (a 41)), (1, .int x1), (2, .int x2), (3, .int x3)]) hx hb dX0_weighNode_49 hl (by decide) rfl (fun ls hl => ?_)
      refine lv_aload_n hx hb dX0_weighNode_51 rfl (lv_at hl 3 rfl) ?_
      refine lv_iload_n hx hb dX0_weighNode_52 rfl (lv_at hl 4 rfl) ?_
      refine lv_iload hx hb dX0_weighNode_53 (lv_at hl 0 rfl) ?_
      refine lv_iload hx hb dX0_weighNode_55 (lv_at hl 0 rfl) ?_
      refine lv_iload hx hb dX0_weighNode_57 (lv_at hl 1 rfl) ?_
      refine lv_iload_n hx hb dX0_weighNode_59 rfl (lv_at hl 5 rfl) ?_
      refine lv_imul hx hb dX0_weighNode_60 ?_
      refine lv_iadd hx hb dX0_weighNode_61 ?_
      obtain ⟨⟨bl_uppers_5, bl_lowers_6⟩, g_7, h⟩ := ob_some h
      try dsimp only at h
      refine kc_VV C B (q0 := 0) (ci := 0) (As := [.int x1, .int (r_1 * x3), .int ((r_1 * x3) + (r_2 * x2))]) (rest := []) (w2 := (wd_rs_te_bl a b cI cJ cT rs_low rs_mid rs_high te_inputs te_dues te_count bl_uppers_5 bl_lowers_6 bl_runBits)) (tX0_put (a := a) (b := b) N g_7) gX0_weighNode_X0_put rfl ⟨rfl, rfl⟩ ⟨rfl, hdX0_put⟩ ⟨Nat.le_of_ble_eq_true rfl, Nat.le_of_ble_eq_true rfl⟩ rfl rfl [7, 8, 9, 10] [0, 1, 2, 3, 4, 5, 6] [0, 1, 2, 3, 4, 5, 6, 7, 8, 9, 10] rfl rfl rfl rfl rfl rfl rfl rfl hl.1 rfl (Nat.le_of_ble_eq_true rfl) ⟨Nat.zero_le _, Nat.zero_le _⟩ dX0_weighNode_62 (fun H locs B => ?_)
      cases h
      exact k_vret C B dX0_weighNode_65
    · rw [if_pos c_4] at h
      refine lv_aload_n hx hb dX0_weighNode_34 rfl (lv_at hl 2 rfl) ?_
      refine lv_iload_n hx hb dX0_weighNode_35 rfl (lv_at hl 3 rfl) ?_
      refine lv_iload hx hb dX0_weighNode_36 (lv_at hl 1 rfl) ?_
      refine lv_iload_n hx hb dX0_weighNode_38 rfl (lv_at hl 4 rfl) ?_
      obtain ⟨⟨bl_uppers_8, bl_lowers_9⟩, g_10, h⟩ := ob_some h
      try dsimp only at h
      refine kc_VV C B (q0 := 0) (ci := 0) (As := [.int x1, .int r_1, .int x2]) (rest := []) (w2 := (wd_rs_te_bl a b cI cJ cT rs_low rs_mid rs_high te_inputs te_dues te_count bl_uppers_8 bl_lowers_9 bl_runBits)) (tX0_put (a := a) (b := b) N g_10) gX0_weighNode_X0_put rfl ⟨rfl, rfl⟩ ⟨rfl, hdX0_put⟩ ⟨Nat.le_of_ble_eq_true rfl, Nat.le_of_ble_eq_true rfl⟩ rfl rfl [7, 8, 9, 10] [0, 1, 2, 3, 4, 5, 6] [0, 1, 2, 3, 4, 5, 6, 7, 8, 9, 10] rfl rfl rfl rfl rfl rfl rfl rfl hl.1 rfl (Nat.le_of_ble_eq_true rfl) ⟨Nat.zero_le _, Nat.zero_le _⟩ dX0_weighNode_39 (fun H locs B => ?_)
      refine lv_goto (tgt := 65) hx hb dX0_weighNode_42 (by decide) ?_
      cases h
      exact k_vret C B dX0_weighNode_65
  · rw [if_pos c_3] at h
    refine lv_aload_n hx hb dX0_weighNode_20 rfl (lv_at hl 2 rfl) ?_
    refine lv_iload_n hx hb dX0_weighNode_21 rfl (lv_at hl 3 rfl) ?_
    refine lv_iconst (v := 0) hx hb dX0_weighNode_22 (by decide) ?_
    refine lv_iconst (v := 1) hx hb dX0_weighNode_23 (by decide) ?_
    obtain ⟨⟨bl_uppers_11, bl_lowers_12⟩, g_13, h⟩ := ob_some h
    try dsimp only at h
    refine kc_VV C B (q0 := 0) (ci := 0) (As := [.int x1, .int (0 : Int32), .int (1 : Int32)]) (rest := []) (w2 := (wd_rs_te_bl a b cI cJ cT rs_low rs_mid rs_high te_inputs te_dues te_count bl_uppers_11 bl_lowers_12 bl_runBits)) (tX0_put (a := a) (b := b) N g_13) gX0_weighNode_X0_put rfl ⟨rfl, rfl⟩ ⟨rfl, hdX0_put⟩ ⟨Nat.le_of_ble_eq_true rfl, Nat.le_of_ble_eq_true rfl⟩ rfl rfl [7, 8, 9, 10] [0, 1, 2, 3, 4, 5, 6] [0, 1, 2, 3, 4, 5, 6, 7, 8, 9, 10] rfl rfl rfl rfl rfl rfl rfl rfl hl.1 rfl (Nat.le_of_ble_eq_true rfl) ⟨Nat.zero_le _, Nat.zero_le _⟩ dX0_weighNode_24 (fun H locs B => ?_)
    refine lv_goto (tgt := 65) hx hb dX0_weighNode_27 (by decide) ?_
    cases h
    exact k_vret C B dX0_weighNode_65
end
theorem tX0_weighNode {l : Launch} {D : va_G} {Es : (Nat → Nat) × (Nat → Nat)} {a b : Nat → Nat} {cI cJ cT : ClassId} {rs_low : Nat → Int64} {rs_mid : Nat → Int64} {rs_high : Nat → Int64} {te_inputs : Nat → Int32} {te_dues : Nat → Int32} {te_count : Int32} {bl_uppers : Nat → Int32} {bl_lowers : Nat → Int32} {bl_runBits : Nat → Int32} {x1 : Int32} {x2 : Int32} {x3 : Int32} {z_bl_uppers : Nat → Int32} {z_bl_lowers : Nat → Int32} (N : Nat) (h : fX0_weighNode N rs_low rs_mid rs_high te_inputs te_dues te_count bl_runBits x1 x2 x3 bl_uppers bl_lowers = some (z_bl_uppers, z_bl_lowers)) : CtV l yX0_weighNode wsX0_weighNode rmX0_weighNode D (tyl cI cJ cT) Es [.ref (a 41), .int x1, .int x2, .int x3] (wd_rs_te_bl a b cI cJ cT rs_low rs_mid rs_high te_inputs te_dues te_count bl_uppers bl_lowers bl_runBits) (wd_rs_te_bl a b cI cJ cT rs_low rs_mid rs_high te_inputs te_dues te_count z_bl_uppers z_bl_lowers bl_runBits) :=
  CtV.of (own := RX0) (cc := cX0_weighNode) (nL := 7) (ret := none) (by decide +kernel) rfl rfl (Nat.le_of_ble_eq_true rfl) rfl (fun p e s m below meth c A ls C B hl => qX0_weighNode_0 C (N := N) x1 x2 x3 bl_uppers bl_lowers h _ _ _ B hl)

abbrev rmX0_weigh : Room := { frames := 5, cells := 0, slots := 0, locals := 131 }
theorem hdX0_weigh : yX0_weigh.cls ≠ "java/lang/invoke/MethodHandle" ∧ yX0_weigh.cls ≠ "java/lang/invoke/VarHandle" ∧ (parseMethodDescriptor yX0_weigh.desc).map (fun d => d.parameters.length) = some 1 := by decide +kernel
theorem iX0_weigh_X9 : ∀ w ∈ wsX90, w ∈ wsX0_weigh := by decide +kernel
theorem gfX0_weigh_48 {p : Program} {l : Launch} {e : Env} {R : Room} {s : State} {m : MethodId} {args : Array Value} {below : List Frame} {meth : Method} {c : Code} {H : Heap} {locs : List Loc} {cells slots : Nat} {Q : State → Prop} {D : va_G} {A : Nat → Prop} {tys : List (ClassId × FieldType)} {Es : (Nat → Nat) × (Nat → Nat)} {ws : va_W} {pc : Nat} {ls : Array Slot} {rest : List Value} {a : Nat} (C : CT p s m args meth c RX0 cX0_weigh 4 none wsX0_weigh D A tys Es) (B : DB D A ws s H locs) (q0 : Nat) {fs : List Value} {v : Value} (he : ws[q0]? = some (a, .inr (9, fs))) (hv : fs[6]? = some v) (hdg : decode cX0_weigh pc = .ok (.getfield 48, 3)) (kk : W p l e R s m args below meth c H locs cells slots Q (F0 m (pc + 3) ls (v :: rest))) : W p l e R s m args below meth c H locs cells slots Q (F0 m pc ls (.ref a :: rest)) :=
  k_get (Cn := RX9) (T := TX9) (N := 7) (index := 48) C B iX0_weigh_X9 rfl 6 (by decide) (by decide +kernel) q0 he hv hdg kk
theorem iX0_weigh_X0 : ∀ w ∈ wsX00, w ∈ wsX0_weigh := by decide +kernel
theorem gfX0_weigh_21 {p : Program} {l : Launch} {e : Env} {R : Room} {s : State} {m : MethodId} {args : Array Value} {below : List Frame} {meth : Method} {c : Code} {H : Heap} {locs : List Loc} {cells slots : Nat} {Q : State → Prop} {D : va_G} {A : Nat → Prop} {tys : List (ClassId × FieldType)} {Es : (Nat → Nat) × (Nat → Nat)} {ws : va_W} {pc : Nat} {ls : Array Slot} {rest : List Value} {a : Nat} (C : CT p s m args meth c RX0 cX0_weigh 4 none wsX0_weigh D A tys Es) (B : DB D A ws s H locs) (q0 : Nat) {fs : List Value} {v : Value} (he : ws[q0]? = some (a, .inr (0, fs))) (hv : fs[3]? = some v) (hdg : decode cX0_weigh pc = .ok (.getfield 21, 3)) (kk : W p l e R s m args below meth c H locs cells slots Q (F0 m (pc + 3) ls (v :: rest))) : W p l e R s m args below meth c H locs cells slots Q (F0 m pc ls (.ref a :: rest)) :=
  k_get (Cn := RX0) (T := TX0) (N := 5) (index := 21) C B iX0_weigh_X0 rfl 3 (by decide) (by decide +kernel) q0 he hv hdg kk
theorem iX0_weigh_X8 : ∀ w ∈ wsX80, w ∈ wsX0_weigh := by decide +kernel
theorem gfX0_weigh_29 {p : Program} {l : Launch} {e : Env} {R : Room} {s : State} {m : MethodId} {args : Array Value} {below : List Frame} {meth : Method} {c : Code} {H : Heap} {locs : List Loc} {cells slots : Nat} {Q : State → Prop} {D : va_G} {A : Nat → Prop} {tys : List (ClassId × FieldType)} {Es : (Nat → Nat) × (Nat → Nat)} {ws : va_W} {pc : Nat} {ls : Array Slot} {rest : List Value} {a : Nat} (C : CT p s m args meth c RX0 cX0_weigh 4 none wsX0_weigh D A tys Es) (B : DB D A ws s H locs) (q0 : Nat) {fs : List Value} {v : Value} (he : ws[q0]? = some (a, .inr (8, fs))) (hv : fs[2]? = some v) (hdg : decode cX0_weigh pc = .ok (.getfield 29, 3)) (kk : W p l e R s m args below meth c H locs cells slots Q (F0 m (pc + 3) ls (v :: rest))) : W p l e R s m args below meth c H locs cells slots Q (F0 m pc ls (.ref a :: rest)) :=
  k_get (Cn := RX8) (T := TX8) (N := 4) (index := 29) C B iX0_weigh_X8 rfl 2 (by decide) (by decide +kernel) q0 he hv hdg kk
theorem gfX0_weigh_18 {p : Program} {l : Launch} {e : Env} {R : Room} {s : State} {m : MethodId} {args : Array Value} {below : List Frame} {meth : Method} {c : Code} {H : Heap} {locs : List Loc} {cells slots : Nat} {Q : State → Prop} {D : va_G} {A : Nat → Prop} {tys : List (ClassId × FieldType)} {Es : (Nat → Nat) × (Nat → Nat)} {ws : va_W} {pc : Nat} {ls : Array Slot} {rest : List Value} {a : Nat} (C : CT p s m args meth c RX0 cX0_weigh 4 none wsX0_weigh D A tys Es) (B : DB D A ws s H locs) (q0 : Nat) {fs : List Value} {v : Value} (he : ws[q0]? = some (a, .inr (0, fs))) (hv : fs[2]? = some v) (hdg : decode cX0_weigh pc = .ok (.getfield 18, 3)) (kk : W p l e R s m args below meth c H locs cells slots Q (F0 m (pc + 3) ls (v :: rest))) : W p l e R s m args below meth c H locs cells slots Q (F0 m pc ls (.ref a :: rest)) :=
  k_get (Cn := RX0) (T := TX0) (N := 5) (index := 18) C B iX0_weigh_X0 rfl 2 (by decide) (by decide +kernel) q0 he hv hdg kk
theorem gfX0_weigh_25 {p : Program} {l : Launch} {e : Env} {R : Room} {s : State} {m : MethodId} {args : Array Value} {below : List Frame} {meth : Method} {c : Code} {H : Heap} {locs : List Loc} {cells slots : Nat} {Q : State → Prop} {D : va_G} {A : Nat → Prop} {tys : List (ClassId × FieldType)} {Es : (Nat → Nat) × (Nat → Nat)} {ws : va_W} {pc : Nat} {ls : Array Slot} {rest : List Value} {a : Nat} (C : CT p s m args meth c RX0 cX0_weigh 4 none wsX0_weigh D A tys Es) (B : DB D A ws s H locs) (q0 : Nat) {fs : List Value} {v : Value} (he : ws[q0]? = some (a, .inr (0, fs))) (hv : fs[4]? = some v) (hdg : decode cX0_weigh pc = .ok (.getfield 25, 3)) (kk : W p l e R s m args below meth c H locs cells slots Q (F0 m (pc + 3) ls (v :: rest))) : W p l e R s m args below meth c H locs cells slots Q (F0 m pc ls (.ref a :: rest)) :=
  k_get (Cn := RX0) (T := TX0) (N := 5) (index := 25) C B iX0_weigh_X0 rfl 4 (by decide) (by decide +kernel) q0 he hv hdg kk
theorem gfX0_weigh_35 {p : Program} {l : Launch} {e : Env} {R : Room} {s : State} {m : MethodId} {args : Array Value} {below : List Frame} {meth : Method} {c : Code} {H : Heap} {locs : List Loc} {cells slots : Nat} {Q : State → Prop} {D : va_G} {A : Nat → Prop} {tys : List (ClassId × FieldType)} {Es : (Nat → Nat) × (Nat → Nat)} {ws : va_W} {pc : Nat} {ls : Array Slot} {rest : List Value} {a : Nat} (C : CT p s m args meth c RX0 cX0_weigh 4 none wsX0_weigh D A tys Es) (B : DB D A ws s H locs) (q0 : Nat) {fs : List Value} {v : Value} (he : ws[q0]? = some (a, .inr (8, fs))) (hv : fs[0]? = some v) (hdg : decode cX0_weigh pc = .ok (.getfield 35, 3)) (kk : W p l e R s m args below meth c H locs cells slots Q (F0 m (pc + 3) ls (v :: rest))) : W p l e R s m args below meth c H locs cells slots Q (F0 m pc ls (.ref a :: rest)) :=
  k_get (Cn := RX8) (T := TX8) (N := 4) (index := 35) C B iX0_weigh_X8 rfl 0 (by decide) (by decide +kernel) q0 he hv hdg kk
section
variable {p : Program} {l : Launch} {e : Env} {s : State} {m : MethodId} {args : Array Value} {below : List Frame} {meth : Method} {c : Code} {D : va_G} {A : Nat → Prop} {Es : (Nat → Nat) × (Nat → Nat)} {a b : Nat → Nat} {cI cJ cT : ClassId}
set_option maxHeartbeats 4000000 in
set_option maxRecDepth 100000 in
theorem qX0_weigh_52 (C : CT p s m args meth c RX0 cX0_weigh 4 none wsX0_weigh D A (tyl cI cJ cT) Es) {N : Nat} {tx_signs : Nat → Int32} {tx_wanted : Nat → Int32} {tx_owners : Nat → Int32} {tx_places : Nat → Int32} {tx_spans : Nat → Int32} {tx_partNodes : Nat → Int32} {tx_count : Int32} {rs_low : Nat → Int64} {rs_mid : Nat → Int64} {rs_high : Nat → Int64} {te_inputs : Nat → Int32} {te_dues : Nat → Int32} {te_count : Int32} {z_wk_low : Nat → Int64} {z_wk_mid : Nat → Int64} {z_wk_high : Nat → Int64} {z_wk_holds : Nat → Int64} {z_bl_uppers : Nat → Int32} {z_bl_lowers : Nat → Int32} {z_bl_runBits : Nat → Int32} : ∀ (n : Nat) (x2 : Int32) (x3 : Int32) (wk_low : Nat → Int64) (wk_mid : Nat → Int64) (wk_high : Nat → Int64) (wk_holds : Nat → Int64) (bl_uppers : Nat → Int32) (bl_lowers : Nat → Int32) (bl_runBits : Nat → Int32), bX0_weigh_52 N tx_signs tx_wanted tx_owners tx_places tx_partNodes tx_count rs_low rs_mid rs_high te_inputs te_dues te_count n x2 x3 wk_low wk_mid wk_high wk_holds bl_uppers bl_lowers bl_runBits = some (z_wk_low, z_wk_mid, z_wk_high, z_wk_holds, z_bl_uppers, z_bl_lowers, z_bl_runBits) → ∀ (H : Heap) (locs : List Loc) (ls : Array Slot), DB D A (wd_tx_wk_rs_te_bl a b cI cJ cT tx_signs tx_wanted tx_owners tx_places tx_spans tx_partNodes tx_count wk_low wk_mid wk_high wk_holds rs_low rs_mid rs_high te_inputs te_dues te_count bl_uppers bl_lowers bl_runBits) s H locs → lv_has ls 4 [(0, .ref (a 41)), (1, .ref (b 0)), (2, .int x2), (3, .int x3)] → W p l e rmX0_weigh s m args below meth c H locs 0 0 (ZV below args s D A (tyl cI cJ cT) (wd_tx_wk_rs_te_bl a b cI cJ cT tx_signs tx_wanted tx_owners tx_places tx_spans tx_partNodes tx_count z_wk_low z_wk_mid z_wk_high z_wk_holds rs_low rs_mid rs_high te_inputs te_dues te_count z_bl_uppers z_bl_lowers z_bl_runBits) 0 0) (F0 m 52 ls []) := by
  have hx := C.1.1
  have hb := C.1.2.1
  have hown := C.1.2.2.2.1
  have hts := C.1.2.2.2.2
  intro n
  induction n with
  | zero => intro x2 x3 wk_low wk_mid wk_high wk_holds bl_uppers bl_lowers bl_runBits h; cases h
  | succ n ih =>
    intro x2 x3 wk_low wk_mid wk_high wk_holds bl_uppers bl_lowers bl_runBits h H locs ls B hl
    rw [bX0_weigh_52] at h
    refine lv_iload_n hx hb dX0_weigh_52 rfl (lv_at hl 3 rfl) ?_
    refine lv_aload_n hx hb dX0_weigh_53 rfl (lv_at hl 1 rfl) ?_
    refine gfX0_weigh_48 C B 0 rfl rfl dX0_weigh_54 ?_
    refine lv_icmp_ge (tgt := 81) hx hb dX0_weigh_57 (by decide) (fun c_1 => ?_) (fun c_1 => ?_)
    · rw [if_pos c_1] at h
      cases h
      exact k_vret C B dX0_weigh_81
    · rw [if_neg c_1] at h
      refine lv_aload_n hx hb dX0_weigh_60 rfl (lv_at hl 0 rfl) ?_
      refine lv_iload_n hx hb dX0_weigh_61 rfl (lv_at hl 3 rfl) ?_
      refine lv_iload_n hx hb dX0_weigh_62 rfl (lv_at hl 2 rfl) ?_
      refine lv_aload_n hx hb dX0_weigh_63 rfl (lv_at hl 0 rfl) ?_
      refine gfX0_weigh_21 C B 19 rfl rfl dX0_weigh_64 ?_
      refine gfX0_weigh_29 C B 16 rfl rfl dX0_weigh_67 ?_
      refine lv_iload_n hx hb dX0_weigh_70 rfl (lv_at hl 2 rfl) ?_
      refine lv_isub hx hb dX0_weigh_71 ?_
      obtain ⟨⟨bl_uppers_2, bl_lowers_3⟩, g_4, h⟩ := ob_some h
      try dsimp only at h
      refine kc_VV C B (q0 := 7) (ci := 0) (As := [.int x3, .int x2, .int (te_count - x2)]) (rest := []) (w2 := (wd_tx_wk_rs_te_bl a b cI cJ cT tx_signs tx_wanted tx_owners tx_places tx_spans tx_partNodes tx_count wk_low wk_mid wk_high wk_holds rs_low rs_mid rs_high te_inputs te_dues te_count bl_uppers_2 bl_lowers_3 bl_runBits)) (tX0_weighNode (a := a) (b := b) N g_4) gX0_weigh_X0_weighNode rfl ⟨rfl, rfl⟩ ⟨rfl, hdX0_weighNode⟩ ⟨Nat.le_of_ble_eq_true rfl, Nat.le_of_ble_eq_true rfl⟩ rfl rfl [12, 13, 14, 15, 16, 17, 18, 19, 20, 21, 22] [0, 1, 2, 3, 4, 5, 6, 7, 8, 9, 10, 11] [0, 1, 2, 3, 4, 5, 6, 7, 8, 9, 10, 11, 12, 13, 14, 15, 16, 17, 18, 19, 20, 21, 22] rfl rfl rfl rfl rfl rfl rfl rfl hl.1 rfl (Nat.le_of_ble_eq_true rfl) ⟨Nat.zero_le _, Nat.zero_le _⟩ dX0_weigh_72 (fun H locs B => ?_)
      refine lv_iinc (v := (x3 + 1)) (lv' := [(3, .int (x3 + 1)), (0, .ref (a 41)), (1, .ref (b 0)), (2, .int x2)]) hx hb dX0_weigh_75 hl (k := 3) rfl rfl (by decide) rfl (fun ls hl => ?_)
      refine lv_goto (tgt := 52) hx hb dX0_weigh_78 (by decide) ?_
      exact ih x2 (x3 + 1) wk_low wk_mid wk_high wk_holds bl_uppers_2 bl_lowers_3 bl_runBits h H locs ls B (lv_sub hl [1, 2, 3, 0] rfl)
set_option maxHeartbeats 4000000 in
set_option maxRecDepth 100000 in
theorem qX0_weigh_2 (C : CT p s m args meth c RX0 cX0_weigh 4 none wsX0_weigh D A (tyl cI cJ cT) Es) {N : Nat} {tx_signs : Nat → Int32} {tx_wanted : Nat → Int32} {tx_owners : Nat → Int32} {tx_places : Nat → Int32} {tx_spans : Nat → Int32} {tx_partNodes : Nat → Int32} {tx_count : Int32} {rs_low : Nat → Int64} {rs_mid : Nat → Int64} {rs_high : Nat → Int64} {te_inputs : Nat → Int32} {te_dues : Nat → Int32} {te_count : Int32} {z_wk_low : Nat → Int64} {z_wk_mid : Nat → Int64} {z_wk_high : Nat → Int64} {z_wk_holds : Nat → Int64} {z_bl_uppers : Nat → Int32} {z_bl_lowers : Nat → Int32} {z_bl_runBits : Nat → Int32} : ∀ (n : Nat) (x2 : Int32) (wk_low : Nat → Int64) (wk_mid : Nat → Int64) (wk_high : Nat → Int64) (wk_holds : Nat → Int64) (bl_uppers : Nat → Int32) (bl_lowers : Nat → Int32) (bl_runBits : Nat → Int32), bX0_weigh_2 N tx_signs tx_wanted tx_owners tx_places tx_partNodes tx_count rs_low rs_mid rs_high te_inputs te_dues te_count n x2 wk_low wk_mid wk_high wk_holds bl_uppers bl_lowers bl_runBits = some (z_wk_low, z_wk_mid, z_wk_high, z_wk_holds, z_bl_uppers, z_bl_lowers, z_bl_runBits) → ∀ (H : Heap) (locs : List Loc) (ls : Array Slot), DB D A (wd_tx_wk_rs_te_bl a b cI cJ cT tx_signs tx_wanted tx_owners tx_places tx_spans tx_partNodes tx_count wk_low wk_mid wk_high wk_holds rs_low rs_mid rs_high te_inputs te_dues te_count bl_uppers bl_lowers bl_runBits) s H locs → lv_has ls 4 [(0, .ref (a 41)), (1, .ref (b 0)), (2, .int x2)] → W p l e rmX0_weigh s m args below meth c H locs 0 0 (ZV below args s D A (tyl cI cJ cT) (wd_tx_wk_rs_te_bl a b cI cJ cT tx_signs tx_wanted tx_owners tx_places tx_spans tx_partNodes tx_count z_wk_low z_wk_mid z_wk_high z_wk_holds rs_low rs_mid rs_high te_inputs te_dues te_count z_bl_uppers z_bl_lowers z_bl_runBits) 0 0) (F0 m 2 ls []) := by
  have hx := C.1.1
  have hb := C.1.2.1
  have hown := C.1.2.2.2.1
  have hts := C.1.2.2.2.2
  intro n
  induction n with
  | zero => intro x2 wk_low wk_mid wk_high wk_holds bl_uppers bl_lowers bl_runBits h; cases h
  | succ n ih =>
    intro x2 wk_low wk_mid wk_high wk_holds bl_uppers bl_lowers bl_runBits h H locs ls B hl
    rw [bX0_weigh_2] at h
    refine lv_iload_n hx hb dX0_weigh_2 rfl (lv_at hl 2 rfl) ?_
    refine lv_aload_n hx hb dX0_weigh_3 rfl (lv_at hl 0 rfl) ?_
    refine gfX0_weigh_21 C B 19 rfl rfl dX0_weigh_4 ?_
    refine gfX0_weigh_29 C B 16 rfl rfl dX0_weigh_7 ?_
    refine lv_icmp_ge (tgt := 42) hx hb dX0_weigh_10 (by decide) (fun c_1 => ?_) (fun c_1 => ?_)
    · rw [if_pos c_1] at h
      refine lv_aload_n hx hb dX0_weigh_42 rfl (lv_at hl 0 rfl) ?_
      refine gfX0_weigh_21 C B 19 rfl rfl dX0_weigh_43 ?_
      obtain ⟨r_2, g_3, h⟩ := ob_some h
      try dsimp only at h
      refine kc_VI C B (q0 := 4) (ci := 8) (As := []) (rest := []) (w2 := (wd_tx_wk_rs_te_bl a b cI cJ cT tx_signs tx_wanted tx_owners tx_places tx_spans tx_partNodes tx_count wk_low wk_mid wk_high wk_holds rs_low rs_mid rs_high te_inputs te_dues te_count bl_uppers bl_lowers bl_runBits)) (tX8_failing (a := a) (b := b) N g_3) gX0_weigh_X8_failing rfl ⟨rfl, rfl⟩ ⟨rfl, hdX8_failing⟩ ⟨Nat.le_of_ble_eq_true rfl, Nat.le_of_ble_eq_true rfl⟩ rfl rfl [12, 13, 14, 15, 16, 17, 18] [0, 1, 2, 3, 4, 5, 6, 7, 8, 9, 10, 11, 19, 20, 21, 22] [0, 1, 2, 3, 4, 5, 6, 7, 8, 9, 10, 11, 16, 17, 18, 19, 20, 21, 22, 12, 13, 14, 15] rfl rfl rfl rfl rfl rfl rfl rfl hl.1 rfl (Nat.le_of_ble_eq_true rfl) ⟨Nat.zero_le _, Nat.zero_le _⟩ dX0_weigh_46 (fun H locs B => ?_)
      refine lv_istore_n (lv' := [(2, .int r_2), (0, .ref (a 41)), (1, .ref (b 0))]) hx hb dX0_weigh_49 rfl hl (by decide) rfl (fun ls hl => ?_)
      refine lv_iconst (v := 0) hx hb dX0_weigh_50 (by decide) ?_
      refine lv_istore_n (lv' := [(3, .int (0 : Int32)), (2, .int r_2), (0, .ref (a 41)), (1, .ref (b 0))]) hx hb dX0_weigh_51 rfl hl (by decide) rfl (fun ls hl => ?_)
      exact qX0_weigh_52 C N r_2 (0 : Int32) wk_low wk_mid wk_high wk_holds bl_uppers bl_lowers bl_runBits h H locs ls B (lv_sub hl [2, 3, 1, 0] rfl)
    · rw [if_neg c_1] at h
      refine lv_aload_n hx hb dX0_weigh_13 rfl (lv_at hl 0 rfl) ?_
      refine gfX0_weigh_18 C B 19 rfl rfl dX0_weigh_14 ?_
      refine lv_iload_n hx hb dX0_weigh_17 rfl (lv_at hl 2 rfl) ?_
      refine lv_aload_n hx hb dX0_weigh_18 rfl (lv_at hl 0 rfl) ?_
      refine gfX0_weigh_25 C B 19 rfl rfl dX0_weigh_19 ?_
      refine lv_aload_n hx hb dX0_weigh_22 rfl (lv_at hl 1 rfl) ?_
      refine lv_aload_n hx hb dX0_weigh_23 rfl (lv_at hl 0 rfl) ?_
      refine gfX0_weigh_21 C B 19 rfl rfl dX0_weigh_24 ?_
      refine gfX0_weigh_35 C B 16 rfl rfl dX0_weigh_27 ?_
      refine lv_iload_n hx hb dX0_weigh_30 rfl (lv_at hl 2 rfl) ?_
      obtain ⟨b_4, h⟩ := bnd_some h
      refine k_iald C B 17 0 rfl rfl b_4 dX0_weigh_31 ?_
      obtain ⟨⟨r_5, wk_low_6, wk_mid_7, wk_high_8, wk_holds_9⟩, g_10, h⟩ := ob_some h
      try dsimp only at h
      refine kc_VI C B (q0 := 7) (ci := 10) (As := [.ref (b 0), .int (te_inputs (Int32.toNatClampNeg x2))]) (rest := [.int x2, .ref (a 44)]) (w2 := (wd_tx_wk_rs_te_bl a b cI cJ cT tx_signs tx_wanted tx_owners tx_places tx_spans tx_partNodes tx_count wk_low_6 wk_mid_7 wk_high_8 wk_holds_9 rs_low rs_mid rs_high te_inputs te_dues te_count bl_uppers bl_lowers bl_runBits)) (tX10_nodesRun (a := a) (b := b) N g_10) gX0_weigh_X10_nodesRun rfl ⟨rfl, rfl⟩ ⟨rfl, hdX10_nodesRun⟩ ⟨Nat.le_of_ble_eq_true rfl, Nat.le_of_ble_eq_true rfl⟩ rfl rfl [0, 1, 2, 3, 4, 5, 6, 7, 8, 9, 10, 11] [12, 13, 14, 15, 16, 17, 18, 19, 20, 21, 22] [11, 12, 13, 14, 15, 16, 17, 18, 19, 20, 21, 22, 0, 1, 2, 3, 4, 5, 6, 7, 8, 9, 10] rfl rfl rfl rfl rfl rfl rfl rfl hl.1 rfl (Nat.le_of_ble_eq_true rfl) ⟨Nat.zero_le _, Nat.zero_le _⟩ dX0_weigh_32 (fun H locs B => ?_)
      refine k_iast C B 22 0 rfl rfl b_4 dX0_weigh_35 (fun H locs B => ?_)
      have B : DB D A (wd_tx_wk_rs_te_bl a b cI cJ cT tx_signs tx_wanted tx_owners tx_places tx_spans tx_partNodes tx_count wk_low_6 wk_mid_7 wk_high_8 wk_holds_9 rs_low rs_mid rs_high te_inputs te_dues te_count bl_uppers bl_lowers (upd bl_runBits (Int32.toNatClampNeg x2) r_5)) s H locs := B
      refine lv_iinc (v := (x2 + 1)) (lv' := [(2, .int (x2 + 1)), (0, .ref (a 41)), (1, .ref (b 0))]) hx hb dX0_weigh_36 hl (k := 2) rfl rfl (by decide) rfl (fun ls hl => ?_)
      refine lv_goto (tgt := 2) hx hb dX0_weigh_39 (by decide) ?_
      exact ih (x2 + 1) wk_low_6 wk_mid_7 wk_high_8 wk_holds_9 bl_uppers bl_lowers (upd bl_runBits (Int32.toNatClampNeg x2) r_5) h H locs ls B (lv_sub hl [1, 2, 0] rfl)
set_option maxHeartbeats 4000000 in
set_option maxRecDepth 100000 in
theorem qX0_weigh_0 (C : CT p s m args meth c RX0 cX0_weigh 4 none wsX0_weigh D A (tyl cI cJ cT) Es) {N : Nat} {tx_signs : Nat → Int32} {tx_wanted : Nat → Int32} {tx_owners : Nat → Int32} {tx_places : Nat → Int32} {tx_spans : Nat → Int32} {tx_partNodes : Nat → Int32} {tx_count : Int32} {rs_low : Nat → Int64} {rs_mid : Nat → Int64} {rs_high : Nat → Int64} {te_inputs : Nat → Int32} {te_dues : Nat → Int32} {te_count : Int32} {z_wk_low : Nat → Int64} {z_wk_mid : Nat → Int64} {z_wk_high : Nat → Int64} {z_wk_holds : Nat → Int64} {z_bl_uppers : Nat → Int32} {z_bl_lowers : Nat → Int32} {z_bl_runBits : Nat → Int32} : ∀ (wk_low : Nat → Int64) (wk_mid : Nat → Int64) (wk_high : Nat → Int64) (wk_holds : Nat → Int64) (bl_uppers : Nat → Int32) (bl_lowers : Nat → Int32) (bl_runBits : Nat → Int32), fX0_weigh N tx_signs tx_wanted tx_owners tx_places tx_partNodes tx_count rs_low rs_mid rs_high te_inputs te_dues te_count wk_low wk_mid wk_high wk_holds bl_uppers bl_lowers bl_runBits = some (z_wk_low, z_wk_mid, z_wk_high, z_wk_holds, z_bl_uppers, z_bl_lowers, z_bl_runBits) → ∀ (H : Heap) (locs : List Loc) (ls : Array Slot), DB D A (wd_tx_wk_rs_te_bl a b cI cJ cT tx_signs tx_wanted tx_owners tx_places tx_spans tx_partNodes tx_count wk_low wk_mid wk_high wk_holds rs_low rs_mid rs_high te_inputs te_dues te_count bl_uppers bl_lowers bl_runBits) s H locs → lv_has ls 4 [(0, .ref (a 41)), (1, .ref (b 0))] → W p l e rmX0_weigh s m args below meth c H locs 0 0 (ZV below args s D A (tyl cI cJ cT) (wd_tx_wk_rs_te_bl a b cI cJ cT tx_signs tx_wanted tx_owners tx_places tx_spans tx_partNodes tx_count z_wk_low z_wk_mid z_wk_high z_wk_holds rs_low rs_mid rs_high te_inputs te_dues te_count z_bl_uppers z_bl_lowers z_bl_runBits) 0 0) (F0 m 0 ls []) := by
  have hx := C.1.1
  have hb := C.1.2.1
  have hown := C.1.2.2.2.1
  have hts := C.1.2.2.2.2
  intro wk_low wk_mid wk_high wk_holds bl_uppers bl_lowers bl_runBits h H locs ls B hl
  rw [fX0_weigh] at h
  refine lv_iconst (v := 0) hx hb dX0_weigh_0 (by decide) ?_
  refine lv_istore_n (lv' := [(2, .int (0 : Int32)), (0, .ref (a 41)), (1, .ref (b 0))]) hx hb dX0_weigh_1 rfl hl (by decide) rfl (fun ls hl => ?_)
  exact qX0_weigh_2 C N (0 : Int32) wk_low wk_mid wk_high wk_holds bl_uppers bl_lowers bl_runBits h H locs ls B (lv_sub hl [1, 2, 0] rfl)
end
theorem tX0_weigh {l : Launch} {D : va_G} {Es : (Nat → Nat) × (Nat → Nat)} {a b : Nat → Nat} {cI cJ cT : ClassId} {tx_signs : Nat → Int32} {tx_wanted : Nat → Int32} {tx_owners : Nat → Int32} {tx_places : Nat → Int32} {tx_spans : Nat → Int32} {tx_partNodes : Nat → Int32} {tx_count : Int32} {wk_low : Nat → Int64} {wk_mid : Nat → Int64} {wk_high : Nat → Int64} {wk_holds : Nat → Int64} {rs_low : Nat → Int64} {rs_mid : Nat → Int64} {rs_high : Nat → Int64} {te_inputs : Nat → Int32} {te_dues : Nat → Int32} {te_count : Int32} {bl_uppers : Nat → Int32} {bl_lowers : Nat → Int32} {bl_runBits : Nat → Int32} {z_wk_low : Nat → Int64} {z_wk_mid : Nat → Int64} {z_wk_high : Nat → Int64} {z_wk_holds : Nat → Int64} {z_bl_uppers : Nat → Int32} {z_bl_lowers : Nat → Int32} {z_bl_runBits : Nat → Int32} (N : Nat) (h : fX0_weigh N tx_signs tx_wanted tx_owners tx_places tx_partNodes tx_count rs_low rs_mid rs_high te_inputs te_dues te_count wk_low wk_mid wk_high wk_holds bl_uppers bl_lowers bl_runBits = some (z_wk_low, z_wk_mid, z_wk_high, z_wk_holds, z_bl_uppers, z_bl_lowers, z_bl_runBits)) : CtV l yX0_weigh wsX0_weigh rmX0_weigh D (tyl cI cJ cT) Es [.ref (a 41), .ref (b 0)] (wd_tx_wk_rs_te_bl a b cI cJ cT tx_signs tx_wanted tx_owners tx_places tx_spans tx_partNodes tx_count wk_low wk_mid wk_high wk_holds rs_low rs_mid rs_high te_inputs te_dues te_count bl_uppers bl_lowers bl_runBits) (wd_tx_wk_rs_te_bl a b cI cJ cT tx_signs tx_wanted tx_owners tx_places tx_spans tx_partNodes tx_count z_wk_low z_wk_mid z_wk_high z_wk_holds rs_low rs_mid rs_high te_inputs te_dues te_count z_bl_uppers z_bl_lowers z_bl_runBits) :=
  CtV.of (own := RX0) (cc := cX0_weigh) (nL := 4) (ret := none) (by decide +kernel) rfl rfl (Nat.le_of_ble_eq_true rfl) rfl (fun p e s m below meth c A ls C B hl => qX0_weigh_0 C (N := N) wk_low wk_mid wk_high wk_holds bl_uppers bl_lowers bl_runBits h _ _ _ B hl)

abbrev rmX0_howManyAhead : Room := { frames := 0, cells := 0, slots := 0, locals := 0 }
theorem hdX0_howManyAhead : yX0_howManyAhead.cls ≠ "java/lang/invoke/MethodHandle" ∧ yX0_howManyAhead.cls ≠ "java/lang/invoke/VarHandle" ∧ (parseMethodDescriptor yX0_howManyAhead.desc).map (fun d => d.parameters.length) = some 2 := by decide +kernel
theorem iX0_howManyAhead_X0 : ∀ w ∈ wsX00, w ∈ wsX0_howManyAhead := by decide +kernel
theorem gfX0_howManyAhead_9 {p : Program} {l : Launch} {e : Env} {R : Room} {s : State} {m : MethodId} {args : Array Value} {below : List Frame} {meth : Method} {c : Code} {H : Heap} {locs : List Loc} {cells slots : Nat} {Q : State → Prop} {D : va_G} {A : Nat → Prop} {tys : List (ClassId × FieldType)} {Es : (Nat → Nat) × (Nat → Nat)} {ws : va_W} {pc : Nat} {ls : Array Slot} {rest : List Value} {a : Nat} (C : CT p s m args meth c RX0 cX0_howManyAhead 6 (some .int) wsX0_howManyAhead D A tys Es) (B : DB D A ws s H locs) (q0 : Nat) {fs : List Value} {v : Value} (he : ws[q0]? = some (a, .inr (0, fs))) (hv : fs[0]? = some v) (hdg : decode cX0_howManyAhead pc = .ok (.getfield 9, 3)) (kk : W p l e R s m args below meth c H locs cells slots Q (F0 m (pc + 3) ls (v :: rest))) : W p l e R s m args below meth c H locs cells slots Q (F0 m pc ls (.ref a :: rest)) :=
  k_get (Cn := RX0) (T := TX0) (N := 5) (index := 9) C B iX0_howManyAhead_X0 rfl 0 (by decide) (by decide +kernel) q0 he hv hdg kk
theorem gfX0_howManyAhead_15 {p : Program} {l : Launch} {e : Env} {R : Room} {s : State} {m : MethodId} {args : Array Value} {below : List Frame} {meth : Method} {c : Code} {H : Heap} {locs : List Loc} {cells slots : Nat} {Q : State → Prop} {D : va_G} {A : Nat → Prop} {tys : List (ClassId × FieldType)} {Es : (Nat → Nat) × (Nat → Nat)} {ws : va_W} {pc : Nat} {ls : Array Slot} {rest : List Value} {a : Nat} (C : CT p s m args meth c RX0 cX0_howManyAhead 6 (some .int) wsX0_howManyAhead D A tys Es) (B : DB D A ws s H locs) (q0 : Nat) {fs : List Value} {v : Value} (he : ws[q0]? = some (a, .inr (0, fs))) (hv : fs[1]? = some v) (hdg : decode cX0_howManyAhead pc = .ok (.getfield 15, 3)) (kk : W p l e R s m args below meth c H locs cells slots Q (F0 m (pc + 3) ls (v :: rest))) : W p l e R s m args below meth c H locs cells slots Q (F0 m pc ls (.ref a :: rest)) :=
  k_get (Cn := RX0) (T := TX0) (N := 5) (index := 15) C B iX0_howManyAhead_X0 rfl 1 (by decide) (by decide +kernel) q0 he hv hdg kk
section
variable {p : Program} {l : Launch} {e : Env} {s : State} {m : MethodId} {args : Array Value} {below : List Frame} {meth : Method} {c : Code} {D : va_G} {A : Nat → Prop} {Es : (Nat → Nat) × (Nat → Nat)} {a b : Nat → Nat} {cI cJ cT : ClassId}
set_option maxHeartbeats 4000000 in
set_option maxRecDepth 100000 in
theorem qX0_howManyAhead_42 (C : CT p s m args meth c RX0 cX0_howManyAhead 6 (some .int) wsX0_howManyAhead D A (tyl cI cJ cT) Es) {N : Nat} {bl_uppers : Nat → Int32} {bl_lowers : Nat → Int32} {bl_runBits : Nat → Int32} {z_r : Int32} {k5 : Int32 → Int32 → Int32 → Int32 → Option (Int32)} (hk5 : ∀ (x1 : Int32) (x2 : Int32) (x3 : Int32) (x4 : Int32), k5 x1 x2 x3 x4 = some z_r → ∀ (H : Heap) (locs : List Loc) (ls : Array Slot), DB D A (wd_bl a b cI cJ cT bl_uppers bl_lowers bl_runBits) s H locs → lv_has ls 6 [(0, .ref (a 41)), (1, .int x1), (2, .int x2), (3, .int x3), (4, .int x4)] → W p l e rmX0_howManyAhead s m args below meth c H locs 0 0 (ZI below args s D A (tyl cI cJ cT) z_r (wd_bl a b cI cJ cT bl_uppers bl_lowers bl_runBits) 0 0) (F0 m 5 ls [])) : ∀ (x1 : Int32) (x2 : Int32) (x3 : Int32) (x4 : Int32) (x5 : Int32), bX0_howManyAhead_42 N bl_uppers bl_lowers k5 x1 x2 x3 x4 x5 = some z_r → ∀ (H : Heap) (locs : List Loc) (ls : Array Slot), DB D A (wd_bl a b cI cJ cT bl_uppers bl_lowers bl_runBits) s H locs → lv_has ls 6 [(0, .ref (a 41)), (1, .int x1), (2, .int x2), (3, .int x3), (4, .int x4), (5, .int x5)] → W p l e rmX0_howManyAhead s m args below meth c H locs 0 0 (ZI below args s D A (tyl cI cJ cT) z_r (wd_bl a b cI cJ cT bl_uppers bl_lowers bl_runBits) 0 0) (F0 m 42 ls []) := by
  have hx := C.1.1
  have hb := C.1.2.1
  have hown := C.1.2.2.2.1
  have hts := C.1.2.2.2.2
  intro x1 x2 x3 x4 x5 h H locs ls B hl
  rw [bX0_howManyAhead_42] at h
  refine lv_iload_n hx hb dX0_howManyAhead_42 rfl (lv_at hl 3 rfl) ?_
  refine lv_iload hx hb dX0_howManyAhead_43 (lv_at hl 5 rfl) ?_
  refine lv_if_gt (tgt := 59) hx hb dX0_howManyAhead_45 (by decide) (fun c_1 => ?_) (fun c_1 => ?_)
  · rw [if_pos c_1] at h
    refine lv_iconst (v := 1) hx hb dX0_howManyAhead_59 (by decide) ?_
    refine lv_goto (tgt := 64) hx hb dX0_howManyAhead_60 (by decide) ?_
    refine lv_iadd hx hb dX0_howManyAhead_64 ?_
    refine lv_istore_n (lv' := [(3, .int (x3 + (1 : Int32))), (0, .ref (a 41)), (1, .int x1), (2, .int x2), (4, .int x4), (5, .int x5)]) hx hb dX0_howManyAhead_65 rfl hl (by decide) rfl (fun ls hl => ?_)
    refine lv_iinc (v := (x4 + 1)) (lv' := [(4, .int (x4 + 1)), (3, .int (x3 + (1 : Int32))), (0, .ref (a 41)), (1, .int x1), (2, .int x2), (5, .int x5)]) hx hb dX0_howManyAhead_66 hl (k := 4) rfl rfl (by decide) rfl (fun ls hl => ?_)
    refine lv_goto (tgt := 5) hx hb dX0_howManyAhead_69 (by decide) ?_
    exact hk5 x1 x2 (x3 + (1 : Int32)) (x4 + 1) h H locs ls B (lv_sub hl [2, 3, 4, 1, 0] rfl)
  · rw [if_neg c_1] at h
    refine lv_iload hx hb dX0_howManyAhead_48 (lv_at hl 5 rfl) ?_
    refine lv_if_ne (tgt := 63) hx hb dX0_howManyAhead_50 (by decide) (fun c_2 => ?_) (fun c_2 => ?_)
    · rw [if_neg c_2] at h
      refine lv_iconst (v := 0) hx hb dX0_howManyAhead_63 (by decide) ?_
      refine lv_iadd hx hb dX0_howManyAhead_64 ?_
      refine lv_istore_n (lv' := [(3, .int (x3 + (0 : Int32))), (0, .ref (a 41)), (1, .int x1), (2, .int x2), (4, .int x4), (5, .int x5)]) hx hb dX0_howManyAhead_65 rfl hl (by decide) rfl (fun ls hl => ?_)
      refine lv_iinc (v := (x4 + 1)) (lv' := [(4, .int (x4 + 1)), (3, .int (x3 + (0 : Int32))), (0, .ref (a 41)), (1, .int x1), (2, .int x2), (5, .int x5)]) hx hb dX0_howManyAhead_66 hl (k := 4) rfl rfl (by decide) rfl (fun ls hl => ?_)
      refine lv_goto (tgt := 5) hx hb dX0_howManyAhead_69 (by decide) ?_
      exact hk5 x1 x2 (x3 + (0 : Int32)) (x4 + 1) h H locs ls B (lv_sub hl [2, 3, 4, 1, 0] rfl)
    · rw [if_pos c_2] at h
      refine lv_iload hx hb dX0_howManyAhead_53 (lv_at hl 4 rfl) ?_
      refine lv_iload_n hx hb dX0_howManyAhead_55 rfl (lv_at hl 1 rfl) ?_
      refine lv_icmp_ge (tgt := 63) hx hb dX0_howManyAhead_56 (by decide) (fun c_3 => ?_) (fun c_3 => ?_)
      · rw [if_pos c_3] at h
        refine lv_iconst (v := 0) hx hb dX0_howManyAhead_63 (by decide) ?_
        refine lv_iadd hx hb dX0_howManyAhead_64 ?_
        refine lv_istore_n (lv' := [(3, .int (x3 + (0 : Int32))), (0, .ref (a 41)), (1, .int x1), (2, .int x2), (4, .int x4), (5, .int x5)]) hx hb dX0_howManyAhead_65 rfl hl (by decide) rfl (fun ls hl => ?_)
        refine lv_iinc (v := (x4 + 1)) (lv' := [(4, .int (x4 + 1)), (3, .int (x3 + (0 : Int32))), (0, .ref (a 41)), (1, .int x1), (2, .int x2), (5, .int x5)]) hx hb dX0_howManyAhead_66 hl (k := 4) rfl rfl (by decide) rfl (fun ls hl => ?_)
        refine lv_goto (tgt := 5) hx hb dX0_howManyAhead_69 (by decide) ?_
        exact hk5 x1 x2 (x3 + (0 : Int32)) (x4 + 1) h H locs ls B (lv_sub hl [2, 3, 4, 1, 0] rfl)
      · rw [if_neg c_3] at h
        refine lv_iconst (v := 1) hx hb dX0_howManyAhead_59 (by decide) ?_
        refine lv_goto (tgt := 64) hx hb dX0_howManyAhead_60 (by decide) ?_
        refine lv_iadd hx hb dX0_howManyAhead_64 ?_
        refine lv_istore_n (lv' := [(3, .int (x3 + (1 : Int32))), (0, .ref (a 41)), (1, .int x1), (2, .int x2), (4, .int x4), (5, .int x5)]) hx hb dX0_howManyAhead_65 rfl hl (by decide) rfl (fun ls hl => ?_)
        refine lv_iinc (v := (x4 + 1)) (lv' := [(4, .int (x4 + 1)), (3, .int (x3 + (1 : Int32))), (0, .ref (a 41)), (1, .int x1), (2, .int x2), (5, .int x5)]) hx hb dX0_howManyAhead_66 hl (k := 4) rfl rfl (by decide) rfl (fun ls hl => ?_)
        refine lv_goto (tgt := 5) hx hb dX0_howManyAhead_69 (by decide) ?_
        exact hk5 x1 x2 (x3 + (1 : Int32)) (x4 + 1) h H locs ls B (lv_sub hl [2, 3, 4, 1, 0] rfl)
set_option maxHeartbeats 4000000 in
set_option maxRecDepth 100000 in
theorem qX0_howManyAhead_5 (C : CT p s m args meth c RX0 cX0_howManyAhead 6 (some .int) wsX0_howManyAhead D A (tyl cI cJ cT) Es) {N : Nat} {bl_uppers : Nat → Int32} {bl_lowers : Nat → Int32} {bl_runBits : Nat → Int32} {z_r : Int32} : ∀ (n : Nat) (x1 : Int32) (x2 : Int32) (x3 : Int32) (x4 : Int32), bX0_howManyAhead_5 N bl_uppers bl_lowers n x1 x2 x3 x4 = some z_r → ∀ (H : Heap) (locs : List Loc) (ls : Array Slot), DB D A (wd_bl a b cI cJ cT bl_uppers bl_lowers bl_runBits) s H locs → lv_has ls 6 [(0, .ref (a 41)), (1, .int x1), (2, .int x2), (3, .int x3), (4, .int x4)] → W p l e rmX0_howManyAhead s m args below meth c H locs 0 0 (ZI below args s D A (tyl cI cJ cT) z_r (wd_bl a b cI cJ cT bl_uppers bl_lowers bl_runBits) 0 0) (F0 m 5 ls []) := by
  have hx := C.1.1
  have hb := C.1.2.1
  have hown := C.1.2.2.2.1
  have hts := C.1.2.2.2.2
  intro n
  induction n with
  | zero => intro x1 x2 x3 x4 h; cases h
  | succ n ih =>
    intro x1 x2 x3 x4 h H locs ls B hl
    rw [bX0_howManyAhead_5] at h
    refine lv_iload hx hb dX0_howManyAhead_5 (lv_at hl 4 rfl) ?_
    refine lv_iload_n hx hb dX0_howManyAhead_7 rfl (lv_at hl 2 rfl) ?_
    refine lv_icmp_ge (tgt := 72) hx hb dX0_howManyAhead_8 (by decide) (fun c_1 => ?_) (fun c_1 => ?_)
    · rw [if_pos c_1] at h
      refine lv_iload_n hx hb dX0_howManyAhead_72 rfl (lv_at hl 3 rfl) ?_
      cases h
      exact k_iret C B dX0_howManyAhead_73
    · rw [if_neg c_1] at h
      refine lv_aload_n hx hb dX0_howManyAhead_11 rfl (lv_at hl 0 rfl) ?_
      refine gfX0_howManyAhead_9 C B 0 rfl rfl dX0_howManyAhead_12 ?_
      refine lv_iload hx hb dX0_howManyAhead_15 (lv_at hl 4 rfl) ?_
      obtain ⟨b_2, h⟩ := bnd_some h
      refine k_iald C B 1 0 rfl rfl b_2 dX0_howManyAhead_17 ?_
      refine lv_aload_n hx hb dX0_howManyAhead_18 rfl (lv_at hl 0 rfl) ?_
      refine gfX0_howManyAhead_15 C B 0 rfl rfl dX0_howManyAhead_19 ?_
      refine lv_iload_n hx hb dX0_howManyAhead_22 rfl (lv_at hl 1 rfl) ?_
      obtain ⟨b_3, h⟩ := bnd_some h
      refine k_iald C B 2 0 rfl rfl b_3 dX0_howManyAhead_23 ?_
      refine lv_imul hx hb dX0_howManyAhead_24 ?_
      refine lv_aload_n hx hb dX0_howManyAhead_25 rfl (lv_at hl 0 rfl) ?_
      refine gfX0_howManyAhead_9 C B 0 rfl rfl dX0_howManyAhead_26 ?_
      refine lv_iload_n hx hb dX0_howManyAhead_29 rfl (lv_at hl 1 rfl) ?_
      refine k_iald C B 1 0 rfl rfl b_3 dX0_howManyAhead_30 ?_
      refine lv_aload_n hx hb dX0_howManyAhead_31 rfl (lv_at hl 0 rfl) ?_
      refine gfX0_howManyAhead_15 C B 0 rfl rfl dX0_howManyAhead_32 ?_
      refine lv_iload hx hb dX0_howManyAhead_35 (lv_at hl 4 rfl) ?_
      refine k_iald C B 2 0 rfl rfl b_2 dX0_howManyAhead_37 ?_
      refine lv_imul hx hb dX0_howManyAhead_38 ?_
      refine lv_isub hx hb dX0_howManyAhead_39 ?_
      refine lv_istore (lv' := [(5, .int (((bl_uppers (Int32.toNatClampNeg x4)) * (bl_lowers (Int32.toNatClampNeg x1))) - ((bl_uppers (Int32.toNatClampNeg x1)) * (bl_lowers (Int32.toNatClampNeg x4))))), (0, .ref (a 41)), (1, .int x1), (2, .int x2), (3, .int x3), (4, .int x4)]) hx hb dX0_howManyAhead_40 hl (by decide) rfl (fun ls hl => ?_)
      exact qX0_howManyAhead_42 C ih x1 x2 x3 x4 (((bl_uppers (Int32.toNatClampNeg x4)) * (bl_lowers (Int32.toNatClampNeg x1))) - ((bl_uppers (Int32.toNatClampNeg x1)) * (bl_lowers (Int32.toNatClampNeg x4)))) h H locs ls B (lv_sub hl [1, 2, 3, 4, 5, 0] rfl)
set_option maxHeartbeats 4000000 in
set_option maxRecDepth 100000 in
theorem qX0_howManyAhead_0 (C : CT p s m args meth c RX0 cX0_howManyAhead 6 (some .int) wsX0_howManyAhead D A (tyl cI cJ cT) Es) {N : Nat} {bl_uppers : Nat → Int32} {bl_lowers : Nat → Int32} {bl_runBits : Nat → Int32} {z_r : Int32} : ∀ (x1 : Int32) (x2 : Int32), fX0_howManyAhead N bl_uppers bl_lowers x1 x2 = some z_r → ∀ (H : Heap) (locs : List Loc) (ls : Array Slot), DB D A (wd_bl a b cI cJ cT bl_uppers bl_lowers bl_runBits) s H locs → lv_has ls 6 [(0, .ref (a 41)), (1, .int x1), (2, .int x2)] → W p l e rmX0_howManyAhead s m args below meth c H locs 0 0 (ZI below args s D A (tyl cI cJ cT) z_r (wd_bl a b cI cJ cT bl_uppers bl_lowers bl_runBits) 0 0) (F0 m 0 ls []) := by
  have hx := C.1.1
  have hb := C.1.2.1
  have hown := C.1.2.2.2.1
  have hts := C.1.2.2.2.2
  intro x1 x2 h H locs ls B hl
  rw [fX0_howManyAhead] at h
  refine lv_iconst (v := 0) hx hb dX0_howManyAhead_0 (by decide) ?_
  refine lv_istore_n (lv' := [(3, .int (0 : Int32)), (0, .ref (a 41)), (1, .int x1), (2, .int x2)]) hx hb dX0_howManyAhead_1 rfl hl (by decide) rfl (fun ls hl => ?_)
  refine lv_iconst (v := 0) hx hb dX0_howManyAhead_2 (by decide) ?_
  refine lv_istore (lv' := [(4, .int (0 : Int32)), (3, .int (0 : Int32)), (0, .ref (a 41)), (1, .int x1), (2, .int x2)]) hx hb dX0_howManyAhead_3 hl (by decide) rfl (fun ls hl => ?_)
  exact qX0_howManyAhead_5 C N x1 x2 (0 : Int32) (0 : Int32) h H locs ls B (lv_sub hl [2, 3, 4, 1, 0] rfl)
end
theorem tX0_howManyAhead {l : Launch} {D : va_G} {Es : (Nat → Nat) × (Nat → Nat)} {a b : Nat → Nat} {cI cJ cT : ClassId} {bl_uppers : Nat → Int32} {bl_lowers : Nat → Int32} {bl_runBits : Nat → Int32} {x1 : Int32} {x2 : Int32} {z_r : Int32} (N : Nat) (h : fX0_howManyAhead N bl_uppers bl_lowers x1 x2 = some z_r) : CtI l yX0_howManyAhead wsX0_howManyAhead rmX0_howManyAhead D (tyl cI cJ cT) Es [.ref (a 41), .int x1, .int x2] (wd_bl a b cI cJ cT bl_uppers bl_lowers bl_runBits) z_r (wd_bl a b cI cJ cT bl_uppers bl_lowers bl_runBits) :=
  CtI.of (own := RX0) (cc := cX0_howManyAhead) (nL := 6) (ret := (some .int)) (by decide +kernel) rfl rfl (Nat.le_of_ble_eq_true rfl) rfl (fun p e s m below meth c A ls C B hl => qX0_howManyAhead_0 C (N := N) x1 x2 h _ _ _ B hl)

abbrev rmX0_nodeAtPlace : Room := { frames := 1, cells := 0, slots := 0, locals := 25 }
theorem hdX0_nodeAtPlace : yX0_nodeAtPlace.cls ≠ "java/lang/invoke/MethodHandle" ∧ yX0_nodeAtPlace.cls ≠ "java/lang/invoke/VarHandle" ∧ (parseMethodDescriptor yX0_nodeAtPlace.desc).map (fun d => d.parameters.length) = some 2 := by decide +kernel
section
variable {p : Program} {l : Launch} {e : Env} {s : State} {m : MethodId} {args : Array Value} {below : List Frame} {meth : Method} {c : Code} {D : va_G} {A : Nat → Prop} {Es : (Nat → Nat) × (Nat → Nat)} {a b : Nat → Nat} {cI cJ cT : ClassId}
set_option maxHeartbeats 4000000 in
set_option maxRecDepth 100000 in
theorem qX0_nodeAtPlace_2 (C : CT p s m args meth c RX0 cX0_nodeAtPlace 4 (some .int) wsX0_nodeAtPlace D A (tyl cI cJ cT) Es) {N : Nat} {bl_uppers : Nat → Int32} {bl_lowers : Nat → Int32} {bl_runBits : Nat → Int32} {z_r : Int32} : ∀ (n : Nat) (x1 : Int32) (x2 : Int32) (x3 : Int32), bX0_nodeAtPlace_2 N bl_uppers bl_lowers n x1 x2 x3 = some z_r → ∀ (H : Heap) (locs : List Loc) (ls : Array Slot), DB D A (wd_bl a b cI cJ cT bl_uppers bl_lowers bl_runBits) s H locs → lv_has ls 4 [(0, .ref (a 41)), (1, .int x1), (2, .int x2), (3, .int x3)] → W p l e rmX0_nodeAtPlace s m args below meth c H locs 0 0 (ZI below args s D A (tyl cI cJ cT) z_r (wd_bl a b cI cJ cT bl_uppers bl_lowers bl_runBits) 0 0) (F0 m 2 ls []) := by
  have hx := C.1.1
  have hb := C.1.2.1
  have hown := C.1.2.2.2.1
  have hts := C.1.2.2.2.2
  intro n
  induction n with
  | zero => intro x1 x2 x3 h; cases h
  | succ n ih =>
    intro x1 x2 x3 h H locs ls B hl
    rw [bX0_nodeAtPlace_2] at h
    refine lv_iload_n hx hb dX0_nodeAtPlace_2 rfl (lv_at hl 3 rfl) ?_
    refine lv_iload_n hx hb dX0_nodeAtPlace_3 rfl (lv_at hl 2 rfl) ?_
    refine lv_icmp_ge (tgt := 25) hx hb dX0_nodeAtPlace_4 (by decide) (fun c_1 => ?_) (fun c_1 => ?_)
    · rw [if_pos c_1] at h
      refine lv_bipush (v := -6) hx hb dX0_nodeAtPlace_25 (by decide) ?_
      cases h
      exact k_iret C B dX0_nodeAtPlace_27
    · rw [if_neg c_1] at h
      refine lv_aload_n hx hb dX0_nodeAtPlace_7 rfl (lv_at hl 0 rfl) ?_
      refine lv_iload_n hx hb dX0_nodeAtPlace_8 rfl (lv_at hl 3 rfl) ?_
      refine lv_iload_n hx hb dX0_nodeAtPlace_9 rfl (lv_at hl 2 rfl) ?_
      obtain ⟨r_2, g_4, h⟩ := ob_some h
      try dsimp only at h
      refine kc_VI C B (q0 := 0) (ci := 0) (As := [.int x3, .int x2]) (rest := []) (w2 := (wd_bl a b cI cJ cT bl_uppers bl_lowers bl_runBits)) (tX0_howManyAhead (a := a) (b := b) N g_4) gX0_nodeAtPlace_X0_howManyAhead rfl ⟨rfl, rfl⟩ ⟨rfl, hdX0_howManyAhead⟩ ⟨Nat.le_of_ble_eq_true rfl, Nat.le_of_ble_eq_true rfl⟩ rfl rfl [0, 1, 2, 3] [] [0, 1, 2, 3] rfl rfl rfl rfl rfl rfl rfl rfl hl.1 rfl (Nat.le_of_ble_eq_true rfl) ⟨Nat.zero_le _, Nat.zero_le _⟩ dX0_nodeAtPlace_10 (fun H locs B => ?_)
      refine lv_iload_n hx hb dX0_nodeAtPlace_13 rfl (lv_at hl 1 rfl) ?_
      refine lv_icmp_ne (tgt := 19) hx hb dX0_nodeAtPlace_14 (by decide) (fun c_3 => ?_) (fun c_3 => ?_)
      · rw [if_neg c_3] at h
        refine lv_iinc (v := (x3 + 1)) (lv' := [(3, .int (x3 + 1)), (0, .ref (a 41)), (1, .int x1), (2, .int x2)]) hx hb dX0_nodeAtPlace_19 hl (k := 3) rfl rfl (by decide) rfl (fun ls hl => ?_)
        refine lv_goto (tgt := 2) hx hb dX0_nodeAtPlace_22 (by decide) ?_
        exact ih x1 x2 (x3 + 1) h H locs ls B (lv_sub hl [1, 2, 3, 0] rfl)
      · rw [if_pos c_3] at h
        refine lv_iload_n hx hb dX0_nodeAtPlace_17 rfl (lv_at hl 3 rfl) ?_
        cases h
        exact k_iret C B dX0_nodeAtPlace_18
set_option maxHeartbeats 4000000 in
set_option maxRecDepth 100000 in
theorem qX0_nodeAtPlace_0 (C : CT p s m args meth c RX0 cX0_nodeAtPlace 4 (some .int) wsX0_nodeAtPlace D A (tyl cI cJ cT) Es) {N : Nat} {bl_uppers : Nat → Int32} {bl_lowers : Nat → Int32} {bl_runBits : Nat → Int32} {z_r : Int32} : ∀ (x1 : Int32) (x2 : Int32), fX0_nodeAtPlace N bl_uppers bl_lowers x1 x2 = some z_r → ∀ (H : Heap) (locs : List Loc) (ls : Array Slot), DB D A (wd_bl a b cI cJ cT bl_uppers bl_lowers bl_runBits) s H locs → lv_has ls 4 [(0, .ref (a 41)), (1, .int x1), (2, .int x2)] → W p l e rmX0_nodeAtPlace s m args below meth c H locs 0 0 (ZI below args s D A (tyl cI cJ cT) z_r (wd_bl a b cI cJ cT bl_uppers bl_lowers bl_runBits) 0 0) (F0 m 0 ls []) := by
  have hx := C.1.1
  have hb := C.1.2.1
  have hown := C.1.2.2.2.1
  have hts := C.1.2.2.2.2
  intro x1 x2 h H locs ls B hl
  rw [fX0_nodeAtPlace] at h
  refine lv_iconst (v := 0) hx hb dX0_nodeAtPlace_0 (by decide) ?_
  refine lv_istore_n (lv' := [(3, .int (0 : Int32)), (0, .ref (a 41)), (1, .int x1), (2, .int x2)]) hx hb dX0_nodeAtPlace_1 rfl hl (by decide) rfl (fun ls hl => ?_)
  exact qX0_nodeAtPlace_2 C N x1 x2 (0 : Int32) h H locs ls B (lv_sub hl [1, 2, 3, 0] rfl)
end
theorem tX0_nodeAtPlace {l : Launch} {D : va_G} {Es : (Nat → Nat) × (Nat → Nat)} {a b : Nat → Nat} {cI cJ cT : ClassId} {bl_uppers : Nat → Int32} {bl_lowers : Nat → Int32} {bl_runBits : Nat → Int32} {x1 : Int32} {x2 : Int32} {z_r : Int32} (N : Nat) (h : fX0_nodeAtPlace N bl_uppers bl_lowers x1 x2 = some z_r) : CtI l yX0_nodeAtPlace wsX0_nodeAtPlace rmX0_nodeAtPlace D (tyl cI cJ cT) Es [.ref (a 41), .int x1, .int x2] (wd_bl a b cI cJ cT bl_uppers bl_lowers bl_runBits) z_r (wd_bl a b cI cJ cT bl_uppers bl_lowers bl_runBits) :=
  CtI.of (own := RX0) (cc := cX0_nodeAtPlace) (nL := 4) (ret := (some .int)) (by decide +kernel) rfl rfl (Nat.le_of_ble_eq_true rfl) rfl (fun p e s m below meth c A ls C B hl => qX0_nodeAtPlace_0 C (N := N) x1 x2 h _ _ _ B hl)

abbrev rmX2_forget : Room := { frames := 0, cells := 0, slots := 0, locals := 0 }
theorem hdX2_forget : yX2_forget.cls ≠ "java/lang/invoke/MethodHandle" ∧ yX2_forget.cls ≠ "java/lang/invoke/VarHandle" ∧ (parseMethodDescriptor yX2_forget.desc).map (fun d => d.parameters.length) = some 0 := by decide +kernel
theorem iX2_forget_X2 : ∀ w ∈ wsX20, w ∈ wsX2_forget := by decide +kernel
theorem pfX2_forget_25 {p : Program} {l : Launch} {e : Env} {R : Room} {s : State} {m : MethodId} {args : Array Value} {below : List Frame} {meth : Method} {c : Code} {H : Heap} {locs : List Loc} {cells slots : Nat} {Q : State → Prop} {D : va_G} {A : Nat → Prop} {tys : List (ClassId × FieldType)} {Es : (Nat → Nat) × (Nat → Nat)} {ws : va_W} {pc : Nat} {ls : Array Slot} {rest : List Value} {a : Nat} (C : CT p s m args meth c RX2 cX2_forget 1 none wsX2_forget D A tys Es) (B : DB D A ws s H locs) (q0 : Nat) {fs : List Value} {v : Value} (hn : narrow .boolean v = v) (hfit : fits .boolean v = true) (he : ws[q0]? = some (a, .inr (2, fs))) (hl : 4 < fs.length) (hdg : decode cX2_forget pc = .ok (.putfield 25, 3)) (kk : ∀ (H1 : Heap) (locs1 : List Loc), DB D A (ws.set q0 (a, .inr (2, fs.set 4 v))) s H1 locs1 → W p l e R s m args below meth c H1 locs1 cells slots Q (F0 m (pc + 3) ls rest)) : W p l e R s m args below meth c H locs cells slots Q (F0 m pc ls (v :: .ref a :: rest)) :=
  k_put (Cn := RX2) (T := TX2) (N := 8) (index := 25) C B iX2_forget_X2 rfl tyX2 tyX2_ok nmX2 4 (by decide) (by decide +kernel) rfl q0 (by decide +kernel) hn hfit he hl hdg kk
section
variable {p : Program} {l : Launch} {e : Env} {s : State} {m : MethodId} {args : Array Value} {below : List Frame} {meth : Method} {c : Code} {D : va_G} {A : Nat → Prop} {Es : (Nat → Nat) × (Nat → Nat)} {a b : Nat → Nat} {cI cJ cT : ClassId}
set_option maxHeartbeats 4000000 in
set_option maxRecDepth 100000 in
theorem qX2_forget_0 (C : CT p s m args meth c RX2 cX2_forget 1 none wsX2_forget D A (tyl cI cJ cT) Es) {N : Nat} {fw_waits : Nat → Int32} {fw_wl : Nat} {fw_wa : Nat} {fw_order : Nat → Int32} {fw_sum : Int32} {fw_set : Int32} {z_fw_fresh : Int32} : ∀ (fw_fresh : Int32), fX2_forget N fw_fresh = some z_fw_fresh → ∀ (H : Heap) (locs : List Loc) (ls : Array Slot), DB D A (wd_fw a b cI cJ cT fw_waits fw_wl fw_wa fw_order fw_sum fw_set fw_fresh) s H locs → lv_has ls 1 [(0, .ref (a 38))] → W p l e rmX2_forget s m args below meth c H locs 0 0 (ZV below args s D A (tyl cI cJ cT) (wd_fw a b cI cJ cT fw_waits fw_wl fw_wa fw_order fw_sum fw_set z_fw_fresh) 0 0) (F0 m 0 ls []) := by
  have hx := C.1.1
  have hb := C.1.2.1
  have hown := C.1.2.2.2.1
  have hts := C.1.2.2.2.2
  intro fw_fresh h H locs ls B hl
  rw [fX2_forget] at h
  refine lv_aload_n hx hb dX2_forget_0 rfl (lv_at hl 0 rfl) ?_
  refine lv_iconst (v := 0) hx hb dX2_forget_1 (by decide) ?_
  refine pfX2_forget_25 C B 0 (by decide) (by rfl) rfl (Nat.le_of_ble_eq_true rfl) dX2_forget_2 (fun H locs B => ?_)
  have B : DB D A (wd_fw a b cI cJ cT fw_waits fw_wl fw_wa fw_order fw_sum fw_set (0 : Int32)) s H locs := B
  cases h
  exact k_vret C B dX2_forget_5
end
theorem tX2_forget {l : Launch} {D : va_G} {Es : (Nat → Nat) × (Nat → Nat)} {a b : Nat → Nat} {cI cJ cT : ClassId} {fw_waits : Nat → Int32} {fw_wl : Nat} {fw_wa : Nat} {fw_order : Nat → Int32} {fw_sum : Int32} {fw_set : Int32} {fw_fresh : Int32} {z_fw_fresh : Int32} (N : Nat) (h : fX2_forget N fw_fresh = some z_fw_fresh) : CtV l yX2_forget wsX2_forget rmX2_forget D (tyl cI cJ cT) Es [.ref (a 38)] (wd_fw a b cI cJ cT fw_waits fw_wl fw_wa fw_order fw_sum fw_set fw_fresh) (wd_fw a b cI cJ cT fw_waits fw_wl fw_wa fw_order fw_sum fw_set z_fw_fresh) :=
  CtV.of (own := RX2) (cc := cX2_forget) (nL := 1) (ret := none) (by decide +kernel) rfl rfl (Nat.le_of_ble_eq_true rfl) rfl (fun p e s m below meth c A ls C B hl => qX2_forget_0 C (N := N) fw_fresh h _ _ _ B hl)

abbrev rmX2_countWaiting : Room := { frames := 0, cells := 0, slots := 0, locals := 0 }
theorem hdX2_countWaiting : yX2_countWaiting.cls ≠ "java/lang/invoke/MethodHandle" ∧ yX2_countWaiting.cls ≠ "java/lang/invoke/VarHandle" ∧ (parseMethodDescriptor yX2_countWaiting.desc).map (fun d => d.parameters.length) = some 1 := by decide +kernel
theorem iX2_countWaiting_X2 : ∀ w ∈ wsX20, w ∈ wsX2_countWaiting := by decide +kernel
theorem gfX2_countWaiting_9 {p : Program} {l : Launch} {e : Env} {R : Room} {s : State} {m : MethodId} {args : Array Value} {below : List Frame} {meth : Method} {c : Code} {H : Heap} {locs : List Loc} {cells slots : Nat} {Q : State → Prop} {D : va_G} {A : Nat → Prop} {tys : List (ClassId × FieldType)} {Es : (Nat → Nat) × (Nat → Nat)} {ws : va_W} {pc : Nat} {ls : Array Slot} {rest : List Value} {a : Nat} (C : CT p s m args meth c RX2 cX2_countWaiting 5 none wsX2_countWaiting D A tys Es) (B : DB D A ws s H locs) (q0 : Nat) {fs : List Value} {v : Value} (he : ws[q0]? = some (a, .inr (2, fs))) (hv : fs[0]? = some v) (hdg : decode cX2_countWaiting pc = .ok (.getfield 9, 3)) (kk : W p l e R s m args below meth c H locs cells slots Q (F0 m (pc + 3) ls (v :: rest))) : W p l e R s m args below meth c H locs cells slots Q (F0 m pc ls (.ref a :: rest)) :=
  k_get (Cn := RX2) (T := TX2) (N := 8) (index := 9) C B iX2_countWaiting_X2 rfl 0 (by decide) (by decide +kernel) q0 he hv hdg kk
theorem gfX2_countWaiting_33 {p : Program} {l : Launch} {e : Env} {R : Room} {s : State} {m : MethodId} {args : Array Value} {below : List Frame} {meth : Method} {c : Code} {H : Heap} {locs : List Loc} {cells slots : Nat} {Q : State → Prop} {D : va_G} {A : Nat → Prop} {tys : List (ClassId × FieldType)} {Es : (Nat → Nat) × (Nat → Nat)} {ws : va_W} {pc : Nat} {ls : Array Slot} {rest : List Value} {a : Nat} (C : CT p s m args meth c RX2 cX2_countWaiting 5 none wsX2_countWaiting D A tys Es) (B : DB D A ws s H locs) (q0 : Nat) {fs : List Value} {v : Value} (he : ws[q0]? = some (a, .inr (2, fs))) (hv : fs[6]? = some v) (hdg : decode cX2_countWaiting pc = .ok (.getfield 33, 3)) (kk : W p l e R s m args below meth c H locs cells slots Q (F0 m (pc + 3) ls (v :: rest))) : W p l e R s m args below meth c H locs cells slots Q (F0 m pc ls (.ref a :: rest)) :=
  k_get (Cn := RX2) (T := TX2) (N := 8) (index := 33) C B iX2_countWaiting_X2 rfl 6 (by decide) (by decide +kernel) q0 he hv hdg kk
theorem iX2_countWaiting_X8 : ∀ w ∈ wsX80, w ∈ wsX2_countWaiting := by decide +kernel
theorem gfX2_countWaiting_44 {p : Program} {l : Launch} {e : Env} {R : Room} {s : State} {m : MethodId} {args : Array Value} {below : List Frame} {meth : Method} {c : Code} {H : Heap} {locs : List Loc} {cells slots : Nat} {Q : State → Prop} {D : va_G} {A : Nat → Prop} {tys : List (ClassId × FieldType)} {Es : (Nat → Nat) × (Nat → Nat)} {ws : va_W} {pc : Nat} {ls : Array Slot} {rest : List Value} {a : Nat} (C : CT p s m args meth c RX2 cX2_countWaiting 5 none wsX2_countWaiting D A tys Es) (B : DB D A ws s H locs) (q0 : Nat) {fs : List Value} {v : Value} (he : ws[q0]? = some (a, .inr (8, fs))) (hv : fs[2]? = some v) (hdg : decode cX2_countWaiting pc = .ok (.getfield 44, 3)) (kk : W p l e R s m args below meth c H locs cells slots Q (F0 m (pc + 3) ls (v :: rest))) : W p l e R s m args below meth c H locs cells slots Q (F0 m pc ls (.ref a :: rest)) :=
  k_get (Cn := RX8) (T := TX8) (N := 4) (index := 44) C B iX2_countWaiting_X8 rfl 2 (by decide) (by decide +kernel) q0 he hv hdg kk
theorem gfX2_countWaiting_29 {p : Program} {l : Launch} {e : Env} {R : Room} {s : State} {m : MethodId} {args : Array Value} {below : List Frame} {meth : Method} {c : Code} {H : Heap} {locs : List Loc} {cells slots : Nat} {Q : State → Prop} {D : va_G} {A : Nat → Prop} {tys : List (ClassId × FieldType)} {Es : (Nat → Nat) × (Nat → Nat)} {ws : va_W} {pc : Nat} {ls : Array Slot} {rest : List Value} {a : Nat} (C : CT p s m args meth c RX2 cX2_countWaiting 5 none wsX2_countWaiting D A tys Es) (B : DB D A ws s H locs) (q0 : Nat) {fs : List Value} {v : Value} (he : ws[q0]? = some (a, .inr (2, fs))) (hv : fs[5]? = some v) (hdg : decode cX2_countWaiting pc = .ok (.getfield 29, 3)) (kk : W p l e R s m args below meth c H locs cells slots Q (F0 m (pc + 3) ls (v :: rest))) : W p l e R s m args below meth c H locs cells slots Q (F0 m pc ls (.ref a :: rest)) :=
  k_get (Cn := RX2) (T := TX2) (N := 8) (index := 29) C B iX2_countWaiting_X2 rfl 5 (by decide) (by decide +kernel) q0 he hv hdg kk
theorem iX2_countWaiting_X1 : ∀ w ∈ wsX10, w ∈ wsX2_countWaiting := by decide +kernel
theorem gfX2_countWaiting_62 {p : Program} {l : Launch} {e : Env} {R : Room} {s : State} {m : MethodId} {args : Array Value} {below : List Frame} {meth : Method} {c : Code} {H : Heap} {locs : List Loc} {cells slots : Nat} {Q : State → Prop} {D : va_G} {A : Nat → Prop} {tys : List (ClassId × FieldType)} {Es : (Nat → Nat) × (Nat → Nat)} {ws : va_W} {pc : Nat} {ls : Array Slot} {rest : List Value} {a : Nat} (C : CT p s m args meth c RX2 cX2_countWaiting 5 none wsX2_countWaiting D A tys Es) (B : DB D A ws s H locs) (q0 : Nat) {fs : List Value} {v : Value} (he : ws[q0]? = some (a, .inr (1, fs))) (hv : fs[3]? = some v) (hdg : decode cX2_countWaiting pc = .ok (.getfield 62, 3)) (kk : W p l e R s m args below meth c H locs cells slots Q (F0 m (pc + 3) ls (v :: rest))) : W p l e R s m args below meth c H locs cells slots Q (F0 m pc ls (.ref a :: rest)) :=
  k_get (Cn := RX1) (T := TX1) (N := 5) (index := 62) C B iX2_countWaiting_X1 rfl 3 (by decide) (by decide +kernel) q0 he hv hdg kk
theorem gfX2_countWaiting_37 {p : Program} {l : Launch} {e : Env} {R : Room} {s : State} {m : MethodId} {args : Array Value} {below : List Frame} {meth : Method} {c : Code} {H : Heap} {locs : List Loc} {cells slots : Nat} {Q : State → Prop} {D : va_G} {A : Nat → Prop} {tys : List (ClassId × FieldType)} {Es : (Nat → Nat) × (Nat → Nat)} {ws : va_W} {pc : Nat} {ls : Array Slot} {rest : List Value} {a : Nat} (C : CT p s m args meth c RX2 cX2_countWaiting 5 none wsX2_countWaiting D A tys Es) (B : DB D A ws s H locs) (q0 : Nat) {fs : List Value} {v : Value} (he : ws[q0]? = some (a, .inr (2, fs))) (hv : fs[7]? = some v) (hdg : decode cX2_countWaiting pc = .ok (.getfield 37, 3)) (kk : W p l e R s m args below meth c H locs cells slots Q (F0 m (pc + 3) ls (v :: rest))) : W p l e R s m args below meth c H locs cells slots Q (F0 m pc ls (.ref a :: rest)) :=
  k_get (Cn := RX2) (T := TX2) (N := 8) (index := 37) C B iX2_countWaiting_X2 rfl 7 (by decide) (by decide +kernel) q0 he hv hdg kk
theorem iX2_countWaiting_X4 : ∀ w ∈ wsX40, w ∈ wsX2_countWaiting := by decide +kernel
theorem gfX2_countWaiting_65 {p : Program} {l : Launch} {e : Env} {R : Room} {s : State} {m : MethodId} {args : Array Value} {below : List Frame} {meth : Method} {c : Code} {H : Heap} {locs : List Loc} {cells slots : Nat} {Q : State → Prop} {D : va_G} {A : Nat → Prop} {tys : List (ClassId × FieldType)} {Es : (Nat → Nat) × (Nat → Nat)} {ws : va_W} {pc : Nat} {ls : Array Slot} {rest : List Value} {a : Nat} (C : CT p s m args meth c RX2 cX2_countWaiting 5 none wsX2_countWaiting D A tys Es) (B : DB D A ws s H locs) (q0 : Nat) {fs : List Value} {v : Value} (he : ws[q0]? = some (a, .inr (4, fs))) (hv : fs[0]? = some v) (hdg : decode cX2_countWaiting pc = .ok (.getfield 65, 3)) (kk : W p l e R s m args below meth c H locs cells slots Q (F0 m (pc + 3) ls (v :: rest))) : W p l e R s m args below meth c H locs cells slots Q (F0 m pc ls (.ref a :: rest)) :=
  k_get (Cn := RX4) (T := TX4) (N := 7) (index := 65) C B iX2_countWaiting_X4 rfl 0 (by decide) (by decide +kernel) q0 he hv hdg kk
section
variable {p : Program} {l : Launch} {e : Env} {s : State} {m : MethodId} {args : Array Value} {below : List Frame} {meth : Method} {c : Code} {D : va_G} {A : Nat → Prop} {Es : (Nat → Nat) × (Nat → Nat)} {a b : Nat → Nat} {cI cJ cT : ClassId}
set_option maxHeartbeats 4000000 in
set_option maxRecDepth 100000 in
theorem qX2_countWaiting_88 (C : CT p s m args meth c RX2 cX2_countWaiting 5 none wsX2_countWaiting D A (tyl cI cJ cT) Es) {N : Nat} {ch_nodes : Nat → Int32} {ch_signs : Nat → Int32} {ch_felt : Nat → Int32} {ch_count : Int32} {te_inputs : Nat → Int32} {te_dues : Nat → Int32} {te_count : Int32} {no_bits : Nat → Int32} {no_wishedInputs : Int32} {no_wishedMany : Int32} {no_hiddenUnlike : Nat → Int64} {fw_wl : Nat} {fw_wa : Nat} {fw_order : Nat → Int32} {fw_sum : Int32} {fw_set : Int32} {fw_fresh : Int32} {z_fw_waits : Nat → Int32} {k70 : Int32 → Int32 → (Nat → Int32) → Option ((Nat → Int32))} (hk70 : ∀ (x1 : Int32) (x2 : Int32) (fw_waits : Nat → Int32), k70 x1 x2 fw_waits = some z_fw_waits → ∀ (H : Heap) (locs : List Loc) (ls : Array Slot), DB D A (wd_ch_te_no_fw a b cI cJ cT ch_nodes ch_signs ch_felt ch_count te_inputs te_dues te_count no_bits no_wishedInputs no_wishedMany no_hiddenUnlike fw_waits fw_wl fw_wa fw_order fw_sum fw_set fw_fresh) s H locs → lv_has ls 5 [(0, .ref (a 38)), (1, .int x1), (2, .int x2)] → W p l e rmX2_countWaiting s m args below meth c H locs 0 0 (ZV below args s D A (tyl cI cJ cT) (wd_ch_te_no_fw a b cI cJ cT ch_nodes ch_signs ch_felt ch_count te_inputs te_dues te_count no_bits no_wishedInputs no_wishedMany no_hiddenUnlike z_fw_waits fw_wl fw_wa fw_order fw_sum fw_set fw_fresh) 0 0) (F0 m 70 ls [])) : ∀ (n : Nat) (x1 : Int32) (x2 : Int32) (x3 : Int32) (x4 : Int32) (fw_waits : Nat → Int32), bX2_countWaiting_88 N ch_count te_count no_bits fw_wl k70 n x1 x2 x3 x4 fw_waits = some z_fw_waits → ∀ (H : Heap) (locs : List Loc) (ls : Array Slot), DB D A (wd_ch_te_no_fw a b cI cJ cT ch_nodes ch_signs ch_felt ch_count te_inputs te_dues te_count no_bits no_wishedInputs no_wishedMany no_hiddenUnlike fw_waits fw_wl fw_wa fw_order fw_sum fw_set fw_fresh) s H locs → lv_has ls 5 [(0, .ref (a 38)), (1, .int x1), (2, .int x2), (3, .int x3), (4, .int x4)] → W p l e rmX2_countWaiting s m args below meth c H locs 0 0 (ZV below args s D A (tyl cI cJ cT) (wd_ch_te_no_fw a b cI cJ cT ch_nodes ch_signs ch_felt ch_count te_inputs te_dues te_count no_bits no_wishedInputs no_wishedMany no_hiddenUnlike z_fw_waits fw_wl fw_wa fw_order fw_sum fw_set fw_fresh) 0 0) (F0 m 88 ls []) := by
  have hx := C.1.1
  have hb := C.1.2.1
  have hown := C.1.2.2.2.1
  have hts := C.1.2.2.2.2
  intro n
  induction n with
  | zero => intro x1 x2 x3 x4 fw_waits h; cases h
  | succ n ih =>
    intro x1 x2 x3 x4 fw_waits h H locs ls B hl
    rw [bX2_countWaiting_88] at h
    refine lv_iload hx hb dX2_countWaiting_88 (lv_at hl 4 rfl) ?_
    refine lv_iload_n hx hb dX2_countWaiting_90 rfl (lv_at hl 1 rfl) ?_
    refine lv_icmp_ge (tgt := 126) hx hb dX2_countWaiting_91 (by decide) (fun c_1 => ?_) (fun c_1 => ?_)
    · rw [if_pos c_1] at h
      refine lv_iinc (v := (x2 + 1)) (lv' := [(2, .int (x2 + 1)), (0, .ref (a 38)), (1, .int x1), (3, .int x3), (4, .int x4)]) hx hb dX2_countWaiting_126 hl (k := 2) rfl rfl (by decide) rfl (fun ls hl => ?_)
      refine lv_goto (tgt := 70) hx hb dX2_countWaiting_129 (by decide) ?_
      exact hk70 x1 (x2 + 1) fw_waits h H locs ls B (lv_sub hl [1, 2, 0] rfl)
    · rw [if_neg c_1] at h
      refine lv_iload hx hb dX2_countWaiting_94 (lv_at hl 4 rfl) ?_
      refine lv_iload_n hx hb dX2_countWaiting_96 rfl (lv_at hl 3 rfl) ?_
      refine lv_iand hx hb dX2_countWaiting_97 ?_
      refine lv_if_eq (tgt := 120) hx hb dX2_countWaiting_98 (by decide) (fun c_2 => ?_) (fun c_2 => ?_)
      · rw [if_pos c_2] at h
        refine lv_iinc (v := (x4 + 1)) (lv' := [(4, .int (x4 + 1)), (0, .ref (a 38)), (1, .int x1), (2, .int x2), (3, .int x3)]) hx hb dX2_countWaiting_120 hl (k := 4) rfl rfl (by decide) rfl (fun ls hl => ?_)
        refine lv_goto (tgt := 88) hx hb dX2_countWaiting_123 (by decide) ?_
        exact ih x1 x2 x3 (x4 + 1) fw_waits h H locs ls B (lv_sub hl [1, 2, 3, 4, 0] rfl)
      · rw [if_neg c_2] at h
        refine lv_aload_n hx hb dX2_countWaiting_101 rfl (lv_at hl 0 rfl) ?_
        refine gfX2_countWaiting_9 C B 10 rfl rfl dX2_countWaiting_102 ?_
        refine lv_iload hx hb dX2_countWaiting_105 (lv_at hl 4 rfl) ?_
        refine lv_dup2_11 hx hb dX2_countWaiting_107 rfl rfl ?_
        obtain ⟨b_3, h⟩ := bnd_some h
        refine k_iald C B 11 0 rfl rfl b_3 dX2_countWaiting_108 ?_
        refine lv_aload_n hx hb dX2_countWaiting_109 rfl (lv_at hl 0 rfl) ?_
        refine gfX2_countWaiting_9 C B 10 rfl rfl dX2_countWaiting_110 ?_
        refine lv_iload hx hb dX2_countWaiting_113 (lv_at hl 4 rfl) ?_
        refine lv_iload_n hx hb dX2_countWaiting_115 rfl (lv_at hl 3 rfl) ?_
        refine lv_ixor hx hb dX2_countWaiting_116 ?_
        obtain ⟨b_4, h⟩ := bnd_some h
        refine k_iald C B 11 0 rfl rfl b_4 dX2_countWaiting_117 ?_
        refine lv_iadd hx hb dX2_countWaiting_118 ?_
        refine k_iast C B 11 0 rfl rfl b_3 dX2_countWaiting_119 (fun H locs B => ?_)
        have B : DB D A (wd_ch_te_no_fw a b cI cJ cT ch_nodes ch_signs ch_felt ch_count te_inputs te_dues te_count no_bits no_wishedInputs no_wishedMany no_hiddenUnlike (upd fw_waits (Int32.toNatClampNeg x4) ((fw_waits (Int32.toNatClampNeg x4)) + (fw_waits (Int32.toNatClampNeg (x4 ^^^ x3))))) fw_wl fw_wa fw_order fw_sum fw_set fw_fresh) s H locs := B
        refine lv_iinc (v := (x4 + 1)) (lv' := [(4, .int (x4 + 1)), (0, .ref (a 38)), (1, .int x1), (2, .int x2), (3, .int x3)]) hx hb dX2_countWaiting_120 hl (k := 4) rfl rfl (by decide) rfl (fun ls hl => ?_)
        refine lv_goto (tgt := 88) hx hb dX2_countWaiting_123 (by decide) ?_
        exact ih x1 x2 x3 (x4 + 1) (upd fw_waits (Int32.toNatClampNeg x4) ((fw_waits (Int32.toNatClampNeg x4)) + (fw_waits (Int32.toNatClampNeg (x4 ^^^ x3))))) h H locs ls B (lv_sub hl [1, 2, 3, 4, 0] rfl)
set_option maxHeartbeats 4000000 in
set_option maxRecDepth 100000 in
theorem qX2_countWaiting_70 (C : CT p s m args meth c RX2 cX2_countWaiting 5 none wsX2_countWaiting D A (tyl cI cJ cT) Es) {N : Nat} {ch_nodes : Nat → Int32} {ch_signs : Nat → Int32} {ch_felt : Nat → Int32} {ch_count : Int32} {te_inputs : Nat → Int32} {te_dues : Nat → Int32} {te_count : Int32} {no_bits : Nat → Int32} {no_wishedInputs : Int32} {no_wishedMany : Int32} {no_hiddenUnlike : Nat → Int64} {fw_wl : Nat} {fw_wa : Nat} {fw_order : Nat → Int32} {fw_sum : Int32} {fw_set : Int32} {fw_fresh : Int32} {z_fw_waits : Nat → Int32} : ∀ (n : Nat) (x1 : Int32) (x2 : Int32) (fw_waits : Nat → Int32), bX2_countWaiting_70 N ch_count te_count no_bits fw_wl n x1 x2 fw_waits = some z_fw_waits → ∀ (H : Heap) (locs : List Loc) (ls : Array Slot), DB D A (wd_ch_te_no_fw a b cI cJ cT ch_nodes ch_signs ch_felt ch_count te_inputs te_dues te_count no_bits no_wishedInputs no_wishedMany no_hiddenUnlike fw_waits fw_wl fw_wa fw_order fw_sum fw_set fw_fresh) s H locs → lv_has ls 5 [(0, .ref (a 38)), (1, .int x1), (2, .int x2)] → W p l e rmX2_countWaiting s m args below meth c H locs 0 0 (ZV below args s D A (tyl cI cJ cT) (wd_ch_te_no_fw a b cI cJ cT ch_nodes ch_signs ch_felt ch_count te_inputs te_dues te_count no_bits no_wishedInputs no_wishedMany no_hiddenUnlike z_fw_waits fw_wl fw_wa fw_order fw_sum fw_set fw_fresh) 0 0) (F0 m 70 ls []) := by
  have hx := C.1.1
  have hb := C.1.2.1
  have hown := C.1.2.2.2.1
  have hts := C.1.2.2.2.2
  intro n
  induction n with
  | zero => intro x1 x2 fw_waits h; cases h
  | succ n ih =>
    intro x1 x2 fw_waits h H locs ls B hl
    rw [bX2_countWaiting_70] at h
    refine lv_iload_n hx hb dX2_countWaiting_70 rfl (lv_at hl 2 rfl) ?_
    refine lv_aload_n hx hb dX2_countWaiting_71 rfl (lv_at hl 0 rfl) ?_
    refine gfX2_countWaiting_33 C B 10 rfl rfl dX2_countWaiting_72 ?_
    refine gfX2_countWaiting_44 C B 4 rfl rfl dX2_countWaiting_75 ?_
    refine lv_icmp_ge (tgt := 132) hx hb dX2_countWaiting_78 (by decide) (fun c_1 => ?_) (fun c_1 => ?_)
    · rw [if_pos c_1] at h
      cases h
      exact k_vret C B dX2_countWaiting_132
    · rw [if_neg c_1] at h
      refine lv_iconst (v := 1) hx hb dX2_countWaiting_81 (by decide) ?_
      refine lv_iload_n hx hb dX2_countWaiting_82 rfl (lv_at hl 2 rfl) ?_
      refine lv_ishl hx hb dX2_countWaiting_83 ?_
      refine lv_istore_n (lv' := [(3, .int ((1 : Int32) <<< (x2 &&& 31))), (0, .ref (a 38)), (1, .int x1), (2, .int x2)]) hx hb dX2_countWaiting_84 rfl hl (by decide) rfl (fun ls hl => ?_)
      refine lv_iload_n hx hb dX2_countWaiting_85 rfl (lv_at hl 0 rfl) ?_
      refine lv_istore (lv' := [(4, .int ((1 : Int32) <<< (x2 &&& 31))), (3, .int ((1 : Int32) <<< (x2 &&& 31))), (0, .ref (a 38)), (1, .int x1), (2, .int x2)]) hx hb dX2_countWaiting_86 hl (by decide) rfl (fun ls hl => ?_)
      exact qX2_countWaiting_88 C ih N x1 x2 ((1 : Int32) <<< (x2 &&& 31)) ((1 : Int32) <<< (x2 &&& 31)) fw_waits h H locs ls B (lv_sub hl [2, 3, 4, 1, 0] rfl)
set_option maxHeartbeats 4000000 in
set_option maxRecDepth 100000 in
theorem qX2_countWaiting_22 (C : CT p s m args meth c RX2 cX2_countWaiting 5 none wsX2_countWaiting D A (tyl cI cJ cT) Es) {N : Nat} {ch_nodes : Nat → Int32} {ch_signs : Nat → Int32} {ch_felt : Nat → Int32} {ch_count : Int32} {te_inputs : Nat → Int32} {te_dues : Nat → Int32} {te_count : Int32} {no_bits : Nat → Int32} {no_wishedInputs : Int32} {no_wishedMany : Int32} {no_hiddenUnlike : Nat → Int64} {fw_wl : Nat} {fw_wa : Nat} {fw_order : Nat → Int32} {fw_sum : Int32} {fw_set : Int32} {fw_fresh : Int32} {z_fw_waits : Nat → Int32} : ∀ (n : Nat) (x1 : Int32) (x2 : Int32) (fw_waits : Nat → Int32), bX2_countWaiting_22 N ch_count te_count no_bits fw_wl n x1 x2 fw_waits = some z_fw_waits → ∀ (H : Heap) (locs : List Loc) (ls : Array Slot), DB D A (wd_ch_te_no_fw a b cI cJ cT ch_nodes ch_signs ch_felt ch_count te_inputs te_dues te_count no_bits no_wishedInputs no_wishedMany no_hiddenUnlike fw_waits fw_wl fw_wa fw_order fw_sum fw_set fw_fresh) s H locs → lv_has ls 5 [(0, .ref (a 38)), (1, .int x1), (2, .int x2)] → W p l e rmX2_countWaiting s m args below meth c H locs 0 0 (ZV below args s D A (tyl cI cJ cT) (wd_ch_te_no_fw a b cI cJ cT ch_nodes ch_signs ch_felt ch_count te_inputs te_dues te_count no_bits no_wishedInputs no_wishedMany no_hiddenUnlike z_fw_waits fw_wl fw_wa fw_order fw_sum fw_set fw_fresh) 0 0) (F0 m 22 ls []) := by
  have hx := C.1.1
  have hb := C.1.2.1
  have hown := C.1.2.2.2.1
  have hts := C.1.2.2.2.2
  intro n
  induction n with
  | zero => intro x1 x2 fw_waits h; cases h
  | succ n ih =>
    intro x1 x2 fw_waits h H locs ls B hl
    rw [bX2_countWaiting_22] at h
    refine lv_iload_n hx hb dX2_countWaiting_22 rfl (lv_at hl 2 rfl) ?_
    refine lv_aload_n hx hb dX2_countWaiting_23 rfl (lv_at hl 0 rfl) ?_
    refine gfX2_countWaiting_29 C B 10 rfl rfl dX2_countWaiting_24 ?_
    refine gfX2_countWaiting_62 C B 0 rfl rfl dX2_countWaiting_27 ?_
    refine lv_icmp_ge (tgt := 68) hx hb dX2_countWaiting_30 (by decide) (fun c_1 => ?_) (fun c_1 => ?_)
    · rw [if_pos c_1] at h
      refine lv_iconst (v := 0) hx hb dX2_countWaiting_68 (by decide) ?_
      refine lv_istore_n (lv' := [(2, .int (0 : Int32)), (0, .ref (a 38)), (1, .int x1)]) hx hb dX2_countWaiting_69 rfl hl (by decide) rfl (fun ls hl => ?_)
      exact qX2_countWaiting_70 C N x1 (0 : Int32) fw_waits h H locs ls B (lv_sub hl [1, 2, 0] rfl)
    · rw [if_neg c_1] at h
      refine lv_aload_n hx hb dX2_countWaiting_33 rfl (lv_at hl 0 rfl) ?_
      refine gfX2_countWaiting_37 C B 10 rfl rfl dX2_countWaiting_34 ?_
      refine gfX2_countWaiting_65 C B 7 rfl rfl dX2_countWaiting_37 ?_
      refine lv_iload_n hx hb dX2_countWaiting_40 rfl (lv_at hl 2 rfl) ?_
      obtain ⟨b_2, h⟩ := bnd_some h
      refine k_iald C B 8 0 rfl rfl b_2 dX2_countWaiting_41 ?_
      refine lv_istore_n (lv' := [(3, .int (no_bits (Int32.toNatClampNeg x2))), (0, .ref (a 38)), (1, .int x1), (2, .int x2)]) hx hb dX2_countWaiting_42 rfl hl (by decide) rfl (fun ls hl => ?_)
      refine lv_iload_n hx hb dX2_countWaiting_43 rfl (lv_at hl 0 rfl) ?_
      refine lv_if_eq (tgt := 62) hx hb dX2_countWaiting_44 (by decide) (fun c_3 => ?_) (fun c_3 => ?_)
      · rw [if_pos c_3] at h
        refine lv_iinc (v := (x2 + 1)) (lv' := [(2, .int (x2 + 1)), (3, .int (no_bits (Int32.toNatClampNeg x2))), (0, .ref (a 38)), (1, .int x1)]) hx hb dX2_countWaiting_62 hl (k := 3) rfl rfl (by decide) rfl (fun ls hl => ?_)
        refine lv_goto (tgt := 22) hx hb dX2_countWaiting_65 (by decide) ?_
        exact ih x1 (x2 + 1) fw_waits h H locs ls B (lv_sub hl [2, 3, 0] rfl)
      · rw [if_neg c_3] at h
        refine lv_iload_n hx hb dX2_countWaiting_47 rfl (lv_at hl 0 rfl) ?_
        refine lv_iload_n hx hb dX2_countWaiting_48 rfl (lv_at hl 2 rfl) ?_
        refine lv_icmp_ge (tgt := 62) hx hb dX2_countWaiting_49 (by decide) (fun c_4 => ?_) (fun c_4 => ?_)
        · rw [if_pos c_4] at h
          refine lv_iinc (v := (x2 + 1)) (lv' := [(2, .int (x2 + 1)), (3, .int (no_bits (Int32.toNatClampNeg x2))), (0, .ref (a 38)), (1, .int x1)]) hx hb dX2_countWaiting_62 hl (k := 3) rfl rfl (by decide) rfl (fun ls hl => ?_)
          refine lv_goto (tgt := 22) hx hb dX2_countWaiting_65 (by decide) ?_
          exact ih x1 (x2 + 1) fw_waits h H locs ls B (lv_sub hl [2, 3, 0] rfl)
        · rw [if_neg c_4] at h
          refine lv_aload_n hx hb dX2_countWaiting_52 rfl (lv_at hl 1 rfl) ?_
          refine gfX2_countWaiting_9 C B 10 rfl rfl dX2_countWaiting_53 ?_
          refine lv_iload_n hx hb dX2_countWaiting_56 rfl (lv_at hl 0 rfl) ?_
          refine lv_dup2_11 hx hb dX2_countWaiting_57 rfl rfl ?_
          obtain ⟨b_5, h⟩ := bnd_some h
          refine k_iald C B 11 0 rfl rfl b_5 dX2_countWaiting_58 ?_
          refine lv_iconst (v := 1) hx hb dX2_countWaiting_59 (by decide) ?_
          refine lv_iadd hx hb dX2_countWaiting_60 ?_
          refine k_iast C B 11 0 rfl rfl b_5 dX2_countWaiting_61 (fun H locs B => ?_)
          have B : DB D A (wd_ch_te_no_fw a b cI cJ cT ch_nodes ch_signs ch_felt ch_count te_inputs te_dues te_count no_bits no_wishedInputs no_wishedMany no_hiddenUnlike (upd fw_waits (Int32.toNatClampNeg (no_bits (Int32.toNatClampNeg x2))) ((fw_waits (Int32.toNatClampNeg (no_bits (Int32.toNatClampNeg x2)))) + (1 : Int32))) fw_wl fw_wa fw_order fw_sum fw_set fw_fresh) s H locs := B
          refine lv_iinc (v := (x2 + 1)) (lv' := [(2, .int (x2 + 1)), (3, .int (no_bits (Int32.toNatClampNeg x2))), (0, .ref (a 38)), (1, .int x1)]) hx hb dX2_countWaiting_62 hl (k := 3) rfl rfl (by decide) rfl (fun ls hl => ?_)
          refine lv_goto (tgt := 22) hx hb dX2_countWaiting_65 (by decide) ?_
          exact ih x1 (x2 + 1) (upd fw_waits (Int32.toNatClampNeg (no_bits (Int32.toNatClampNeg x2))) ((fw_waits (Int32.toNatClampNeg (no_bits (Int32.toNatClampNeg x2)))) + (1 : Int32))) h H locs ls B (lv_sub hl [2, 3, 0] rfl)
set_option maxHeartbeats 4000000 in
set_option maxRecDepth 100000 in
theorem qX2_countWaiting_2 (C : CT p s m args meth c RX2 cX2_countWaiting 5 none wsX2_countWaiting D A (tyl cI cJ cT) Es) {N : Nat} {ch_nodes : Nat → Int32} {ch_signs : Nat → Int32} {ch_felt : Nat → Int32} {ch_count : Int32} {te_inputs : Nat → Int32} {te_dues : Nat → Int32} {te_count : Int32} {no_bits : Nat → Int32} {no_wishedInputs : Int32} {no_wishedMany : Int32} {no_hiddenUnlike : Nat → Int64} {fw_wl : Nat} {fw_wa : Nat} {fw_order : Nat → Int32} {fw_sum : Int32} {fw_set : Int32} {fw_fresh : Int32} {z_fw_waits : Nat → Int32} : ∀ (n : Nat) (x1 : Int32) (x2 : Int32) (fw_waits : Nat → Int32), bX2_countWaiting_2 N ch_count te_count no_bits fw_wl n x1 x2 fw_waits = some z_fw_waits → ∀ (H : Heap) (locs : List Loc) (ls : Array Slot), DB D A (wd_ch_te_no_fw a b cI cJ cT ch_nodes ch_signs ch_felt ch_count te_inputs te_dues te_count no_bits no_wishedInputs no_wishedMany no_hiddenUnlike fw_waits fw_wl fw_wa fw_order fw_sum fw_set fw_fresh) s H locs → lv_has ls 5 [(0, .ref (a 38)), (1, .int x1), (2, .int x2)] → W p l e rmX2_countWaiting s m args below meth c H locs 0 0 (ZV below args s D A (tyl cI cJ cT) (wd_ch_te_no_fw a b cI cJ cT ch_nodes ch_signs ch_felt ch_count te_inputs te_dues te_count no_bits no_wishedInputs no_wishedMany no_hiddenUnlike z_fw_waits fw_wl fw_wa fw_order fw_sum fw_set fw_fresh) 0 0) (F0 m 2 ls []) := by
  have hx := C.1.1
  have hb := C.1.2.1
  have hown := C.1.2.2.2.1
  have hts := C.1.2.2.2.2
  intro n
  induction n with
  | zero => intro x1 x2 fw_waits h; cases h
  | succ n ih =>
    intro x1 x2 fw_waits h H locs ls B hl
    rw [bX2_countWaiting_2] at h
    refine lv_iload_n hx hb dX2_countWaiting_2 rfl (lv_at hl 2 rfl) ?_
    refine lv_iload_n hx hb dX2_countWaiting_3 rfl (lv_at hl 1 rfl) ?_
    refine lv_icmp_ge (tgt := 20) hx hb dX2_countWaiting_4 (by decide) (fun c_1 => ?_) (fun c_1 => ?_)
    · rw [if_pos c_1] at h
      refine lv_iconst (v := 0) hx hb dX2_countWaiting_20 (by decide) ?_
      refine lv_istore_n (lv' := [(2, .int (0 : Int32)), (0, .ref (a 38)), (1, .int x1)]) hx hb dX2_countWaiting_21 rfl hl (by decide) rfl (fun ls hl => ?_)
      exact qX2_countWaiting_22 C N x1 (0 : Int32) fw_waits h H locs ls B (lv_sub hl [1, 2, 0] rfl)
    · rw [if_neg c_1] at h
      refine lv_aload_n hx hb dX2_countWaiting_7 rfl (lv_at hl 0 rfl) ?_
      refine gfX2_countWaiting_9 C B 10 rfl rfl dX2_countWaiting_8 ?_
      refine lv_iload_n hx hb dX2_countWaiting_11 rfl (lv_at hl 2 rfl) ?_
      refine lv_iconst (v := 0) hx hb dX2_countWaiting_12 (by decide) ?_
      obtain ⟨b_2, h⟩ := bnd_some h
      refine k_iast C B 11 0 rfl rfl b_2 dX2_countWaiting_13 (fun H locs B => ?_)
      have B : DB D A (wd_ch_te_no_fw a b cI cJ cT ch_nodes ch_signs ch_felt ch_count te_inputs te_dues te_count no_bits no_wishedInputs no_wishedMany no_hiddenUnlike (upd fw_waits (Int32.toNatClampNeg x2) (0 : Int32)) fw_wl fw_wa fw_order fw_sum fw_set fw_fresh) s H locs := B
      refine lv_iinc (v := (x2 + 1)) (lv' := [(2, .int (x2 + 1)), (0, .ref (a 38)), (1, .int x1)]) hx hb dX2_countWaiting_14 hl (k := 2) rfl rfl (by decide) rfl (fun ls hl => ?_)
      refine lv_goto (tgt := 2) hx hb dX2_countWaiting_17 (by decide) ?_
      exact ih x1 (x2 + 1) (upd fw_waits (Int32.toNatClampNeg x2) (0 : Int32)) h H locs ls B (lv_sub hl [1, 2, 0] rfl)
set_option maxHeartbeats 4000000 in
set_option maxRecDepth 100000 in
theorem qX2_countWaiting_0 (C : CT p s m args meth c RX2 cX2_countWaiting 5 none wsX2_countWaiting D A (tyl cI cJ cT) Es) {N : Nat} {ch_nodes : Nat → Int32} {ch_signs : Nat → Int32} {ch_felt : Nat → Int32} {ch_count : Int32} {te_inputs : Nat → Int32} {te_dues : Nat → Int32} {te_count : Int32} {no_bits : Nat → Int32} {no_wishedInputs : Int32} {no_wishedMany : Int32} {no_hiddenUnlike : Nat → Int64} {fw_wl : Nat} {fw_wa : Nat} {fw_order : Nat → Int32} {fw_sum : Int32} {fw_set : Int32} {fw_fresh : Int32} {z_fw_waits : Nat → Int32} : ∀ (x1 : Int32) (fw_waits : Nat → Int32), fX2_countWaiting N ch_count te_count no_bits fw_wl x1 fw_waits = some z_fw_waits → ∀ (H : Heap) (locs : List Loc) (ls : Array Slot), DB D A (wd_ch_te_no_fw a b cI cJ cT ch_nodes ch_signs ch_felt ch_count te_inputs te_dues te_count no_bits no_wishedInputs no_wishedMany no_hiddenUnlike fw_waits fw_wl fw_wa fw_order fw_sum fw_set fw_fresh) s H locs → lv_has ls 5 [(0, .ref (a 38)), (1, .int x1)] → W p l e rmX2_countWaiting s m args below meth c H locs 0 0 (ZV below args s D A (tyl cI cJ cT) (wd_ch_te_no_fw a b cI cJ cT ch_nodes ch_signs ch_felt ch_count te_inputs te_dues te_count no_bits no_wishedInputs no_wishedMany no_hiddenUnlike z_fw_waits fw_wl fw_wa fw_order fw_sum fw_set fw_fresh) 0 0) (F0 m 0 ls []) := by
  have hx := C.1.1
  have hb := C.1.2.1
  have hown := C.1.2.2.2.1
  have hts := C.1.2.2.2.2
  intro x1 fw_waits h H locs ls B hl
  rw [fX2_countWaiting] at h
  refine lv_iconst (v := 0) hx hb dX2_countWaiting_0 (by decide) ?_
  refine lv_istore_n (lv' := [(2, .int (0 : Int32)), (0, .ref (a 38)), (1, .int x1)]) hx hb dX2_countWaiting_1 rfl hl (by decide) rfl (fun ls hl => ?_)
  exact qX2_countWaiting_2 C N x1 (0 : Int32) fw_waits h H locs ls B (lv_sub hl [1, 2, 0] rfl)
end
theorem tX2_countWaiting {l : Launch} {D : va_G} {Es : (Nat → Nat) × (Nat → Nat)} {a b : Nat → Nat} {cI cJ cT : ClassId} {ch_nodes : Nat → Int32} {ch_signs : Nat → Int32} {ch_felt : Nat → Int32} {ch_count : Int32} {te_inputs : Nat → Int32} {te_dues : Nat → Int32} {te_count : Int32} {no_bits : Nat → Int32} {no_wishedInputs : Int32} {no_wishedMany : Int32} {no_hiddenUnlike : Nat → Int64} {fw_waits : Nat → Int32} {fw_wl : Nat} {fw_wa : Nat} {fw_order : Nat → Int32} {fw_sum : Int32} {fw_set : Int32} {fw_fresh : Int32} {x1 : Int32} {z_fw_waits : Nat → Int32} (N : Nat) (h : fX2_countWaiting N ch_count te_count no_bits fw_wl x1 fw_waits = some z_fw_waits) : CtV l yX2_countWaiting wsX2_countWaiting rmX2_countWaiting D (tyl cI cJ cT) Es [.ref (a 38), .int x1] (wd_ch_te_no_fw a b cI cJ cT ch_nodes ch_signs ch_felt ch_count te_inputs te_dues te_count no_bits no_wishedInputs no_wishedMany no_hiddenUnlike fw_waits fw_wl fw_wa fw_order fw_sum fw_set fw_fresh) (wd_ch_te_no_fw a b cI cJ cT ch_nodes ch_signs ch_felt ch_count te_inputs te_dues te_count no_bits no_wishedInputs no_wishedMany no_hiddenUnlike z_fw_waits fw_wl fw_wa fw_order fw_sum fw_set fw_fresh) :=
  CtV.of (own := RX2) (cc := cX2_countWaiting) (nL := 5) (ret := none) (by decide +kernel) rfl rfl (Nat.le_of_ble_eq_true rfl) rfl (fun p e s m below meth c A ls C B hl => qX2_countWaiting_0 C (N := N) x1 fw_waits h _ _ _ B hl)

abbrev rmX2_bestTurn : Room := { frames := 0, cells := 0, slots := 0, locals := 0 }
theorem hdX2_bestTurn : yX2_bestTurn.cls ≠ "java/lang/invoke/MethodHandle" ∧ yX2_bestTurn.cls ≠ "java/lang/invoke/VarHandle" ∧ (parseMethodDescriptor yX2_bestTurn.desc).map (fun d => d.parameters.length) = some 1 := by decide +kernel
theorem iX2_bestTurn_X2 : ∀ w ∈ wsX20, w ∈ wsX2_bestTurn := by decide +kernel
theorem gfX2_bestTurn_33 {p : Program} {l : Launch} {e : Env} {R : Room} {s : State} {m : MethodId} {args : Array Value} {below : List Frame} {meth : Method} {c : Code} {H : Heap} {locs : List Loc} {cells slots : Nat} {Q : State → Prop} {D : va_G} {A : Nat → Prop} {tys : List (ClassId × FieldType)} {Es : (Nat → Nat) × (Nat → Nat)} {ws : va_W} {pc : Nat} {ls : Array Slot} {rest : List Value} {a : Nat} (C : CT p s m args meth c RX2 cX2_bestTurn 6 (some .int) wsX2_bestTurn D A tys Es) (B : DB D A ws s H locs) (q0 : Nat) {fs : List Value} {v : Value} (he : ws[q0]? = some (a, .inr (2, fs))) (hv : fs[6]? = some v) (hdg : decode cX2_bestTurn pc = .ok (.getfield 33, 3)) (kk : W p l e R s m args below meth c H locs cells slots Q (F0 m (pc + 3) ls (v :: rest))) : W p l e R s m args below meth c H locs cells slots Q (F0 m pc ls (.ref a :: rest)) :=
  k_get (Cn := RX2) (T := TX2) (N := 8) (index := 33) C B iX2_bestTurn_X2 rfl 6 (by decide) (by decide +kernel) q0 he hv hdg kk
theorem iX2_bestTurn_X8 : ∀ w ∈ wsX80, w ∈ wsX2_bestTurn := by decide +kernel
theorem gfX2_bestTurn_44 {p : Program} {l : Launch} {e : Env} {R : Room} {s : State} {m : MethodId} {args : Array Value} {below : List Frame} {meth : Method} {c : Code} {H : Heap} {locs : List Loc} {cells slots : Nat} {Q : State → Prop} {D : va_G} {A : Nat → Prop} {tys : List (ClassId × FieldType)} {Es : (Nat → Nat) × (Nat → Nat)} {ws : va_W} {pc : Nat} {ls : Array Slot} {rest : List Value} {a : Nat} (C : CT p s m args meth c RX2 cX2_bestTurn 6 (some .int) wsX2_bestTurn D A tys Es) (B : DB D A ws s H locs) (q0 : Nat) {fs : List Value} {v : Value} (he : ws[q0]? = some (a, .inr (8, fs))) (hv : fs[2]? = some v) (hdg : decode cX2_bestTurn pc = .ok (.getfield 44, 3)) (kk : W p l e R s m args below meth c H locs cells slots Q (F0 m (pc + 3) ls (v :: rest))) : W p l e R s m args below meth c H locs cells slots Q (F0 m pc ls (.ref a :: rest)) :=
  k_get (Cn := RX8) (T := TX8) (N := 4) (index := 44) C B iX2_bestTurn_X8 rfl 2 (by decide) (by decide +kernel) q0 he hv hdg kk
theorem gfX2_bestTurn_9 {p : Program} {l : Launch} {e : Env} {R : Room} {s : State} {m : MethodId} {args : Array Value} {below : List Frame} {meth : Method} {c : Code} {H : Heap} {locs : List Loc} {cells slots : Nat} {Q : State → Prop} {D : va_G} {A : Nat → Prop} {tys : List (ClassId × FieldType)} {Es : (Nat → Nat) × (Nat → Nat)} {ws : va_W} {pc : Nat} {ls : Array Slot} {rest : List Value} {a : Nat} (C : CT p s m args meth c RX2 cX2_bestTurn 6 (some .int) wsX2_bestTurn D A tys Es) (B : DB D A ws s H locs) (q0 : Nat) {fs : List Value} {v : Value} (he : ws[q0]? = some (a, .inr (2, fs))) (hv : fs[0]? = some v) (hdg : decode cX2_bestTurn pc = .ok (.getfield 9, 3)) (kk : W p l e R s m args below meth c H locs cells slots Q (F0 m (pc + 3) ls (v :: rest))) : W p l e R s m args below meth c H locs cells slots Q (F0 m pc ls (.ref a :: rest)) :=
  k_get (Cn := RX2) (T := TX2) (N := 8) (index := 9) C B iX2_bestTurn_X2 rfl 0 (by decide) (by decide +kernel) q0 he hv hdg kk
theorem mX2_bestTurn_c74 : (Cond.constant RX2 74 (1000000)) ∈ wsX2_bestTurn := by decide +kernel
section
variable {p : Program} {l : Launch} {e : Env} {s : State} {m : MethodId} {args : Array Value} {below : List Frame} {meth : Method} {c : Code} {D : va_G} {A : Nat → Prop} {Es : (Nat → Nat) × (Nat → Nat)} {a b : Nat → Nat} {cI cJ cT : ClassId}
set_option maxHeartbeats 4000000 in
set_option maxRecDepth 100000 in
theorem qX2_bestTurn_59 (C : CT p s m args meth c RX2 cX2_bestTurn 6 (some .int) wsX2_bestTurn D A (tyl cI cJ cT) Es) {N : Nat} {te_inputs : Nat → Int32} {te_dues : Nat → Int32} {te_count : Int32} {fw_waits : Nat → Int32} {fw_wl : Nat} {fw_wa : Nat} {fw_order : Nat → Int32} {fw_sum : Int32} {fw_set : Int32} {fw_fresh : Int32} {z_r : Int32} {k8 : Int32 → Int32 → Int32 → Int32 → Option (Int32)} (hk8 : ∀ (x1 : Int32) (x2 : Int32) (x3 : Int32) (x4 : Int32), k8 x1 x2 x3 x4 = some z_r → ∀ (H : Heap) (locs : List Loc) (ls : Array Slot), DB D A (wd_te_fw a b cI cJ cT te_inputs te_dues te_count fw_waits fw_wl fw_wa fw_order fw_sum fw_set fw_fresh) s H locs → lv_has ls 6 [(0, .ref (a 38)), (1, .int x1), (2, .int x2), (3, .int x3), (4, .int x4)] → W p l e rmX2_bestTurn s m args below meth c H locs 0 0 (ZI below args s D A (tyl cI cJ cT) z_r (wd_te_fw a b cI cJ cT te_inputs te_dues te_count fw_waits fw_wl fw_wa fw_order fw_sum fw_set fw_fresh) 0 0) (F0 m 8 ls [])) : ∀ (x1 : Int32) (x2 : Int32) (x3 : Int32) (x4 : Int32), bX2_bestTurn_59 N te_count fw_waits fw_wl k8 x1 x2 x3 x4 = some z_r → ∀ (H : Heap) (locs : List Loc) (ls : Array Slot), DB D A (wd_te_fw a b cI cJ cT te_inputs te_dues te_count fw_waits fw_wl fw_wa fw_order fw_sum fw_set fw_fresh) s H locs → lv_has ls 6 [(0, .ref (a 38)), (1, .int x1), (2, .int x2), (3, .int x3), (4, .int x4)] → W p l e rmX2_bestTurn s m args below meth c H locs 0 0 (ZI below args s D A (tyl cI cJ cT) z_r (wd_te_fw a b cI cJ cT te_inputs te_dues te_count fw_waits fw_wl fw_wa fw_order fw_sum fw_set fw_fresh) 0 0) (F0 m 59 ls []) := by
  have hx := C.1.1
  have hb := C.1.2.1
  have hown := C.1.2.2.2.1
  have hts := C.1.2.2.2.2
  intro x1 x2 x3 x4 h H locs ls B hl
  rw [bX2_bestTurn_59] at h
  refine lv_iinc (v := (x4 + 1)) (lv' := [(4, .int (x4 + 1)), (0, .ref (a 38)), (1, .int x1), (2, .int x2), (3, .int x3)]) hx hb dX2_bestTurn_59 hl (k := 4) rfl rfl (by decide) rfl (fun ls hl => ?_)
  refine lv_goto (tgt := 8) hx hb dX2_bestTurn_62 (by decide) ?_
  exact hk8 x1 x2 x3 (x4 + 1) h H locs ls B (lv_sub hl [1, 2, 3, 4, 0] rfl)
set_option maxHeartbeats 4000000 in
set_option maxRecDepth 100000 in
theorem qX2_bestTurn_8 (C : CT p s m args meth c RX2 cX2_bestTurn 6 (some .int) wsX2_bestTurn D A (tyl cI cJ cT) Es) {N : Nat} {te_inputs : Nat → Int32} {te_dues : Nat → Int32} {te_count : Int32} {fw_waits : Nat → Int32} {fw_wl : Nat} {fw_wa : Nat} {fw_order : Nat → Int32} {fw_sum : Int32} {fw_set : Int32} {fw_fresh : Int32} {z_r : Int32} : ∀ (n : Nat) (x1 : Int32) (x2 : Int32) (x3 : Int32) (x4 : Int32), bX2_bestTurn_8 N te_count fw_waits fw_wl n x1 x2 x3 x4 = some z_r → ∀ (H : Heap) (locs : List Loc) (ls : Array Slot), DB D A (wd_te_fw a b cI cJ cT te_inputs te_dues te_count fw_waits fw_wl fw_wa fw_order fw_sum fw_set fw_fresh) s H locs → lv_has ls 6 [(0, .ref (a 38)), (1, .int x1), (2, .int x2), (3, .int x3), (4, .int x4)] → W p l e rmX2_bestTurn s m args below meth c H locs 0 0 (ZI below args s D A (tyl cI cJ cT) z_r (wd_te_fw a b cI cJ cT te_inputs te_dues te_count fw_waits fw_wl fw_wa fw_order fw_sum fw_set fw_fresh) 0 0) (F0 m 8 ls []) := by
  have hx := C.1.1
  have hb := C.1.2.1
  have hown := C.1.2.2.2.1
  have hts := C.1.2.2.2.2
  intro n
  induction n with
  | zero => intro x1 x2 x3 x4 h; cases h
  | succ n ih =>
    intro x1 x2 x3 x4 h H locs ls B hl
    rw [bX2_bestTurn_8] at h
    refine lv_iload hx hb dX2_bestTurn_8 (lv_at hl 4 rfl) ?_
    refine lv_aload_n hx hb dX2_bestTurn_10 rfl (lv_at hl 0 rfl) ?_
    refine gfX2_bestTurn_33 C B 3 rfl rfl dX2_bestTurn_11 ?_
    refine gfX2_bestTurn_44 C B 0 rfl rfl dX2_bestTurn_14 ?_
    refine lv_icmp_ge (tgt := 65) hx hb dX2_bestTurn_17 (by decide) (fun c_1 => ?_) (fun c_1 => ?_)
    · rw [if_pos c_1] at h
      refine lv_iload_n hx hb dX2_bestTurn_65 rfl (lv_at hl 2 rfl) ?_
      cases h
      exact k_iret C B dX2_bestTurn_66
    · rw [if_neg c_1] at h
      refine lv_iconst (v := 1) hx hb dX2_bestTurn_20 (by decide) ?_
      refine lv_iload hx hb dX2_bestTurn_21 (lv_at hl 4 rfl) ?_
      refine lv_ishl hx hb dX2_bestTurn_23 ?_
      refine lv_istore (lv' := [(5, .int ((1 : Int32) <<< (x4 &&& 31))), (0, .ref (a 38)), (1, .int x1), (2, .int x2), (3, .int x3), (4, .int x4)]) hx hb dX2_bestTurn_24 hl (by decide) rfl (fun ls hl => ?_)
      refine lv_iload_n hx hb dX2_bestTurn_26 rfl (lv_at hl 2 rfl) ?_
      refine lv_iload hx hb dX2_bestTurn_27 (lv_at hl 0 rfl) ?_
      refine lv_iand hx hb dX2_bestTurn_29 ?_
      refine lv_if_eq (tgt := 59) hx hb dX2_bestTurn_30 (by decide) (fun c_2 => ?_) (fun c_2 => ?_)
      · rw [if_pos c_2] at h
        exact qX2_bestTurn_59 C ih x1 x2 x3 x4 h H locs ls B (lv_sub hl [1, 2, 3, 4, 5] rfl)
      · rw [if_neg c_2] at h
        refine lv_aload_n hx hb dX2_bestTurn_33 rfl (lv_at hl 1 rfl) ?_
        refine gfX2_bestTurn_9 C B 3 rfl rfl dX2_bestTurn_34 ?_
        refine lv_iload_n hx hb dX2_bestTurn_37 rfl (lv_at hl 2 rfl) ?_
        refine lv_iload hx hb dX2_bestTurn_38 (lv_at hl 0 rfl) ?_
        refine lv_ixor hx hb dX2_bestTurn_40 ?_
        obtain ⟨b_3, h⟩ := bnd_some h
        refine k_iald C B 4 0 rfl rfl b_3 dX2_bestTurn_41 ?_
        refine lv_iload_n hx hb dX2_bestTurn_42 rfl (lv_at hl 4 rfl) ?_
        refine lv_icmp_ge (tgt := 59) hx hb dX2_bestTurn_43 (by decide) (fun c_4 => ?_) (fun c_4 => ?_)
        · rw [if_pos c_4] at h
          exact qX2_bestTurn_59 C ih x1 x2 x3 x4 h H locs ls B (lv_sub hl [1, 2, 3, 4, 5] rfl)
        · rw [if_neg c_4] at h
          refine lv_iload hx hb dX2_bestTurn_46 (lv_at hl 5 rfl) ?_
          refine lv_istore_n (lv' := [(2, .int x4), (5, .int ((1 : Int32) <<< (x4 &&& 31))), (0, .ref (a 38)), (1, .int x1), (3, .int x3), (4, .int x4)]) hx hb dX2_bestTurn_48 rfl hl (by decide) rfl (fun ls hl => ?_)
          refine lv_aload_n hx hb dX2_bestTurn_49 rfl (lv_at hl 2 rfl) ?_
          refine gfX2_bestTurn_9 C B 3 rfl rfl dX2_bestTurn_50 ?_
          refine lv_iload_n hx hb dX2_bestTurn_53 rfl (lv_at hl 3 rfl) ?_
          refine lv_iload hx hb dX2_bestTurn_54 (lv_at hl 1 rfl) ?_
          refine lv_ixor hx hb dX2_bestTurn_56 ?_
          refine k_iald C B 4 0 rfl rfl b_3 dX2_bestTurn_57 ?_
          refine lv_istore_n (lv' := [(3, .int (fw_waits (Int32.toNatClampNeg (x1 ^^^ ((1 : Int32) <<< (x4 &&& 31)))))), (2, .int x4), (5, .int ((1 : Int32) <<< (x4 &&& 31))), (0, .ref (a 38)), (1, .int x1), (4, .int x4)]) hx hb dX2_bestTurn_58 rfl hl (by decide) rfl (fun ls hl => ?_)
          exact qX2_bestTurn_59 C ih x1 x4 (fw_waits (Int32.toNatClampNeg (x1 ^^^ ((1 : Int32) <<< (x4 &&& 31))))) x4 h H locs ls B (lv_sub hl [3, 4, 1, 0, 5] rfl)
set_option maxHeartbeats 4000000 in
set_option maxRecDepth 100000 in
theorem qX2_bestTurn_0 (C : CT p s m args meth c RX2 cX2_bestTurn 6 (some .int) wsX2_bestTurn D A (tyl cI cJ cT) Es) {N : Nat} {te_inputs : Nat → Int32} {te_dues : Nat → Int32} {te_count : Int32} {fw_waits : Nat → Int32} {fw_wl : Nat} {fw_wa : Nat} {fw_order : Nat → Int32} {fw_sum : Int32} {fw_set : Int32} {fw_fresh : Int32} {z_r : Int32} : ∀ (x1 : Int32), fX2_bestTurn N te_count fw_waits fw_wl x1 = some z_r → ∀ (H : Heap) (locs : List Loc) (ls : Array Slot), DB D A (wd_te_fw a b cI cJ cT te_inputs te_dues te_count fw_waits fw_wl fw_wa fw_order fw_sum fw_set fw_fresh) s H locs → lv_has ls 6 [(0, .ref (a 38)), (1, .int x1)] → W p l e rmX2_bestTurn s m args below meth c H locs 0 0 (ZI below args s D A (tyl cI cJ cT) z_r (wd_te_fw a b cI cJ cT te_inputs te_dues te_count fw_waits fw_wl fw_wa fw_order fw_sum fw_set fw_fresh) 0 0) (F0 m 0 ls []) := by
  have hx := C.1.1
  have hb := C.1.2.1
  have hown := C.1.2.2.2.1
  have hts := C.1.2.2.2.2
  intro x1 h H locs ls B hl
  rw [fX2_bestTurn] at h
  refine lv_iconst (v := 0) hx hb dX2_bestTurn_0 (by decide) ?_
  refine lv_istore_n (lv' := [(2, .int (0 : Int32)), (0, .ref (a 38)), (1, .int x1)]) hx hb dX2_bestTurn_1 rfl hl (by decide) rfl (fun ls hl => ?_)
  refine lv_ldc (v := 1000000) hx hb hown (hts _ mX2_bestTurn_c74) dX2_bestTurn_2 ?_
  refine lv_istore_n (lv' := [(3, .int (1000000 : Int32)), (2, .int (0 : Int32)), (0, .ref (a 38)), (1, .int x1)]) hx hb dX2_bestTurn_4 rfl hl (by decide) rfl (fun ls hl => ?_)
  refine lv_iconst (v := 0) hx hb dX2_bestTurn_5 (by decide) ?_
  refine lv_istore (lv' := [(4, .int (0 : Int32)), (3, .int (1000000 : Int32)), (2, .int (0 : Int32)), (0, .ref (a 38)), (1, .int x1)]) hx hb dX2_bestTurn_6 hl (by decide) rfl (fun ls hl => ?_)
  exact qX2_bestTurn_8 C N x1 (0 : Int32) (1000000 : Int32) (0 : Int32) h H locs ls B (lv_sub hl [3, 4, 2, 1, 0] rfl)
end
theorem tX2_bestTurn {l : Launch} {D : va_G} {Es : (Nat → Nat) × (Nat → Nat)} {a b : Nat → Nat} {cI cJ cT : ClassId} {te_inputs : Nat → Int32} {te_dues : Nat → Int32} {te_count : Int32} {fw_waits : Nat → Int32} {fw_wl : Nat} {fw_wa : Nat} {fw_order : Nat → Int32} {fw_sum : Int32} {fw_set : Int32} {fw_fresh : Int32} {x1 : Int32} {z_r : Int32} (N : Nat) (h : fX2_bestTurn N te_count fw_waits fw_wl x1 = some z_r) : CtI l yX2_bestTurn wsX2_bestTurn rmX2_bestTurn D (tyl cI cJ cT) Es [.ref (a 38), .int x1] (wd_te_fw a b cI cJ cT te_inputs te_dues te_count fw_waits fw_wl fw_wa fw_order fw_sum fw_set fw_fresh) z_r (wd_te_fw a b cI cJ cT te_inputs te_dues te_count fw_waits fw_wl fw_wa fw_order fw_sum fw_set fw_fresh) :=
  CtI.of (own := RX2) (cc := cX2_bestTurn) (nL := 6) (ret := (some .int)) (by decide +kernel) rfl rfl (Nat.le_of_ble_eq_true rfl) rfl (fun p e s m below meth c A ls C B hl => qX2_bestTurn_0 C (N := N) x1 h _ _ _ B hl)

abbrev rmX2_addLaterTurns : Room := { frames := 1, cells := 0, slots := 0, locals := 25 }
theorem hdX2_addLaterTurns : yX2_addLaterTurns.cls ≠ "java/lang/invoke/MethodHandle" ∧ yX2_addLaterTurns.cls ≠ "java/lang/invoke/VarHandle" ∧ (parseMethodDescriptor yX2_addLaterTurns.desc).map (fun d => d.parameters.length) = some 1 := by decide +kernel
theorem iX2_addLaterTurns_X2 : ∀ w ∈ wsX20, w ∈ wsX2_addLaterTurns := by decide +kernel
theorem gfX2_addLaterTurns_9 {p : Program} {l : Launch} {e : Env} {R : Room} {s : State} {m : MethodId} {args : Array Value} {below : List Frame} {meth : Method} {c : Code} {H : Heap} {locs : List Loc} {cells slots : Nat} {Q : State → Prop} {D : va_G} {A : Nat → Prop} {tys : List (ClassId × FieldType)} {Es : (Nat → Nat) × (Nat → Nat)} {ws : va_W} {pc : Nat} {ls : Array Slot} {rest : List Value} {a : Nat} (C : CT p s m args meth c RX2 cX2_addLaterTurns 3 none wsX2_addLaterTurns D A tys Es) (B : DB D A ws s H locs) (q0 : Nat) {fs : List Value} {v : Value} (he : ws[q0]? = some (a, .inr (2, fs))) (hv : fs[0]? = some v) (hdg : decode cX2_addLaterTurns pc = .ok (.getfield 9, 3)) (kk : W p l e R s m args below meth c H locs cells slots Q (F0 m (pc + 3) ls (v :: rest))) : W p l e R s m args below meth c H locs cells slots Q (F0 m pc ls (.ref a :: rest)) :=
  k_get (Cn := RX2) (T := TX2) (N := 8) (index := 9) C B iX2_addLaterTurns_X2 rfl 0 (by decide) (by decide +kernel) q0 he hv hdg kk
section
variable {p : Program} {l : Launch} {e : Env} {s : State} {m : MethodId} {args : Array Value} {below : List Frame} {meth : Method} {c : Code} {D : va_G} {A : Nat → Prop} {Es : (Nat → Nat) × (Nat → Nat)} {a b : Nat → Nat} {cI cJ cT : ClassId}
set_option maxHeartbeats 4000000 in
set_option maxRecDepth 100000 in
theorem qX2_addLaterTurns_2 (C : CT p s m args meth c RX2 cX2_addLaterTurns 3 none wsX2_addLaterTurns D A (tyl cI cJ cT) Es) {N : Nat} {te_inputs : Nat → Int32} {te_dues : Nat → Int32} {te_count : Int32} {fw_wl : Nat} {fw_wa : Nat} {fw_order : Nat → Int32} {fw_sum : Int32} {fw_set : Int32} {fw_fresh : Int32} {z_fw_waits : Nat → Int32} : ∀ (n : Nat) (x1 : Int32) (x2 : Int32) (fw_waits : Nat → Int32), bX2_addLaterTurns_2 N te_count fw_wl n x1 x2 fw_waits = some z_fw_waits → ∀ (H : Heap) (locs : List Loc) (ls : Array Slot), DB D A (wd_te_fw a b cI cJ cT te_inputs te_dues te_count fw_waits fw_wl fw_wa fw_order fw_sum fw_set fw_fresh) s H locs → lv_has ls 3 [(0, .ref (a 38)), (1, .int x1), (2, .int x2)] → W p l e rmX2_addLaterTurns s m args below meth c H locs 0 0 (ZV below args s D A (tyl cI cJ cT) (wd_te_fw a b cI cJ cT te_inputs te_dues te_count z_fw_waits fw_wl fw_wa fw_order fw_sum fw_set fw_fresh) 0 0) (F0 m 2 ls []) := by
  have hx := C.1.1
  have hb := C.1.2.1
  have hown := C.1.2.2.2.1
  have hts := C.1.2.2.2.2
  intro n
  induction n with
  | zero => intro x1 x2 fw_waits h; cases h
  | succ n ih =>
    intro x1 x2 fw_waits h H locs ls B hl
    rw [bX2_addLaterTurns_2] at h
    refine lv_iload_n hx hb dX2_addLaterTurns_2 rfl (lv_at hl 2 rfl) ?_
    refine lv_iload_n hx hb dX2_addLaterTurns_3 rfl (lv_at hl 1 rfl) ?_
    refine lv_icmp_ge (tgt := 36) hx hb dX2_addLaterTurns_4 (by decide) (fun c_1 => ?_) (fun c_1 => ?_)
    · rw [if_pos c_1] at h
      cases h
      exact k_vret C B dX2_addLaterTurns_36
    · rw [if_neg c_1] at h
      refine lv_aload_n hx hb dX2_addLaterTurns_7 rfl (lv_at hl 0 rfl) ?_
      refine gfX2_addLaterTurns_9 C B 3 rfl rfl dX2_addLaterTurns_8 ?_
      refine lv_iload_n hx hb dX2_addLaterTurns_11 rfl (lv_at hl 2 rfl) ?_
      refine lv_dup2_11 hx hb dX2_addLaterTurns_12 rfl rfl ?_
      obtain ⟨b_2, h⟩ := bnd_some h
      refine k_iald C B 4 0 rfl rfl b_2 dX2_addLaterTurns_13 ?_
      refine lv_aload_n hx hb dX2_addLaterTurns_14 rfl (lv_at hl 0 rfl) ?_
      refine gfX2_addLaterTurns_9 C B 3 rfl rfl dX2_addLaterTurns_15 ?_
      refine lv_iload_n hx hb dX2_addLaterTurns_18 rfl (lv_at hl 2 rfl) ?_
      refine lv_iconst (v := 1) hx hb dX2_addLaterTurns_19 (by decide) ?_
      refine lv_aload_n hx hb dX2_addLaterTurns_20 rfl (lv_at hl 0 rfl) ?_
      refine lv_iload_n hx hb dX2_addLaterTurns_21 rfl (lv_at hl 2 rfl) ?_
      obtain ⟨r_3, g_5, h⟩ := ob_some h
      try dsimp only at h
      refine kc_VI C B (q0 := 3) (ci := 2) (As := [.int x2]) (rest := [.int (1 : Int32), .int x2, .ref fw_wa, .int (fw_waits (Int32.toNatClampNeg x2)), .int x2, .ref fw_wa]) (w2 := (wd_te_fw a b cI cJ cT te_inputs te_dues te_count fw_waits fw_wl fw_wa fw_order fw_sum fw_set fw_fresh)) (tX2_bestTurn (a := a) (b := b) N g_5) gX2_addLaterTurns_X2_bestTurn rfl ⟨rfl, rfl⟩ ⟨rfl, hdX2_bestTurn⟩ ⟨Nat.le_of_ble_eq_true rfl, Nat.le_of_ble_eq_true rfl⟩ rfl rfl [0, 1, 2, 3, 4, 5] [] [0, 1, 2, 3, 4, 5] rfl rfl rfl rfl rfl rfl rfl rfl hl.1 rfl (Nat.le_of_ble_eq_true rfl) ⟨Nat.zero_le _, Nat.zero_le _⟩ dX2_addLaterTurns_22 (fun H locs B => ?_)
      refine lv_ishl hx hb dX2_addLaterTurns_25 ?_
      refine lv_ixor hx hb dX2_addLaterTurns_26 ?_
      obtain ⟨b_4, h⟩ := bnd_some h
      refine k_iald C B 4 0 rfl rfl b_4 dX2_addLaterTurns_27 ?_
      refine lv_iadd hx hb dX2_addLaterTurns_28 ?_
      refine k_iast C B 4 0 rfl rfl b_2 dX2_addLaterTurns_29 (fun H locs B => ?_)
      have B : DB D A (wd_te_fw a b cI cJ cT te_inputs te_dues te_count (upd fw_waits (Int32.toNatClampNeg x2) ((fw_waits (Int32.toNatClampNeg x2)) + (fw_waits (Int32.toNatClampNeg (x2 ^^^ ((1 : Int32) <<< (r_3 &&& 31))))))) fw_wl fw_wa fw_order fw_sum fw_set fw_fresh) s H locs := B
      refine lv_iinc (v := (x2 + 1)) (lv' := [(2, .int (x2 + 1)), (0, .ref (a 38)), (1, .int x1)]) hx hb dX2_addLaterTurns_30 hl (k := 2) rfl rfl (by decide) rfl (fun ls hl => ?_)
      refine lv_goto (tgt := 2) hx hb dX2_addLaterTurns_33 (by decide) ?_
      exact ih x1 (x2 + 1) (upd fw_waits (Int32.toNatClampNeg x2) ((fw_waits (Int32.toNatClampNeg x2)) + (fw_waits (Int32.toNatClampNeg (x2 ^^^ ((1 : Int32) <<< (r_3 &&& 31))))))) h H locs ls B (lv_sub hl [1, 2, 0] rfl)
set_option maxHeartbeats 4000000 in
set_option maxRecDepth 100000 in
theorem qX2_addLaterTurns_0 (C : CT p s m args meth c RX2 cX2_addLaterTurns 3 none wsX2_addLaterTurns D A (tyl cI cJ cT) Es) {N : Nat} {te_inputs : Nat → Int32} {te_dues : Nat → Int32} {te_count : Int32} {fw_wl : Nat} {fw_wa : Nat} {fw_order : Nat → Int32} {fw_sum : Int32} {fw_set : Int32} {fw_fresh : Int32} {z_fw_waits : Nat → Int32} : ∀ (x1 : Int32) (fw_waits : Nat → Int32), fX2_addLaterTurns N te_count fw_wl x1 fw_waits = some z_fw_waits → ∀ (H : Heap) (locs : List Loc) (ls : Array Slot), DB D A (wd_te_fw a b cI cJ cT te_inputs te_dues te_count fw_waits fw_wl fw_wa fw_order fw_sum fw_set fw_fresh) s H locs → lv_has ls 3 [(0, .ref (a 38)), (1, .int x1)] → W p l e rmX2_addLaterTurns s m args below meth c H locs 0 0 (ZV below args s D A (tyl cI cJ cT) (wd_te_fw a b cI cJ cT te_inputs te_dues te_count z_fw_waits fw_wl fw_wa fw_order fw_sum fw_set fw_fresh) 0 0) (F0 m 0 ls []) := by
  have hx := C.1.1
  have hb := C.1.2.1
  have hown := C.1.2.2.2.1
  have hts := C.1.2.2.2.2
  intro x1 fw_waits h H locs ls B hl
  rw [fX2_addLaterTurns] at h
  refine lv_iconst (v := 1) hx hb dX2_addLaterTurns_0 (by decide) ?_
  refine lv_istore_n (lv' := [(2, .int (1 : Int32)), (0, .ref (a 38)), (1, .int x1)]) hx hb dX2_addLaterTurns_1 rfl hl (by decide) rfl (fun ls hl => ?_)
  exact qX2_addLaterTurns_2 C N x1 (1 : Int32) fw_waits h H locs ls B (lv_sub hl [1, 2, 0] rfl)
end
theorem tX2_addLaterTurns {l : Launch} {D : va_G} {Es : (Nat → Nat) × (Nat → Nat)} {a b : Nat → Nat} {cI cJ cT : ClassId} {te_inputs : Nat → Int32} {te_dues : Nat → Int32} {te_count : Int32} {fw_waits : Nat → Int32} {fw_wl : Nat} {fw_wa : Nat} {fw_order : Nat → Int32} {fw_sum : Int32} {fw_set : Int32} {fw_fresh : Int32} {x1 : Int32} {z_fw_waits : Nat → Int32} (N : Nat) (h : fX2_addLaterTurns N te_count fw_wl x1 fw_waits = some z_fw_waits) : CtV l yX2_addLaterTurns wsX2_addLaterTurns rmX2_addLaterTurns D (tyl cI cJ cT) Es [.ref (a 38), .int x1] (wd_te_fw a b cI cJ cT te_inputs te_dues te_count fw_waits fw_wl fw_wa fw_order fw_sum fw_set fw_fresh) (wd_te_fw a b cI cJ cT te_inputs te_dues te_count z_fw_waits fw_wl fw_wa fw_order fw_sum fw_set fw_fresh) :=
  CtV.of (own := RX2) (cc := cX2_addLaterTurns) (nL := 3) (ret := none) (by decide +kernel) rfl rfl (Nat.le_of_ble_eq_true rfl) rfl (fun p e s m below meth c A ls C B hl => qX2_addLaterTurns_0 C (N := N) x1 fw_waits h _ _ _ B hl)

abbrev rmX2_findSet : Room := { frames := 1, cells := 0, slots := 0, locals := 20 }
theorem hdX2_findSet : yX2_findSet.cls ≠ "java/lang/invoke/MethodHandle" ∧ yX2_findSet.cls ≠ "java/lang/invoke/VarHandle" ∧ (parseMethodDescriptor yX2_findSet.desc).map (fun d => d.parameters.length) = some 1 := by decide +kernel
theorem iX2_findSet_X2 : ∀ w ∈ wsX20, w ∈ wsX2_findSet := by decide +kernel
theorem gfX2_findSet_22 {p : Program} {l : Launch} {e : Env} {R : Room} {s : State} {m : MethodId} {args : Array Value} {below : List Frame} {meth : Method} {c : Code} {H : Heap} {locs : List Loc} {cells slots : Nat} {Q : State → Prop} {D : va_G} {A : Nat → Prop} {tys : List (ClassId × FieldType)} {Es : (Nat → Nat) × (Nat → Nat)} {ws : va_W} {pc : Nat} {ls : Array Slot} {rest : List Value} {a : Nat} (C : CT p s m args meth c RX2 cX2_findSet 5 none wsX2_findSet D A tys Es) (B : DB D A ws s H locs) (q0 : Nat) {fs : List Value} {v : Value} (he : ws[q0]? = some (a, .inr (2, fs))) (hv : fs[3]? = some v) (hdg : decode cX2_findSet pc = .ok (.getfield 22, 3)) (kk : W p l e R s m args below meth c H locs cells slots Q (F0 m (pc + 3) ls (v :: rest))) : W p l e R s m args below meth c H locs cells slots Q (F0 m pc ls (.ref a :: rest)) :=
  k_get (Cn := RX2) (T := TX2) (N := 8) (index := 22) C B iX2_findSet_X2 rfl 3 (by decide) (by decide +kernel) q0 he hv hdg kk
theorem pfX2_findSet_22 {p : Program} {l : Launch} {e : Env} {R : Room} {s : State} {m : MethodId} {args : Array Value} {below : List Frame} {meth : Method} {c : Code} {H : Heap} {locs : List Loc} {cells slots : Nat} {Q : State → Prop} {D : va_G} {A : Nat → Prop} {tys : List (ClassId × FieldType)} {Es : (Nat → Nat) × (Nat → Nat)} {ws : va_W} {pc : Nat} {ls : Array Slot} {rest : List Value} {a : Nat} (C : CT p s m args meth c RX2 cX2_findSet 5 none wsX2_findSet D A tys Es) (B : DB D A ws s H locs) (q0 : Nat) {fs : List Value} {v : Value} (hn : narrow .int v = v) (hfit : fits .int v = true) (he : ws[q0]? = some (a, .inr (2, fs))) (hl : 3 < fs.length) (hdg : decode cX2_findSet pc = .ok (.putfield 22, 3)) (kk : ∀ (H1 : Heap) (locs1 : List Loc), DB D A (ws.set q0 (a, .inr (2, fs.set 3 v))) s H1 locs1 → W p l e R s m args below meth c H1 locs1 cells slots Q (F0 m (pc + 3) ls rest)) : W p l e R s m args below meth c H locs cells slots Q (F0 m pc ls (v :: .ref a :: rest)) :=
  k_put (Cn := RX2) (T := TX2) (N := 8) (index := 22) C B iX2_findSet_X2 rfl tyX2 tyX2_ok nmX2 3 (by decide) (by decide +kernel) rfl q0 (by decide +kernel) hn hfit he hl hdg kk
theorem gfX2_findSet_9 {p : Program} {l : Launch} {e : Env} {R : Room} {s : State} {m : MethodId} {args : Array Value} {below : List Frame} {meth : Method} {c : Code} {H : Heap} {locs : List Loc} {cells slots : Nat} {Q : State → Prop} {D : va_G} {A : Nat → Prop} {tys : List (ClassId × FieldType)} {Es : (Nat → Nat) × (Nat → Nat)} {ws : va_W} {pc : Nat} {ls : Array Slot} {rest : List Value} {a : Nat} (C : CT p s m args meth c RX2 cX2_findSet 5 none wsX2_findSet D A tys Es) (B : DB D A ws s H locs) (q0 : Nat) {fs : List Value} {v : Value} (he : ws[q0]? = some (a, .inr (2, fs))) (hv : fs[0]? = some v) (hdg : decode cX2_findSet pc = .ok (.getfield 9, 3)) (kk : W p l e R s m args below meth c H locs cells slots Q (F0 m (pc + 3) ls (v :: rest))) : W p l e R s m args below meth c H locs cells slots Q (F0 m pc ls (.ref a :: rest)) :=
  k_get (Cn := RX2) (T := TX2) (N := 8) (index := 9) C B iX2_findSet_X2 rfl 0 (by decide) (by decide +kernel) q0 he hv hdg kk
section
variable {p : Program} {l : Launch} {e : Env} {s : State} {m : MethodId} {args : Array Value} {below : List Frame} {meth : Method} {c : Code} {D : va_G} {A : Nat → Prop} {Es : (Nat → Nat) × (Nat → Nat)} {a b : Nat → Nat} {cI cJ cT : ClassId}
set_option maxHeartbeats 4000000 in
set_option maxRecDepth 100000 in
theorem qX2_findSet_32 (C : CT p s m args meth c RX2 cX2_findSet 5 none wsX2_findSet D A (tyl cI cJ cT) Es) {N : Nat} {fw_waits : Nat → Int32} {fw_wl : Nat} {fw_wa : Nat} {fw_order : Nat → Int32} {fw_sum : Int32} {fw_fresh : Int32} {z_fw_set : Int32} {k11 : Int32 → Int32 → Int32 → (Int32) → Option ((Int32))} (hk11 : ∀ (x1 : Int32) (x2 : Int32) (x3 : Int32) (fw_set : Int32), k11 x1 x2 x3 fw_set = some z_fw_set → ∀ (H : Heap) (locs : List Loc) (ls : Array Slot), DB D A (wd_fw a b cI cJ cT fw_waits fw_wl fw_wa fw_order fw_sum fw_set fw_fresh) s H locs → lv_has ls 5 [(0, .ref (a 38)), (1, .int x1), (2, .int x2), (3, .int x3)] → W p l e rmX2_findSet s m args below meth c H locs 0 0 (ZV below args s D A (tyl cI cJ cT) (wd_fw a b cI cJ cT fw_waits fw_wl fw_wa fw_order fw_sum z_fw_set fw_fresh) 0 0) (F0 m 11 ls [])) : ∀ (x1 : Int32) (x2 : Int32) (x3 : Int32) (y0 : Int32) (fw_set : Int32), bX2_findSet_32 N fw_waits fw_wl k11 x1 x2 x3 y0 fw_set = some z_fw_set → ∀ (H : Heap) (locs : List Loc) (ls : Array Slot), DB D A (wd_fw a b cI cJ cT fw_waits fw_wl fw_wa fw_order fw_sum fw_set fw_fresh) s H locs → lv_has ls 5 [(0, .ref (a 38)), (1, .int x1), (2, .int x2), (3, .int x3)] → W p l e rmX2_findSet s m args below meth c H locs 0 0 (ZV below args s D A (tyl cI cJ cT) (wd_fw a b cI cJ cT fw_waits fw_wl fw_wa fw_order fw_sum z_fw_set fw_fresh) 0 0) (F0 m 32 ls [.int y0]) := by
  have hx := C.1.1
  have hb := C.1.2.1
  have hown := C.1.2.2.2.1
  have hts := C.1.2.2.2.2
  intro x1 x2 x3 y0 fw_set h H locs ls B hl
  rw [bX2_findSet_32] at h
  refine lv_istore (lv' := [(4, .int y0), (0, .ref (a 38)), (1, .int x1), (2, .int x2), (3, .int x3)]) hx hb dX2_findSet_32 hl (by decide) rfl (fun ls hl => ?_)
  refine lv_iload hx hb dX2_findSet_34 (lv_at hl 0 rfl) ?_
  refine lv_if_eq (tgt := 58) hx hb dX2_findSet_36 (by decide) (fun c_1 => ?_) (fun c_1 => ?_)
  · rw [if_pos c_1] at h
    refine lv_iinc (v := (x3 + 1)) (lv' := [(3, .int (x3 + 1)), (4, .int y0), (0, .ref (a 38)), (1, .int x1), (2, .int x2)]) hx hb dX2_findSet_58 hl (k := 4) rfl rfl (by decide) rfl (fun ls hl => ?_)
    refine lv_goto (tgt := 11) hx hb dX2_findSet_61 (by decide) ?_
    exact hk11 x1 x2 (x3 + 1) fw_set h H locs ls B (lv_sub hl [2, 3, 4, 0] rfl)
  · rw [if_neg c_1] at h
    refine lv_iload_n hx hb dX2_findSet_39 rfl (lv_at hl 4 rfl) ?_
    obtain ⟨r_2, g_6, h⟩ := ob_some h
    try dsimp only at h
    refine kc_SI C B (As := [.int x3]) (rest := []) (w2 := (wd_fw a b cI cJ cT fw_waits fw_wl fw_wa fw_order fw_sum fw_set fw_fresh)) (tJ6_bitCount_0f7a4 N g_6) gX2_findSet_J6_bitCount_0f7a4 rfl ⟨rfl, rfl⟩ hdJ6_bitCount_0f7a4 ⟨Nat.le_of_ble_eq_true rfl, Nat.le_of_ble_eq_true rfl⟩ [] [0, 1, 2] [0, 1, 2] rfl rfl rfl rfl rfl rfl rfl rfl hl.1 rfl (Nat.le_of_ble_eq_true rfl) ⟨Nat.zero_le _, Nat.zero_le _⟩ dX2_findSet_40 (fun H locs B => ?_)
    refine lv_aload_n hx hb dX2_findSet_43 rfl (lv_at hl 1 rfl) ?_
    refine gfX2_findSet_22 C B 0 rfl rfl dX2_findSet_44 ?_
    obtain ⟨r_3, g_5, h⟩ := ob_some h
    try dsimp only at h
    refine kc_SI C B (As := [.int fw_set]) (rest := [.int r_2]) (w2 := (wd_fw a b cI cJ cT fw_waits fw_wl fw_wa fw_order fw_sum fw_set fw_fresh)) (tJ6_bitCount_0f7a4 N g_5) gX2_findSet_J6_bitCount_0f7a4 rfl ⟨rfl, rfl⟩ hdJ6_bitCount_0f7a4 ⟨Nat.le_of_ble_eq_true rfl, Nat.le_of_ble_eq_true rfl⟩ [] [0, 1, 2] [0, 1, 2] rfl rfl rfl rfl rfl rfl rfl rfl hl.1 rfl (Nat.le_of_ble_eq_true rfl) ⟨Nat.zero_le _, Nat.zero_le _⟩ dX2_findSet_47 (fun H locs B => ?_)
    refine lv_icmp_ge (tgt := 58) hx hb dX2_findSet_50 (by decide) (fun c_4 => ?_) (fun c_4 => ?_)
    · rw [if_pos c_4] at h
      refine lv_iinc (v := (x3 + 1)) (lv' := [(3, .int (x3 + 1)), (4, .int y0), (0, .ref (a 38)), (1, .int x1), (2, .int x2)]) hx hb dX2_findSet_58 hl (k := 4) rfl rfl (by decide) rfl (fun ls hl => ?_)
      refine lv_goto (tgt := 11) hx hb dX2_findSet_61 (by decide) ?_
      exact hk11 x1 x2 (x3 + 1) fw_set h H locs ls B (lv_sub hl [2, 3, 4, 0] rfl)
    · rw [if_neg c_4] at h
      refine lv_aload_n hx hb dX2_findSet_53 rfl (lv_at hl 1 rfl) ?_
      refine lv_iload_n hx hb dX2_findSet_54 rfl (lv_at hl 4 rfl) ?_
      refine pfX2_findSet_22 C B 0 rfl (by rfl) rfl (Nat.le_of_ble_eq_true rfl) dX2_findSet_55 (fun H locs B => ?_)
      have B : DB D A (wd_fw a b cI cJ cT fw_waits fw_wl fw_wa fw_order fw_sum x3 fw_fresh) s H locs := B
      refine lv_iinc (v := (x3 + 1)) (lv' := [(3, .int (x3 + 1)), (4, .int y0), (0, .ref (a 38)), (1, .int x1), (2, .int x2)]) hx hb dX2_findSet_58 hl (k := 4) rfl rfl (by decide) rfl (fun ls hl => ?_)
      refine lv_goto (tgt := 11) hx hb dX2_findSet_61 (by decide) ?_
      exact hk11 x1 x2 (x3 + 1) x3 h H locs ls B (lv_sub hl [2, 3, 4, 0] rfl)
set_option maxHeartbeats 4000000 in
set_option maxRecDepth 100000 in
theorem qX2_findSet_11 (C : CT p s m args meth c RX2 cX2_findSet 5 none wsX2_findSet D A (tyl cI cJ cT) Es) {N : Nat} {fw_waits : Nat → Int32} {fw_wl : Nat} {fw_wa : Nat} {fw_order : Nat → Int32} {fw_sum : Int32} {fw_fresh : Int32} {z_fw_set : Int32} : ∀ (n : Nat) (x1 : Int32) (x2 : Int32) (x3 : Int32) (fw_set : Int32), bX2_findSet_11 N fw_waits fw_wl n x1 x2 x3 fw_set = some z_fw_set → ∀ (H : Heap) (locs : List Loc) (ls : Array Slot), DB D A (wd_fw a b cI cJ cT fw_waits fw_wl fw_wa fw_order fw_sum fw_set fw_fresh) s H locs → lv_has ls 5 [(0, .ref (a 38)), (1, .int x1), (2, .int x2), (3, .int x3)] → W p l e rmX2_findSet s m args below meth c H locs 0 0 (ZV below args s D A (tyl cI cJ cT) (wd_fw a b cI cJ cT fw_waits fw_wl fw_wa fw_order fw_sum z_fw_set fw_fresh) 0 0) (F0 m 11 ls []) := by
  have hx := C.1.1
  have hb := C.1.2.1
  have hown := C.1.2.2.2.1
  have hts := C.1.2.2.2.2
  intro n
  induction n with
  | zero => intro x1 x2 x3 fw_set h; cases h
  | succ n ih =>
    intro x1 x2 x3 fw_set h H locs ls B hl
    rw [bX2_findSet_11] at h
    refine lv_iload_n hx hb dX2_findSet_11 rfl (lv_at hl 3 rfl) ?_
    refine lv_iload_n hx hb dX2_findSet_12 rfl (lv_at hl 1 rfl) ?_
    refine lv_icmp_ge (tgt := 64) hx hb dX2_findSet_13 (by decide) (fun c_1 => ?_) (fun c_1 => ?_)
    · rw [if_pos c_1] at h
      cases h
      exact k_vret C B dX2_findSet_64
    · rw [if_neg c_1] at h
      refine lv_aload_n hx hb dX2_findSet_16 rfl (lv_at hl 0 rfl) ?_
      refine gfX2_findSet_9 C B 0 rfl rfl dX2_findSet_17 ?_
      refine lv_iload_n hx hb dX2_findSet_20 rfl (lv_at hl 2 rfl) ?_
      refine lv_iload_n hx hb dX2_findSet_21 rfl (lv_at hl 3 rfl) ?_
      refine lv_ixor hx hb dX2_findSet_22 ?_
      obtain ⟨b_2, h⟩ := bnd_some h
      refine k_iald C B 1 0 rfl rfl b_2 dX2_findSet_23 ?_
      refine lv_if_ne (tgt := 31) hx hb dX2_findSet_24 (by decide) (fun c_3 => ?_) (fun c_3 => ?_)
      · rw [if_neg c_3] at h
        refine lv_iconst (v := 0) hx hb dX2_findSet_31 (by decide) ?_
        exact qX2_findSet_32 C ih x1 x2 x3 (0 : Int32) fw_set h H locs ls B (lv_sub hl [0, 1, 2, 3] rfl)
      · rw [if_pos c_3] at h
        refine lv_iconst (v := 1) hx hb dX2_findSet_27 (by decide) ?_
        refine lv_goto (tgt := 32) hx hb dX2_findSet_28 (by decide) ?_
        exact qX2_findSet_32 C ih x1 x2 x3 (1 : Int32) fw_set h H locs ls B (lv_sub hl [0, 1, 2, 3] rfl)
set_option maxHeartbeats 4000000 in
set_option maxRecDepth 100000 in
theorem qX2_findSet_0 (C : CT p s m args meth c RX2 cX2_findSet 5 none wsX2_findSet D A (tyl cI cJ cT) Es) {N : Nat} {fw_waits : Nat → Int32} {fw_wl : Nat} {fw_wa : Nat} {fw_order : Nat → Int32} {fw_sum : Int32} {fw_fresh : Int32} {z_fw_set : Int32} : ∀ (x1 : Int32) (fw_set : Int32), fX2_findSet N fw_waits fw_wl x1 fw_set = some z_fw_set → ∀ (H : Heap) (locs : List Loc) (ls : Array Slot), DB D A (wd_fw a b cI cJ cT fw_waits fw_wl fw_wa fw_order fw_sum fw_set fw_fresh) s H locs → lv_has ls 5 [(0, .ref (a 38)), (1, .int x1)] → W p l e rmX2_findSet s m args below meth c H locs 0 0 (ZV below args s D A (tyl cI cJ cT) (wd_fw a b cI cJ cT fw_waits fw_wl fw_wa fw_order fw_sum z_fw_set fw_fresh) 0 0) (F0 m 0 ls []) := by
  have hx := C.1.1
  have hb := C.1.2.1
  have hown := C.1.2.2.2.1
  have hts := C.1.2.2.2.2
  intro x1 fw_set h H locs ls B hl
  rw [fX2_findSet] at h
  refine lv_iload_n hx hb dX2_findSet_0 rfl (lv_at hl 1 rfl) ?_
  refine lv_iconst (v := 1) hx hb dX2_findSet_1 (by decide) ?_
  refine lv_isub hx hb dX2_findSet_2 ?_
  refine lv_istore_n (lv' := [(2, .int (x1 - (1 : Int32))), (0, .ref (a 38)), (1, .int x1)]) hx hb dX2_findSet_3 rfl hl (by decide) rfl (fun ls hl => ?_)
  refine lv_aload_n hx hb dX2_findSet_4 rfl (lv_at hl 1 rfl) ?_
  refine lv_iload_n hx hb dX2_findSet_5 rfl (lv_at hl 0 rfl) ?_
  refine pfX2_findSet_22 C B 0 rfl (by rfl) rfl (Nat.le_of_ble_eq_true rfl) dX2_findSet_6 (fun H locs B => ?_)
  have B : DB D A (wd_fw a b cI cJ cT fw_waits fw_wl fw_wa fw_order fw_sum (x1 - (1 : Int32)) fw_fresh) s H locs := B
  refine lv_iconst (v := 0) hx hb dX2_findSet_9 (by decide) ?_
  refine lv_istore_n (lv' := [(3, .int (0 : Int32)), (2, .int (x1 - (1 : Int32))), (0, .ref (a 38)), (1, .int x1)]) hx hb dX2_findSet_10 rfl hl (by decide) rfl (fun ls hl => ?_)
  exact qX2_findSet_11 C N x1 (x1 - (1 : Int32)) (0 : Int32) (x1 - (1 : Int32)) h H locs ls B (lv_sub hl [2, 3, 1, 0] rfl)
end
theorem tX2_findSet {l : Launch} {D : va_G} {Es : (Nat → Nat) × (Nat → Nat)} {a b : Nat → Nat} {cI cJ cT : ClassId} {fw_waits : Nat → Int32} {fw_wl : Nat} {fw_wa : Nat} {fw_order : Nat → Int32} {fw_sum : Int32} {fw_set : Int32} {fw_fresh : Int32} {x1 : Int32} {z_fw_set : Int32} (N : Nat) (h : fX2_findSet N fw_waits fw_wl x1 fw_set = some z_fw_set) : CtV l yX2_findSet wsX2_findSet rmX2_findSet D (tyl cI cJ cT) Es [.ref (a 38), .int x1] (wd_fw a b cI cJ cT fw_waits fw_wl fw_wa fw_order fw_sum fw_set fw_fresh) (wd_fw a b cI cJ cT fw_waits fw_wl fw_wa fw_order fw_sum z_fw_set fw_fresh) :=
  CtV.of (own := RX2) (cc := cX2_findSet) (nL := 5) (ret := none) (by decide +kernel) rfl rfl (Nat.le_of_ble_eq_true rfl) rfl (fun p e s m below meth c A ls C B hl => qX2_findSet_0 C (N := N) x1 fw_set h _ _ _ B hl)

abbrev rmX2_findOrder : Room := { frames := 1, cells := 0, slots := 0, locals := 25 }
theorem hdX2_findOrder : yX2_findOrder.cls ≠ "java/lang/invoke/MethodHandle" ∧ yX2_findOrder.cls ≠ "java/lang/invoke/VarHandle" ∧ (parseMethodDescriptor yX2_findOrder.desc).map (fun d => d.parameters.length) = some 1 := by decide +kernel
theorem iX2_findOrder_X2 : ∀ w ∈ wsX20, w ∈ wsX2_findOrder := by decide +kernel
theorem gfX2_findOrder_9 {p : Program} {l : Launch} {e : Env} {R : Room} {s : State} {m : MethodId} {args : Array Value} {below : List Frame} {meth : Method} {c : Code} {H : Heap} {locs : List Loc} {cells slots : Nat} {Q : State → Prop} {D : va_G} {A : Nat → Prop} {tys : List (ClassId × FieldType)} {Es : (Nat → Nat) × (Nat → Nat)} {ws : va_W} {pc : Nat} {ls : Array Slot} {rest : List Value} {a : Nat} (C : CT p s m args meth c RX2 cX2_findOrder 4 none wsX2_findOrder D A tys Es) (B : DB D A ws s H locs) (q0 : Nat) {fs : List Value} {v : Value} (he : ws[q0]? = some (a, .inr (2, fs))) (hv : fs[0]? = some v) (hdg : decode cX2_findOrder pc = .ok (.getfield 9, 3)) (kk : W p l e R s m args below meth c H locs cells slots Q (F0 m (pc + 3) ls (v :: rest))) : W p l e R s m args below meth c H locs cells slots Q (F0 m pc ls (.ref a :: rest)) :=
  k_get (Cn := RX2) (T := TX2) (N := 8) (index := 9) C B iX2_findOrder_X2 rfl 0 (by decide) (by decide +kernel) q0 he hv hdg kk
theorem pfX2_findOrder_18 {p : Program} {l : Launch} {e : Env} {R : Room} {s : State} {m : MethodId} {args : Array Value} {below : List Frame} {meth : Method} {c : Code} {H : Heap} {locs : List Loc} {cells slots : Nat} {Q : State → Prop} {D : va_G} {A : Nat → Prop} {tys : List (ClassId × FieldType)} {Es : (Nat → Nat) × (Nat → Nat)} {ws : va_W} {pc : Nat} {ls : Array Slot} {rest : List Value} {a : Nat} (C : CT p s m args meth c RX2 cX2_findOrder 4 none wsX2_findOrder D A tys Es) (B : DB D A ws s H locs) (q0 : Nat) {fs : List Value} {v : Value} (hn : narrow .int v = v) (hfit : fits .int v = true) (he : ws[q0]? = some (a, .inr (2, fs))) (hl : 2 < fs.length) (hdg : decode cX2_findOrder pc = .ok (.putfield 18, 3)) (kk : ∀ (H1 : Heap) (locs1 : List Loc), DB D A (ws.set q0 (a, .inr (2, fs.set 2 v))) s H1 locs1 → W p l e R s m args below meth c H1 locs1 cells slots Q (F0 m (pc + 3) ls rest)) : W p l e R s m args below meth c H locs cells slots Q (F0 m pc ls (v :: .ref a :: rest)) :=
  k_put (Cn := RX2) (T := TX2) (N := 8) (index := 18) C B iX2_findOrder_X2 rfl tyX2 tyX2_ok nmX2 2 (by decide) (by decide +kernel) rfl q0 (by decide +kernel) hn hfit he hl hdg kk
theorem gfX2_findOrder_33 {p : Program} {l : Launch} {e : Env} {R : Room} {s : State} {m : MethodId} {args : Array Value} {below : List Frame} {meth : Method} {c : Code} {H : Heap} {locs : List Loc} {cells slots : Nat} {Q : State → Prop} {D : va_G} {A : Nat → Prop} {tys : List (ClassId × FieldType)} {Es : (Nat → Nat) × (Nat → Nat)} {ws : va_W} {pc : Nat} {ls : Array Slot} {rest : List Value} {a : Nat} (C : CT p s m args meth c RX2 cX2_findOrder 4 none wsX2_findOrder D A tys Es) (B : DB D A ws s H locs) (q0 : Nat) {fs : List Value} {v : Value} (he : ws[q0]? = some (a, .inr (2, fs))) (hv : fs[6]? = some v) (hdg : decode cX2_findOrder pc = .ok (.getfield 33, 3)) (kk : W p l e R s m args below meth c H locs cells slots Q (F0 m (pc + 3) ls (v :: rest))) : W p l e R s m args below meth c H locs cells slots Q (F0 m pc ls (.ref a :: rest)) :=
  k_get (Cn := RX2) (T := TX2) (N := 8) (index := 33) C B iX2_findOrder_X2 rfl 6 (by decide) (by decide +kernel) q0 he hv hdg kk
theorem iX2_findOrder_X8 : ∀ w ∈ wsX80, w ∈ wsX2_findOrder := by decide +kernel
theorem gfX2_findOrder_44 {p : Program} {l : Launch} {e : Env} {R : Room} {s : State} {m : MethodId} {args : Array Value} {below : List Frame} {meth : Method} {c : Code} {H : Heap} {locs : List Loc} {cells slots : Nat} {Q : State → Prop} {D : va_G} {A : Nat → Prop} {tys : List (ClassId × FieldType)} {Es : (Nat → Nat) × (Nat → Nat)} {ws : va_W} {pc : Nat} {ls : Array Slot} {rest : List Value} {a : Nat} (C : CT p s m args meth c RX2 cX2_findOrder 4 none wsX2_findOrder D A tys Es) (B : DB D A ws s H locs) (q0 : Nat) {fs : List Value} {v : Value} (he : ws[q0]? = some (a, .inr (8, fs))) (hv : fs[2]? = some v) (hdg : decode cX2_findOrder pc = .ok (.getfield 44, 3)) (kk : W p l e R s m args below meth c H locs cells slots Q (F0 m (pc + 3) ls (v :: rest))) : W p l e R s m args below meth c H locs cells slots Q (F0 m pc ls (.ref a :: rest)) :=
  k_get (Cn := RX8) (T := TX8) (N := 4) (index := 44) C B iX2_findOrder_X8 rfl 2 (by decide) (by decide +kernel) q0 he hv hdg kk
theorem gfX2_findOrder_15 {p : Program} {l : Launch} {e : Env} {R : Room} {s : State} {m : MethodId} {args : Array Value} {below : List Frame} {meth : Method} {c : Code} {H : Heap} {locs : List Loc} {cells slots : Nat} {Q : State → Prop} {D : va_G} {A : Nat → Prop} {tys : List (ClassId × FieldType)} {Es : (Nat → Nat) × (Nat → Nat)} {ws : va_W} {pc : Nat} {ls : Array Slot} {rest : List Value} {a : Nat} (C : CT p s m args meth c RX2 cX2_findOrder 4 none wsX2_findOrder D A tys Es) (B : DB D A ws s H locs) (q0 : Nat) {fs : List Value} {v : Value} (he : ws[q0]? = some (a, .inr (2, fs))) (hv : fs[1]? = some v) (hdg : decode cX2_findOrder pc = .ok (.getfield 15, 3)) (kk : W p l e R s m args below meth c H locs cells slots Q (F0 m (pc + 3) ls (v :: rest))) : W p l e R s m args below meth c H locs cells slots Q (F0 m pc ls (.ref a :: rest)) :=
  k_get (Cn := RX2) (T := TX2) (N := 8) (index := 15) C B iX2_findOrder_X2 rfl 1 (by decide) (by decide +kernel) q0 he hv hdg kk
section
variable {p : Program} {l : Launch} {e : Env} {s : State} {m : MethodId} {args : Array Value} {below : List Frame} {meth : Method} {c : Code} {D : va_G} {A : Nat → Prop} {Es : (Nat → Nat) × (Nat → Nat)} {a b : Nat → Nat} {cI cJ cT : ClassId}
set_option maxHeartbeats 4000000 in
set_option maxRecDepth 100000 in
theorem qX2_findOrder_44 (C : CT p s m args meth c RX2 cX2_findOrder 4 none wsX2_findOrder D A (tyl cI cJ cT) Es) {N : Nat} {te_inputs : Nat → Int32} {te_dues : Nat → Int32} {te_count : Int32} {fw_waits : Nat → Int32} {fw_wl : Nat} {fw_wa : Nat} {fw_set : Int32} {fw_fresh : Int32} {z_fw_order : Nat → Int32} {z_fw_sum : Int32} {k11 : Int32 → Int32 → (Nat → Int32) → (Int32) → Option ((Nat → Int32) × (Int32))} (hk11 : ∀ (x2 : Int32) (x3 : Int32) (fw_order : Nat → Int32) (fw_sum : Int32), k11 x2 x3 fw_order fw_sum = some (z_fw_order, z_fw_sum) → ∀ (H : Heap) (locs : List Loc) (ls : Array Slot), DB D A (wd_te_fw a b cI cJ cT te_inputs te_dues te_count fw_waits fw_wl fw_wa fw_order fw_sum fw_set fw_fresh) s H locs → lv_has ls 4 [(0, .ref (a 38)), (2, .int x2), (3, .int x3)] → W p l e rmX2_findOrder s m args below meth c H locs 0 0 (ZV below args s D A (tyl cI cJ cT) (wd_te_fw a b cI cJ cT te_inputs te_dues te_count fw_waits fw_wl fw_wa z_fw_order z_fw_sum fw_set fw_fresh) 0 0) (F0 m 11 ls [])) : ∀ (x2 : Int32) (x3 : Int32) (fw_order : Nat → Int32) (fw_sum : Int32), bX2_findOrder_44 N te_count fw_waits fw_wl k11 x2 x3 fw_order fw_sum = some (z_fw_order, z_fw_sum) → ∀ (H : Heap) (locs : List Loc) (ls : Array Slot), DB D A (wd_te_fw a b cI cJ cT te_inputs te_dues te_count fw_waits fw_wl fw_wa fw_order fw_sum fw_set fw_fresh) s H locs → lv_has ls 4 [(0, .ref (a 38)), (2, .int x2), (3, .int x3)] → W p l e rmX2_findOrder s m args below meth c H locs 0 0 (ZV below args s D A (tyl cI cJ cT) (wd_te_fw a b cI cJ cT te_inputs te_dues te_count fw_waits fw_wl fw_wa z_fw_order z_fw_sum fw_set fw_fresh) 0 0) (F0 m 44 ls []) := by
  have hx := C.1.1
  have hb := C.1.2.1
  have hown := C.1.2.2.2.1
  have hts := C.1.2.2.2.2
  intro x2 x3 fw_order fw_sum h H locs ls B hl
  rw [bX2_findOrder_44] at h
  refine lv_iload_n hx hb dX2_findOrder_44 rfl (lv_at hl 2 rfl) ?_
  refine lv_if_ne (tgt := 58) hx hb dX2_findOrder_45 (by decide) (fun c_1 => ?_) (fun c_1 => ?_)
  · rw [if_neg c_1] at h
    refine lv_iinc (v := (x3 + 1)) (lv' := [(3, .int (x3 + 1)), (0, .ref (a 38)), (2, .int x2)]) hx hb dX2_findOrder_58 hl (k := 2) rfl rfl (by decide) rfl (fun ls hl => ?_)
    refine lv_goto (tgt := 11) hx hb dX2_findOrder_61 (by decide) ?_
    exact hk11 x2 (x3 + 1) fw_order fw_sum h H locs ls B (lv_sub hl [1, 2, 0] rfl)
  · rw [if_pos c_1] at h
    refine lv_aload_n hx hb dX2_findOrder_48 rfl (lv_at hl 0 rfl) ?_
    refine lv_aload_n hx hb dX2_findOrder_49 rfl (lv_at hl 0 rfl) ?_
    refine gfX2_findOrder_9 C B 3 rfl rfl dX2_findOrder_50 ?_
    refine lv_iload_n hx hb dX2_findOrder_53 rfl (lv_at hl 1 rfl) ?_
    obtain ⟨b_2, h⟩ := bnd_some h
    refine k_iald C B 4 0 rfl rfl b_2 dX2_findOrder_54 ?_
    refine pfX2_findOrder_18 C B 3 rfl (by rfl) rfl (Nat.le_of_ble_eq_true rfl) dX2_findOrder_55 (fun H locs B => ?_)
    have B : DB D A (wd_te_fw a b cI cJ cT te_inputs te_dues te_count fw_waits fw_wl fw_wa fw_order (fw_waits (Int32.toNatClampNeg x2)) fw_set fw_fresh) s H locs := B
    refine lv_iinc (v := (x3 + 1)) (lv' := [(3, .int (x3 + 1)), (0, .ref (a 38)), (2, .int x2)]) hx hb dX2_findOrder_58 hl (k := 2) rfl rfl (by decide) rfl (fun ls hl => ?_)
    refine lv_goto (tgt := 11) hx hb dX2_findOrder_61 (by decide) ?_
    exact hk11 x2 (x3 + 1) fw_order (fw_waits (Int32.toNatClampNeg x2)) h H locs ls B (lv_sub hl [1, 2, 0] rfl)
set_option maxHeartbeats 4000000 in
set_option maxRecDepth 100000 in
theorem qX2_findOrder_11 (C : CT p s m args meth c RX2 cX2_findOrder 4 none wsX2_findOrder D A (tyl cI cJ cT) Es) {N : Nat} {te_inputs : Nat → Int32} {te_dues : Nat → Int32} {te_count : Int32} {fw_waits : Nat → Int32} {fw_wl : Nat} {fw_wa : Nat} {fw_set : Int32} {fw_fresh : Int32} {z_fw_order : Nat → Int32} {z_fw_sum : Int32} : ∀ (n : Nat) (x2 : Int32) (x3 : Int32) (fw_order : Nat → Int32) (fw_sum : Int32), bX2_findOrder_11 N te_count fw_waits fw_wl n x2 x3 fw_order fw_sum = some (z_fw_order, z_fw_sum) → ∀ (H : Heap) (locs : List Loc) (ls : Array Slot), DB D A (wd_te_fw a b cI cJ cT te_inputs te_dues te_count fw_waits fw_wl fw_wa fw_order fw_sum fw_set fw_fresh) s H locs → lv_has ls 4 [(0, .ref (a 38)), (2, .int x2), (3, .int x3)] → W p l e rmX2_findOrder s m args below meth c H locs 0 0 (ZV below args s D A (tyl cI cJ cT) (wd_te_fw a b cI cJ cT te_inputs te_dues te_count fw_waits fw_wl fw_wa z_fw_order z_fw_sum fw_set fw_fresh) 0 0) (F0 m 11 ls []) := by
  have hx := C.1.1
  have hb := C.1.2.1
  have hown := C.1.2.2.2.1
  have hts := C.1.2.2.2.2
  intro n
  induction n with
  | zero => intro x2 x3 fw_order fw_sum h; cases h
  | succ n ih =>
    intro x2 x3 fw_order fw_sum h H locs ls B hl
    rw [bX2_findOrder_11] at h
    refine lv_iload_n hx hb dX2_findOrder_11 rfl (lv_at hl 2 rfl) ?_
    refine lv_aload_n hx hb dX2_findOrder_12 rfl (lv_at hl 0 rfl) ?_
    refine gfX2_findOrder_33 C B 3 rfl rfl dX2_findOrder_13 ?_
    refine gfX2_findOrder_44 C B 0 rfl rfl dX2_findOrder_16 ?_
    refine lv_icmp_ge (tgt := 64) hx hb dX2_findOrder_19 (by decide) (fun c_1 => ?_) (fun c_1 => ?_)
    · rw [if_pos c_1] at h
      cases h
      exact k_vret C B dX2_findOrder_64
    · rw [if_neg c_1] at h
      refine lv_aload_n hx hb dX2_findOrder_22 rfl (lv_at hl 0 rfl) ?_
      refine gfX2_findOrder_15 C B 3 rfl rfl dX2_findOrder_23 ?_
      refine lv_iload_n hx hb dX2_findOrder_26 rfl (lv_at hl 2 rfl) ?_
      refine lv_aload_n hx hb dX2_findOrder_27 rfl (lv_at hl 0 rfl) ?_
      refine lv_iload_n hx hb dX2_findOrder_28 rfl (lv_at hl 1 rfl) ?_
      obtain ⟨r_2, g_4, h⟩ := ob_some h
      try dsimp only at h
      refine kc_VI C B (q0 := 3) (ci := 2) (As := [.int x2]) (rest := [.int x3, .ref (a 40)]) (w2 := (wd_te_fw a b cI cJ cT te_inputs te_dues te_count fw_waits fw_wl fw_wa fw_order fw_sum fw_set fw_fresh)) (tX2_bestTurn (a := a) (b := b) N g_4) gX2_findOrder_X2_bestTurn rfl ⟨rfl, rfl⟩ ⟨rfl, hdX2_bestTurn⟩ ⟨Nat.le_of_ble_eq_true rfl, Nat.le_of_ble_eq_true rfl⟩ rfl rfl [0, 1, 2, 3, 4, 5] [] [0, 1, 2, 3, 4, 5] rfl rfl rfl rfl rfl rfl rfl rfl hl.1 rfl (Nat.le_of_ble_eq_true rfl) ⟨Nat.zero_le _, Nat.zero_le _⟩ dX2_findOrder_29 (fun H locs B => ?_)
      obtain ⟨b_3, h⟩ := bnd_some h
      refine k_iast C B 5 0 rfl rfl b_3 dX2_findOrder_32 (fun H locs B => ?_)
      have B : DB D A (wd_te_fw a b cI cJ cT te_inputs te_dues te_count fw_waits fw_wl fw_wa (upd fw_order (Int32.toNatClampNeg x3) r_2) fw_sum fw_set fw_fresh) s H locs := B
      refine lv_iload_n hx hb dX2_findOrder_33 rfl (lv_at hl 1 rfl) ?_
      refine lv_iconst (v := 1) hx hb dX2_findOrder_34 (by decide) ?_
      refine lv_aload_n hx hb dX2_findOrder_35 rfl (lv_at hl 0 rfl) ?_
      refine gfX2_findOrder_15 C B 3 rfl rfl dX2_findOrder_36 ?_
      refine lv_iload_n hx hb dX2_findOrder_39 rfl (lv_at hl 2 rfl) ?_
      refine k_iald C B 5 0 rfl rfl b_3 dX2_findOrder_40 ?_
      refine lv_ishl hx hb dX2_findOrder_41 ?_
      refine lv_ixor hx hb dX2_findOrder_42 ?_
      refine lv_istore_n (lv' := [(2, .int (x2 ^^^ ((1 : Int32) <<< (((upd fw_order (Int32.toNatClampNeg x3) r_2) (Int32.toNatClampNeg x3)) &&& 31)))), (0, .ref (a 38)), (3, .int x3)]) hx hb dX2_findOrder_43 rfl hl (by decide) rfl (fun ls hl => ?_)
      exact qX2_findOrder_44 C ih (x2 ^^^ ((1 : Int32) <<< (((upd fw_order (Int32.toNatClampNeg x3) r_2) (Int32.toNatClampNeg x3)) &&& 31))) x3 (upd fw_order (Int32.toNatClampNeg x3) r_2) fw_sum h H locs ls B (lv_sub hl [1, 0, 2] rfl)
set_option maxHeartbeats 4000000 in
set_option maxRecDepth 100000 in
theorem qX2_findOrder_0 (C : CT p s m args meth c RX2 cX2_findOrder 4 none wsX2_findOrder D A (tyl cI cJ cT) Es) {N : Nat} {te_inputs : Nat → Int32} {te_dues : Nat → Int32} {te_count : Int32} {fw_waits : Nat → Int32} {fw_wl : Nat} {fw_wa : Nat} {fw_set : Int32} {fw_fresh : Int32} {z_fw_order : Nat → Int32} {z_fw_sum : Int32} : ∀ (x1 : Int32) (fw_order : Nat → Int32) (fw_sum : Int32), fX2_findOrder N te_count fw_waits fw_wl x1 fw_order fw_sum = some (z_fw_order, z_fw_sum) → ∀ (H : Heap) (locs : List Loc) (ls : Array Slot), DB D A (wd_te_fw a b cI cJ cT te_inputs te_dues te_count fw_waits fw_wl fw_wa fw_order fw_sum fw_set fw_fresh) s H locs → lv_has ls 4 [(0, .ref (a 38)), (1, .int x1)] → W p l e rmX2_findOrder s m args below meth c H locs 0 0 (ZV below args s D A (tyl cI cJ cT) (wd_te_fw a b cI cJ cT te_inputs te_dues te_count fw_waits fw_wl fw_wa z_fw_order z_fw_sum fw_set fw_fresh) 0 0) (F0 m 0 ls []) := by
  have hx := C.1.1
  have hb := C.1.2.1
  have hown := C.1.2.2.2.1
  have hts := C.1.2.2.2.2
  intro x1 fw_order fw_sum h H locs ls B hl
  rw [fX2_findOrder] at h
  refine lv_iload_n hx hb dX2_findOrder_0 rfl (lv_at hl 1 rfl) ?_
  refine lv_iconst (v := 1) hx hb dX2_findOrder_1 (by decide) ?_
  refine lv_isub hx hb dX2_findOrder_2 ?_
  refine lv_istore_n (lv' := [(2, .int (x1 - (1 : Int32))), (0, .ref (a 38)), (1, .int x1)]) hx hb dX2_findOrder_3 rfl hl (by decide) rfl (fun ls hl => ?_)
  refine lv_aload_n hx hb dX2_findOrder_4 rfl (lv_at hl 1 rfl) ?_
  refine lv_iconst (v := 0) hx hb dX2_findOrder_5 (by decide) ?_
  refine pfX2_findOrder_18 C B 3 rfl (by rfl) rfl (Nat.le_of_ble_eq_true rfl) dX2_findOrder_6 (fun H locs B => ?_)
  have B : DB D A (wd_te_fw a b cI cJ cT te_inputs te_dues te_count fw_waits fw_wl fw_wa fw_order (0 : Int32) fw_set fw_fresh) s H locs := B
  refine lv_iconst (v := 0) hx hb dX2_findOrder_9 (by decide) ?_
  refine lv_istore_n (lv' := [(3, .int (0 : Int32)), (2, .int (x1 - (1 : Int32))), (0, .ref (a 38)), (1, .int x1)]) hx hb dX2_findOrder_10 rfl hl (by decide) rfl (fun ls hl => ?_)
  exact qX2_findOrder_11 C N (x1 - (1 : Int32)) (0 : Int32) fw_order (0 : Int32) h H locs ls B (lv_sub hl [2, 1, 0] rfl)
end
theorem tX2_findOrder {l : Launch} {D : va_G} {Es : (Nat → Nat) × (Nat → Nat)} {a b : Nat → Nat} {cI cJ cT : ClassId} {te_inputs : Nat → Int32} {te_dues : Nat → Int32} {te_count : Int32} {fw_waits : Nat → Int32} {fw_wl : Nat} {fw_wa : Nat} {fw_order : Nat → Int32} {fw_sum : Int32} {fw_set : Int32} {fw_fresh : Int32} {x1 : Int32} {z_fw_order : Nat → Int32} {z_fw_sum : Int32} (N : Nat) (h : fX2_findOrder N te_count fw_waits fw_wl x1 fw_order fw_sum = some (z_fw_order, z_fw_sum)) : CtV l yX2_findOrder wsX2_findOrder rmX2_findOrder D (tyl cI cJ cT) Es [.ref (a 38), .int x1] (wd_te_fw a b cI cJ cT te_inputs te_dues te_count fw_waits fw_wl fw_wa fw_order fw_sum fw_set fw_fresh) (wd_te_fw a b cI cJ cT te_inputs te_dues te_count fw_waits fw_wl fw_wa z_fw_order z_fw_sum fw_set fw_fresh) :=
  CtV.of (own := RX2) (cc := cX2_findOrder) (nL := 4) (ret := none) (by decide +kernel) rfl rfl (Nat.le_of_ble_eq_true rfl) rfl (fun p e s m below meth c A ls C B hl => qX2_findOrder_0 C (N := N) x1 fw_order fw_sum h _ _ _ B hl)

abbrev rmX3_find : Room := { frames := 4, cells := 0, slots := 0, locals := 90 }
theorem hdX3_find : yX3_find.cls ≠ "java/lang/invoke/MethodHandle" ∧ yX3_find.cls ≠ "java/lang/invoke/VarHandle" ∧ (parseMethodDescriptor yX3_find.desc).map (fun d => d.parameters.length) = some 0 := by decide +kernel
theorem iX3_find_X3 : ∀ w ∈ wsX30, w ∈ wsX3_find := by decide +kernel
theorem gfX3_find_19 {p : Program} {l : Launch} {e : Env} {R : Room} {s : State} {m : MethodId} {args : Array Value} {below : List Frame} {meth : Method} {c : Code} {H : Heap} {locs : List Loc} {cells slots : Nat} {Q : State → Prop} {D : va_G} {A : Nat → Prop} {tys : List (ClassId × FieldType)} {Es : (Nat → Nat) × (Nat → Nat)} {ws : va_W} {pc : Nat} {ls : Array Slot} {rest : List Value} {a : Nat} (C : CT p s m args meth c RX3 cX3_find 2 none wsX3_find D A tys Es) (B : DB D A ws s H locs) (q0 : Nat) {fs : List Value} {v : Value} (he : ws[q0]? = some (a, .inr (3, fs))) (hv : fs[2]? = some v) (hdg : decode cX3_find pc = .ok (.getfield 19, 3)) (kk : W p l e R s m args below meth c H locs cells slots Q (F0 m (pc + 3) ls (v :: rest))) : W p l e R s m args below meth c H locs cells slots Q (F0 m pc ls (.ref a :: rest)) :=
  k_get (Cn := RX3) (T := TX3) (N := 5) (index := 19) C B iX3_find_X3 rfl 2 (by decide) (by decide +kernel) q0 he hv hdg kk
theorem iX3_find_X1 : ∀ w ∈ wsX10, w ∈ wsX3_find := by decide +kernel
theorem gfX3_find_31 {p : Program} {l : Launch} {e : Env} {R : Room} {s : State} {m : MethodId} {args : Array Value} {below : List Frame} {meth : Method} {c : Code} {H : Heap} {locs : List Loc} {cells slots : Nat} {Q : State → Prop} {D : va_G} {A : Nat → Prop} {tys : List (ClassId × FieldType)} {Es : (Nat → Nat) × (Nat → Nat)} {ws : va_W} {pc : Nat} {ls : Array Slot} {rest : List Value} {a : Nat} (C : CT p s m args meth c RX3 cX3_find 2 none wsX3_find D A tys Es) (B : DB D A ws s H locs) (q0 : Nat) {fs : List Value} {v : Value} (he : ws[q0]? = some (a, .inr (1, fs))) (hv : fs[3]? = some v) (hdg : decode cX3_find pc = .ok (.getfield 31, 3)) (kk : W p l e R s m args below meth c H locs cells slots Q (F0 m (pc + 3) ls (v :: rest))) : W p l e R s m args below meth c H locs cells slots Q (F0 m pc ls (.ref a :: rest)) :=
  k_get (Cn := RX1) (T := TX1) (N := 5) (index := 31) C B iX3_find_X1 rfl 3 (by decide) (by decide +kernel) q0 he hv hdg kk
theorem gfX3_find_23 {p : Program} {l : Launch} {e : Env} {R : Room} {s : State} {m : MethodId} {args : Array Value} {below : List Frame} {meth : Method} {c : Code} {H : Heap} {locs : List Loc} {cells slots : Nat} {Q : State → Prop} {D : va_G} {A : Nat → Prop} {tys : List (ClassId × FieldType)} {Es : (Nat → Nat) × (Nat → Nat)} {ws : va_W} {pc : Nat} {ls : Array Slot} {rest : List Value} {a : Nat} (C : CT p s m args meth c RX3 cX3_find 2 none wsX3_find D A tys Es) (B : DB D A ws s H locs) (q0 : Nat) {fs : List Value} {v : Value} (he : ws[q0]? = some (a, .inr (3, fs))) (hv : fs[3]? = some v) (hdg : decode cX3_find pc = .ok (.getfield 23, 3)) (kk : W p l e R s m args below meth c H locs cells slots Q (F0 m (pc + 3) ls (v :: rest))) : W p l e R s m args below meth c H locs cells slots Q (F0 m pc ls (.ref a :: rest)) :=
  k_get (Cn := RX3) (T := TX3) (N := 5) (index := 23) C B iX3_find_X3 rfl 3 (by decide) (by decide +kernel) q0 he hv hdg kk
theorem gfX3_find_9 {p : Program} {l : Launch} {e : Env} {R : Room} {s : State} {m : MethodId} {args : Array Value} {below : List Frame} {meth : Method} {c : Code} {H : Heap} {locs : List Loc} {cells slots : Nat} {Q : State → Prop} {D : va_G} {A : Nat → Prop} {tys : List (ClassId × FieldType)} {Es : (Nat → Nat) × (Nat → Nat)} {ws : va_W} {pc : Nat} {ls : Array Slot} {rest : List Value} {a : Nat} (C : CT p s m args meth c RX3 cX3_find 2 none wsX3_find D A tys Es) (B : DB D A ws s H locs) (q0 : Nat) {fs : List Value} {v : Value} (he : ws[q0]? = some (a, .inr (3, fs))) (hv : fs[0]? = some v) (hdg : decode cX3_find pc = .ok (.getfield 9, 3)) (kk : W p l e R s m args below meth c H locs cells slots Q (F0 m (pc + 3) ls (v :: rest))) : W p l e R s m args below meth c H locs cells slots Q (F0 m pc ls (.ref a :: rest)) :=
  k_get (Cn := RX3) (T := TX3) (N := 5) (index := 9) C B iX3_find_X3 rfl 0 (by decide) (by decide +kernel) q0 he hv hdg kk
theorem gfX3_find_15 {p : Program} {l : Launch} {e : Env} {R : Room} {s : State} {m : MethodId} {args : Array Value} {below : List Frame} {meth : Method} {c : Code} {H : Heap} {locs : List Loc} {cells slots : Nat} {Q : State → Prop} {D : va_G} {A : Nat → Prop} {tys : List (ClassId × FieldType)} {Es : (Nat → Nat) × (Nat → Nat)} {ws : va_W} {pc : Nat} {ls : Array Slot} {rest : List Value} {a : Nat} (C : CT p s m args meth c RX3 cX3_find 2 none wsX3_find D A tys Es) (B : DB D A ws s H locs) (q0 : Nat) {fs : List Value} {v : Value} (he : ws[q0]? = some (a, .inr (3, fs))) (hv : fs[1]? = some v) (hdg : decode cX3_find pc = .ok (.getfield 15, 3)) (kk : W p l e R s m args below meth c H locs cells slots Q (F0 m (pc + 3) ls (v :: rest))) : W p l e R s m args below meth c H locs cells slots Q (F0 m pc ls (.ref a :: rest)) :=
  k_get (Cn := RX3) (T := TX3) (N := 5) (index := 15) C B iX3_find_X3 rfl 1 (by decide) (by decide +kernel) q0 he hv hdg kk
theorem pfX3_find_15 {p : Program} {l : Launch} {e : Env} {R : Room} {s : State} {m : MethodId} {args : Array Value} {below : List Frame} {meth : Method} {c : Code} {H : Heap} {locs : List Loc} {cells slots : Nat} {Q : State → Prop} {D : va_G} {A : Nat → Prop} {tys : List (ClassId × FieldType)} {Es : (Nat → Nat) × (Nat → Nat)} {ws : va_W} {pc : Nat} {ls : Array Slot} {rest : List Value} {a : Nat} (C : CT p s m args meth c RX3 cX3_find 2 none wsX3_find D A tys Es) (B : DB D A ws s H locs) (q0 : Nat) {fs : List Value} {v : Value} (hn : narrow .int v = v) (hfit : fits .int v = true) (he : ws[q0]? = some (a, .inr (3, fs))) (hl : 1 < fs.length) (hdg : decode cX3_find pc = .ok (.putfield 15, 3)) (kk : ∀ (H1 : Heap) (locs1 : List Loc), DB D A (ws.set q0 (a, .inr (3, fs.set 1 v))) s H1 locs1 → W p l e R s m args below meth c H1 locs1 cells slots Q (F0 m (pc + 3) ls rest)) : W p l e R s m args below meth c H locs cells slots Q (F0 m pc ls (v :: .ref a :: rest)) :=
  k_put (Cn := RX3) (T := TX3) (N := 5) (index := 15) C B iX3_find_X3 rfl tyX3 tyX3_ok nmX3 1 (by decide) (by decide +kernel) rfl q0 (by decide +kernel) hn hfit he hl hdg kk
section
variable {p : Program} {l : Launch} {e : Env} {s : State} {m : MethodId} {args : Array Value} {below : List Frame} {meth : Method} {c : Code} {D : va_G} {A : Nat → Prop} {Es : (Nat → Nat) × (Nat → Nat)} {a b : Nat → Nat} {cI cJ cT : ClassId}
set_option maxHeartbeats 4000000 in
set_option maxRecDepth 100000 in
theorem qX3_find_7 (C : CT p s m args meth c RX3 cX3_find 2 none wsX3_find D A (tyl cI cJ cT) Es) {N : Nat} {rs_low : Nat → Int64} {rs_mid : Nat → Int64} {rs_high : Nat → Int64} {ch_nodes : Nat → Int32} {ch_signs : Nat → Int32} {ch_felt : Nat → Int32} {ch_count : Int32} {te_inputs : Nat → Int32} {te_dues : Nat → Int32} {te_count : Int32} {z_me_found : Nat → Int32} {z_me_count : Int32} : ∀ (n : Nat) (x1 : Int32) (me_found : Nat → Int32) (me_count : Int32), bX3_find_7 N rs_low rs_mid rs_high ch_count te_inputs te_dues te_count n x1 me_found me_count = some (z_me_found, z_me_count) → ∀ (H : Heap) (locs : List Loc) (ls : Array Slot), DB D A (wd_rs_ch_te_me a b cI cJ cT rs_low rs_mid rs_high ch_nodes ch_signs ch_felt ch_count te_inputs te_dues te_count me_found me_count) s H locs → lv_has ls 2 [(0, .ref (a 45)), (1, .int x1)] → W p l e rmX3_find s m args below meth c H locs 0 0 (ZV below args s D A (tyl cI cJ cT) (wd_rs_ch_te_me a b cI cJ cT rs_low rs_mid rs_high ch_nodes ch_signs ch_felt ch_count te_inputs te_dues te_count z_me_found z_me_count) 0 0) (F0 m 7 ls []) := by
  have hx := C.1.1
  have hb := C.1.2.1
  have hown := C.1.2.2.2.1
  have hts := C.1.2.2.2.2
  intro n
  induction n with
  | zero => intro x1 me_found me_count h; cases h
  | succ n ih =>
    intro x1 me_found me_count h H locs ls B hl
    rw [bX3_find_7] at h
    refine lv_iload_n hx hb dX3_find_7 rfl (lv_at hl 1 rfl) ?_
    refine lv_aload_n hx hb dX3_find_8 rfl (lv_at hl 0 rfl) ?_
    refine gfX3_find_19 C B 11 rfl rfl dX3_find_9 ?_
    refine gfX3_find_31 C B 4 rfl rfl dX3_find_12 ?_
    refine lv_icmp_ge (tgt := 57) hx hb dX3_find_15 (by decide) (fun c_1 => ?_) (fun c_1 => ?_)
    · rw [if_pos c_1] at h
      cases h
      exact k_vret C B dX3_find_57
    · rw [if_neg c_1] at h
      refine lv_aload_n hx hb dX3_find_18 rfl (lv_at hl 0 rfl) ?_
      refine gfX3_find_23 C B 11 rfl rfl dX3_find_19 ?_
      refine lv_iconst (v := 2) hx hb dX3_find_22 (by decide) ?_
      refine lv_iload_n hx hb dX3_find_23 rfl (lv_at hl 1 rfl) ?_
      refine lv_iadd hx hb dX3_find_24 ?_
      obtain ⟨r_2, g_5, h⟩ := ob_some h
      try dsimp only at h
      refine kc_VI C B (q0 := 4) (ci := 8) (As := [.int ((2 : Int32) + x1)]) (rest := []) (w2 := (wd_rs_ch_te_me a b cI cJ cT rs_low rs_mid rs_high ch_nodes ch_signs ch_felt ch_count te_inputs te_dues te_count me_found me_count)) (tX8_noneFailsFor (a := a) (b := b) N g_5) gX3_find_X8_noneFailsFor rfl ⟨rfl, rfl⟩ ⟨rfl, hdX8_noneFailsFor⟩ ⟨Nat.le_of_ble_eq_true rfl, Nat.le_of_ble_eq_true rfl⟩ rfl rfl [0, 1, 2, 3, 8, 9, 10] [4, 5, 6, 7, 11, 12] [6, 7, 8, 9, 0, 1, 2, 3, 10, 11, 12, 4, 5] rfl rfl rfl rfl rfl rfl rfl rfl hl.1 rfl (Nat.le_of_ble_eq_true rfl) ⟨Nat.zero_le _, Nat.zero_le _⟩ dX3_find_25 (fun H locs B => ?_)
      refine lv_if_eq (tgt := 51) hx hb dX3_find_28 (by decide) (fun c_3 => ?_) (fun c_3 => ?_)
      · rw [if_pos c_3] at h
        refine lv_iinc (v := (x1 + 1)) (lv' := [(1, .int (x1 + 1)), (0, .ref (a 45))]) hx hb dX3_find_51 hl (k := 1) rfl rfl (by decide) rfl (fun ls hl => ?_)
        refine lv_goto (tgt := 7) hx hb dX3_find_54 (by decide) ?_
        exact ih (x1 + 1) me_found me_count h H locs ls B (lv_sub hl [1, 0] rfl)
      · rw [if_neg c_3] at h
        refine lv_aload_n hx hb dX3_find_31 rfl (lv_at hl 0 rfl) ?_
        refine gfX3_find_9 C B 11 rfl rfl dX3_find_32 ?_
        refine lv_aload_n hx hb dX3_find_35 rfl (lv_at hl 0 rfl) ?_
        refine gfX3_find_15 C B 11 rfl rfl dX3_find_36 ?_
        refine lv_iload_n hx hb dX3_find_39 rfl (lv_at hl 1 rfl) ?_
        obtain ⟨b_4, h⟩ := bnd_some h
        refine k_iast C B 12 0 rfl rfl b_4 dX3_find_40 (fun H locs B => ?_)
        have B : DB D A (wd_rs_ch_te_me a b cI cJ cT rs_low rs_mid rs_high ch_nodes ch_signs ch_felt ch_count te_inputs te_dues te_count (upd me_found (Int32.toNatClampNeg me_count) x1) me_count) s H locs := B
        refine lv_aload_n hx hb dX3_find_41 rfl (lv_at hl 0 rfl) ?_
        refine lv_dup hx hb dX3_find_42 rfl ?_
        refine gfX3_find_15 C B 11 rfl rfl dX3_find_43 ?_
        refine lv_iconst (v := 1) hx hb dX3_find_46 (by decide) ?_
        refine lv_iadd hx hb dX3_find_47 ?_
        refine pfX3_find_15 C B 11 rfl (by rfl) rfl (Nat.le_of_ble_eq_true rfl) dX3_find_48 (fun H locs B => ?_)
        have B : DB D A (wd_rs_ch_te_me a b cI cJ cT rs_low rs_mid rs_high ch_nodes ch_signs ch_felt ch_count te_inputs te_dues te_count (upd me_found (Int32.toNatClampNeg me_count) x1) (me_count + (1 : Int32))) s H locs := B
        refine lv_iinc (v := (x1 + 1)) (lv' := [(1, .int (x1 + 1)), (0, .ref (a 45))]) hx hb dX3_find_51 hl (k := 1) rfl rfl (by decide) rfl (fun ls hl => ?_)
        refine lv_goto (tgt := 7) hx hb dX3_find_54 (by decide) ?_
        exact ih (x1 + 1) (upd me_found (Int32.toNatClampNeg me_count) x1) (me_count + (1 : Int32)) h H locs ls B (lv_sub hl [1, 0] rfl)
set_option maxHeartbeats 4000000 in
set_option maxRecDepth 100000 in
theorem qX3_find_0 (C : CT p s m args meth c RX3 cX3_find 2 none wsX3_find D A (tyl cI cJ cT) Es) {N : Nat} {rs_low : Nat → Int64} {rs_mid : Nat → Int64} {rs_high : Nat → Int64} {ch_nodes : Nat → Int32} {ch_signs : Nat → Int32} {ch_felt : Nat → Int32} {ch_count : Int32} {te_inputs : Nat → Int32} {te_dues : Nat → Int32} {te_count : Int32} {z_me_found : Nat → Int32} {z_me_count : Int32} : ∀ (me_found : Nat → Int32) (me_count : Int32), fX3_find N rs_low rs_mid rs_high ch_count te_inputs te_dues te_count me_found me_count = some (z_me_found, z_me_count) → ∀ (H : Heap) (locs : List Loc) (ls : Array Slot), DB D A (wd_rs_ch_te_me a b cI cJ cT rs_low rs_mid rs_high ch_nodes ch_signs ch_felt ch_count te_inputs te_dues te_count me_found me_count) s H locs → lv_has ls 2 [(0, .ref (a 45))] → W p l e rmX3_find s m args below meth c H locs 0 0 (ZV below args s D A (tyl cI cJ cT) (wd_rs_ch_te_me a b cI cJ cT rs_low rs_mid rs_high ch_nodes ch_signs ch_felt ch_count te_inputs te_dues te_count z_me_found z_me_count) 0 0) (F0 m 0 ls []) := by
  have hx := C.1.1
  have hb := C.1.2.1
  have hown := C.1.2.2.2.1
  have hts := C.1.2.2.2.2
  intro me_found me_count h H locs ls B hl
  rw [fX3_find] at h
  refine lv_aload_n hx hb dX3_find_0 rfl (lv_at hl 0 rfl) ?_
  refine lv_iconst (v := 0) hx hb dX3_find_1 (by decide) ?_
  refine pfX3_find_15 C B 11 rfl (by rfl) rfl (Nat.le_of_ble_eq_true rfl) dX3_find_2 (fun H locs B => ?_)
  have B : DB D A (wd_rs_ch_te_me a b cI cJ cT rs_low rs_mid rs_high ch_nodes ch_signs ch_felt ch_count te_inputs te_dues te_count me_found (0 : Int32)) s H locs := B
  refine lv_iconst (v := 0) hx hb dX3_find_5 (by decide) ?_
  refine lv_istore_n (lv' := [(1, .int (0 : Int32)), (0, .ref (a 45))]) hx hb dX3_find_6 rfl hl (by decide) rfl (fun ls hl => ?_)
  exact qX3_find_7 C N (0 : Int32) me_found (0 : Int32) h H locs ls B (lv_sub hl [1, 0] rfl)
end
theorem tX3_find {l : Launch} {D : va_G} {Es : (Nat → Nat) × (Nat → Nat)} {a b : Nat → Nat} {cI cJ cT : ClassId} {rs_low : Nat → Int64} {rs_mid : Nat → Int64} {rs_high : Nat → Int64} {ch_nodes : Nat → Int32} {ch_signs : Nat → Int32} {ch_felt : Nat → Int32} {ch_count : Int32} {te_inputs : Nat → Int32} {te_dues : Nat → Int32} {te_count : Int32} {me_found : Nat → Int32} {me_count : Int32} {z_me_found : Nat → Int32} {z_me_count : Int32} (N : Nat) (h : fX3_find N rs_low rs_mid rs_high ch_count te_inputs te_dues te_count me_found me_count = some (z_me_found, z_me_count)) : CtV l yX3_find wsX3_find rmX3_find D (tyl cI cJ cT) Es [.ref (a 45)] (wd_rs_ch_te_me a b cI cJ cT rs_low rs_mid rs_high ch_nodes ch_signs ch_felt ch_count te_inputs te_dues te_count me_found me_count) (wd_rs_ch_te_me a b cI cJ cT rs_low rs_mid rs_high ch_nodes ch_signs ch_felt ch_count te_inputs te_dues te_count z_me_found z_me_count) :=
  CtV.of (own := RX3) (cc := cX3_find) (nL := 2) (ret := none) (by decide +kernel) rfl rfl (Nat.le_of_ble_eq_true rfl) rfl (fun p e s m below meth c A ls C B hl => qX3_find_0 C (N := N) me_found me_count h _ _ _ B hl)

abbrev rmX3_isUnlikeEarlierOnes : Room := { frames := 2, cells := 0, slots := 0, locals := 49 }
theorem hdX3_isUnlikeEarlierOnes : yX3_isUnlikeEarlierOnes.cls ≠ "java/lang/invoke/MethodHandle" ∧ yX3_isUnlikeEarlierOnes.cls ≠ "java/lang/invoke/VarHandle" ∧ (parseMethodDescriptor yX3_isUnlikeEarlierOnes.desc).map (fun d => d.parameters.length) = some 1 := by decide +kernel
theorem iX3_isUnlikeEarlierOnes_X3 : ∀ w ∈ wsX30, w ∈ wsX3_isUnlikeEarlierOnes := by decide +kernel
theorem gfX3_isUnlikeEarlierOnes_27 {p : Program} {l : Launch} {e : Env} {R : Room} {s : State} {m : MethodId} {args : Array Value} {below : List Frame} {meth : Method} {c : Code} {H : Heap} {locs : List Loc} {cells slots : Nat} {Q : State → Prop} {D : va_G} {A : Nat → Prop} {tys : List (ClassId × FieldType)} {Es : (Nat → Nat) × (Nat → Nat)} {ws : va_W} {pc : Nat} {ls : Array Slot} {rest : List Value} {a : Nat} (C : CT p s m args meth c RX3 cX3_isUnlikeEarlierOnes 3 (some .boolean) wsX3_isUnlikeEarlierOnes D A tys Es) (B : DB D A ws s H locs) (q0 : Nat) {fs : List Value} {v : Value} (he : ws[q0]? = some (a, .inr (3, fs))) (hv : fs[4]? = some v) (hdg : decode cX3_isUnlikeEarlierOnes pc = .ok (.getfield 27, 3)) (kk : W p l e R s m args below meth c H locs cells slots Q (F0 m (pc + 3) ls (v :: rest))) : W p l e R s m args below meth c H locs cells slots Q (F0 m pc ls (.ref a :: rest)) :=
  k_get (Cn := RX3) (T := TX3) (N := 5) (index := 27) C B iX3_isUnlikeEarlierOnes_X3 rfl 4 (by decide) (by decide +kernel) q0 he hv hdg kk
theorem gfX3_isUnlikeEarlierOnes_9 {p : Program} {l : Launch} {e : Env} {R : Room} {s : State} {m : MethodId} {args : Array Value} {below : List Frame} {meth : Method} {c : Code} {H : Heap} {locs : List Loc} {cells slots : Nat} {Q : State → Prop} {D : va_G} {A : Nat → Prop} {tys : List (ClassId × FieldType)} {Es : (Nat → Nat) × (Nat → Nat)} {ws : va_W} {pc : Nat} {ls : Array Slot} {rest : List Value} {a : Nat} (C : CT p s m args meth c RX3 cX3_isUnlikeEarlierOnes 3 (some .boolean) wsX3_isUnlikeEarlierOnes D A tys Es) (B : DB D A ws s H locs) (q0 : Nat) {fs : List Value} {v : Value} (he : ws[q0]? = some (a, .inr (3, fs))) (hv : fs[0]? = some v) (hdg : decode cX3_isUnlikeEarlierOnes pc = .ok (.getfield 9, 3)) (kk : W p l e R s m args below meth c H locs cells slots Q (F0 m (pc + 3) ls (v :: rest))) : W p l e R s m args below meth c H locs cells slots Q (F0 m pc ls (.ref a :: rest)) :=
  k_get (Cn := RX3) (T := TX3) (N := 5) (index := 9) C B iX3_isUnlikeEarlierOnes_X3 rfl 0 (by decide) (by decide +kernel) q0 he hv hdg kk
section
variable {p : Program} {l : Launch} {e : Env} {s : State} {m : MethodId} {args : Array Value} {below : List Frame} {meth : Method} {c : Code} {D : va_G} {A : Nat → Prop} {Es : (Nat → Nat) × (Nat → Nat)} {a b : Nat → Nat} {cI cJ cT : ClassId}
set_option maxHeartbeats 4000000 in
set_option maxRecDepth 100000 in
theorem qX3_isUnlikeEarlierOnes_2 (C : CT p s m args meth c RX3 cX3_isUnlikeEarlierOnes 3 (some .boolean) wsX3_isUnlikeEarlierOnes D A (tyl cI cJ cT) Es) {N : Nat} {rs_low : Nat → Int64} {rs_mid : Nat → Int64} {rs_high : Nat → Int64} {me_found : Nat → Int32} {me_count : Int32} {z_r : Int32} : ∀ (n : Nat) (x1 : Int32) (x2 : Int32), bX3_isUnlikeEarlierOnes_2 N rs_low rs_mid rs_high me_found n x1 x2 = some z_r → ∀ (H : Heap) (locs : List Loc) (ls : Array Slot), DB D A (wd_rs_me a b cI cJ cT rs_low rs_mid rs_high me_found me_count) s H locs → lv_has ls 3 [(0, .ref (a 45)), (1, .int x1), (2, .int x2)] → W p l e rmX3_isUnlikeEarlierOnes s m args below meth c H locs 0 0 (ZI below args s D A (tyl cI cJ cT) z_r (wd_rs_me a b cI cJ cT rs_low rs_mid rs_high me_found me_count) 0 0) (F0 m 2 ls []) := by
  have hx := C.1.1
  have hb := C.1.2.1
  have hown := C.1.2.2.2.1
  have hts := C.1.2.2.2.2
  intro n
  induction n with
  | zero => intro x1 x2 h; cases h
  | succ n ih =>
    intro x1 x2 h H locs ls B hl
    rw [bX3_isUnlikeEarlierOnes_2] at h
    refine lv_iload_n hx hb dX3_isUnlikeEarlierOnes_2 rfl (lv_at hl 2 rfl) ?_
    refine lv_iload_n hx hb dX3_isUnlikeEarlierOnes_3 rfl (lv_at hl 1 rfl) ?_
    refine lv_icmp_ge (tgt := 41) hx hb dX3_isUnlikeEarlierOnes_4 (by decide) (fun c_1 => ?_) (fun c_1 => ?_)
    · rw [if_pos c_1] at h
      refine lv_iconst (v := 1) hx hb dX3_isUnlikeEarlierOnes_41 (by decide) ?_
      cases h
      exact k_zret C B (by decide) dX3_isUnlikeEarlierOnes_42
    · rw [if_neg c_1] at h
      refine lv_aload_n hx hb dX3_isUnlikeEarlierOnes_7 rfl (lv_at hl 0 rfl) ?_
      refine gfX3_isUnlikeEarlierOnes_27 C B 4 rfl rfl dX3_isUnlikeEarlierOnes_8 ?_
      refine lv_iconst (v := 2) hx hb dX3_isUnlikeEarlierOnes_11 (by decide) ?_
      refine lv_aload_n hx hb dX3_isUnlikeEarlierOnes_12 rfl (lv_at hl 0 rfl) ?_
      refine gfX3_isUnlikeEarlierOnes_9 C B 4 rfl rfl dX3_isUnlikeEarlierOnes_13 ?_
      refine lv_iload_n hx hb dX3_isUnlikeEarlierOnes_16 rfl (lv_at hl 2 rfl) ?_
      obtain ⟨b_2, h⟩ := bnd_some h
      refine k_iald C B 5 0 rfl rfl b_2 dX3_isUnlikeEarlierOnes_17 ?_
      refine lv_iadd hx hb dX3_isUnlikeEarlierOnes_18 ?_
      refine lv_iconst (v := 2) hx hb dX3_isUnlikeEarlierOnes_19 (by decide) ?_
      refine lv_aload_n hx hb dX3_isUnlikeEarlierOnes_20 rfl (lv_at hl 0 rfl) ?_
      refine gfX3_isUnlikeEarlierOnes_9 C B 4 rfl rfl dX3_isUnlikeEarlierOnes_21 ?_
      refine lv_iload_n hx hb dX3_isUnlikeEarlierOnes_24 rfl (lv_at hl 1 rfl) ?_
      obtain ⟨b_3, h⟩ := bnd_some h
      refine k_iald C B 5 0 rfl rfl b_3 dX3_isUnlikeEarlierOnes_25 ?_
      refine lv_iadd hx hb dX3_isUnlikeEarlierOnes_26 ?_
      obtain ⟨r_4, g_6, h⟩ := ob_some h
      try dsimp only at h
      refine kc_VI C B (q0 := 0) (ci := 7) (As := [.int ((2 : Int32) + (me_found (Int32.toNatClampNeg x2))), .int ((2 : Int32) + (me_found (Int32.toNatClampNeg x1)))]) (rest := []) (w2 := (wd_rs_me a b cI cJ cT rs_low rs_mid rs_high me_found me_count)) (tX7_unlikeMany (a := a) (b := b) N g_6) gX3_isUnlikeEarlierOnes_X7_unlikeMany rfl ⟨rfl, rfl⟩ ⟨rfl, hdX7_unlikeMany⟩ ⟨Nat.le_of_ble_eq_true rfl, Nat.le_of_ble_eq_true rfl⟩ rfl rfl [0, 1, 2, 3] [4, 5] [2, 3, 4, 5, 0, 1] rfl rfl rfl rfl rfl rfl rfl rfl hl.1 rfl (Nat.le_of_ble_eq_true rfl) ⟨Nat.zero_le _, Nat.zero_le _⟩ dX3_isUnlikeEarlierOnes_27 (fun H locs B => ?_)
      refine lv_if_ne (tgt := 35) hx hb dX3_isUnlikeEarlierOnes_30 (by decide) (fun c_5 => ?_) (fun c_5 => ?_)
      · rw [if_neg c_5] at h
        refine lv_iinc (v := (x2 + 1)) (lv' := [(2, .int (x2 + 1)), (0, .ref (a 45)), (1, .int x1)]) hx hb dX3_isUnlikeEarlierOnes_35 hl (k := 2) rfl rfl (by decide) rfl (fun ls hl => ?_)
        refine lv_goto (tgt := 2) hx hb dX3_isUnlikeEarlierOnes_38 (by decide) ?_
        exact ih x1 (x2 + 1) h H locs ls B (lv_sub hl [1, 2, 0] rfl)
      · rw [if_pos c_5] at h
        refine lv_iconst (v := 0) hx hb dX3_isUnlikeEarlierOnes_33 (by decide) ?_
        cases h
        exact k_zret C B (by decide) dX3_isUnlikeEarlierOnes_34
set_option maxHeartbeats 4000000 in
set_option maxRecDepth 100000 in
theorem qX3_isUnlikeEarlierOnes_0 (C : CT p s m args meth c RX3 cX3_isUnlikeEarlierOnes 3 (some .boolean) wsX3_isUnlikeEarlierOnes D A (tyl cI cJ cT) Es) {N : Nat} {rs_low : Nat → Int64} {rs_mid : Nat → Int64} {rs_high : Nat → Int64} {me_found : Nat → Int32} {me_count : Int32} {z_r : Int32} : ∀ (x1 : Int32), fX3_isUnlikeEarlierOnes N rs_low rs_mid rs_high me_found x1 = some z_r → ∀ (H : Heap) (locs : List Loc) (ls : Array Slot), DB D A (wd_rs_me a b cI cJ cT rs_low rs_mid rs_high me_found me_count) s H locs → lv_has ls 3 [(0, .ref (a 45)), (1, .int x1)] → W p l e rmX3_isUnlikeEarlierOnes s m args below meth c H locs 0 0 (ZI below args s D A (tyl cI cJ cT) z_r (wd_rs_me a b cI cJ cT rs_low rs_mid rs_high me_found me_count) 0 0) (F0 m 0 ls []) := by
  have hx := C.1.1
  have hb := C.1.2.1
  have hown := C.1.2.2.2.1
  have hts := C.1.2.2.2.2
  intro x1 h H locs ls B hl
  rw [fX3_isUnlikeEarlierOnes] at h
  refine lv_iconst (v := 0) hx hb dX3_isUnlikeEarlierOnes_0 (by decide) ?_
  refine lv_istore_n (lv' := [(2, .int (0 : Int32)), (0, .ref (a 45)), (1, .int x1)]) hx hb dX3_isUnlikeEarlierOnes_1 rfl hl (by decide) rfl (fun ls hl => ?_)
  exact qX3_isUnlikeEarlierOnes_2 C N x1 (0 : Int32) h H locs ls B (lv_sub hl [1, 2, 0] rfl)
end
theorem tX3_isUnlikeEarlierOnes {l : Launch} {D : va_G} {Es : (Nat → Nat) × (Nat → Nat)} {a b : Nat → Nat} {cI cJ cT : ClassId} {rs_low : Nat → Int64} {rs_mid : Nat → Int64} {rs_high : Nat → Int64} {me_found : Nat → Int32} {me_count : Int32} {x1 : Int32} {z_r : Int32} (N : Nat) (h : fX3_isUnlikeEarlierOnes N rs_low rs_mid rs_high me_found x1 = some z_r) : CtI l yX3_isUnlikeEarlierOnes wsX3_isUnlikeEarlierOnes rmX3_isUnlikeEarlierOnes D (tyl cI cJ cT) Es [.ref (a 45), .int x1] (wd_rs_me a b cI cJ cT rs_low rs_mid rs_high me_found me_count) z_r (wd_rs_me a b cI cJ cT rs_low rs_mid rs_high me_found me_count) :=
  CtI.of (own := RX3) (cc := cX3_isUnlikeEarlierOnes) (nL := 3) (ret := (some .boolean)) (by decide +kernel) rfl rfl (Nat.le_of_ble_eq_true rfl) rfl (fun p e s m below meth c A ls C B hl => qX3_isUnlikeEarlierOnes_0 C (N := N) x1 h _ _ _ B hl)

abbrev rmX3_kinds : Room := { frames := 3, cells := 0, slots := 0, locals := 71 }
theorem hdX3_kinds : yX3_kinds.cls ≠ "java/lang/invoke/MethodHandle" ∧ yX3_kinds.cls ≠ "java/lang/invoke/VarHandle" ∧ (parseMethodDescriptor yX3_kinds.desc).map (fun d => d.parameters.length) = some 0 := by decide +kernel
theorem iX3_kinds_X3 : ∀ w ∈ wsX30, w ∈ wsX3_kinds := by decide +kernel
theorem gfX3_kinds_15 {p : Program} {l : Launch} {e : Env} {R : Room} {s : State} {m : MethodId} {args : Array Value} {below : List Frame} {meth : Method} {c : Code} {H : Heap} {locs : List Loc} {cells slots : Nat} {Q : State → Prop} {D : va_G} {A : Nat → Prop} {tys : List (ClassId × FieldType)} {Es : (Nat → Nat) × (Nat → Nat)} {ws : va_W} {pc : Nat} {ls : Array Slot} {rest : List Value} {a : Nat} (C : CT p s m args meth c RX3 cX3_kinds 3 (some .int) wsX3_kinds D A tys Es) (B : DB D A ws s H locs) (q0 : Nat) {fs : List Value} {v : Value} (he : ws[q0]? = some (a, .inr (3, fs))) (hv : fs[1]? = some v) (hdg : decode cX3_kinds pc = .ok (.getfield 15, 3)) (kk : W p l e R s m args below meth c H locs cells slots Q (F0 m (pc + 3) ls (v :: rest))) : W p l e R s m args below meth c H locs cells slots Q (F0 m pc ls (.ref a :: rest)) :=
  k_get (Cn := RX3) (T := TX3) (N := 5) (index := 15) C B iX3_kinds_X3 rfl 1 (by decide) (by decide +kernel) q0 he hv hdg kk
section
variable {p : Program} {l : Launch} {e : Env} {s : State} {m : MethodId} {args : Array Value} {below : List Frame} {meth : Method} {c : Code} {D : va_G} {A : Nat → Prop} {Es : (Nat → Nat) × (Nat → Nat)} {a b : Nat → Nat} {cI cJ cT : ClassId}
set_option maxHeartbeats 4000000 in
set_option maxRecDepth 100000 in
theorem qX3_kinds_4 (C : CT p s m args meth c RX3 cX3_kinds 3 (some .int) wsX3_kinds D A (tyl cI cJ cT) Es) {N : Nat} {rs_low : Nat → Int64} {rs_mid : Nat → Int64} {rs_high : Nat → Int64} {me_found : Nat → Int32} {me_count : Int32} {z_r : Int32} : ∀ (n : Nat) (x1 : Int32) (x2 : Int32), bX3_kinds_4 N rs_low rs_mid rs_high me_found me_count n x1 x2 = some z_r → ∀ (H : Heap) (locs : List Loc) (ls : Array Slot), DB D A (wd_rs_me a b cI cJ cT rs_low rs_mid rs_high me_found me_count) s H locs → lv_has ls 3 [(0, .ref (a 45)), (1, .int x1), (2, .int x2)] → W p l e rmX3_kinds s m args below meth c H locs 0 0 (ZI below args s D A (tyl cI cJ cT) z_r (wd_rs_me a b cI cJ cT rs_low rs_mid rs_high me_found me_count) 0 0) (F0 m 4 ls []) := by
  have hx := C.1.1
  have hb := C.1.2.1
  have hown := C.1.2.2.2.1
  have hts := C.1.2.2.2.2
  intro n
  induction n with
  | zero => intro x1 x2 h; cases h
  | succ n ih =>
    intro x1 x2 h H locs ls B hl
    rw [bX3_kinds_4] at h
    refine lv_iload_n hx hb dX3_kinds_4 rfl (lv_at hl 2 rfl) ?_
    refine lv_aload_n hx hb dX3_kinds_5 rfl (lv_at hl 0 rfl) ?_
    refine gfX3_kinds_15 C B 4 rfl rfl dX3_kinds_6 ?_
    refine lv_icmp_ge (tgt := 34) hx hb dX3_kinds_9 (by decide) (fun c_1 => ?_) (fun c_1 => ?_)
    · rw [if_pos c_1] at h
      refine lv_iload_n hx hb dX3_kinds_34 rfl (lv_at hl 1 rfl) ?_
      cases h
      exact k_iret C B dX3_kinds_35
    · rw [if_neg c_1] at h
      refine lv_iload_n hx hb dX3_kinds_12 rfl (lv_at hl 1 rfl) ?_
      refine lv_aload_n hx hb dX3_kinds_13 rfl (lv_at hl 0 rfl) ?_
      refine lv_iload_n hx hb dX3_kinds_14 rfl (lv_at hl 2 rfl) ?_
      obtain ⟨r_2, g_4, h⟩ := ob_some h
      try dsimp only at h
      refine kc_VI C B (q0 := 4) (ci := 3) (As := [.int x2]) (rest := [.int x1]) (w2 := (wd_rs_me a b cI cJ cT rs_low rs_mid rs_high me_found me_count)) (tX3_isUnlikeEarlierOnes (a := a) (b := b) N g_4) gX3_kinds_X3_isUnlikeEarlierOnes rfl ⟨rfl, rfl⟩ ⟨rfl, hdX3_isUnlikeEarlierOnes⟩ ⟨Nat.le_of_ble_eq_true rfl, Nat.le_of_ble_eq_true rfl⟩ rfl rfl [0, 1, 2, 3, 4, 5] [] [0, 1, 2, 3, 4, 5] rfl rfl rfl rfl rfl rfl rfl rfl hl.1 rfl (Nat.le_of_ble_eq_true rfl) ⟨Nat.zero_le _, Nat.zero_le _⟩ dX3_kinds_15 (fun H locs B => ?_)
      refine lv_if_eq (tgt := 25) hx hb dX3_kinds_18 (by decide) (fun c_3 => ?_) (fun c_3 => ?_)
      · rw [if_pos c_3] at h
        refine lv_iconst (v := 0) hx hb dX3_kinds_25 (by decide) ?_
        refine lv_iadd hx hb dX3_kinds_26 ?_
        refine lv_istore_n (lv' := [(1, .int (x1 + (0 : Int32))), (0, .ref (a 45)), (2, .int x2)]) hx hb dX3_kinds_27 rfl hl (by decide) rfl (fun ls hl => ?_)
        refine lv_iinc (v := (x2 + 1)) (lv' := [(2, .int (x2 + 1)), (1, .int (x1 + (0 : Int32))), (0, .ref (a 45))]) hx hb dX3_kinds_28 hl (k := 2) rfl rfl (by decide) rfl (fun ls hl => ?_)
        refine lv_goto (tgt := 4) hx hb dX3_kinds_31 (by decide) ?_
        exact ih (x1 + (0 : Int32)) (x2 + 1) h H locs ls B (lv_sub hl [2, 1, 0] rfl)
      · rw [if_neg c_3] at h
        refine lv_iconst (v := 1) hx hb dX3_kinds_21 (by decide) ?_
        refine lv_goto (tgt := 26) hx hb dX3_kinds_22 (by decide) ?_
        refine lv_iadd hx hb dX3_kinds_26 ?_
        refine lv_istore_n (lv' := [(1, .int (x1 + (1 : Int32))), (0, .ref (a 45)), (2, .int x2)]) hx hb dX3_kinds_27 rfl hl (by decide) rfl (fun ls hl => ?_)
        refine lv_iinc (v := (x2 + 1)) (lv' := [(2, .int (x2 + 1)), (1, .int (x1 + (1 : Int32))), (0, .ref (a 45))]) hx hb dX3_kinds_28 hl (k := 2) rfl rfl (by decide) rfl (fun ls hl => ?_)
        refine lv_goto (tgt := 4) hx hb dX3_kinds_31 (by decide) ?_
        exact ih (x1 + (1 : Int32)) (x2 + 1) h H locs ls B (lv_sub hl [2, 1, 0] rfl)
set_option maxHeartbeats 4000000 in
set_option maxRecDepth 100000 in
theorem qX3_kinds_0 (C : CT p s m args meth c RX3 cX3_kinds 3 (some .int) wsX3_kinds D A (tyl cI cJ cT) Es) {N : Nat} {rs_low : Nat → Int64} {rs_mid : Nat → Int64} {rs_high : Nat → Int64} {me_found : Nat → Int32} {me_count : Int32} {z_r : Int32} : fX3_kinds N rs_low rs_mid rs_high me_found me_count = some z_r → ∀ (H : Heap) (locs : List Loc) (ls : Array Slot), DB D A (wd_rs_me a b cI cJ cT rs_low rs_mid rs_high me_found me_count) s H locs → lv_has ls 3 [(0, .ref (a 45))] → W p l e rmX3_kinds s m args below meth c H locs 0 0 (ZI below args s D A (tyl cI cJ cT) z_r (wd_rs_me a b cI cJ cT rs_low rs_mid rs_high me_found me_count) 0 0) (F0 m 0 ls []) := by
  have hx := C.1.1
  have hb := C.1.2.1
  have hown := C.1.2.2.2.1
  have hts := C.1.2.2.2.2
  intro h H locs ls B hl
  rw [fX3_kinds] at h
  refine lv_iconst (v := 0) hx hb dX3_kinds_0 (by decide) ?_
  refine lv_istore_n (lv' := [(1, .int (0 : Int32)), (0, .ref (a 45))]) hx hb dX3_kinds_1 rfl hl (by decide) rfl (fun ls hl => ?_)
  refine lv_iconst (v := 0) hx hb dX3_kinds_2 (by decide) ?_
  refine lv_istore_n (lv' := [(2, .int (0 : Int32)), (1, .int (0 : Int32)), (0, .ref (a 45))]) hx hb dX3_kinds_3 rfl hl (by decide) rfl (fun ls hl => ?_)
  exact qX3_kinds_4 C N (0 : Int32) (0 : Int32) h H locs ls B (lv_sub hl [2, 1, 0] rfl)
end
theorem tX3_kinds {l : Launch} {D : va_G} {Es : (Nat → Nat) × (Nat → Nat)} {a b : Nat → Nat} {cI cJ cT : ClassId} {rs_low : Nat → Int64} {rs_mid : Nat → Int64} {rs_high : Nat → Int64} {me_found : Nat → Int32} {me_count : Int32} {z_r : Int32} (N : Nat) (h : fX3_kinds N rs_low rs_mid rs_high me_found me_count = some z_r) : CtI l yX3_kinds wsX3_kinds rmX3_kinds D (tyl cI cJ cT) Es [.ref (a 45)] (wd_rs_me a b cI cJ cT rs_low rs_mid rs_high me_found me_count) z_r (wd_rs_me a b cI cJ cT rs_low rs_mid rs_high me_found me_count) :=
  CtI.of (own := RX3) (cc := cX3_kinds) (nL := 3) (ret := (some .int)) (by decide +kernel) rfl rfl (Nat.le_of_ble_eq_true rfl) rfl (fun p e s m below meth c A ls C B hl => qX3_kinds_0 C (N := N) h _ _ _ B hl)

abbrev rmX6_isAt : Room := { frames := 2, cells := 0, slots := 0, locals := 48 }
theorem hdX6_isAt : yX6_isAt.cls ≠ "java/lang/invoke/MethodHandle" ∧ yX6_isAt.cls ≠ "java/lang/invoke/VarHandle" ∧ (parseMethodDescriptor yX6_isAt.desc).map (fun d => d.parameters.length) = some 1 := by decide +kernel
theorem iX6_isAt_X6 : ∀ w ∈ wsX60, w ∈ wsX6_isAt := by decide +kernel
theorem gfX6_isAt_18 {p : Program} {l : Launch} {e : Env} {R : Room} {s : State} {m : MethodId} {args : Array Value} {below : List Frame} {meth : Method} {c : Code} {H : Heap} {locs : List Loc} {cells slots : Nat} {Q : State → Prop} {D : va_G} {A : Nat → Prop} {tys : List (ClassId × FieldType)} {Es : (Nat → Nat) × (Nat → Nat)} {ws : va_W} {pc : Nat} {ls : Array Slot} {rest : List Value} {a : Nat} (C : CT p s m args meth c RX6 cX6_isAt 2 (some .boolean) wsX6_isAt D A tys Es) (B : DB D A ws s H locs) (q0 : Nat) {fs : List Value} {v : Value} (he : ws[q0]? = some (a, .inr (6, fs))) (hv : fs[2]? = some v) (hdg : decode cX6_isAt pc = .ok (.getfield 18, 3)) (kk : W p l e R s m args below meth c H locs cells slots Q (F0 m (pc + 3) ls (v :: rest))) : W p l e R s m args below meth c H locs cells slots Q (F0 m pc ls (.ref a :: rest)) :=
  k_get (Cn := RX6) (T := TX6) (N := 3) (index := 18) C B iX6_isAt_X6 rfl 2 (by decide) (by decide +kernel) q0 he hv hdg kk
section
variable {p : Program} {l : Launch} {e : Env} {s : State} {m : MethodId} {args : Array Value} {below : List Frame} {meth : Method} {c : Code} {D : va_G} {A : Nat → Prop} {Es : (Nat → Nat) × (Nat → Nat)} {a b : Nat → Nat} {cI cJ cT : ClassId}
set_option maxHeartbeats 4000000 in
set_option maxRecDepth 100000 in
theorem qX6_isAt_0 (C : CT p s m args meth c RX6 cX6_isAt 2 (some .boolean) wsX6_isAt D A (tyl cI cJ cT) Es) {N : Nat} {rs_low : Nat → Int64} {rs_mid : Nat → Int64} {rs_high : Nat → Int64} {pa_lowest : Int32} {pa_steps : Int32} {z_r : Int32} : ∀ (x1 : Int32), fX6_isAt N rs_low rs_mid rs_high x1 = some z_r → ∀ (H : Heap) (locs : List Loc) (ls : Array Slot), DB D A (wd_rs_pa a b cI cJ cT rs_low rs_mid rs_high pa_lowest pa_steps) s H locs → lv_has ls 2 [(0, .ref (a 47)), (1, .int x1)] → W p l e rmX6_isAt s m args below meth c H locs 0 0 (ZI below args s D A (tyl cI cJ cT) z_r (wd_rs_pa a b cI cJ cT rs_low rs_mid rs_high pa_lowest pa_steps) 0 0) (F0 m 0 ls []) := by
  have hx := C.1.1
  have hb := C.1.2.1
  have hown := C.1.2.2.2.1
  have hts := C.1.2.2.2.2
  intro x1 h H locs ls B hl
  rw [fX6_isAt] at h
  refine lv_aload_n hx hb dX6_isAt_0 rfl (lv_at hl 0 rfl) ?_
  refine gfX6_isAt_18 C B 4 rfl rfl dX6_isAt_1 ?_
  refine lv_iconst (v := 0) hx hb dX6_isAt_4 (by decide) ?_
  refine lv_iconst (v := 1) hx hb dX6_isAt_5 (by decide) ?_
  refine lv_iload_n hx hb dX6_isAt_6 rfl (lv_at hl 1 rfl) ?_
  obtain ⟨r_1, g_3, h⟩ := ob_some h
  try dsimp only at h
  refine kc_VI C B (q0 := 0) (ci := 7) (As := [.int (0 : Int32), .int (1 : Int32), .int x1]) (rest := []) (w2 := (wd_rs_pa a b cI cJ cT rs_low rs_mid rs_high pa_lowest pa_steps)) (tX7_isUnlikeAt (a := a) (b := b) N g_3) gX6_isAt_X7_isUnlikeAt rfl ⟨rfl, rfl⟩ ⟨rfl, hdX7_isUnlikeAt⟩ ⟨Nat.le_of_ble_eq_true rfl, Nat.le_of_ble_eq_true rfl⟩ rfl rfl [0, 1, 2, 3] [4] [1, 2, 3, 4, 0] rfl rfl rfl rfl rfl rfl rfl rfl hl.1 rfl (Nat.le_of_ble_eq_true rfl) ⟨Nat.zero_le _, Nat.zero_le _⟩ dX6_isAt_7 (fun H locs B => ?_)
  obtain ⟨z_2, h⟩ := bo_some h
  cases h
  exact k_zret C B z_2 dX6_isAt_10
end
theorem tX6_isAt {l : Launch} {D : va_G} {Es : (Nat → Nat) × (Nat → Nat)} {a b : Nat → Nat} {cI cJ cT : ClassId} {rs_low : Nat → Int64} {rs_mid : Nat → Int64} {rs_high : Nat → Int64} {pa_lowest : Int32} {pa_steps : Int32} {x1 : Int32} {z_r : Int32} (N : Nat) (h : fX6_isAt N rs_low rs_mid rs_high x1 = some z_r) : CtI l yX6_isAt wsX6_isAt rmX6_isAt D (tyl cI cJ cT) Es [.ref (a 47), .int x1] (wd_rs_pa a b cI cJ cT rs_low rs_mid rs_high pa_lowest pa_steps) z_r (wd_rs_pa a b cI cJ cT rs_low rs_mid rs_high pa_lowest pa_steps) :=
  CtI.of (own := RX6) (cc := cX6_isAt) (nL := 2) (ret := (some .boolean)) (by decide +kernel) rfl rfl (Nat.le_of_ble_eq_true rfl) rfl (fun p e s m below meth c A ls C B hl => qX6_isAt_0 C (N := N) x1 h _ _ _ B hl)

abbrev rmX6_leastInputs : Room := { frames := 3, cells := 0, slots := 0, locals := 69 }
theorem hdX6_leastInputs : yX6_leastInputs.cls ≠ "java/lang/invoke/MethodHandle" ∧ yX6_leastInputs.cls ≠ "java/lang/invoke/VarHandle" ∧ (parseMethodDescriptor yX6_leastInputs.desc).map (fun d => d.parameters.length) = some 0 := by decide +kernel
section
variable {p : Program} {l : Launch} {e : Env} {s : State} {m : MethodId} {args : Array Value} {below : List Frame} {meth : Method} {c : Code} {D : va_G} {A : Nat → Prop} {Es : (Nat → Nat) × (Nat → Nat)} {a b : Nat → Nat} {cI cJ cT : ClassId}
set_option maxHeartbeats 4000000 in
set_option maxRecDepth 100000 in
theorem qX6_leastInputs_5 (C : CT p s m args meth c RX6 cX6_leastInputs 3 (some .int) wsX6_leastInputs D A (tyl cI cJ cT) Es) {N : Nat} {rs_low : Nat → Int64} {rs_mid : Nat → Int64} {rs_high : Nat → Int64} {pa_lowest : Int32} {pa_steps : Int32} {z_r : Int32} : ∀ (n : Nat) (x1 : Int32) (x2 : Int32), bX6_leastInputs_5 N rs_low rs_mid rs_high n x1 x2 = some z_r → ∀ (H : Heap) (locs : List Loc) (ls : Array Slot), DB D A (wd_rs_pa a b cI cJ cT rs_low rs_mid rs_high pa_lowest pa_steps) s H locs → lv_has ls 3 [(0, .ref (a 47)), (1, .int x1), (2, .int x2)] → W p l e rmX6_leastInputs s m args below meth c H locs 0 0 (ZI below args s D A (tyl cI cJ cT) z_r (wd_rs_pa a b cI cJ cT rs_low rs_mid rs_high pa_lowest pa_steps) 0 0) (F0 m 5 ls []) := by
  have hx := C.1.1
  have hb := C.1.2.1
  have hown := C.1.2.2.2.1
  have hts := C.1.2.2.2.2
  intro n
  induction n with
  | zero => intro x1 x2 h; cases h
  | succ n ih =>
    intro x1 x2 h H locs ls B hl
    rw [bX6_leastInputs_5] at h
    refine lv_iload_n hx hb dX6_leastInputs_5 rfl (lv_at hl 2 rfl) ?_
    refine lv_sipush (v := 512) hx hb dX6_leastInputs_6 (by decide) ?_
    refine lv_icmp_ge (tgt := 45) hx hb dX6_leastInputs_9 (by decide) (fun c_1 => ?_) (fun c_1 => ?_)
    · rw [if_pos c_1] at h
      refine lv_iload_n hx hb dX6_leastInputs_45 rfl (lv_at hl 1 rfl) ?_
      cases h
      exact k_iret C B dX6_leastInputs_46
    · rw [if_neg c_1] at h
      refine lv_aload_n hx hb dX6_leastInputs_12 rfl (lv_at hl 0 rfl) ?_
      refine lv_iload_n hx hb dX6_leastInputs_13 rfl (lv_at hl 2 rfl) ?_
      obtain ⟨r_2, g_10, h⟩ := ob_some h
      try dsimp only at h
      refine kc_VI C B (q0 := 4) (ci := 6) (As := [.int x2]) (rest := []) (w2 := (wd_rs_pa a b cI cJ cT rs_low rs_mid rs_high pa_lowest pa_steps)) (tX6_isAt (a := a) (b := b) N g_10) gX6_leastInputs_X6_isAt rfl ⟨rfl, rfl⟩ ⟨rfl, hdX6_isAt⟩ ⟨Nat.le_of_ble_eq_true rfl, Nat.le_of_ble_eq_true rfl⟩ rfl rfl [0, 1, 2, 3, 4] [] [0, 1, 2, 3, 4] rfl rfl rfl rfl rfl rfl rfl rfl hl.1 rfl (Nat.le_of_ble_eq_true rfl) ⟨Nat.zero_le _, Nat.zero_le _⟩ dX6_leastInputs_14 (fun H locs B => ?_)
      refine lv_if_eq (tgt := 39) hx hb dX6_leastInputs_17 (by decide) (fun c_3 => ?_) (fun c_3 => ?_)
      · rw [if_pos c_3] at h
        refine lv_iinc (v := (x2 + 1)) (lv' := [(2, .int (x2 + 1)), (0, .ref (a 47)), (1, .int x1)]) hx hb dX6_leastInputs_39 hl (k := 2) rfl rfl (by decide) rfl (fun ls hl => ?_)
        refine lv_goto (tgt := 5) hx hb dX6_leastInputs_42 (by decide) ?_
        exact ih x1 (x2 + 1) h H locs ls B (lv_sub hl [1, 2, 0] rfl)
      · rw [if_neg c_3] at h
        refine lv_iload_n hx hb dX6_leastInputs_20 rfl (lv_at hl 1 rfl) ?_
        refine lv_bipush (v := -6) hx hb dX6_leastInputs_21 (by decide) ?_
        refine lv_icmp_eq (tgt := 37) hx hb dX6_leastInputs_23 (by decide) (fun c_4 => ?_) (fun c_4 => ?_)
        · rw [if_pos c_4] at h
          refine lv_iload_n hx hb dX6_leastInputs_37 rfl (lv_at hl 2 rfl) ?_
          refine lv_istore_n (lv' := [(1, .int x2), (0, .ref (a 47)), (2, .int x2)]) hx hb dX6_leastInputs_38 rfl hl (by decide) rfl (fun ls hl => ?_)
          refine lv_iinc (v := (x2 + 1)) (lv' := [(2, .int (x2 + 1)), (1, .int x2), (0, .ref (a 47))]) hx hb dX6_leastInputs_39 hl (k := 2) rfl rfl (by decide) rfl (fun ls hl => ?_)
          refine lv_goto (tgt := 5) hx hb dX6_leastInputs_42 (by decide) ?_
          exact ih x2 (x2 + 1) h H locs ls B (lv_sub hl [2, 1, 0] rfl)
        · rw [if_neg c_4] at h
          refine lv_iload_n hx hb dX6_leastInputs_26 rfl (lv_at hl 2 rfl) ?_
          obtain ⟨r_5, g_9, h⟩ := ob_some h
          try dsimp only at h
          refine kc_SI C B (As := [.int x2]) (rest := []) (w2 := (wd_rs_pa a b cI cJ cT rs_low rs_mid rs_high pa_lowest pa_steps)) (tX6_together N g_9) gX6_leastInputs_X6_together rfl ⟨rfl, rfl⟩ hdX6_together ⟨Nat.le_of_ble_eq_true rfl, Nat.le_of_ble_eq_true rfl⟩ [] [0, 1, 2, 3, 4] [0, 1, 2, 3, 4] rfl rfl rfl rfl rfl rfl rfl rfl hl.1 rfl (Nat.le_of_ble_eq_true rfl) ⟨Nat.zero_le _, Nat.zero_le _⟩ dX6_leastInputs_27 (fun H locs B => ?_)
          refine lv_iload_n hx hb dX6_leastInputs_30 rfl (lv_at hl 1 rfl) ?_
          obtain ⟨r_6, g_8, h⟩ := ob_some h
          try dsimp only at h
          refine kc_SI C B (As := [.int x1]) (rest := [.int r_5]) (w2 := (wd_rs_pa a b cI cJ cT rs_low rs_mid rs_high pa_lowest pa_steps)) (tX6_together N g_8) gX6_leastInputs_X6_together rfl ⟨rfl, rfl⟩ hdX6_together ⟨Nat.le_of_ble_eq_true rfl, Nat.le_of_ble_eq_true rfl⟩ [] [0, 1, 2, 3, 4] [0, 1, 2, 3, 4] rfl rfl rfl rfl rfl rfl rfl rfl hl.1 rfl (Nat.le_of_ble_eq_true rfl) ⟨Nat.zero_le _, Nat.zero_le _⟩ dX6_leastInputs_31 (fun H locs B => ?_)
          refine lv_icmp_ge (tgt := 39) hx hb dX6_leastInputs_34 (by decide) (fun c_7 => ?_) (fun c_7 => ?_)
          · rw [if_pos c_7] at h
            refine lv_iinc (v := (x2 + 1)) (lv' := [(2, .int (x2 + 1)), (0, .ref (a 47)), (1, .int x1)]) hx hb dX6_leastInputs_39 hl (k := 2) rfl rfl (by decide) rfl (fun ls hl => ?_)
            refine lv_goto (tgt := 5) hx hb dX6_leastInputs_42 (by decide) ?_
            exact ih x1 (x2 + 1) h H locs ls B (lv_sub hl [1, 2, 0] rfl)
          · rw [if_neg c_7] at h
            refine lv_iload_n hx hb dX6_leastInputs_37 rfl (lv_at hl 2 rfl) ?_
            refine lv_istore_n (lv' := [(1, .int x2), (0, .ref (a 47)), (2, .int x2)]) hx hb dX6_leastInputs_38 rfl hl (by decide) rfl (fun ls hl => ?_)
            refine lv_iinc (v := (x2 + 1)) (lv' := [(2, .int (x2 + 1)), (1, .int x2), (0, .ref (a 47))]) hx hb dX6_leastInputs_39 hl (k := 2) rfl rfl (by decide) rfl (fun ls hl => ?_)
            refine lv_goto (tgt := 5) hx hb dX6_leastInputs_42 (by decide) ?_
            exact ih x2 (x2 + 1) h H locs ls B (lv_sub hl [2, 1, 0] rfl)
set_option maxHeartbeats 4000000 in
set_option maxRecDepth 100000 in
theorem qX6_leastInputs_0 (C : CT p s m args meth c RX6 cX6_leastInputs 3 (some .int) wsX6_leastInputs D A (tyl cI cJ cT) Es) {N : Nat} {rs_low : Nat → Int64} {rs_mid : Nat → Int64} {rs_high : Nat → Int64} {pa_lowest : Int32} {pa_steps : Int32} {z_r : Int32} : fX6_leastInputs N rs_low rs_mid rs_high = some z_r → ∀ (H : Heap) (locs : List Loc) (ls : Array Slot), DB D A (wd_rs_pa a b cI cJ cT rs_low rs_mid rs_high pa_lowest pa_steps) s H locs → lv_has ls 3 [(0, .ref (a 47))] → W p l e rmX6_leastInputs s m args below meth c H locs 0 0 (ZI below args s D A (tyl cI cJ cT) z_r (wd_rs_pa a b cI cJ cT rs_low rs_mid rs_high pa_lowest pa_steps) 0 0) (F0 m 0 ls []) := by
  have hx := C.1.1
  have hb := C.1.2.1
  have hown := C.1.2.2.2.1
  have hts := C.1.2.2.2.2
  intro h H locs ls B hl
  rw [fX6_leastInputs] at h
  refine lv_bipush (v := -6) hx hb dX6_leastInputs_0 (by decide) ?_
  refine lv_istore_n (lv' := [(1, .int (-6 : Int32)), (0, .ref (a 47))]) hx hb dX6_leastInputs_2 rfl hl (by decide) rfl (fun ls hl => ?_)
  refine lv_iconst (v := 0) hx hb dX6_leastInputs_3 (by decide) ?_
  refine lv_istore_n (lv' := [(2, .int (0 : Int32)), (1, .int (-6 : Int32)), (0, .ref (a 47))]) hx hb dX6_leastInputs_4 rfl hl (by decide) rfl (fun ls hl => ?_)
  exact qX6_leastInputs_5 C N (-6 : Int32) (0 : Int32) h H locs ls B (lv_sub hl [2, 1, 0] rfl)
end
theorem tX6_leastInputs {l : Launch} {D : va_G} {Es : (Nat → Nat) × (Nat → Nat)} {a b : Nat → Nat} {cI cJ cT : ClassId} {rs_low : Nat → Int64} {rs_mid : Nat → Int64} {rs_high : Nat → Int64} {pa_lowest : Int32} {pa_steps : Int32} {z_r : Int32} (N : Nat) (h : fX6_leastInputs N rs_low rs_mid rs_high = some z_r) : CtI l yX6_leastInputs wsX6_leastInputs rmX6_leastInputs D (tyl cI cJ cT) Es [.ref (a 47)] (wd_rs_pa a b cI cJ cT rs_low rs_mid rs_high pa_lowest pa_steps) z_r (wd_rs_pa a b cI cJ cT rs_low rs_mid rs_high pa_lowest pa_steps) :=
  CtI.of (own := RX6) (cc := cX6_leastInputs) (nL := 3) (ret := (some .int)) (by decide +kernel) rfl rfl (Nat.le_of_ble_eq_true rfl) rfl (fun p e s m below meth c A ls C B hl => qX6_leastInputs_0 C (N := N) h _ _ _ B hl)

abbrev rmX6_nextDown : Room := { frames := 3, cells := 0, slots := 0, locals := 69 }
theorem hdX6_nextDown : yX6_nextDown.cls ≠ "java/lang/invoke/MethodHandle" ∧ yX6_nextDown.cls ≠ "java/lang/invoke/VarHandle" ∧ (parseMethodDescriptor yX6_nextDown.desc).map (fun d => d.parameters.length) = some 1 := by decide +kernel
section
variable {p : Program} {l : Launch} {e : Env} {s : State} {m : MethodId} {args : Array Value} {below : List Frame} {meth : Method} {c : Code} {D : va_G} {A : Nat → Prop} {Es : (Nat → Nat) × (Nat → Nat)} {a b : Nat → Nat} {cI cJ cT : ClassId}
set_option maxHeartbeats 4000000 in
set_option maxRecDepth 100000 in
theorem qX6_nextDown_9 (C : CT p s m args meth c RX6 cX6_nextDown 5 (some .int) wsX6_nextDown D A (tyl cI cJ cT) Es) {N : Nat} {rs_low : Nat → Int64} {rs_mid : Nat → Int64} {rs_high : Nat → Int64} {pa_lowest : Int32} {pa_steps : Int32} {z_r : Int32} {k2 : Int32 → Int32 → Option (Int32)} (hk2 : ∀ (x1 : Int32) (x2 : Int32), k2 x1 x2 = some z_r → ∀ (H : Heap) (locs : List Loc) (ls : Array Slot), DB D A (wd_rs_pa a b cI cJ cT rs_low rs_mid rs_high pa_lowest pa_steps) s H locs → lv_has ls 5 [(0, .ref (a 47)), (1, .int x1), (2, .int x2)] → W p l e rmX6_nextDown s m args below meth c H locs 0 0 (ZI below args s D A (tyl cI cJ cT) z_r (wd_rs_pa a b cI cJ cT rs_low rs_mid rs_high pa_lowest pa_steps) 0 0) (F0 m 2 ls [])) : ∀ (n : Nat) (x1 : Int32) (x2 : Int32) (x3 : Int32), bX6_nextDown_9 N rs_low rs_mid rs_high k2 n x1 x2 x3 = some z_r → ∀ (H : Heap) (locs : List Loc) (ls : Array Slot), DB D A (wd_rs_pa a b cI cJ cT rs_low rs_mid rs_high pa_lowest pa_steps) s H locs → lv_has ls 5 [(0, .ref (a 47)), (1, .int x1), (2, .int x2), (3, .int x3)] → W p l e rmX6_nextDown s m args below meth c H locs 0 0 (ZI below args s D A (tyl cI cJ cT) z_r (wd_rs_pa a b cI cJ cT rs_low rs_mid rs_high pa_lowest pa_steps) 0 0) (F0 m 9 ls []) := by
  have hx := C.1.1
  have hb := C.1.2.1
  have hown := C.1.2.2.2.1
  have hts := C.1.2.2.2.2
  intro n
  induction n with
  | zero => intro x1 x2 x3 h; cases h
  | succ n ih =>
    intro x1 x2 x3 h H locs ls B hl
    rw [bX6_nextDown_9] at h
    refine lv_iload_n hx hb dX6_nextDown_9 rfl (lv_at hl 3 rfl) ?_
    refine lv_iconst (v := 3) hx hb dX6_nextDown_10 (by decide) ?_
    refine lv_icmp_ge (tgt := 46) hx hb dX6_nextDown_11 (by decide) (fun c_1 => ?_) (fun c_1 => ?_)
    · rw [if_pos c_1] at h
      refine lv_iinc (v := (x2 + 1)) (lv' := [(2, .int (x2 + 1)), (0, .ref (a 47)), (1, .int x1), (3, .int x3)]) hx hb dX6_nextDown_46 hl (k := 2) rfl rfl (by decide) rfl (fun ls hl => ?_)
      refine lv_goto (tgt := 2) hx hb dX6_nextDown_49 (by decide) ?_
      exact hk2 x1 (x2 + 1) h H locs ls B (lv_sub hl [1, 2, 0] rfl)
    · rw [if_neg c_1] at h
      refine lv_iload_n hx hb dX6_nextDown_14 rfl (lv_at hl 1 rfl) ?_
      refine lv_iload_n hx hb dX6_nextDown_15 rfl (lv_at hl 2 rfl) ?_
      refine lv_iload_n hx hb dX6_nextDown_16 rfl (lv_at hl 3 rfl) ?_
      obtain ⟨r_2, g_7, h⟩ := ob_some h
      try dsimp only at h
      refine kc_SI C B (As := [.int x1, .int x2, .int x3]) (rest := []) (w2 := (wd_rs_pa a b cI cJ cT rs_low rs_mid rs_high pa_lowest pa_steps)) (tX6_stepped N g_7) gX6_nextDown_X6_stepped rfl ⟨rfl, rfl⟩ hdX6_stepped ⟨Nat.le_of_ble_eq_true rfl, Nat.le_of_ble_eq_true rfl⟩ [] [0, 1, 2, 3, 4] [0, 1, 2, 3, 4] rfl rfl rfl rfl rfl rfl rfl rfl hl.1 rfl (Nat.le_of_ble_eq_true rfl) ⟨Nat.zero_le _, Nat.zero_le _⟩ dX6_nextDown_17 (fun H locs B => ?_)
      refine lv_istore (lv' := [(4, .int r_2), (0, .ref (a 47)), (1, .int x1), (2, .int x2), (3, .int x3)]) hx hb dX6_nextDown_20 hl (by decide) rfl (fun ls hl => ?_)
      refine lv_iload hx hb dX6_nextDown_22 (lv_at hl 0 rfl) ?_
      refine lv_iload_n hx hb dX6_nextDown_24 rfl (lv_at hl 2 rfl) ?_
      refine lv_icmp_eq (tgt := 40) hx hb dX6_nextDown_25 (by decide) (fun c_3 => ?_) (fun c_3 => ?_)
      · rw [if_pos c_3] at h
        refine lv_iinc (v := (x3 + 1)) (lv' := [(3, .int (x3 + 1)), (4, .int r_2), (0, .ref (a 47)), (1, .int x1), (2, .int x2)]) hx hb dX6_nextDown_40 hl (k := 4) rfl rfl (by decide) rfl (fun ls hl => ?_)
        refine lv_goto (tgt := 9) hx hb dX6_nextDown_43 (by decide) ?_
        exact ih x1 x2 (x3 + 1) h H locs ls B (lv_sub hl [2, 3, 4, 0] rfl)
      · rw [if_neg c_3] at h
        refine lv_aload_n hx hb dX6_nextDown_28 rfl (lv_at hl 1 rfl) ?_
        refine lv_iload hx hb dX6_nextDown_29 (lv_at hl 0 rfl) ?_
        obtain ⟨r_4, g_6, h⟩ := ob_some h
        try dsimp only at h
        refine kc_VI C B (q0 := 4) (ci := 6) (As := [.int r_2]) (rest := []) (w2 := (wd_rs_pa a b cI cJ cT rs_low rs_mid rs_high pa_lowest pa_steps)) (tX6_isAt (a := a) (b := b) N g_6) gX6_nextDown_X6_isAt rfl ⟨rfl, rfl⟩ ⟨rfl, hdX6_isAt⟩ ⟨Nat.le_of_ble_eq_true rfl, Nat.le_of_ble_eq_true rfl⟩ rfl rfl [0, 1, 2, 3, 4] [] [0, 1, 2, 3, 4] rfl rfl rfl rfl rfl rfl rfl rfl hl.1 rfl (Nat.le_of_ble_eq_true rfl) ⟨Nat.zero_le _, Nat.zero_le _⟩ dX6_nextDown_31 (fun H locs B => ?_)
        refine lv_if_eq (tgt := 40) hx hb dX6_nextDown_34 (by decide) (fun c_5 => ?_) (fun c_5 => ?_)
        · rw [if_pos c_5] at h
          refine lv_iinc (v := (x3 + 1)) (lv' := [(3, .int (x3 + 1)), (4, .int r_2), (0, .ref (a 47)), (1, .int x1), (2, .int x2)]) hx hb dX6_nextDown_40 hl (k := 4) rfl rfl (by decide) rfl (fun ls hl => ?_)
          refine lv_goto (tgt := 9) hx hb dX6_nextDown_43 (by decide) ?_
          exact ih x1 x2 (x3 + 1) h H locs ls B (lv_sub hl [2, 3, 4, 0] rfl)
        · rw [if_neg c_5] at h
          refine lv_iload hx hb dX6_nextDown_37 (lv_at hl 0 rfl) ?_
          cases h
          exact k_iret C B dX6_nextDown_39
set_option maxHeartbeats 4000000 in
set_option maxRecDepth 100000 in
theorem qX6_nextDown_2 (C : CT p s m args meth c RX6 cX6_nextDown 5 (some .int) wsX6_nextDown D A (tyl cI cJ cT) Es) {N : Nat} {rs_low : Nat → Int64} {rs_mid : Nat → Int64} {rs_high : Nat → Int64} {pa_lowest : Int32} {pa_steps : Int32} {z_r : Int32} : ∀ (n : Nat) (x1 : Int32) (x2 : Int32), bX6_nextDown_2 N rs_low rs_mid rs_high n x1 x2 = some z_r → ∀ (H : Heap) (locs : List Loc) (ls : Array Slot), DB D A (wd_rs_pa a b cI cJ cT rs_low rs_mid rs_high pa_lowest pa_steps) s H locs → lv_has ls 5 [(0, .ref (a 47)), (1, .int x1), (2, .int x2)] → W p l e rmX6_nextDown s m args below meth c H locs 0 0 (ZI below args s D A (tyl cI cJ cT) z_r (wd_rs_pa a b cI cJ cT rs_low rs_mid rs_high pa_lowest pa_steps) 0 0) (F0 m 2 ls []) := by
  have hx := C.1.1
  have hb := C.1.2.1
  have hown := C.1.2.2.2.1
  have hts := C.1.2.2.2.2
  intro n
  induction n with
  | zero => intro x1 x2 h; cases h
  | succ n ih =>
    intro x1 x2 h H locs ls B hl
    rw [bX6_nextDown_2] at h
    refine lv_iload_n hx hb dX6_nextDown_2 rfl (lv_at hl 2 rfl) ?_
    refine lv_iconst (v := 3) hx hb dX6_nextDown_3 (by decide) ?_
    refine lv_icmp_ge (tgt := 52) hx hb dX6_nextDown_4 (by decide) (fun c_1 => ?_) (fun c_1 => ?_)
    · rw [if_pos c_1] at h
      refine lv_iload_n hx hb dX6_nextDown_52 rfl (lv_at hl 1 rfl) ?_
      cases h
      exact k_iret C B dX6_nextDown_53
    · rw [if_neg c_1] at h
      refine lv_iconst (v := 0) hx hb dX6_nextDown_7 (by decide) ?_
      refine lv_istore_n (lv' := [(3, .int (0 : Int32)), (0, .ref (a 47)), (1, .int x1), (2, .int x2)]) hx hb dX6_nextDown_8 rfl hl (by decide) rfl (fun ls hl => ?_)
      exact qX6_nextDown_9 C ih N x1 x2 (0 : Int32) h H locs ls B (lv_sub hl [1, 2, 3, 0] rfl)
set_option maxHeartbeats 4000000 in
set_option maxRecDepth 100000 in
theorem qX6_nextDown_0 (C : CT p s m args meth c RX6 cX6_nextDown 5 (some .int) wsX6_nextDown D A (tyl cI cJ cT) Es) {N : Nat} {rs_low : Nat → Int64} {rs_mid : Nat → Int64} {rs_high : Nat → Int64} {pa_lowest : Int32} {pa_steps : Int32} {z_r : Int32} : ∀ (x1 : Int32), fX6_nextDown N rs_low rs_mid rs_high x1 = some z_r → ∀ (H : Heap) (locs : List Loc) (ls : Array Slot), DB D A (wd_rs_pa a b cI cJ cT rs_low rs_mid rs_high pa_lowest pa_steps) s H locs → lv_has ls 5 [(0, .ref (a 47)), (1, .int x1)] → W p l e rmX6_nextDown s m args below meth c H locs 0 0 (ZI below args s D A (tyl cI cJ cT) z_r (wd_rs_pa a b cI cJ cT rs_low rs_mid rs_high pa_lowest pa_steps) 0 0) (F0 m 0 ls []) := by
  have hx := C.1.1
  have hb := C.1.2.1
  have hown := C.1.2.2.2.1
  have hts := C.1.2.2.2.2
  intro x1 h H locs ls B hl
  rw [fX6_nextDown] at h
  refine lv_iconst (v := 0) hx hb dX6_nextDown_0 (by decide) ?_
  refine lv_istore_n (lv' := [(2, .int (0 : Int32)), (0, .ref (a 47)), (1, .int x1)]) hx hb dX6_nextDown_1 rfl hl (by decide) rfl (fun ls hl => ?_)
  exact qX6_nextDown_2 C N x1 (0 : Int32) h H locs ls B (lv_sub hl [1, 2, 0] rfl)
end
theorem tX6_nextDown {l : Launch} {D : va_G} {Es : (Nat → Nat) × (Nat → Nat)} {a b : Nat → Nat} {cI cJ cT : ClassId} {rs_low : Nat → Int64} {rs_mid : Nat → Int64} {rs_high : Nat → Int64} {pa_lowest : Int32} {pa_steps : Int32} {x1 : Int32} {z_r : Int32} (N : Nat) (h : fX6_nextDown N rs_low rs_mid rs_high x1 = some z_r) : CtI l yX6_nextDown wsX6_nextDown rmX6_nextDown D (tyl cI cJ cT) Es [.ref (a 47), .int x1] (wd_rs_pa a b cI cJ cT rs_low rs_mid rs_high pa_lowest pa_steps) z_r (wd_rs_pa a b cI cJ cT rs_low rs_mid rs_high pa_lowest pa_steps) :=
  CtI.of (own := RX6) (cc := cX6_nextDown) (nL := 5) (ret := (some .int)) (by decide +kernel) rfl rfl (Nat.le_of_ble_eq_true rfl) rfl (fun p e s m below meth c A ls C B hl => qX6_nextDown_0 C (N := N) x1 h _ _ _ B hl)

abbrev rmX6_goDown : Room := { frames := 4, cells := 0, slots := 0, locals := 93 }
theorem hdX6_goDown : yX6_goDown.cls ≠ "java/lang/invoke/MethodHandle" ∧ yX6_goDown.cls ≠ "java/lang/invoke/VarHandle" ∧ (parseMethodDescriptor yX6_goDown.desc).map (fun d => d.parameters.length) = some 1 := by decide +kernel
theorem iX6_goDown_X6 : ∀ w ∈ wsX60, w ∈ wsX6_goDown := by decide +kernel
theorem gfX6_goDown_9 {p : Program} {l : Launch} {e : Env} {R : Room} {s : State} {m : MethodId} {args : Array Value} {below : List Frame} {meth : Method} {c : Code} {H : Heap} {locs : List Loc} {cells slots : Nat} {Q : State → Prop} {D : va_G} {A : Nat → Prop} {tys : List (ClassId × FieldType)} {Es : (Nat → Nat) × (Nat → Nat)} {ws : va_W} {pc : Nat} {ls : Array Slot} {rest : List Value} {a : Nat} (C : CT p s m args meth c RX6 cX6_goDown 4 none wsX6_goDown D A tys Es) (B : DB D A ws s H locs) (q0 : Nat) {fs : List Value} {v : Value} (he : ws[q0]? = some (a, .inr (6, fs))) (hv : fs[0]? = some v) (hdg : decode cX6_goDown pc = .ok (.getfield 9, 3)) (kk : W p l e R s m args below meth c H locs cells slots Q (F0 m (pc + 3) ls (v :: rest))) : W p l e R s m args below meth c H locs cells slots Q (F0 m pc ls (.ref a :: rest)) :=
  k_get (Cn := RX6) (T := TX6) (N := 3) (index := 9) C B iX6_goDown_X6 rfl 0 (by decide) (by decide +kernel) q0 he hv hdg kk
theorem gfX6_goDown_15 {p : Program} {l : Launch} {e : Env} {R : Room} {s : State} {m : MethodId} {args : Array Value} {below : List Frame} {meth : Method} {c : Code} {H : Heap} {locs : List Loc} {cells slots : Nat} {Q : State → Prop} {D : va_G} {A : Nat → Prop} {tys : List (ClassId × FieldType)} {Es : (Nat → Nat) × (Nat → Nat)} {ws : va_W} {pc : Nat} {ls : Array Slot} {rest : List Value} {a : Nat} (C : CT p s m args meth c RX6 cX6_goDown 4 none wsX6_goDown D A tys Es) (B : DB D A ws s H locs) (q0 : Nat) {fs : List Value} {v : Value} (he : ws[q0]? = some (a, .inr (6, fs))) (hv : fs[1]? = some v) (hdg : decode cX6_goDown pc = .ok (.getfield 15, 3)) (kk : W p l e R s m args below meth c H locs cells slots Q (F0 m (pc + 3) ls (v :: rest))) : W p l e R s m args below meth c H locs cells slots Q (F0 m pc ls (.ref a :: rest)) :=
  k_get (Cn := RX6) (T := TX6) (N := 3) (index := 15) C B iX6_goDown_X6 rfl 1 (by decide) (by decide +kernel) q0 he hv hdg kk
theorem pfX6_goDown_15 {p : Program} {l : Launch} {e : Env} {R : Room} {s : State} {m : MethodId} {args : Array Value} {below : List Frame} {meth : Method} {c : Code} {H : Heap} {locs : List Loc} {cells slots : Nat} {Q : State → Prop} {D : va_G} {A : Nat → Prop} {tys : List (ClassId × FieldType)} {Es : (Nat → Nat) × (Nat → Nat)} {ws : va_W} {pc : Nat} {ls : Array Slot} {rest : List Value} {a : Nat} (C : CT p s m args meth c RX6 cX6_goDown 4 none wsX6_goDown D A tys Es) (B : DB D A ws s H locs) (q0 : Nat) {fs : List Value} {v : Value} (hn : narrow .int v = v) (hfit : fits .int v = true) (he : ws[q0]? = some (a, .inr (6, fs))) (hl : 1 < fs.length) (hdg : decode cX6_goDown pc = .ok (.putfield 15, 3)) (kk : ∀ (H1 : Heap) (locs1 : List Loc), DB D A (ws.set q0 (a, .inr (6, fs.set 1 v))) s H1 locs1 → W p l e R s m args below meth c H1 locs1 cells slots Q (F0 m (pc + 3) ls rest)) : W p l e R s m args below meth c H locs cells slots Q (F0 m pc ls (v :: .ref a :: rest)) :=
  k_put (Cn := RX6) (T := TX6) (N := 3) (index := 15) C B iX6_goDown_X6 rfl tyX6 tyX6_ok nmX6 1 (by decide) (by decide +kernel) rfl q0 (by decide +kernel) hn hfit he hl hdg kk
theorem pfX6_goDown_9 {p : Program} {l : Launch} {e : Env} {R : Room} {s : State} {m : MethodId} {args : Array Value} {below : List Frame} {meth : Method} {c : Code} {H : Heap} {locs : List Loc} {cells slots : Nat} {Q : State → Prop} {D : va_G} {A : Nat → Prop} {tys : List (ClassId × FieldType)} {Es : (Nat → Nat) × (Nat → Nat)} {ws : va_W} {pc : Nat} {ls : Array Slot} {rest : List Value} {a : Nat} (C : CT p s m args meth c RX6 cX6_goDown 4 none wsX6_goDown D A tys Es) (B : DB D A ws s H locs) (q0 : Nat) {fs : List Value} {v : Value} (hn : narrow .int v = v) (hfit : fits .int v = true) (he : ws[q0]? = some (a, .inr (6, fs))) (hl : 0 < fs.length) (hdg : decode cX6_goDown pc = .ok (.putfield 9, 3)) (kk : ∀ (H1 : Heap) (locs1 : List Loc), DB D A (ws.set q0 (a, .inr (6, fs.set 0 v))) s H1 locs1 → W p l e R s m args below meth c H1 locs1 cells slots Q (F0 m (pc + 3) ls rest)) : W p l e R s m args below meth c H locs cells slots Q (F0 m pc ls (v :: .ref a :: rest)) :=
  k_put (Cn := RX6) (T := TX6) (N := 3) (index := 9) C B iX6_goDown_X6 rfl tyX6 tyX6_ok nmX6 0 (by decide) (by decide +kernel) rfl q0 (by decide +kernel) hn hfit he hl hdg kk
section
variable {p : Program} {l : Launch} {e : Env} {s : State} {m : MethodId} {args : Array Value} {below : List Frame} {meth : Method} {c : Code} {D : va_G} {A : Nat → Prop} {Es : (Nat → Nat) × (Nat → Nat)} {a b : Nat → Nat} {cI cJ cT : ClassId}
set_option maxHeartbeats 4000000 in
set_option maxRecDepth 100000 in
theorem qX6_goDown_12 (C : CT p s m args meth c RX6 cX6_goDown 4 none wsX6_goDown D A (tyl cI cJ cT) Es) {N : Nat} {rs_low : Nat → Int64} {rs_mid : Nat → Int64} {rs_high : Nat → Int64} {z_pa_lowest : Int32} {z_pa_steps : Int32} : ∀ (n : Nat) (x2 : Int32) (pa_lowest : Int32) (pa_steps : Int32), bX6_goDown_12 N rs_low rs_mid rs_high n x2 pa_lowest pa_steps = some (z_pa_lowest, z_pa_steps) → ∀ (H : Heap) (locs : List Loc) (ls : Array Slot), DB D A (wd_rs_pa a b cI cJ cT rs_low rs_mid rs_high pa_lowest pa_steps) s H locs → lv_has ls 4 [(0, .ref (a 47)), (2, .int x2)] → W p l e rmX6_goDown s m args below meth c H locs 0 0 (ZV below args s D A (tyl cI cJ cT) (wd_rs_pa a b cI cJ cT rs_low rs_mid rs_high z_pa_lowest z_pa_steps) 0 0) (F0 m 12 ls []) := by
  have hx := C.1.1
  have hb := C.1.2.1
  have hown := C.1.2.2.2.1
  have hts := C.1.2.2.2.2
  intro n
  induction n with
  | zero => intro x2 pa_lowest pa_steps h; cases h
  | succ n ih =>
    intro x2 pa_lowest pa_steps h H locs ls B hl
    rw [bX6_goDown_12] at h
    refine lv_iload_n hx hb dX6_goDown_12 rfl (lv_at hl 1 rfl) ?_
    refine lv_sipush (v := 512) hx hb dX6_goDown_13 (by decide) ?_
    refine lv_icmp_ge (tgt := 58) hx hb dX6_goDown_16 (by decide) (fun c_1 => ?_) (fun c_1 => ?_)
    · rw [if_pos c_1] at h
      cases h
      exact k_vret C B dX6_goDown_58
    · rw [if_neg c_1] at h
      refine lv_aload_n hx hb dX6_goDown_19 rfl (lv_at hl 0 rfl) ?_
      refine lv_aload_n hx hb dX6_goDown_20 rfl (lv_at hl 0 rfl) ?_
      refine gfX6_goDown_9 C B 4 rfl rfl dX6_goDown_21 ?_
      obtain ⟨r_2, g_4, h⟩ := ob_some h
      try dsimp only at h
      refine kc_VI C B (q0 := 4) (ci := 6) (As := [.int pa_lowest]) (rest := []) (w2 := (wd_rs_pa a b cI cJ cT rs_low rs_mid rs_high pa_lowest pa_steps)) (tX6_nextDown (a := a) (b := b) N g_4) gX6_goDown_X6_nextDown rfl ⟨rfl, rfl⟩ ⟨rfl, hdX6_nextDown⟩ ⟨Nat.le_of_ble_eq_true rfl, Nat.le_of_ble_eq_true rfl⟩ rfl rfl [0, 1, 2, 3, 4] [] [0, 1, 2, 3, 4] rfl rfl rfl rfl rfl rfl rfl rfl hl.1 rfl (Nat.le_of_ble_eq_true rfl) ⟨Nat.zero_le _, Nat.zero_le _⟩ dX6_goDown_24 (fun H locs B => ?_)
      refine lv_istore_n (lv' := [(3, .int r_2), (0, .ref (a 47)), (2, .int x2)]) hx hb dX6_goDown_27 rfl hl (by decide) rfl (fun ls hl => ?_)
      refine lv_iload_n hx hb dX6_goDown_28 rfl (lv_at hl 0 rfl) ?_
      refine lv_aload_n hx hb dX6_goDown_29 rfl (lv_at hl 1 rfl) ?_
      refine gfX6_goDown_9 C B 4 rfl rfl dX6_goDown_30 ?_
      refine lv_icmp_ne (tgt := 37) hx hb dX6_goDown_33 (by decide) (fun c_3 => ?_) (fun c_3 => ?_)
      · rw [if_neg c_3] at h
        refine lv_aload_n hx hb dX6_goDown_37 rfl (lv_at hl 1 rfl) ?_
        refine lv_iload_n hx hb dX6_goDown_38 rfl (lv_at hl 0 rfl) ?_
        refine pfX6_goDown_9 C B 4 rfl (by rfl) rfl (Nat.le_of_ble_eq_true rfl) dX6_goDown_39 (fun H locs B => ?_)
        have B : DB D A (wd_rs_pa a b cI cJ cT rs_low rs_mid rs_high r_2 pa_steps) s H locs := B
        refine lv_aload_n hx hb dX6_goDown_42 rfl (lv_at hl 1 rfl) ?_
        refine lv_dup hx hb dX6_goDown_43 rfl ?_
        refine gfX6_goDown_15 C B 4 rfl rfl dX6_goDown_44 ?_
        refine lv_iconst (v := 1) hx hb dX6_goDown_47 (by decide) ?_
        refine lv_iadd hx hb dX6_goDown_48 ?_
        refine pfX6_goDown_15 C B 4 rfl (by rfl) rfl (Nat.le_of_ble_eq_true rfl) dX6_goDown_49 (fun H locs B => ?_)
        have B : DB D A (wd_rs_pa a b cI cJ cT rs_low rs_mid rs_high r_2 (pa_steps + (1 : Int32))) s H locs := B
        refine lv_iinc (v := (x2 + 1)) (lv' := [(2, .int (x2 + 1)), (3, .int r_2), (0, .ref (a 47))]) hx hb dX6_goDown_52 hl (k := 2) rfl rfl (by decide) rfl (fun ls hl => ?_)
        refine lv_goto (tgt := 12) hx hb dX6_goDown_55 (by decide) ?_
        exact ih (x2 + 1) r_2 (pa_steps + (1 : Int32)) h H locs ls B (lv_sub hl [2, 0] rfl)
      · rw [if_pos c_3] at h
        cases h
        exact k_vret C B dX6_goDown_36
set_option maxHeartbeats 4000000 in
set_option maxRecDepth 100000 in
theorem qX6_goDown_0 (C : CT p s m args meth c RX6 cX6_goDown 4 none wsX6_goDown D A (tyl cI cJ cT) Es) {N : Nat} {rs_low : Nat → Int64} {rs_mid : Nat → Int64} {rs_high : Nat → Int64} {z_pa_lowest : Int32} {z_pa_steps : Int32} : ∀ (x1 : Int32) (pa_lowest : Int32) (pa_steps : Int32), fX6_goDown N rs_low rs_mid rs_high x1 pa_lowest pa_steps = some (z_pa_lowest, z_pa_steps) → ∀ (H : Heap) (locs : List Loc) (ls : Array Slot), DB D A (wd_rs_pa a b cI cJ cT rs_low rs_mid rs_high pa_lowest pa_steps) s H locs → lv_has ls 4 [(0, .ref (a 47)), (1, .int x1)] → W p l e rmX6_goDown s m args below meth c H locs 0 0 (ZV below args s D A (tyl cI cJ cT) (wd_rs_pa a b cI cJ cT rs_low rs_mid rs_high z_pa_lowest z_pa_steps) 0 0) (F0 m 0 ls []) := by
  have hx := C.1.1
  have hb := C.1.2.1
  have hown := C.1.2.2.2.1
  have hts := C.1.2.2.2.2
  intro x1 pa_lowest pa_steps h H locs ls B hl
  rw [fX6_goDown] at h
  refine lv_aload_n hx hb dX6_goDown_0 rfl (lv_at hl 0 rfl) ?_
  refine lv_iload_n hx hb dX6_goDown_1 rfl (lv_at hl 1 rfl) ?_
  refine pfX6_goDown_9 C B 4 rfl (by rfl) rfl (Nat.le_of_ble_eq_true rfl) dX6_goDown_2 (fun H locs B => ?_)
  have B : DB D A (wd_rs_pa a b cI cJ cT rs_low rs_mid rs_high x1 pa_steps) s H locs := B
  refine lv_aload_n hx hb dX6_goDown_5 rfl (lv_at hl 0 rfl) ?_
  refine lv_iconst (v := 0) hx hb dX6_goDown_6 (by decide) ?_
  refine pfX6_goDown_15 C B 4 rfl (by rfl) rfl (Nat.le_of_ble_eq_true rfl) dX6_goDown_7 (fun H locs B => ?_)
  have B : DB D A (wd_rs_pa a b cI cJ cT rs_low rs_mid rs_high x1 (0 : Int32)) s H locs := B
  refine lv_iconst (v := 0) hx hb dX6_goDown_10 (by decide) ?_
  refine lv_istore_n (lv' := [(2, .int (0 : Int32)), (0, .ref (a 47)), (1, .int x1)]) hx hb dX6_goDown_11 rfl hl (by decide) rfl (fun ls hl => ?_)
  exact qX6_goDown_12 C N (0 : Int32) x1 (0 : Int32) h H locs ls B (lv_sub hl [1, 0] rfl)
end
theorem tX6_goDown {l : Launch} {D : va_G} {Es : (Nat → Nat) × (Nat → Nat)} {a b : Nat → Nat} {cI cJ cT : ClassId} {rs_low : Nat → Int64} {rs_mid : Nat → Int64} {rs_high : Nat → Int64} {pa_lowest : Int32} {pa_steps : Int32} {x1 : Int32} {z_pa_lowest : Int32} {z_pa_steps : Int32} (N : Nat) (h : fX6_goDown N rs_low rs_mid rs_high x1 pa_lowest pa_steps = some (z_pa_lowest, z_pa_steps)) : CtV l yX6_goDown wsX6_goDown rmX6_goDown D (tyl cI cJ cT) Es [.ref (a 47), .int x1] (wd_rs_pa a b cI cJ cT rs_low rs_mid rs_high pa_lowest pa_steps) (wd_rs_pa a b cI cJ cT rs_low rs_mid rs_high z_pa_lowest z_pa_steps) :=
  CtV.of (own := RX6) (cc := cX6_goDown) (nL := 4) (ret := none) (by decide +kernel) rfl rfl (Nat.le_of_ble_eq_true rfl) rfl (fun p e s m below meth c A ls C B hl => qX6_goDown_0 C (N := N) x1 pa_lowest pa_steps h _ _ _ B hl)
