abbrev rmX9_partOf : Room := { frames := 0, cells := 0, slots := 0, locals := 0 }
theorem hdX9_partOf : yX9_partOf.cls ≠ "java/lang/invoke/MethodHandle" ∧ yX9_partOf.cls ≠ "java/lang/invoke/VarHandle" ∧ (parseMethodDescriptor yX9_partOf.desc).map (fun d => d.parameters.length) = some 2 := by decide +kernel
theorem iX9_partOf_X9 : ∀ w ∈ wsX90, w ∈ wsX9_partOf := by decide +kernel
theorem gfX9_partOf_27 {p : Program} {l : Launch} {e : Env} {R : Room} {s : State} {m : MethodId} {args : Array Value} {below : List Frame} {meth : Method} {c : Code} {H : Heap} {locs : List Loc} {cells slots : Nat} {Q : State → Prop} {D : va_G} {A : Nat → Prop} {tys : List (ClassId × FieldType)} {Es : (Nat → Nat) × (Nat → Nat)} {ws : va_W} {pc : Nat} {ls : Array Slot} {rest : List Value} {a : Nat} (C : CT p s m args meth c RX9 cX9_partOf 3 (some .int) wsX9_partOf D A tys Es) (B : DB D A ws s H locs) (q0 : Nat) {fs : List Value} {v : Value} (he : ws[q0]? = some (a, .inr (9, fs))) (hv : fs[5]? = some v) (hdg : decode cX9_partOf pc = .ok (.getfield 27, 3)) (kk : W p l e R s m args below meth c H locs cells slots Q (F0 m (pc + 3) ls (v :: rest))) : W p l e R s m args below meth c H locs cells slots Q (F0 m pc ls (.ref a :: rest)) :=
  k_get (Cn := RX9) (T := TX9) (N := 7) (index := 27) C B iX9_partOf_X9 rfl 5 (by decide) (by decide +kernel) q0 he hv hdg kk
section
variable {p : Program} {l : Launch} {e : Env} {s : State} {m : MethodId} {args : Array Value} {below : List Frame} {meth : Method} {c : Code} {D : va_G} {A : Nat → Prop} {Es : (Nat → Nat) × (Nat → Nat)} {a b : Nat → Nat} {cI cJ cT : ClassId}
set_option maxHeartbeats 4000000 in
set_option maxRecDepth 100000 in
theorem qX9_partOf_0 (C : CT p s m args meth c RX9 cX9_partOf 3 (some .int) wsX9_partOf D A (tyl cI cJ cT) Es) {N : Nat} {tx_signs : Nat → Int32} {tx_wanted : Nat → Int32} {tx_owners : Nat → Int32} {tx_places : Nat → Int32} {tx_spans : Nat → Int32} {tx_partNodes : Nat → Int32} {tx_count : Int32} {z_r : Int32} : ∀ (x1 : Int32) (x2 : Int32), fX9_partOf N tx_partNodes x1 x2 = some z_r → ∀ (H : Heap) (locs : List Loc) (ls : Array Slot), DB D A (wd_tx a b cI cJ cT tx_signs tx_wanted tx_owners tx_places tx_spans tx_partNodes tx_count) s H locs → lv_has ls 3 [(0, .ref (b 0)), (1, .int x1), (2, .int x2)] → W p l e rmX9_partOf s m args below meth c H locs 0 0 (ZI below args s D A (tyl cI cJ cT) z_r (wd_tx a b cI cJ cT tx_signs tx_wanted tx_owners tx_places tx_spans tx_partNodes tx_count) 0 0) (F0 m 0 ls []) := by
  have hx := C.1.1
  have hb := C.1.2.1
  have hown := C.1.2.2.2.1
  have hts := C.1.2.2.2.2
  intro x1 x2 h H locs ls B hl
  rw [fX9_partOf] at h
  refine lv_aload_n hx hb dX9_partOf_0 rfl (lv_at hl 0 rfl) ?_
  refine gfX9_partOf_27 C B 0 rfl rfl dX9_partOf_1 ?_
  refine lv_iconst (v := 4) hx hb dX9_partOf_4 (by decide) ?_
  refine lv_iload_n hx hb dX9_partOf_5 rfl (lv_at hl 1 rfl) ?_
  refine lv_imul hx hb dX9_partOf_6 ?_
  refine lv_iload_n hx hb dX9_partOf_7 rfl (lv_at hl 2 rfl) ?_
  refine lv_iadd hx hb dX9_partOf_8 ?_
  obtain ⟨b_1, h⟩ := bnd_some h
  refine k_iald C B 6 0 rfl rfl b_1 dX9_partOf_9 ?_
  cases h
  exact k_iret C B dX9_partOf_10
end
theorem tX9_partOf {l : Launch} {D : va_G} {Es : (Nat → Nat) × (Nat → Nat)} {a b : Nat → Nat} {cI cJ cT : ClassId} {tx_signs : Nat → Int32} {tx_wanted : Nat → Int32} {tx_owners : Nat → Int32} {tx_places : Nat → Int32} {tx_spans : Nat → Int32} {tx_partNodes : Nat → Int32} {tx_count : Int32} {x1 : Int32} {x2 : Int32} {z_r : Int32} (N : Nat) (h : fX9_partOf N tx_partNodes x1 x2 = some z_r) : CtI l yX9_partOf wsX9_partOf rmX9_partOf D (tyl cI cJ cT) Es [.ref (b 0), .int x1, .int x2] (wd_tx a b cI cJ cT tx_signs tx_wanted tx_owners tx_places tx_spans tx_partNodes tx_count) z_r (wd_tx a b cI cJ cT tx_signs tx_wanted tx_owners tx_places tx_spans tx_partNodes tx_count) :=
  CtI.of (own := RX9) (cc := cX9_partOf) (nL := 3) (ret := (some .int)) (by decide +kernel) rfl rfl (Nat.le_of_ble_eq_true rfl) rfl (fun p e s m below meth c A ls C B hl => qX9_partOf_0 C (N := N) x1 x2 h _ _ _ B hl)

abbrev rmX5_deepestLack : Room := { frames := 0, cells := 0, slots := 0, locals := 0 }
theorem hdX5_deepestLack : yX5_deepestLack.cls ≠ "java/lang/invoke/MethodHandle" ∧ yX5_deepestLack.cls ≠ "java/lang/invoke/VarHandle" ∧ (parseMethodDescriptor yX5_deepestLack.desc).map (fun d => d.parameters.length) = some 1 := by decide +kernel
theorem iX5_deepestLack_X5 : ∀ w ∈ wsX50, w ∈ wsX5_deepestLack := by decide +kernel
theorem gfX5_deepestLack_19 {p : Program} {l : Launch} {e : Env} {R : Room} {s : State} {m : MethodId} {args : Array Value} {below : List Frame} {meth : Method} {c : Code} {H : Heap} {locs : List Loc} {cells slots : Nat} {Q : State → Prop} {D : va_G} {A : Nat → Prop} {tys : List (ClassId × FieldType)} {Es : (Nat → Nat) × (Nat → Nat)} {ws : va_W} {pc : Nat} {ls : Array Slot} {rest : List Value} {a : Nat} (C : CT p s m args meth c RX5 cX5_deepestLack 3 (some .int) wsX5_deepestLack D A tys Es) (B : DB D A ws s H locs) (q0 : Nat) {fs : List Value} {v : Value} (he : ws[q0]? = some (a, .inr (5, fs))) (hv : fs[2]? = some v) (hdg : decode cX5_deepestLack pc = .ok (.getfield 19, 3)) (kk : W p l e R s m args below meth c H locs cells slots Q (F0 m (pc + 3) ls (v :: rest))) : W p l e R s m args below meth c H locs cells slots Q (F0 m pc ls (.ref a :: rest)) :=
  k_get (Cn := RX5) (T := TX5) (N := 3) (index := 19) C B iX5_deepestLack_X5 rfl 2 (by decide) (by decide +kernel) q0 he hv hdg kk
section
variable {p : Program} {l : Launch} {e : Env} {s : State} {m : MethodId} {args : Array Value} {below : List Frame} {meth : Method} {c : Code} {D : va_G} {A : Nat → Prop} {Es : (Nat → Nat) × (Nat → Nat)} {a b : Nat → Nat} {cI cJ cT : ClassId}
set_option maxHeartbeats 4000000 in
set_option maxRecDepth 100000 in
theorem qX5_deepestLack_2 (C : CT p s m args meth c RX5 cX5_deepestLack 3 (some .int) wsX5_deepestLack D A (tyl cI cJ cT) Es) {N : Nat} {pd_signs : Nat → Int32} {pd_count : Int32} {pd_lacking : Nat → Int32} {z_r : Int32} : ∀ (n : Nat) (x2 : Int32), bX5_deepestLack_2 N pd_lacking n x2 = some z_r → ∀ (H : Heap) (locs : List Loc) (ls : Array Slot), DB D A (wd_pd a b cI cJ cT pd_signs pd_count pd_lacking) s H locs → lv_has ls 3 [(0, .ref (a 2)), (2, .int x2)] → W p l e rmX5_deepestLack s m args below meth c H locs 0 0 (ZI below args s D A (tyl cI cJ cT) z_r (wd_pd a b cI cJ cT pd_signs pd_count pd_lacking) 0 0) (F0 m 2 ls []) := by
  have hx := C.1.1
  have hb := C.1.2.1
  have hown := C.1.2.2.2.1
  have hts := C.1.2.2.2.2
  intro n
  induction n with
  | zero => intro x2 h; cases h
  | succ n ih =>
    intro x2 h H locs ls B hl
    rw [bX5_deepestLack_2] at h
    refine lv_iload_n hx hb dX5_deepestLack_2 rfl (lv_at hl 1 rfl) ?_
    refine lv_if_lt (tgt := 21) hx hb dX5_deepestLack_3 (by decide) (fun c_1 => ?_) (fun c_1 => ?_)
    · rw [if_pos c_1] at h
      refine lv_iload_n hx hb dX5_deepestLack_21 rfl (lv_at hl 1 rfl) ?_
      cases h
      exact k_iret C B dX5_deepestLack_22
    · rw [if_neg c_1] at h
      refine lv_aload_n hx hb dX5_deepestLack_6 rfl (lv_at hl 0 rfl) ?_
      refine gfX5_deepestLack_19 C B 0 rfl rfl dX5_deepestLack_7 ?_
      refine lv_iload_n hx hb dX5_deepestLack_10 rfl (lv_at hl 1 rfl) ?_
      obtain ⟨b_2, h⟩ := bnd_some h
      refine k_iald C B 2 0 rfl rfl b_2 dX5_deepestLack_11 ?_
      refine lv_if_ne (tgt := 21) hx hb dX5_deepestLack_12 (by decide) (fun c_3 => ?_) (fun c_3 => ?_)
      · rw [if_neg c_3] at h
        refine lv_iload_n hx hb dX5_deepestLack_21 rfl (lv_at hl 1 rfl) ?_
        cases h
        exact k_iret C B dX5_deepestLack_22
      · rw [if_pos c_3] at h
        refine lv_iinc (v := (x2 + (-1))) (lv' := [(2, .int (x2 + (-1))), (0, .ref (a 2))]) hx hb dX5_deepestLack_15 hl (k := 1) rfl rfl (by decide) rfl (fun ls hl => ?_)
        refine lv_goto (tgt := 2) hx hb dX5_deepestLack_18 (by decide) ?_
        exact ih (x2 + (-1)) h H locs ls B (lv_sub hl [1, 0] rfl)
set_option maxHeartbeats 4000000 in
set_option maxRecDepth 100000 in
theorem qX5_deepestLack_0 (C : CT p s m args meth c RX5 cX5_deepestLack 3 (some .int) wsX5_deepestLack D A (tyl cI cJ cT) Es) {N : Nat} {pd_signs : Nat → Int32} {pd_count : Int32} {pd_lacking : Nat → Int32} {z_r : Int32} : ∀ (x1 : Int32), fX5_deepestLack N pd_lacking x1 = some z_r → ∀ (H : Heap) (locs : List Loc) (ls : Array Slot), DB D A (wd_pd a b cI cJ cT pd_signs pd_count pd_lacking) s H locs → lv_has ls 3 [(0, .ref (a 2)), (1, .int x1)] → W p l e rmX5_deepestLack s m args below meth c H locs 0 0 (ZI below args s D A (tyl cI cJ cT) z_r (wd_pd a b cI cJ cT pd_signs pd_count pd_lacking) 0 0) (F0 m 0 ls []) := by
  have hx := C.1.1
  have hb := C.1.2.1
  have hown := C.1.2.2.2.1
  have hts := C.1.2.2.2.2
  intro x1 h H locs ls B hl
  rw [fX5_deepestLack] at h
  refine lv_iload_n hx hb dX5_deepestLack_0 rfl (lv_at hl 1 rfl) ?_
  refine lv_istore_n (lv' := [(2, .int x1), (0, .ref (a 2)), (1, .int x1)]) hx hb dX5_deepestLack_1 rfl hl (by decide) rfl (fun ls hl => ?_)
  exact qX5_deepestLack_2 C N x1 h H locs ls B (lv_sub hl [1, 0] rfl)
end
theorem tX5_deepestLack {l : Launch} {D : va_G} {Es : (Nat → Nat) × (Nat → Nat)} {a b : Nat → Nat} {cI cJ cT : ClassId} {pd_signs : Nat → Int32} {pd_count : Int32} {pd_lacking : Nat → Int32} {x1 : Int32} {z_r : Int32} (N : Nat) (h : fX5_deepestLack N pd_lacking x1 = some z_r) : CtI l yX5_deepestLack wsX5_deepestLack rmX5_deepestLack D (tyl cI cJ cT) Es [.ref (a 2), .int x1] (wd_pd a b cI cJ cT pd_signs pd_count pd_lacking) z_r (wd_pd a b cI cJ cT pd_signs pd_count pd_lacking) :=
  CtI.of (own := RX5) (cc := cX5_deepestLack) (nL := 3) (ret := (some .int)) (by decide +kernel) rfl rfl (Nat.le_of_ble_eq_true rfl) rfl (fun p e s m below meth c A ls C B hl => qX5_deepestLack_0 C (N := N) x1 h _ _ _ B hl)

abbrev rmX5_firstFault : Room := { frames := 6, cells := 0, slots := 0, locals := 133 }
theorem hdX5_firstFault : yX5_firstFault.cls ≠ "java/lang/invoke/MethodHandle" ∧ yX5_firstFault.cls ≠ "java/lang/invoke/VarHandle" ∧ (parseMethodDescriptor yX5_firstFault.desc).map (fun d => d.parameters.length) = some 0 := by decide +kernel
theorem iX5_firstFault_X5 : ∀ w ∈ wsX50, w ∈ wsX5_firstFault := by decide +kernel
theorem gfX5_firstFault_15 {p : Program} {l : Launch} {e : Env} {R : Room} {s : State} {m : MethodId} {args : Array Value} {below : List Frame} {meth : Method} {c : Code} {H : Heap} {locs : List Loc} {cells slots : Nat} {Q : State → Prop} {D : va_G} {A : Nat → Prop} {tys : List (ClassId × FieldType)} {Es : (Nat → Nat) × (Nat → Nat)} {ws : va_W} {pc : Nat} {ls : Array Slot} {rest : List Value} {a : Nat} (C : CT p s m args meth c RX5 cX5_firstFault 4 (some .int) wsX5_firstFault D A tys Es) (B : DB D A ws s H locs) (q0 : Nat) {fs : List Value} {v : Value} (he : ws[q0]? = some (a, .inr (5, fs))) (hv : fs[1]? = some v) (hdg : decode cX5_firstFault pc = .ok (.getfield 15, 3)) (kk : W p l e R s m args below meth c H locs cells slots Q (F0 m (pc + 3) ls (v :: rest))) : W p l e R s m args below meth c H locs cells slots Q (F0 m pc ls (.ref a :: rest)) :=
  k_get (Cn := RX5) (T := TX5) (N := 3) (index := 15) C B iX5_firstFault_X5 rfl 1 (by decide) (by decide +kernel) q0 he hv hdg kk
theorem gfX5_firstFault_9 {p : Program} {l : Launch} {e : Env} {R : Room} {s : State} {m : MethodId} {args : Array Value} {below : List Frame} {meth : Method} {c : Code} {H : Heap} {locs : List Loc} {cells slots : Nat} {Q : State → Prop} {D : va_G} {A : Nat → Prop} {tys : List (ClassId × FieldType)} {Es : (Nat → Nat) × (Nat → Nat)} {ws : va_W} {pc : Nat} {ls : Array Slot} {rest : List Value} {a : Nat} (C : CT p s m args meth c RX5 cX5_firstFault 4 (some .int) wsX5_firstFault D A tys Es) (B : DB D A ws s H locs) (q0 : Nat) {fs : List Value} {v : Value} (he : ws[q0]? = some (a, .inr (5, fs))) (hv : fs[0]? = some v) (hdg : decode cX5_firstFault pc = .ok (.getfield 9, 3)) (kk : W p l e R s m args below meth c H locs cells slots Q (F0 m (pc + 3) ls (v :: rest))) : W p l e R s m args below meth c H locs cells slots Q (F0 m pc ls (.ref a :: rest)) :=
  k_get (Cn := RX5) (T := TX5) (N := 3) (index := 9) C B iX5_firstFault_X5 rfl 0 (by decide) (by decide +kernel) q0 he hv hdg kk
theorem gfX5_firstFault_19 {p : Program} {l : Launch} {e : Env} {R : Room} {s : State} {m : MethodId} {args : Array Value} {below : List Frame} {meth : Method} {c : Code} {H : Heap} {locs : List Loc} {cells slots : Nat} {Q : State → Prop} {D : va_G} {A : Nat → Prop} {tys : List (ClassId × FieldType)} {Es : (Nat → Nat) × (Nat → Nat)} {ws : va_W} {pc : Nat} {ls : Array Slot} {rest : List Value} {a : Nat} (C : CT p s m args meth c RX5 cX5_firstFault 4 (some .int) wsX5_firstFault D A tys Es) (B : DB D A ws s H locs) (q0 : Nat) {fs : List Value} {v : Value} (he : ws[q0]? = some (a, .inr (5, fs))) (hv : fs[2]? = some v) (hdg : decode cX5_firstFault pc = .ok (.getfield 19, 3)) (kk : W p l e R s m args below meth c H locs cells slots Q (F0 m (pc + 3) ls (v :: rest))) : W p l e R s m args below meth c H locs cells slots Q (F0 m pc ls (.ref a :: rest)) :=
  k_get (Cn := RX5) (T := TX5) (N := 3) (index := 19) C B iX5_firstFault_X5 rfl 2 (by decide) (by decide +kernel) q0 he hv hdg kk
section
variable {p : Program} {l : Launch} {e : Env} {s : State} {m : MethodId} {args : Array Value} {below : List Frame} {meth : Method} {c : Code} {D : va_G} {A : Nat → Prop} {Es : (Nat → Nat) × (Nat → Nat)} {a b : Nat → Nat} {cI cJ cT : ClassId}
set_option maxHeartbeats 4000000 in
set_option maxRecDepth 100000 in
theorem qX5_firstFault_11 (C : CT p s m args meth c RX5 cX5_firstFault 4 (some .int) wsX5_firstFault D A (tyl cI cJ cT) Es) {N : Nat} {pd_signs : Nat → Int32} {pd_count : Int32} {z_r : Int32} {z_pd_lacking : Nat → Int32} : ∀ (n : Nat) (x1 : Int32) (x2 : Int32) (pd_lacking : Nat → Int32), bX5_firstFault_11 N pd_signs pd_count n x1 x2 pd_lacking = some (z_r, z_pd_lacking) → ∀ (H : Heap) (locs : List Loc) (ls : Array Slot), DB D A (wd_pd a b cI cJ cT pd_signs pd_count pd_lacking) s H locs → lv_has ls 4 [(0, .ref (a 2)), (1, .int x1), (2, .int x2)] → W p l e rmX5_firstFault s m args below meth c H locs 0 0 (ZI below args s D A (tyl cI cJ cT) z_r (wd_pd a b cI cJ cT pd_signs pd_count z_pd_lacking) 0 0) (F0 m 11 ls []) := by
  have hx := C.1.1
  have hb := C.1.2.1
  have hown := C.1.2.2.2.1
  have hts := C.1.2.2.2.2
  intro n
  induction n with
  | zero => intro x1 x2 pd_lacking h; cases h
  | succ n ih =>
    intro x1 x2 pd_lacking h H locs ls B hl
    rw [bX5_firstFault_11] at h
    refine lv_iload_n hx hb dX5_firstFault_11 rfl (lv_at hl 2 rfl) ?_
    refine lv_aload_n hx hb dX5_firstFault_12 rfl (lv_at hl 0 rfl) ?_
    refine gfX5_firstFault_15 C B 0 rfl rfl dX5_firstFault_13 ?_
    refine lv_icmp_ge (tgt := 84) hx hb dX5_firstFault_16 (by decide) (fun c_1 => ?_) (fun c_1 => ?_)
    · rw [if_pos c_1] at h
      refine lv_aload_n hx hb dX5_firstFault_84 rfl (lv_at hl 0 rfl) ?_
      refine lv_iload_n hx hb dX5_firstFault_85 rfl (lv_at hl 1 rfl) ?_
      obtain ⟨r_2, g_4, h⟩ := ob_some h
      try dsimp only at h
      refine kc_VI C B (q0 := 0) (ci := 5) (As := [.int x1]) (rest := []) (w2 := (wd_pd a b cI cJ cT pd_signs pd_count pd_lacking)) (tX5_deepestLack (a := a) (b := b) N g_4) gX5_firstFault_X5_deepestLack rfl ⟨rfl, rfl⟩ ⟨rfl, hdX5_deepestLack⟩ ⟨Nat.le_of_ble_eq_true rfl, Nat.le_of_ble_eq_true rfl⟩ rfl rfl [0, 1, 2] [] [0, 1, 2] rfl rfl rfl rfl rfl rfl rfl rfl hl.1 rfl (Nat.le_of_ble_eq_true rfl) ⟨Nat.zero_le _, Nat.zero_le _⟩ dX5_firstFault_86 (fun H locs B => ?_)
      refine lv_if_ge (tgt := 97) hx hb dX5_firstFault_89 (by decide) (fun c_3 => ?_) (fun c_3 => ?_)
      · rw [if_pos c_3] at h
        refine lv_aload_n hx hb dX5_firstFault_97 rfl (lv_at hl 0 rfl) ?_
        refine gfX5_firstFault_15 C B 0 rfl rfl dX5_firstFault_98 ?_
        cases h
        exact k_iret C B dX5_firstFault_101
      · rw [if_neg c_3] at h
        refine lv_bipush (v := -6) hx hb dX5_firstFault_92 (by decide) ?_
        refine lv_goto (tgt := 101) hx hb dX5_firstFault_94 (by decide) ?_
        cases h
        exact k_iret C B dX5_firstFault_101
    · rw [if_neg c_1] at h
      refine lv_aload_n hx hb dX5_firstFault_19 rfl (lv_at hl 0 rfl) ?_
      refine lv_iload_n hx hb dX5_firstFault_20 rfl (lv_at hl 1 rfl) ?_
      obtain ⟨r_5, g_16, h⟩ := ob_some h
      try dsimp only at h
      refine kc_VI C B (q0 := 0) (ci := 5) (As := [.int x1]) (rest := []) (w2 := (wd_pd a b cI cJ cT pd_signs pd_count pd_lacking)) (tX5_deepestLack (a := a) (b := b) N g_16) gX5_firstFault_X5_deepestLack rfl ⟨rfl, rfl⟩ ⟨rfl, hdX5_deepestLack⟩ ⟨Nat.le_of_ble_eq_true rfl, Nat.le_of_ble_eq_true rfl⟩ rfl rfl [0, 1, 2] [] [0, 1, 2] rfl rfl rfl rfl rfl rfl rfl rfl hl.1 rfl (Nat.le_of_ble_eq_true rfl) ⟨Nat.zero_le _, Nat.zero_le _⟩ dX5_firstFault_21 (fun H locs B => ?_)
      refine lv_istore_n (lv' := [(1, .int r_5), (0, .ref (a 2)), (2, .int x2)]) hx hb dX5_firstFault_24 rfl hl (by decide) rfl (fun ls hl => ?_)
      refine lv_iload_n hx hb dX5_firstFault_25 rfl (lv_at hl 0 rfl) ?_
      refine lv_if_lt (tgt := 42) hx hb dX5_firstFault_26 (by decide) (fun c_6 => ?_) (fun c_6 => ?_)
      · rw [if_pos c_6] at h
        refine lv_iload_n hx hb dX5_firstFault_42 rfl (lv_at hl 2 rfl) ?_
        cases h
        exact k_iret C B dX5_firstFault_43
      · rw [if_neg c_6] at h
        refine lv_aload_n hx hb dX5_firstFault_29 rfl (lv_at hl 1 rfl) ?_
        refine gfX5_firstFault_9 C B 0 rfl rfl dX5_firstFault_30 ?_
        refine lv_iload_n hx hb dX5_firstFault_33 rfl (lv_at hl 2 rfl) ?_
        obtain ⟨b_7, h⟩ := bnd_some h
        refine k_iald C B 1 0 rfl rfl b_7 dX5_firstFault_34 ?_
        refine lv_iload_n hx hb dX5_firstFault_35 rfl (lv_at hl 0 rfl) ?_
        obtain ⟨r_8, g_15, h⟩ := ob_some h
        try dsimp only at h
        refine kc_SI C B (As := [.int (pd_signs (Int32.toNatClampNeg x2)), .int r_5]) (rest := []) (w2 := (wd_pd a b cI cJ cT pd_signs pd_count pd_lacking)) (tX5_mayStand N g_15) gX5_firstFault_X5_mayStand rfl ⟨rfl, rfl⟩ hdX5_mayStand ⟨Nat.le_of_ble_eq_true rfl, Nat.le_of_ble_eq_true rfl⟩ [] [0, 1, 2] [0, 1, 2] rfl rfl rfl rfl rfl rfl rfl rfl hl.1 rfl (Nat.le_of_ble_eq_true rfl) ⟨Nat.zero_le _, Nat.zero_le _⟩ dX5_firstFault_36 (fun H locs B => ?_)
        refine lv_if_ne (tgt := 44) hx hb dX5_firstFault_39 (by decide) (fun c_9 => ?_) (fun c_9 => ?_)
        · rw [if_neg c_9] at h
          refine lv_aload_n hx hb dX5_firstFault_44 rfl (lv_at hl 1 rfl) ?_
          refine gfX5_firstFault_19 C B 0 rfl rfl dX5_firstFault_45 ?_
          refine lv_iload_n hx hb dX5_firstFault_48 rfl (lv_at hl 0 rfl) ?_
          refine lv_dup2_11 hx hb dX5_firstFault_49 rfl rfl ?_
          obtain ⟨b_10, h⟩ := bnd_some h
          refine k_iald C B 2 0 rfl rfl b_10 dX5_firstFault_50 ?_
          refine lv_iconst (v := 1) hx hb dX5_firstFault_51 (by decide) ?_
          refine lv_isub hx hb dX5_firstFault_52 ?_
          refine k_iast C B 2 0 rfl rfl b_10 dX5_firstFault_53 (fun H locs B => ?_)
          have B : DB D A (wd_pd a b cI cJ cT pd_signs pd_count (upd pd_lacking (Int32.toNatClampNeg r_5) ((pd_lacking (Int32.toNatClampNeg r_5)) - (1 : Int32)))) s H locs := B
          refine lv_aload_n hx hb dX5_firstFault_54 rfl (lv_at hl 1 rfl) ?_
          refine gfX5_firstFault_9 C B 0 rfl rfl dX5_firstFault_55 ?_
          refine lv_iload_n hx hb dX5_firstFault_58 rfl (lv_at hl 2 rfl) ?_
          refine k_iald C B 1 0 rfl rfl b_7 dX5_firstFault_59 ?_
          obtain ⟨r_11, g_14, h⟩ := ob_some h
          try dsimp only at h
          refine kc_SI C B (As := [.int (pd_signs (Int32.toNatClampNeg x2))]) (rest := []) (w2 := (wd_pd a b cI cJ cT pd_signs pd_count (upd pd_lacking (Int32.toNatClampNeg r_5) ((pd_lacking (Int32.toNatClampNeg r_5)) - (1 : Int32))))) (tX9_partsWanted N g_14) gX5_firstFault_X9_partsWanted rfl ⟨rfl, rfl⟩ hdX9_partsWanted ⟨Nat.le_of_ble_eq_true rfl, Nat.le_of_ble_eq_true rfl⟩ [] [0, 1, 2] [0, 1, 2] rfl rfl rfl rfl rfl rfl rfl rfl hl.1 rfl (Nat.le_of_ble_eq_true rfl) ⟨Nat.zero_le _, Nat.zero_le _⟩ dX5_firstFault_60 (fun H locs B => ?_)
          refine lv_istore_n (lv' := [(3, .int r_11), (1, .int r_5), (0, .ref (a 2)), (2, .int x2)]) hx hb dX5_firstFault_63 rfl hl (by decide) rfl (fun ls hl => ?_)
          refine lv_iload_n hx hb dX5_firstFault_64 rfl (lv_at hl 0 rfl) ?_
          refine lv_if_le (tgt := 78) hx hb dX5_firstFault_65 (by decide) (fun c_12 => ?_) (fun c_12 => ?_)
          · rw [if_pos c_12] at h
            refine lv_iinc (v := (x2 + 1)) (lv' := [(2, .int (x2 + 1)), (3, .int r_11), (1, .int r_5), (0, .ref (a 2))]) hx hb dX5_firstFault_78 hl (k := 3) rfl rfl (by decide) rfl (fun ls hl => ?_)
            refine lv_goto (tgt := 11) hx hb dX5_firstFault_81 (by decide) ?_
            exact ih r_5 (x2 + 1) (upd pd_lacking (Int32.toNatClampNeg r_5) ((pd_lacking (Int32.toNatClampNeg r_5)) - (1 : Int32))) h H locs ls B (lv_sub hl [3, 2, 0] rfl)
          · rw [if_neg c_12] at h
            refine lv_iinc (v := (r_5 + 1)) (lv' := [(1, .int (r_5 + 1)), (3, .int r_11), (0, .ref (a 2)), (2, .int x2)]) hx hb dX5_firstFault_68 hl (k := 1) rfl rfl (by decide) rfl (fun ls hl => ?_)
            refine lv_aload_n hx hb dX5_firstFault_71 rfl (lv_at hl 2 rfl) ?_
            refine gfX5_firstFault_19 C B 0 rfl rfl dX5_firstFault_72 ?_
            refine lv_iload_n hx hb dX5_firstFault_75 rfl (lv_at hl 0 rfl) ?_
            refine lv_iload_n hx hb dX5_firstFault_76 rfl (lv_at hl 1 rfl) ?_
            obtain ⟨b_13, h⟩ := bnd_some h
            refine k_iast C B 2 0 rfl rfl b_13 dX5_firstFault_77 (fun H locs B => ?_)
            have B : DB D A (wd_pd a b cI cJ cT pd_signs pd_count (upd (upd pd_lacking (Int32.toNatClampNeg r_5) ((pd_lacking (Int32.toNatClampNeg r_5)) - (1 : Int32))) (Int32.toNatClampNeg (r_5 + 1)) r_11)) s H locs := B
            refine lv_iinc (v := (x2 + 1)) (lv' := [(2, .int (x2 + 1)), (1, .int (r_5 + 1)), (3, .int r_11), (0, .ref (a 2))]) hx hb dX5_firstFault_78 hl (k := 3) rfl rfl (by decide) rfl (fun ls hl => ?_)
            refine lv_goto (tgt := 11) hx hb dX5_firstFault_81 (by decide) ?_
            exact ih (r_5 + 1) (x2 + 1) (upd (upd pd_lacking (Int32.toNatClampNeg r_5) ((pd_lacking (Int32.toNatClampNeg r_5)) - (1 : Int32))) (Int32.toNatClampNeg (r_5 + 1)) r_11) h H locs ls B (lv_sub hl [3, 1, 0] rfl)
        · rw [if_pos c_9] at h
          refine lv_iload_n hx hb dX5_firstFault_42 rfl (lv_at hl 2 rfl) ?_
          cases h
          exact k_iret C B dX5_firstFault_43
set_option maxHeartbeats 4000000 in
set_option maxRecDepth 100000 in
theorem qX5_firstFault_0 (C : CT p s m args meth c RX5 cX5_firstFault 4 (some .int) wsX5_firstFault D A (tyl cI cJ cT) Es) {N : Nat} {pd_signs : Nat → Int32} {pd_count : Int32} {z_r : Int32} {z_pd_lacking : Nat → Int32} : ∀ (pd_lacking : Nat → Int32), fX5_firstFault N pd_signs pd_count pd_lacking = some (z_r, z_pd_lacking) → ∀ (H : Heap) (locs : List Loc) (ls : Array Slot), DB D A (wd_pd a b cI cJ cT pd_signs pd_count pd_lacking) s H locs → lv_has ls 4 [(0, .ref (a 2))] → W p l e rmX5_firstFault s m args below meth c H locs 0 0 (ZI below args s D A (tyl cI cJ cT) z_r (wd_pd a b cI cJ cT pd_signs pd_count z_pd_lacking) 0 0) (F0 m 0 ls []) := by
  have hx := C.1.1
  have hb := C.1.2.1
  have hown := C.1.2.2.2.1
  have hts := C.1.2.2.2.2
  intro pd_lacking h H locs ls B hl
  rw [fX5_firstFault] at h
  refine lv_iconst (v := 0) hx hb dX5_firstFault_0 (by decide) ?_
  refine lv_istore_n (lv' := [(1, .int (0 : Int32)), (0, .ref (a 2))]) hx hb dX5_firstFault_1 rfl hl (by decide) rfl (fun ls hl => ?_)
  refine lv_aload_n hx hb dX5_firstFault_2 rfl (lv_at hl 1 rfl) ?_
  refine gfX5_firstFault_19 C B 0 rfl rfl dX5_firstFault_3 ?_
  refine lv_iconst (v := 0) hx hb dX5_firstFault_6 (by decide) ?_
  refine lv_iconst (v := 1) hx hb dX5_firstFault_7 (by decide) ?_
  refine k_iast C B 2 0 rfl rfl (vp_lit (by decide)) dX5_firstFault_8 (fun H locs B => ?_)
  have B : DB D A (wd_pd a b cI cJ cT pd_signs pd_count (upd pd_lacking (Int32.toNatClampNeg (0 : Int32)) (1 : Int32))) s H locs := B
  refine lv_iconst (v := 0) hx hb dX5_firstFault_9 (by decide) ?_
  refine lv_istore_n (lv' := [(2, .int (0 : Int32)), (1, .int (0 : Int32)), (0, .ref (a 2))]) hx hb dX5_firstFault_10 rfl hl (by decide) rfl (fun ls hl => ?_)
  exact qX5_firstFault_11 C N (0 : Int32) (0 : Int32) (upd pd_lacking (Int32.toNatClampNeg (0 : Int32)) (1 : Int32)) h H locs ls B (lv_sub hl [2, 1, 0] rfl)
end
theorem tX5_firstFault {l : Launch} {D : va_G} {Es : (Nat → Nat) × (Nat → Nat)} {a b : Nat → Nat} {cI cJ cT : ClassId} {pd_signs : Nat → Int32} {pd_count : Int32} {pd_lacking : Nat → Int32} {z_r : Int32} {z_pd_lacking : Nat → Int32} (N : Nat) (h : fX5_firstFault N pd_signs pd_count pd_lacking = some (z_r, z_pd_lacking)) : CtI l yX5_firstFault wsX5_firstFault rmX5_firstFault D (tyl cI cJ cT) Es [.ref (a 2)] (wd_pd a b cI cJ cT pd_signs pd_count pd_lacking) z_r (wd_pd a b cI cJ cT pd_signs pd_count z_pd_lacking) :=
  CtI.of (own := RX5) (cc := cX5_firstFault) (nL := 4) (ret := (some .int)) (by decide +kernel) rfl rfl (Nat.le_of_ble_eq_true rfl) rfl (fun p e s m below meth c A ls C B hl => qX5_firstFault_0 C (N := N) pd_lacking h _ _ _ B hl)

abbrev rmX9_joinParts : Room := { frames := 5, cells := 0, slots := 0, locals := 111 }
theorem hdX9_joinParts : yX9_joinParts.cls ≠ "java/lang/invoke/MethodHandle" ∧ yX9_joinParts.cls ≠ "java/lang/invoke/VarHandle" ∧ (parseMethodDescriptor yX9_joinParts.desc).map (fun d => d.parameters.length) = some 1 := by decide +kernel
theorem iX9_joinParts_X9 : ∀ w ∈ wsX90, w ∈ wsX9_joinParts := by decide +kernel
theorem gfX9_joinParts_24 {p : Program} {l : Launch} {e : Env} {R : Room} {s : State} {m : MethodId} {args : Array Value} {below : List Frame} {meth : Method} {c : Code} {H : Heap} {locs : List Loc} {cells slots : Nat} {Q : State → Prop} {D : va_G} {A : Nat → Prop} {tys : List (ClassId × FieldType)} {Es : (Nat → Nat) × (Nat → Nat)} {ws : va_W} {pc : Nat} {ls : Array Slot} {rest : List Value} {a : Nat} (C : CT p s m args meth c RX9 cX9_joinParts 4 none wsX9_joinParts D A tys Es) (B : DB D A ws s H locs) (q0 : Nat) {fs : List Value} {v : Value} (he : ws[q0]? = some (a, .inr (9, fs))) (hv : fs[4]? = some v) (hdg : decode cX9_joinParts pc = .ok (.getfield 24, 3)) (kk : W p l e R s m args below meth c H locs cells slots Q (F0 m (pc + 3) ls (v :: rest))) : W p l e R s m args below meth c H locs cells slots Q (F0 m pc ls (.ref a :: rest)) :=
  k_get (Cn := RX9) (T := TX9) (N := 7) (index := 24) C B iX9_joinParts_X9 rfl 4 (by decide) (by decide +kernel) q0 he hv hdg kk
theorem gfX9_joinParts_15 {p : Program} {l : Launch} {e : Env} {R : Room} {s : State} {m : MethodId} {args : Array Value} {below : List Frame} {meth : Method} {c : Code} {H : Heap} {locs : List Loc} {cells slots : Nat} {Q : State → Prop} {D : va_G} {A : Nat → Prop} {tys : List (ClassId × FieldType)} {Es : (Nat → Nat) × (Nat → Nat)} {ws : va_W} {pc : Nat} {ls : Array Slot} {rest : List Value} {a : Nat} (C : CT p s m args meth c RX9 cX9_joinParts 4 none wsX9_joinParts D A tys Es) (B : DB D A ws s H locs) (q0 : Nat) {fs : List Value} {v : Value} (he : ws[q0]? = some (a, .inr (9, fs))) (hv : fs[1]? = some v) (hdg : decode cX9_joinParts pc = .ok (.getfield 15, 3)) (kk : W p l e R s m args below meth c H locs cells slots Q (F0 m (pc + 3) ls (v :: rest))) : W p l e R s m args below meth c H locs cells slots Q (F0 m pc ls (.ref a :: rest)) :=
  k_get (Cn := RX9) (T := TX9) (N := 7) (index := 15) C B iX9_joinParts_X9 rfl 1 (by decide) (by decide +kernel) q0 he hv hdg kk
theorem gfX9_joinParts_30 {p : Program} {l : Launch} {e : Env} {R : Room} {s : State} {m : MethodId} {args : Array Value} {below : List Frame} {meth : Method} {c : Code} {H : Heap} {locs : List Loc} {cells slots : Nat} {Q : State → Prop} {D : va_G} {A : Nat → Prop} {tys : List (ClassId × FieldType)} {Es : (Nat → Nat) × (Nat → Nat)} {ws : va_W} {pc : Nat} {ls : Array Slot} {rest : List Value} {a : Nat} (C : CT p s m args meth c RX9 cX9_joinParts 4 none wsX9_joinParts D A tys Es) (B : DB D A ws s H locs) (q0 : Nat) {fs : List Value} {v : Value} (he : ws[q0]? = some (a, .inr (9, fs))) (hv : fs[6]? = some v) (hdg : decode cX9_joinParts pc = .ok (.getfield 30, 3)) (kk : W p l e R s m args below meth c H locs cells slots Q (F0 m (pc + 3) ls (v :: rest))) : W p l e R s m args below meth c H locs cells slots Q (F0 m pc ls (.ref a :: rest)) :=
  k_get (Cn := RX9) (T := TX9) (N := 7) (index := 30) C B iX9_joinParts_X9 rfl 6 (by decide) (by decide +kernel) q0 he hv hdg kk
theorem gfX9_joinParts_27 {p : Program} {l : Launch} {e : Env} {R : Room} {s : State} {m : MethodId} {args : Array Value} {below : List Frame} {meth : Method} {c : Code} {H : Heap} {locs : List Loc} {cells slots : Nat} {Q : State → Prop} {D : va_G} {A : Nat → Prop} {tys : List (ClassId × FieldType)} {Es : (Nat → Nat) × (Nat → Nat)} {ws : va_W} {pc : Nat} {ls : Array Slot} {rest : List Value} {a : Nat} (C : CT p s m args meth c RX9 cX9_joinParts 4 none wsX9_joinParts D A tys Es) (B : DB D A ws s H locs) (q0 : Nat) {fs : List Value} {v : Value} (he : ws[q0]? = some (a, .inr (9, fs))) (hv : fs[5]? = some v) (hdg : decode cX9_joinParts pc = .ok (.getfield 27, 3)) (kk : W p l e R s m args below meth c H locs cells slots Q (F0 m (pc + 3) ls (v :: rest))) : W p l e R s m args below meth c H locs cells slots Q (F0 m pc ls (.ref a :: rest)) :=
  k_get (Cn := RX9) (T := TX9) (N := 7) (index := 27) C B iX9_joinParts_X9 rfl 5 (by decide) (by decide +kernel) q0 he hv hdg kk
theorem gfX9_joinParts_18 {p : Program} {l : Launch} {e : Env} {R : Room} {s : State} {m : MethodId} {args : Array Value} {below : List Frame} {meth : Method} {c : Code} {H : Heap} {locs : List Loc} {cells slots : Nat} {Q : State → Prop} {D : va_G} {A : Nat → Prop} {tys : List (ClassId × FieldType)} {Es : (Nat → Nat) × (Nat → Nat)} {ws : va_W} {pc : Nat} {ls : Array Slot} {rest : List Value} {a : Nat} (C : CT p s m args meth c RX9 cX9_joinParts 4 none wsX9_joinParts D A tys Es) (B : DB D A ws s H locs) (q0 : Nat) {fs : List Value} {v : Value} (he : ws[q0]? = some (a, .inr (9, fs))) (hv : fs[2]? = some v) (hdg : decode cX9_joinParts pc = .ok (.getfield 18, 3)) (kk : W p l e R s m args below meth c H locs cells slots Q (F0 m (pc + 3) ls (v :: rest))) : W p l e R s m args below meth c H locs cells slots Q (F0 m pc ls (.ref a :: rest)) :=
  k_get (Cn := RX9) (T := TX9) (N := 7) (index := 18) C B iX9_joinParts_X9 rfl 2 (by decide) (by decide +kernel) q0 he hv hdg kk
theorem gfX9_joinParts_21 {p : Program} {l : Launch} {e : Env} {R : Room} {s : State} {m : MethodId} {args : Array Value} {below : List Frame} {meth : Method} {c : Code} {H : Heap} {locs : List Loc} {cells slots : Nat} {Q : State → Prop} {D : va_G} {A : Nat → Prop} {tys : List (ClassId × FieldType)} {Es : (Nat → Nat) × (Nat → Nat)} {ws : va_W} {pc : Nat} {ls : Array Slot} {rest : List Value} {a : Nat} (C : CT p s m args meth c RX9 cX9_joinParts 4 none wsX9_joinParts D A tys Es) (B : DB D A ws s H locs) (q0 : Nat) {fs : List Value} {v : Value} (he : ws[q0]? = some (a, .inr (9, fs))) (hv : fs[3]? = some v) (hdg : decode cX9_joinParts pc = .ok (.getfield 21, 3)) (kk : W p l e R s m args below meth c H locs cells slots Q (F0 m (pc + 3) ls (v :: rest))) : W p l e R s m args below meth c H locs cells slots Q (F0 m pc ls (.ref a :: rest)) :=
  k_get (Cn := RX9) (T := TX9) (N := 7) (index := 21) C B iX9_joinParts_X9 rfl 3 (by decide) (by decide +kernel) q0 he hv hdg kk
theorem gfX9_joinParts_9 {p : Program} {l : Launch} {e : Env} {R : Room} {s : State} {m : MethodId} {args : Array Value} {below : List Frame} {meth : Method} {c : Code} {H : Heap} {locs : List Loc} {cells slots : Nat} {Q : State → Prop} {D : va_G} {A : Nat → Prop} {tys : List (ClassId × FieldType)} {Es : (Nat → Nat) × (Nat → Nat)} {ws : va_W} {pc : Nat} {ls : Array Slot} {rest : List Value} {a : Nat} (C : CT p s m args meth c RX9 cX9_joinParts 4 none wsX9_joinParts D A tys Es) (B : DB D A ws s H locs) (q0 : Nat) {fs : List Value} {v : Value} (he : ws[q0]? = some (a, .inr (9, fs))) (hv : fs[0]? = some v) (hdg : decode cX9_joinParts pc = .ok (.getfield 9, 3)) (kk : W p l e R s m args below meth c H locs cells slots Q (F0 m (pc + 3) ls (v :: rest))) : W p l e R s m args below meth c H locs cells slots Q (F0 m pc ls (.ref a :: rest)) :=
  k_get (Cn := RX9) (T := TX9) (N := 7) (index := 9) C B iX9_joinParts_X9 rfl 0 (by decide) (by decide +kernel) q0 he hv hdg kk
section
variable {p : Program} {l : Launch} {e : Env} {s : State} {m : MethodId} {args : Array Value} {below : List Frame} {meth : Method} {c : Code} {D : va_G} {A : Nat → Prop} {Es : (Nat → Nat) × (Nat → Nat)} {a b : Nat → Nat} {cI cJ cT : ClassId}
set_option maxHeartbeats 4000000 in
set_option maxRecDepth 100000 in
theorem qX9_joinParts_79 (C : CT p s m args meth c RX9 cX9_joinParts 4 none wsX9_joinParts D A (tyl cI cJ cT) Es) {N : Nat} {tx_signs : Nat → Int32} {tx_count : Int32} {z_tx_wanted : Nat → Int32} {z_tx_owners : Nat → Int32} {z_tx_places : Nat → Int32} {z_tx_spans : Nat → Int32} {z_tx_partNodes : Nat → Int32} : ∀ (x1 : Int32) (x2 : Int32) (tx_wanted : Nat → Int32) (tx_owners : Nat → Int32) (tx_places : Nat → Int32) (tx_spans : Nat → Int32) (tx_partNodes : Nat → Int32), bX9_joinParts_79 N tx_signs tx_count x1 x2 tx_wanted tx_owners tx_places tx_spans tx_partNodes = some (z_tx_wanted, z_tx_owners, z_tx_places, z_tx_spans, z_tx_partNodes) → ∀ (H : Heap) (locs : List Loc) (ls : Array Slot), DB D A (wd_tx a b cI cJ cT tx_signs tx_wanted tx_owners tx_places tx_spans tx_partNodes tx_count) s H locs → lv_has ls 4 [(0, .ref (b 0)), (1, .int x1), (2, .int x2)] → W p l e rmX9_joinParts s m args below meth c H locs 0 0 (ZV below args s D A (tyl cI cJ cT) (wd_tx a b cI cJ cT tx_signs z_tx_wanted z_tx_owners z_tx_places z_tx_spans z_tx_partNodes tx_count) 0 0) (F0 m 79 ls []) := by
  have hx := C.1.1
  have hb := C.1.2.1
  have hown := C.1.2.2.2.1
  have hts := C.1.2.2.2.2
  intro x1 x2 tx_wanted tx_owners tx_places tx_spans tx_partNodes h H locs ls B hl
  rw [bX9_joinParts_79] at h
  refine lv_aload_n hx hb dX9_joinParts_79 rfl (lv_at hl 0 rfl) ?_
  refine gfX9_joinParts_24 C B 0 rfl rfl dX9_joinParts_80 ?_
  refine lv_iload_n hx hb dX9_joinParts_83 rfl (lv_at hl 1 rfl) ?_
  refine lv_iload_n hx hb dX9_joinParts_84 rfl (lv_at hl 2 rfl) ?_
  refine lv_iload_n hx hb dX9_joinParts_85 rfl (lv_at hl 1 rfl) ?_
  refine lv_isub hx hb dX9_joinParts_86 ?_
  obtain ⟨b_1, h⟩ := bnd_some h
  refine k_iast C B 5 0 rfl rfl b_1 dX9_joinParts_87 (fun H locs B => ?_)
  have B : DB D A (wd_tx a b cI cJ cT tx_signs tx_wanted tx_owners tx_places (upd tx_spans (Int32.toNatClampNeg x1) (x2 - x1)) tx_partNodes tx_count) s H locs := B
  cases h
  exact k_vret C B dX9_joinParts_88
set_option maxHeartbeats 4000000 in
set_option maxRecDepth 100000 in
theorem qX9_joinParts_21 (C : CT p s m args meth c RX9 cX9_joinParts 4 none wsX9_joinParts D A (tyl cI cJ cT) Es) {N : Nat} {tx_signs : Nat → Int32} {tx_count : Int32} {z_tx_wanted : Nat → Int32} {z_tx_owners : Nat → Int32} {z_tx_places : Nat → Int32} {z_tx_spans : Nat → Int32} {z_tx_partNodes : Nat → Int32} : ∀ (n : Nat) (x1 : Int32) (x2 : Int32) (x3 : Int32) (tx_wanted : Nat → Int32) (tx_owners : Nat → Int32) (tx_places : Nat → Int32) (tx_spans : Nat → Int32) (tx_partNodes : Nat → Int32), bX9_joinParts_21 N tx_signs tx_count n x1 x2 x3 tx_wanted tx_owners tx_places tx_spans tx_partNodes = some (z_tx_wanted, z_tx_owners, z_tx_places, z_tx_spans, z_tx_partNodes) → ∀ (H : Heap) (locs : List Loc) (ls : Array Slot), DB D A (wd_tx a b cI cJ cT tx_signs tx_wanted tx_owners tx_places tx_spans tx_partNodes tx_count) s H locs → lv_has ls 4 [(0, .ref (b 0)), (1, .int x1), (2, .int x2), (3, .int x3)] → W p l e rmX9_joinParts s m args below meth c H locs 0 0 (ZV below args s D A (tyl cI cJ cT) (wd_tx a b cI cJ cT tx_signs z_tx_wanted z_tx_owners z_tx_places z_tx_spans z_tx_partNodes tx_count) 0 0) (F0 m 21 ls []) := by
  have hx := C.1.1
  have hb := C.1.2.1
  have hown := C.1.2.2.2.1
  have hts := C.1.2.2.2.2
  intro n
  induction n with
  | zero => intro x1 x2 x3 tx_wanted tx_owners tx_places tx_spans tx_partNodes h; cases h
  | succ n ih =>
    intro x1 x2 x3 tx_wanted tx_owners tx_places tx_spans tx_partNodes h H locs ls B hl
    rw [bX9_joinParts_21] at h
    refine lv_iload_n hx hb dX9_joinParts_21 rfl (lv_at hl 3 rfl) ?_
    refine lv_aload_n hx hb dX9_joinParts_22 rfl (lv_at hl 0 rfl) ?_
    refine gfX9_joinParts_15 C B 0 rfl rfl dX9_joinParts_23 ?_
    refine lv_iload_n hx hb dX9_joinParts_26 rfl (lv_at hl 1 rfl) ?_
    obtain ⟨b_1, h⟩ := bnd_some h
    refine k_iald C B 2 0 rfl rfl b_1 dX9_joinParts_27 ?_
    refine lv_icmp_ge (tgt := 79) hx hb dX9_joinParts_28 (by decide) (fun c_2 => ?_) (fun c_2 => ?_)
    · rw [if_pos c_2] at h
      exact qX9_joinParts_79 C x1 x2 tx_wanted tx_owners tx_places tx_spans tx_partNodes h H locs ls B (lv_sub hl [0, 1, 2] rfl)
    · rw [if_neg c_2] at h
      refine lv_iload_n hx hb dX9_joinParts_31 rfl (lv_at hl 2 rfl) ?_
      refine lv_aload_n hx hb dX9_joinParts_32 rfl (lv_at hl 0 rfl) ?_
      refine gfX9_joinParts_30 C B 0 rfl rfl dX9_joinParts_33 ?_
      refine lv_icmp_ge (tgt := 79) hx hb dX9_joinParts_36 (by decide) (fun c_3 => ?_) (fun c_3 => ?_)
      · rw [if_pos c_3] at h
        exact qX9_joinParts_79 C x1 x2 tx_wanted tx_owners tx_places tx_spans tx_partNodes h H locs ls B (lv_sub hl [0, 1, 2] rfl)
      · rw [if_neg c_3] at h
        refine lv_aload_n hx hb dX9_joinParts_39 rfl (lv_at hl 0 rfl) ?_
        refine gfX9_joinParts_27 C B 0 rfl rfl dX9_joinParts_40 ?_
        refine lv_iconst (v := 4) hx hb dX9_joinParts_43 (by decide) ?_
        refine lv_iload_n hx hb dX9_joinParts_44 rfl (lv_at hl 1 rfl) ?_
        refine lv_imul hx hb dX9_joinParts_45 ?_
        refine lv_iload_n hx hb dX9_joinParts_46 rfl (lv_at hl 3 rfl) ?_
        refine lv_iadd hx hb dX9_joinParts_47 ?_
        refine lv_iload_n hx hb dX9_joinParts_48 rfl (lv_at hl 2 rfl) ?_
        obtain ⟨b_4, h⟩ := bnd_some h
        refine k_iast C B 6 0 rfl rfl b_4 dX9_joinParts_49 (fun H locs B => ?_)
        have B : DB D A (wd_tx a b cI cJ cT tx_signs tx_wanted tx_owners tx_places tx_spans (upd tx_partNodes (Int32.toNatClampNeg (((4 : Int32) * x1) + x3)) x2) tx_count) s H locs := B
        refine lv_aload_n hx hb dX9_joinParts_50 rfl (lv_at hl 0 rfl) ?_
        refine gfX9_joinParts_18 C B 0 rfl rfl dX9_joinParts_51 ?_
        refine lv_iload_n hx hb dX9_joinParts_54 rfl (lv_at hl 2 rfl) ?_
        refine lv_iload_n hx hb dX9_joinParts_55 rfl (lv_at hl 1 rfl) ?_
        obtain ⟨b_5, h⟩ := bnd_some h
        refine k_iast C B 3 0 rfl rfl b_5 dX9_joinParts_56 (fun H locs B => ?_)
        have B : DB D A (wd_tx a b cI cJ cT tx_signs tx_wanted (upd tx_owners (Int32.toNatClampNeg x2) x1) tx_places tx_spans (upd tx_partNodes (Int32.toNatClampNeg (((4 : Int32) * x1) + x3)) x2) tx_count) s H locs := B
        refine lv_aload_n hx hb dX9_joinParts_57 rfl (lv_at hl 0 rfl) ?_
        refine gfX9_joinParts_21 C B 0 rfl rfl dX9_joinParts_58 ?_
        refine lv_iload_n hx hb dX9_joinParts_61 rfl (lv_at hl 2 rfl) ?_
        refine lv_iload_n hx hb dX9_joinParts_62 rfl (lv_at hl 3 rfl) ?_
        refine k_iast C B 4 0 rfl rfl b_5 dX9_joinParts_63 (fun H locs B => ?_)
        have B : DB D A (wd_tx a b cI cJ cT tx_signs tx_wanted (upd tx_owners (Int32.toNatClampNeg x2) x1) (upd tx_places (Int32.toNatClampNeg x2) x3) tx_spans (upd tx_partNodes (Int32.toNatClampNeg (((4 : Int32) * x1) + x3)) x2) tx_count) s H locs := B
        refine lv_iload_n hx hb dX9_joinParts_64 rfl (lv_at hl 2 rfl) ?_
        refine lv_aload_n hx hb dX9_joinParts_65 rfl (lv_at hl 0 rfl) ?_
        refine gfX9_joinParts_24 C B 0 rfl rfl dX9_joinParts_66 ?_
        refine lv_iload_n hx hb dX9_joinParts_69 rfl (lv_at hl 2 rfl) ?_
        refine k_iald C B 5 0 rfl rfl b_5 dX9_joinParts_70 ?_
        refine lv_iadd hx hb dX9_joinParts_71 ?_
        refine lv_istore_n (lv' := [(2, .int (x2 + (tx_spans (Int32.toNatClampNeg x2)))), (0, .ref (b 0)), (1, .int x1), (3, .int x3)]) hx hb dX9_joinParts_72 rfl hl (by decide) rfl (fun ls hl => ?_)
        refine lv_iinc (v := (x3 + 1)) (lv' := [(3, .int (x3 + 1)), (2, .int (x2 + (tx_spans (Int32.toNatClampNeg x2)))), (0, .ref (b 0)), (1, .int x1)]) hx hb dX9_joinParts_73 hl (k := 3) rfl rfl (by decide) rfl (fun ls hl => ?_)
        refine lv_goto (tgt := 21) hx hb dX9_joinParts_76 (by decide) ?_
        exact ih x1 (x2 + (tx_spans (Int32.toNatClampNeg x2))) (x3 + 1) tx_wanted (upd tx_owners (Int32.toNatClampNeg x2) x1) (upd tx_places (Int32.toNatClampNeg x2) x3) tx_spans (upd tx_partNodes (Int32.toNatClampNeg (((4 : Int32) * x1) + x3)) x2) h H locs ls B (lv_sub hl [2, 3, 1, 0] rfl)
set_option maxHeartbeats 4000000 in
set_option maxRecDepth 100000 in
theorem qX9_joinParts_0 (C : CT p s m args meth c RX9 cX9_joinParts 4 none wsX9_joinParts D A (tyl cI cJ cT) Es) {N : Nat} {tx_signs : Nat → Int32} {tx_count : Int32} {z_tx_wanted : Nat → Int32} {z_tx_owners : Nat → Int32} {z_tx_places : Nat → Int32} {z_tx_spans : Nat → Int32} {z_tx_partNodes : Nat → Int32} : ∀ (x1 : Int32) (tx_wanted : Nat → Int32) (tx_owners : Nat → Int32) (tx_places : Nat → Int32) (tx_spans : Nat → Int32) (tx_partNodes : Nat → Int32), fX9_joinParts N tx_signs tx_count x1 tx_wanted tx_owners tx_places tx_spans tx_partNodes = some (z_tx_wanted, z_tx_owners, z_tx_places, z_tx_spans, z_tx_partNodes) → ∀ (H : Heap) (locs : List Loc) (ls : Array Slot), DB D A (wd_tx a b cI cJ cT tx_signs tx_wanted tx_owners tx_places tx_spans tx_partNodes tx_count) s H locs → lv_has ls 4 [(0, .ref (b 0)), (1, .int x1)] → W p l e rmX9_joinParts s m args below meth c H locs 0 0 (ZV below args s D A (tyl cI cJ cT) (wd_tx a b cI cJ cT tx_signs z_tx_wanted z_tx_owners z_tx_places z_tx_spans z_tx_partNodes tx_count) 0 0) (F0 m 0 ls []) := by
  have hx := C.1.1
  have hb := C.1.2.1
  have hown := C.1.2.2.2.1
  have hts := C.1.2.2.2.2
  intro x1 tx_wanted tx_owners tx_places tx_spans tx_partNodes h H locs ls B hl
  rw [fX9_joinParts] at h
  refine lv_iload_n hx hb dX9_joinParts_0 rfl (lv_at hl 1 rfl) ?_
  refine lv_iconst (v := 1) hx hb dX9_joinParts_1 (by decide) ?_
  refine lv_iadd hx hb dX9_joinParts_2 ?_
  refine lv_istore_n (lv' := [(2, .int (x1 + (1 : Int32))), (0, .ref (b 0)), (1, .int x1)]) hx hb dX9_joinParts_3 rfl hl (by decide) rfl (fun ls hl => ?_)
  refine lv_aload_n hx hb dX9_joinParts_4 rfl (lv_at hl 1 rfl) ?_
  refine gfX9_joinParts_15 C B 0 rfl rfl dX9_joinParts_5 ?_
  refine lv_iload_n hx hb dX9_joinParts_8 rfl (lv_at hl 2 rfl) ?_
  refine lv_aload_n hx hb dX9_joinParts_9 rfl (lv_at hl 1 rfl) ?_
  refine gfX9_joinParts_9 C B 0 rfl rfl dX9_joinParts_10 ?_
  refine lv_iload_n hx hb dX9_joinParts_13 rfl (lv_at hl 2 rfl) ?_
  obtain ⟨b_1, h⟩ := bnd_some h
  refine k_iald C B 1 0 rfl rfl b_1 dX9_joinParts_14 ?_
  obtain ⟨r_2, g_3, h⟩ := ob_some h
  try dsimp only at h
  refine kc_SI C B (As := [.int (tx_signs (Int32.toNatClampNeg x1))]) (rest := [.int x1, .ref (b 2)]) (w2 := (wd_tx a b cI cJ cT tx_signs tx_wanted tx_owners tx_places tx_spans tx_partNodes tx_count)) (tX9_partsWanted N g_3) gX9_joinParts_X9_partsWanted rfl ⟨rfl, rfl⟩ hdX9_partsWanted ⟨Nat.le_of_ble_eq_true rfl, Nat.le_of_ble_eq_true rfl⟩ [] [0, 1, 2, 3, 4, 5, 6] [0, 1, 2, 3, 4, 5, 6] rfl rfl rfl rfl rfl rfl rfl rfl hl.1 rfl (Nat.le_of_ble_eq_true rfl) ⟨Nat.zero_le _, Nat.zero_le _⟩ dX9_joinParts_15 (fun H locs B => ?_)
  refine k_iast C B 2 0 rfl rfl b_1 dX9_joinParts_18 (fun H locs B => ?_)
  have B : DB D A (wd_tx a b cI cJ cT tx_signs (upd tx_wanted (Int32.toNatClampNeg x1) r_2) tx_owners tx_places tx_spans tx_partNodes tx_count) s H locs := B
  refine lv_iconst (v := 0) hx hb dX9_joinParts_19 (by decide) ?_
  refine lv_istore_n (lv' := [(3, .int (0 : Int32)), (2, .int (x1 + (1 : Int32))), (0, .ref (b 0)), (1, .int x1)]) hx hb dX9_joinParts_20 rfl hl (by decide) rfl (fun ls hl => ?_)
  exact qX9_joinParts_21 C N x1 (x1 + (1 : Int32)) (0 : Int32) (upd tx_wanted (Int32.toNatClampNeg x1) r_2) tx_owners tx_places tx_spans tx_partNodes h H locs ls B (lv_sub hl [2, 3, 1, 0] rfl)
end
theorem tX9_joinParts {l : Launch} {D : va_G} {Es : (Nat → Nat) × (Nat → Nat)} {a b : Nat → Nat} {cI cJ cT : ClassId} {tx_signs : Nat → Int32} {tx_wanted : Nat → Int32} {tx_owners : Nat → Int32} {tx_places : Nat → Int32} {tx_spans : Nat → Int32} {tx_partNodes : Nat → Int32} {tx_count : Int32} {x1 : Int32} {z_tx_wanted : Nat → Int32} {z_tx_owners : Nat → Int32} {z_tx_places : Nat → Int32} {z_tx_spans : Nat → Int32} {z_tx_partNodes : Nat → Int32} (N : Nat) (h : fX9_joinParts N tx_signs tx_count x1 tx_wanted tx_owners tx_places tx_spans tx_partNodes = some (z_tx_wanted, z_tx_owners, z_tx_places, z_tx_spans, z_tx_partNodes)) : CtV l yX9_joinParts wsX9_joinParts rmX9_joinParts D (tyl cI cJ cT) Es [.ref (b 0), .int x1] (wd_tx a b cI cJ cT tx_signs tx_wanted tx_owners tx_places tx_spans tx_partNodes tx_count) (wd_tx a b cI cJ cT tx_signs z_tx_wanted z_tx_owners z_tx_places z_tx_spans z_tx_partNodes tx_count) :=
  CtV.of (own := RX9) (cc := cX9_joinParts) (nL := 4) (ret := none) (by decide +kernel) rfl rfl (Nat.le_of_ble_eq_true rfl) rfl (fun p e s m below meth c A ls C B hl => qX9_joinParts_0 C (N := N) x1 tx_wanted tx_owners tx_places tx_spans tx_partNodes h _ _ _ B hl)

abbrev rmX9_take : Room := { frames := 6, cells := 0, slots := 0, locals := 134 }
theorem hdX9_take : yX9_take.cls ≠ "java/lang/invoke/MethodHandle" ∧ yX9_take.cls ≠ "java/lang/invoke/VarHandle" ∧ (parseMethodDescriptor yX9_take.desc).map (fun d => d.parameters.length) = some 2 := by decide +kernel
theorem iX9_take_X9 : ∀ w ∈ wsX90, w ∈ wsX9_take := by decide +kernel
theorem gfX9_take_9 {p : Program} {l : Launch} {e : Env} {R : Room} {s : State} {m : MethodId} {args : Array Value} {below : List Frame} {meth : Method} {c : Code} {H : Heap} {locs : List Loc} {cells slots : Nat} {Q : State → Prop} {D : va_G} {A : Nat → Prop} {tys : List (ClassId × FieldType)} {Es : (Nat → Nat) × (Nat → Nat)} {ws : va_W} {pc : Nat} {ls : Array Slot} {rest : List Value} {a : Nat} (C : CT p s m args meth c RX9 cX9_take 4 none wsX9_take D A tys Es) (B : DB D A ws s H locs) (q0 : Nat) {fs : List Value} {v : Value} (he : ws[q0]? = some (a, .inr (9, fs))) (hv : fs[0]? = some v) (hdg : decode cX9_take pc = .ok (.getfield 9, 3)) (kk : W p l e R s m args below meth c H locs cells slots Q (F0 m (pc + 3) ls (v :: rest))) : W p l e R s m args below meth c H locs cells slots Q (F0 m pc ls (.ref a :: rest)) :=
  k_get (Cn := RX9) (T := TX9) (N := 7) (index := 9) C B iX9_take_X9 rfl 0 (by decide) (by decide +kernel) q0 he hv hdg kk
theorem mX9_take_ac1 : (Cond.methodLink RX9 34 arraycopyName) ∈ wsX9_take := by decide +kernel
theorem mX9_take_ac2 : (Cond.native arraycopyName) ∈ wsX9_take := by decide +kernel
theorem mX9_take_ac3 : (Cond.static arraycopyName) ∈ wsX9_take := by decide +kernel
theorem mX9_take_ac4 : (Cond.initialized "java/lang/System") ∈ wsX9_take := by decide +kernel
theorem pfX9_take_30 {p : Program} {l : Launch} {e : Env} {R : Room} {s : State} {m : MethodId} {args : Array Value} {below : List Frame} {meth : Method} {c : Code} {H : Heap} {locs : List Loc} {cells slots : Nat} {Q : State → Prop} {D : va_G} {A : Nat → Prop} {tys : List (ClassId × FieldType)} {Es : (Nat → Nat) × (Nat → Nat)} {ws : va_W} {pc : Nat} {ls : Array Slot} {rest : List Value} {a : Nat} (C : CT p s m args meth c RX9 cX9_take 4 none wsX9_take D A tys Es) (B : DB D A ws s H locs) (q0 : Nat) {fs : List Value} {v : Value} (hn : narrow .int v = v) (hfit : fits .int v = true) (he : ws[q0]? = some (a, .inr (9, fs))) (hl : 6 < fs.length) (hdg : decode cX9_take pc = .ok (.putfield 30, 3)) (kk : ∀ (H1 : Heap) (locs1 : List Loc), DB D A (ws.set q0 (a, .inr (9, fs.set 6 v))) s H1 locs1 → W p l e R s m args below meth c H1 locs1 cells slots Q (F0 m (pc + 3) ls rest)) : W p l e R s m args below meth c H locs cells slots Q (F0 m pc ls (v :: .ref a :: rest)) :=
  k_put (Cn := RX9) (T := TX9) (N := 7) (index := 30) C B iX9_take_X9 rfl tyX9 tyX9_ok nmX9 6 (by decide) (by decide +kernel) rfl q0 (by decide +kernel) hn hfit he hl hdg kk
section
variable {p : Program} {l : Launch} {e : Env} {s : State} {m : MethodId} {args : Array Value} {below : List Frame} {meth : Method} {c : Code} {D : va_G} {A : Nat → Prop} {Es : (Nat → Nat) × (Nat → Nat)} {a b : Nat → Nat} {cI cJ cT : ClassId}
set_option maxHeartbeats 4000000 in
set_option maxRecDepth 100000 in
theorem qX9_take_20 (C : CT p s m args meth c RX9 cX9_take 4 none wsX9_take D A (tyl cI cJ cT) Es) {N : Nat} {pd_signs : Nat → Int32} {pd_count : Int32} {pd_lacking : Nat → Int32} {z_tx_signs : Nat → Int32} {z_tx_wanted : Nat → Int32} {z_tx_owners : Nat → Int32} {z_tx_places : Nat → Int32} {z_tx_spans : Nat → Int32} {z_tx_partNodes : Nat → Int32} {z_tx_count : Int32} : ∀ (n : Nat) (x3 : Int32) (tx_signs : Nat → Int32) (tx_wanted : Nat → Int32) (tx_owners : Nat → Int32) (tx_places : Nat → Int32) (tx_spans : Nat → Int32) (tx_partNodes : Nat → Int32) (tx_count : Int32), bX9_take_20 N pd_signs n x3 tx_signs tx_wanted tx_owners tx_places tx_spans tx_partNodes tx_count = some (z_tx_signs, z_tx_wanted, z_tx_owners, z_tx_places, z_tx_spans, z_tx_partNodes, z_tx_count) → ∀ (H : Heap) (locs : List Loc) (ls : Array Slot), DB D A (wd_pd_tx a b cI cJ cT pd_signs pd_count pd_lacking tx_signs tx_wanted tx_owners tx_places tx_spans tx_partNodes tx_count) s H locs → lv_has ls 4 [(0, .ref (b 0)), (3, .int x3)] → W p l e rmX9_take s m args below meth c H locs 0 0 (ZV below args s D A (tyl cI cJ cT) (wd_pd_tx a b cI cJ cT pd_signs pd_count pd_lacking z_tx_signs z_tx_wanted z_tx_owners z_tx_places z_tx_spans z_tx_partNodes z_tx_count) 0 0) (F0 m 20 ls []) := by
  have hx := C.1.1
  have hb := C.1.2.1
  have hown := C.1.2.2.2.1
  have hts := C.1.2.2.2.2
  intro n
  induction n with
  | zero => intro x3 tx_signs tx_wanted tx_owners tx_places tx_spans tx_partNodes tx_count h; cases h
  | succ n ih =>
    intro x3 tx_signs tx_wanted tx_owners tx_places tx_spans tx_partNodes tx_count h H locs ls B hl
    rw [bX9_take_20] at h
    refine lv_iload_n hx hb dX9_take_20 rfl (lv_at hl 1 rfl) ?_
    refine lv_if_lt (tgt := 35) hx hb dX9_take_21 (by decide) (fun c_1 => ?_) (fun c_1 => ?_)
    · rw [if_pos c_1] at h
      cases h
      exact k_vret C B dX9_take_35
    · rw [if_neg c_1] at h
      refine lv_aload_n hx hb dX9_take_24 rfl (lv_at hl 0 rfl) ?_
      refine lv_iload_n hx hb dX9_take_25 rfl (lv_at hl 1 rfl) ?_
      obtain ⟨⟨tx_wanted_2, tx_owners_3, tx_places_4, tx_spans_5, tx_partNodes_6⟩, g_7, h⟩ := ob_some h
      try dsimp only at h
      refine kc_VV C B (q0 := 0) (ci := 9) (As := [.int x3]) (rest := []) (w2 := (wd_pd_tx a b cI cJ cT pd_signs pd_count pd_lacking tx_signs tx_wanted_2 tx_owners_3 tx_places_4 tx_spans_5 tx_partNodes_6 tx_count)) (tX9_joinParts (a := a) (b := b) N g_7) gX9_take_X9_joinParts rfl ⟨rfl, rfl⟩ ⟨rfl, hdX9_joinParts⟩ ⟨Nat.le_of_ble_eq_true rfl, Nat.le_of_ble_eq_true rfl⟩ rfl rfl [3, 4, 5, 6, 7, 8, 9] [0, 1, 2] [0, 1, 2, 3, 4, 5, 6, 7, 8, 9] rfl rfl rfl rfl rfl rfl rfl rfl hl.1 rfl (Nat.le_of_ble_eq_true rfl) ⟨Nat.zero_le _, Nat.zero_le _⟩ dX9_take_26 (fun H locs B => ?_)
      refine lv_iinc (v := (x3 + (-1))) (lv' := [(3, .int (x3 + (-1))), (0, .ref (b 0))]) hx hb dX9_take_29 hl (k := 1) rfl rfl (by decide) rfl (fun ls hl => ?_)
      refine lv_goto (tgt := 20) hx hb dX9_take_32 (by decide) ?_
      exact ih (x3 + (-1)) tx_signs tx_wanted_2 tx_owners_3 tx_places_4 tx_spans_5 tx_partNodes_6 tx_count h H locs ls B (lv_sub hl [1, 0] rfl)
set_option maxHeartbeats 4000000 in
set_option maxRecDepth 100000 in
theorem qX9_take_0 (C : CT p s m args meth c RX9 cX9_take 4 none wsX9_take D A (tyl cI cJ cT) Es) {N : Nat} {pd_signs : Nat → Int32} {pd_count : Int32} {pd_lacking : Nat → Int32} {z_tx_signs : Nat → Int32} {z_tx_wanted : Nat → Int32} {z_tx_owners : Nat → Int32} {z_tx_places : Nat → Int32} {z_tx_spans : Nat → Int32} {z_tx_partNodes : Nat → Int32} {z_tx_count : Int32} : ∀ (x2 : Int32) (tx_signs : Nat → Int32) (tx_wanted : Nat → Int32) (tx_owners : Nat → Int32) (tx_places : Nat → Int32) (tx_spans : Nat → Int32) (tx_partNodes : Nat → Int32) (tx_count : Int32), fX9_take N pd_signs x2 tx_signs tx_wanted tx_owners tx_places tx_spans tx_partNodes tx_count = some (z_tx_signs, z_tx_wanted, z_tx_owners, z_tx_places, z_tx_spans, z_tx_partNodes, z_tx_count) → ∀ (H : Heap) (locs : List Loc) (ls : Array Slot), DB D A (wd_pd_tx a b cI cJ cT pd_signs pd_count pd_lacking tx_signs tx_wanted tx_owners tx_places tx_spans tx_partNodes tx_count) s H locs → lv_has ls 4 [(0, .ref (b 0)), (1, .ref (a 3)), (2, .int x2)] → W p l e rmX9_take s m args below meth c H locs 0 0 (ZV below args s D A (tyl cI cJ cT) (wd_pd_tx a b cI cJ cT pd_signs pd_count pd_lacking z_tx_signs z_tx_wanted z_tx_owners z_tx_places z_tx_spans z_tx_partNodes z_tx_count) 0 0) (F0 m 0 ls []) := by
  have hx := C.1.1
  have hb := C.1.2.1
  have hown := C.1.2.2.2.1
  have hts := C.1.2.2.2.2
  intro x2 tx_signs tx_wanted tx_owners tx_places tx_spans tx_partNodes tx_count h H locs ls B hl
  rw [fX9_take] at h
  refine lv_aload_n hx hb dX9_take_0 rfl (lv_at hl 0 rfl) ?_
  refine lv_iload_n hx hb dX9_take_1 rfl (lv_at hl 2 rfl) ?_
  refine pfX9_take_30 C B 3 rfl (by rfl) rfl (Nat.le_of_ble_eq_true rfl) dX9_take_2 (fun H locs B => ?_)
  have B : DB D A (wd_pd_tx a b cI cJ cT pd_signs pd_count pd_lacking tx_signs tx_wanted tx_owners tx_places tx_spans tx_partNodes x2) s H locs := B
  refine lv_aload_n hx hb dX9_take_5 rfl (lv_at hl 1 rfl) ?_
  refine lv_iconst (v := 0) hx hb dX9_take_6 (by decide) ?_
  refine lv_aload_n hx hb dX9_take_7 rfl (lv_at hl 0 rfl) ?_
  refine gfX9_take_9 C B 3 rfl rfl dX9_take_8 ?_
  refine lv_iconst (v := 0) hx hb dX9_take_11 (by decide) ?_
  refine lv_iload_n hx hb dX9_take_12 rfl (lv_at hl 2 rfl) ?_
  obtain ⟨c1, c2, c3, h⟩ := cpg_some h
  refine va_copyi hx hb (C.1.2.2.1.trans hl.1.symm) hown (hts _ mX9_take_ac1) (hts _ mX9_take_ac2) (hts _ mX9_take_ac3) (hts _ mX9_take_ac4) C.2.2.1 B.1 B.2.1 B.2.2 1 4 0 0 rfl rfl rfl rfl rfl (by decide) (by decide) c1 (by rw [cp_0]; omega) (by rw [cp_0]; omega) (fun i hi => rfl) (Nat.le_of_ble_eq_true rfl) (by decide +kernel) dX9_take_13 (fun H locs b1 b2 b3 => ?_)
  have B : DB D A (wd_pd_tx a b cI cJ cT pd_signs pd_count pd_lacking (va_cpy pd_signs tx_signs (Int32.toNatClampNeg 0) (Int32.toNatClampNeg 0) (Int32.toNatClampNeg x2)) tx_wanted tx_owners tx_places tx_spans tx_partNodes x2) s H locs := ⟨b1, b2, b3⟩
  refine lv_iload_n hx hb dX9_take_16 rfl (lv_at hl 2 rfl) ?_
  refine lv_iconst (v := 1) hx hb dX9_take_17 (by decide) ?_
  refine lv_isub hx hb dX9_take_18 ?_
  refine lv_istore_n (lv' := [(3, .int (x2 - (1 : Int32))), (0, .ref (b 0)), (1, .ref (a 3)), (2, .int x2)]) hx hb dX9_take_19 rfl hl (by decide) rfl (fun ls hl => ?_)
  exact qX9_take_20 C N (x2 - (1 : Int32)) (va_cpy pd_signs tx_signs (Int32.toNatClampNeg 0) (Int32.toNatClampNeg 0) (Int32.toNatClampNeg x2)) tx_wanted tx_owners tx_places tx_spans tx_partNodes x2 h H locs ls B (lv_sub hl [1, 0] rfl)
end
theorem tX9_take {l : Launch} {D : va_G} {Es : (Nat → Nat) × (Nat → Nat)} {a b : Nat → Nat} {cI cJ cT : ClassId} {pd_signs : Nat → Int32} {pd_count : Int32} {pd_lacking : Nat → Int32} {tx_signs : Nat → Int32} {tx_wanted : Nat → Int32} {tx_owners : Nat → Int32} {tx_places : Nat → Int32} {tx_spans : Nat → Int32} {tx_partNodes : Nat → Int32} {tx_count : Int32} {x2 : Int32} {z_tx_signs : Nat → Int32} {z_tx_wanted : Nat → Int32} {z_tx_owners : Nat → Int32} {z_tx_places : Nat → Int32} {z_tx_spans : Nat → Int32} {z_tx_partNodes : Nat → Int32} {z_tx_count : Int32} (N : Nat) (h : fX9_take N pd_signs x2 tx_signs tx_wanted tx_owners tx_places tx_spans tx_partNodes tx_count = some (z_tx_signs, z_tx_wanted, z_tx_owners, z_tx_places, z_tx_spans, z_tx_partNodes, z_tx_count)) : CtV l yX9_take wsX9_take rmX9_take D (tyl cI cJ cT) Es [.ref (b 0), .ref (a 3), .int x2] (wd_pd_tx a b cI cJ cT pd_signs pd_count pd_lacking tx_signs tx_wanted tx_owners tx_places tx_spans tx_partNodes tx_count) (wd_pd_tx a b cI cJ cT pd_signs pd_count pd_lacking z_tx_signs z_tx_wanted z_tx_owners z_tx_places z_tx_spans z_tx_partNodes z_tx_count) :=
  CtV.of (own := RX9) (cc := cX9_take) (nL := 4) (ret := none) (by decide +kernel) rfl rfl (Nat.le_of_ble_eq_true rfl) rfl (fun p e s m below meth c A ls C B hl => qX9_take_0 C (N := N) x2 tx_signs tx_wanted tx_owners tx_places tx_spans tx_partNodes tx_count h _ _ _ B hl)
