abbrev rmX11_say : Room := { frames := 0, cells := 0, slots := 0, locals := 0 }
theorem hdX11_say : yX11_say.cls ≠ "java/lang/invoke/MethodHandle" ∧ yX11_say.cls ≠ "java/lang/invoke/VarHandle" ∧ (parseMethodDescriptor yX11_say.desc).map (fun d => d.parameters.length) = some 1 := by decide +kernel
theorem iX11_say_X11 : ∀ w ∈ wsX110, w ∈ wsX11_say := by decide +kernel
theorem gfX11_say_12 {p : Program} {l : Launch} {e : Env} {R : Room} {s : State} {m : MethodId} {args : Array Value} {below : List Frame} {meth : Method} {c : Code} {H : Heap} {locs : List Loc} {cells slots : Nat} {Q : State → Prop} {D : va_G} {A : Nat → Prop} {tys : List (ClassId × FieldType)} {Es : (Nat → Nat) × (Nat → Nat)} {ws : va_W} {pc : Nat} {ls : Array Slot} {rest : List Value} {a : Nat} (C : CT p s m args meth c RX11 cX11_say 2 (some .int) wsX11_say D A tys Es) (B : DB D A ws s H locs) (q0 : Nat) {fs : List Value} {v : Value} (he : ws[q0]? = some (a, .inr (11, fs))) (hv : fs[0]? = some v) (hdg : decode cX11_say pc = .ok (.getfield 12, 3)) (kk : W p l e R s m args below meth c H locs cells slots Q (F0 m (pc + 3) ls (v :: rest))) : W p l e R s m args below meth c H locs cells slots Q (F0 m pc ls (.ref a :: rest)) :=
  k_get (Cn := RX11) (T := TX11) (N := 11) (index := 12) C B iX11_say_X11 rfl 0 (by decide) (by decide +kernel) q0 he hv hdg kk
theorem iX11_say_X5 : ∀ w ∈ wsX50, w ∈ wsX11_say := by decide +kernel
theorem gfX11_say_100 {p : Program} {l : Launch} {e : Env} {R : Room} {s : State} {m : MethodId} {args : Array Value} {below : List Frame} {meth : Method} {c : Code} {H : Heap} {locs : List Loc} {cells slots : Nat} {Q : State → Prop} {D : va_G} {A : Nat → Prop} {tys : List (ClassId × FieldType)} {Es : (Nat → Nat) × (Nat → Nat)} {ws : va_W} {pc : Nat} {ls : Array Slot} {rest : List Value} {a : Nat} (C : CT p s m args meth c RX11 cX11_say 2 (some .int) wsX11_say D A tys Es) (B : DB D A ws s H locs) (q0 : Nat) {fs : List Value} {v : Value} (he : ws[q0]? = some (a, .inr (5, fs))) (hv : fs[1]? = some v) (hdg : decode cX11_say pc = .ok (.getfield 100, 3)) (kk : W p l e R s m args below meth c H locs cells slots Q (F0 m (pc + 3) ls (v :: rest))) : W p l e R s m args below meth c H locs cells slots Q (F0 m pc ls (.ref a :: rest)) :=
  k_get (Cn := RX5) (T := TX5) (N := 3) (index := 100) C B iX11_say_X5 rfl 1 (by decide) (by decide +kernel) q0 he hv hdg kk
theorem gfX11_say_104 {p : Program} {l : Launch} {e : Env} {R : Room} {s : State} {m : MethodId} {args : Array Value} {below : List Frame} {meth : Method} {c : Code} {H : Heap} {locs : List Loc} {cells slots : Nat} {Q : State → Prop} {D : va_G} {A : Nat → Prop} {tys : List (ClassId × FieldType)} {Es : (Nat → Nat) × (Nat → Nat)} {ws : va_W} {pc : Nat} {ls : Array Slot} {rest : List Value} {a : Nat} (C : CT p s m args meth c RX11 cX11_say 2 (some .int) wsX11_say D A tys Es) (B : DB D A ws s H locs) (q0 : Nat) {fs : List Value} {v : Value} (he : ws[q0]? = some (a, .inr (5, fs))) (hv : fs[0]? = some v) (hdg : decode cX11_say pc = .ok (.getfield 104, 3)) (kk : W p l e R s m args below meth c H locs cells slots Q (F0 m (pc + 3) ls (v :: rest))) : W p l e R s m args below meth c H locs cells slots Q (F0 m pc ls (.ref a :: rest)) :=
  k_get (Cn := RX5) (T := TX5) (N := 3) (index := 104) C B iX11_say_X5 rfl 0 (by decide) (by decide +kernel) q0 he hv hdg kk
theorem pfX11_say_100 {p : Program} {l : Launch} {e : Env} {R : Room} {s : State} {m : MethodId} {args : Array Value} {below : List Frame} {meth : Method} {c : Code} {H : Heap} {locs : List Loc} {cells slots : Nat} {Q : State → Prop} {D : va_G} {A : Nat → Prop} {tys : List (ClassId × FieldType)} {Es : (Nat → Nat) × (Nat → Nat)} {ws : va_W} {pc : Nat} {ls : Array Slot} {rest : List Value} {a : Nat} (C : CT p s m args meth c RX11 cX11_say 2 (some .int) wsX11_say D A tys Es) (B : DB D A ws s H locs) (q0 : Nat) {fs : List Value} {v : Value} (hn : narrow .int v = v) (hfit : fits .int v = true) (he : ws[q0]? = some (a, .inr (5, fs))) (hl : 1 < fs.length) (hdg : decode cX11_say pc = .ok (.putfield 100, 3)) (kk : ∀ (H1 : Heap) (locs1 : List Loc), DB D A (ws.set q0 (a, .inr (5, fs.set 1 v))) s H1 locs1 → W p l e R s m args below meth c H1 locs1 cells slots Q (F0 m (pc + 3) ls rest)) : W p l e R s m args below meth c H locs cells slots Q (F0 m pc ls (v :: .ref a :: rest)) :=
  k_put (Cn := RX5) (T := TX5) (N := 3) (index := 100) C B iX11_say_X5 rfl tyX5 tyX5_ok nmX5 1 (by decide) (by decide +kernel) rfl q0 (by decide +kernel) hn hfit he hl hdg kk
section
variable {p : Program} {l : Launch} {e : Env} {s : State} {m : MethodId} {args : Array Value} {below : List Frame} {meth : Method} {c : Code} {D : va_G} {A : Nat → Prop} {Es : (Nat → Nat) × (Nat → Nat)} {a b : Nat → Nat} {cI cJ cT : ClassId}
set_option maxHeartbeats 4000000 in
set_option maxRecDepth 100000 in
theorem qX11_say_0 (C : CT p s m args meth c RX11 cX11_say 2 (some .int) wsX11_say D A (tyl cI cJ cT) Es) {N : Nat} {pd_lacking : Nat → Int32} {z_r : Int32} {z_pd_signs : Nat → Int32} {z_pd_count : Int32} : ∀ (x1 : Int32) (pd_signs : Nat → Int32) (pd_count : Int32), fX11_say N x1 pd_signs pd_count = some (z_r, z_pd_signs, z_pd_count) → ∀ (H : Heap) (locs : List Loc) (ls : Array Slot), DB D A (wd_nt_pd a b cI cJ cT pd_signs pd_count pd_lacking) s H locs → lv_has ls 2 [(0, .ref (a 0)), (1, .int x1)] → W p l e rmX11_say s m args below meth c H locs 0 0 (ZI below args s D A (tyl cI cJ cT) z_r (wd_nt_pd a b cI cJ cT z_pd_signs z_pd_count pd_lacking) 0 0) (F0 m 0 ls []) := by
  have hx := C.1.1
  have hb := C.1.2.1
  have hown := C.1.2.2.2.1
  have hts := C.1.2.2.2.2
  intro x1 pd_signs pd_count h H locs ls B hl
  rw [fX11_say] at h
  refine lv_iload_n hx hb dX11_say_0 rfl (lv_at hl 1 rfl) ?_
  refine lv_bipush (v := 33) hx hb dX11_say_1 (by decide) ?_
  refine lv_icmp_lt (tgt := 12) hx hb dX11_say_3 (by decide) (fun c_1 => ?_) (fun c_1 => ?_)
  · rw [if_pos c_1] at h
    refine lv_bipush (v := -2) hx hb dX11_say_12 (by decide) ?_
    cases h
    exact k_iret C B dX11_say_14
  · rw [if_neg c_1] at h
    refine lv_iload_n hx hb dX11_say_6 rfl (lv_at hl 1 rfl) ?_
    refine lv_bipush (v := 126) hx hb dX11_say_7 (by decide) ?_
    refine lv_icmp_le (tgt := 15) hx hb dX11_say_9 (by decide) (fun c_2 => ?_) (fun c_2 => ?_)
    · rw [if_pos c_2] at h
      refine lv_aload_n hx hb dX11_say_15 rfl (lv_at hl 0 rfl) ?_
      refine gfX11_say_12 C B 0 rfl rfl dX11_say_16 ?_
      refine gfX11_say_100 C B 2 rfl rfl dX11_say_19 ?_
      refine lv_bipush (v := 40) hx hb dX11_say_22 (by decide) ?_
      refine lv_icmp_lt (tgt := 30) hx hb dX11_say_24 (by decide) (fun c_3 => ?_) (fun c_3 => ?_)
      · rw [if_pos c_3] at h
        refine lv_aload_n hx hb dX11_say_30 rfl (lv_at hl 0 rfl) ?_
        refine gfX11_say_12 C B 0 rfl rfl dX11_say_31 ?_
        refine gfX11_say_104 C B 2 rfl rfl dX11_say_34 ?_
        refine lv_aload_n hx hb dX11_say_37 rfl (lv_at hl 0 rfl) ?_
        refine gfX11_say_12 C B 0 rfl rfl dX11_say_38 ?_
        refine gfX11_say_100 C B 2 rfl rfl dX11_say_41 ?_
        refine lv_iload_n hx hb dX11_say_44 rfl (lv_at hl 1 rfl) ?_
        obtain ⟨b_4, h⟩ := bnd_some h
        refine k_iast C B 3 0 rfl rfl b_4 dX11_say_45 (fun H locs B => ?_)
        have B : DB D A (wd_nt_pd a b cI cJ cT (upd pd_signs (Int32.toNatClampNeg pd_count) x1) pd_count pd_lacking) s H locs := B
        refine lv_aload_n hx hb dX11_say_46 rfl (lv_at hl 0 rfl) ?_
        refine gfX11_say_12 C B 0 rfl rfl dX11_say_47 ?_
        refine lv_dup hx hb dX11_say_50 rfl ?_
        refine gfX11_say_100 C B 2 rfl rfl dX11_say_51 ?_
        refine lv_iconst (v := 1) hx hb dX11_say_54 (by decide) ?_
        refine lv_iadd hx hb dX11_say_55 ?_
        refine pfX11_say_100 C B 2 rfl (by rfl) rfl (Nat.le_of_ble_eq_true rfl) dX11_say_56 (fun H locs B => ?_)
        have B : DB D A (wd_nt_pd a b cI cJ cT (upd pd_signs (Int32.toNatClampNeg pd_count) x1) (pd_count + (1 : Int32)) pd_lacking) s H locs := B
        refine lv_aload_n hx hb dX11_say_59 rfl (lv_at hl 0 rfl) ?_
        refine gfX11_say_12 C B 0 rfl rfl dX11_say_60 ?_
        refine gfX11_say_100 C B 2 rfl rfl dX11_say_63 ?_
        cases h
        exact k_iret C B dX11_say_66
      · rw [if_neg c_3] at h
        refine lv_bipush (v := -4) hx hb dX11_say_27 (by decide) ?_
        cases h
        exact k_iret C B dX11_say_29
    · rw [if_neg c_2] at h
      refine lv_bipush (v := -2) hx hb dX11_say_12 (by decide) ?_
      cases h
      exact k_iret C B dX11_say_14
end
theorem tX11_say {l : Launch} {D : va_G} {Es : (Nat → Nat) × (Nat → Nat)} {a b : Nat → Nat} {cI cJ cT : ClassId} {pd_signs : Nat → Int32} {pd_count : Int32} {pd_lacking : Nat → Int32} {x1 : Int32} {z_r : Int32} {z_pd_signs : Nat → Int32} {z_pd_count : Int32} (N : Nat) (h : fX11_say N x1 pd_signs pd_count = some (z_r, z_pd_signs, z_pd_count)) : CtI l yX11_say wsX11_say rmX11_say D (tyl cI cJ cT) Es [.ref (a 0), .int x1] (wd_nt_pd a b cI cJ cT pd_signs pd_count pd_lacking) z_r (wd_nt_pd a b cI cJ cT z_pd_signs z_pd_count pd_lacking) :=
  CtI.of (own := RX11) (cc := cX11_say) (nL := 2) (ret := (some .int)) (by decide +kernel) rfl rfl (Nat.le_of_ble_eq_true rfl) rfl (fun p e s m below meth c A ls C B hl => qX11_say_0 C (N := N) x1 pd_signs pd_count h _ _ _ B hl)

abbrev rmX11_wipe : Room := { frames := 0, cells := 0, slots := 0, locals := 0 }
theorem hdX11_wipe : yX11_wipe.cls ≠ "java/lang/invoke/MethodHandle" ∧ yX11_wipe.cls ≠ "java/lang/invoke/VarHandle" ∧ (parseMethodDescriptor yX11_wipe.desc).map (fun d => d.parameters.length) = some 0 := by decide +kernel
theorem iX11_wipe_X11 : ∀ w ∈ wsX110, w ∈ wsX11_wipe := by decide +kernel
theorem gfX11_wipe_12 {p : Program} {l : Launch} {e : Env} {R : Room} {s : State} {m : MethodId} {args : Array Value} {below : List Frame} {meth : Method} {c : Code} {H : Heap} {locs : List Loc} {cells slots : Nat} {Q : State → Prop} {D : va_G} {A : Nat → Prop} {tys : List (ClassId × FieldType)} {Es : (Nat → Nat) × (Nat → Nat)} {ws : va_W} {pc : Nat} {ls : Array Slot} {rest : List Value} {a : Nat} (C : CT p s m args meth c RX11 cX11_wipe 2 (some .int) wsX11_wipe D A tys Es) (B : DB D A ws s H locs) (q0 : Nat) {fs : List Value} {v : Value} (he : ws[q0]? = some (a, .inr (11, fs))) (hv : fs[0]? = some v) (hdg : decode cX11_wipe pc = .ok (.getfield 12, 3)) (kk : W p l e R s m args below meth c H locs cells slots Q (F0 m (pc + 3) ls (v :: rest))) : W p l e R s m args below meth c H locs cells slots Q (F0 m pc ls (.ref a :: rest)) :=
  k_get (Cn := RX11) (T := TX11) (N := 11) (index := 12) C B iX11_wipe_X11 rfl 0 (by decide) (by decide +kernel) q0 he hv hdg kk
theorem iX11_wipe_X5 : ∀ w ∈ wsX50, w ∈ wsX11_wipe := by decide +kernel
theorem gfX11_wipe_100 {p : Program} {l : Launch} {e : Env} {R : Room} {s : State} {m : MethodId} {args : Array Value} {below : List Frame} {meth : Method} {c : Code} {H : Heap} {locs : List Loc} {cells slots : Nat} {Q : State → Prop} {D : va_G} {A : Nat → Prop} {tys : List (ClassId × FieldType)} {Es : (Nat → Nat) × (Nat → Nat)} {ws : va_W} {pc : Nat} {ls : Array Slot} {rest : List Value} {a : Nat} (C : CT p s m args meth c RX11 cX11_wipe 2 (some .int) wsX11_wipe D A tys Es) (B : DB D A ws s H locs) (q0 : Nat) {fs : List Value} {v : Value} (he : ws[q0]? = some (a, .inr (5, fs))) (hv : fs[1]? = some v) (hdg : decode cX11_wipe pc = .ok (.getfield 100, 3)) (kk : W p l e R s m args below meth c H locs cells slots Q (F0 m (pc + 3) ls (v :: rest))) : W p l e R s m args below meth c H locs cells slots Q (F0 m pc ls (.ref a :: rest)) :=
  k_get (Cn := RX5) (T := TX5) (N := 3) (index := 100) C B iX11_wipe_X5 rfl 1 (by decide) (by decide +kernel) q0 he hv hdg kk
theorem pfX11_wipe_100 {p : Program} {l : Launch} {e : Env} {R : Room} {s : State} {m : MethodId} {args : Array Value} {below : List Frame} {meth : Method} {c : Code} {H : Heap} {locs : List Loc} {cells slots : Nat} {Q : State → Prop} {D : va_G} {A : Nat → Prop} {tys : List (ClassId × FieldType)} {Es : (Nat → Nat) × (Nat → Nat)} {ws : va_W} {pc : Nat} {ls : Array Slot} {rest : List Value} {a : Nat} (C : CT p s m args meth c RX11 cX11_wipe 2 (some .int) wsX11_wipe D A tys Es) (B : DB D A ws s H locs) (q0 : Nat) {fs : List Value} {v : Value} (hn : narrow .int v = v) (hfit : fits .int v = true) (he : ws[q0]? = some (a, .inr (5, fs))) (hl : 1 < fs.length) (hdg : decode cX11_wipe pc = .ok (.putfield 100, 3)) (kk : ∀ (H1 : Heap) (locs1 : List Loc), DB D A (ws.set q0 (a, .inr (5, fs.set 1 v))) s H1 locs1 → W p l e R s m args below meth c H1 locs1 cells slots Q (F0 m (pc + 3) ls rest)) : W p l e R s m args below meth c H locs cells slots Q (F0 m pc ls (v :: .ref a :: rest)) :=
  k_put (Cn := RX5) (T := TX5) (N := 3) (index := 100) C B iX11_wipe_X5 rfl tyX5 tyX5_ok nmX5 1 (by decide) (by decide +kernel) rfl q0 (by decide +kernel) hn hfit he hl hdg kk
section
variable {p : Program} {l : Launch} {e : Env} {s : State} {m : MethodId} {args : Array Value} {below : List Frame} {meth : Method} {c : Code} {D : va_G} {A : Nat → Prop} {Es : (Nat → Nat) × (Nat → Nat)} {a b : Nat → Nat} {cI cJ cT : ClassId}
set_option maxHeartbeats 4000000 in
set_option maxRecDepth 100000 in
theorem qX11_wipe_0 (C : CT p s m args meth c RX11 cX11_wipe 2 (some .int) wsX11_wipe D A (tyl cI cJ cT) Es) {N : Nat} {pd_signs : Nat → Int32} {pd_lacking : Nat → Int32} {z_r : Int32} {z_pd_count : Int32} : ∀ (pd_count : Int32), fX11_wipe N pd_count = some (z_r, z_pd_count) → ∀ (H : Heap) (locs : List Loc) (ls : Array Slot), DB D A (wd_nt_pd a b cI cJ cT pd_signs pd_count pd_lacking) s H locs → lv_has ls 2 [(0, .ref (a 0))] → W p l e rmX11_wipe s m args below meth c H locs 0 0 (ZI below args s D A (tyl cI cJ cT) z_r (wd_nt_pd a b cI cJ cT pd_signs z_pd_count pd_lacking) 0 0) (F0 m 0 ls []) := by
  have hx := C.1.1
  have hb := C.1.2.1
  have hown := C.1.2.2.2.1
  have hts := C.1.2.2.2.2
  intro pd_count h H locs ls B hl
  rw [fX11_wipe] at h
  refine lv_aload_n hx hb dX11_wipe_0 rfl (lv_at hl 0 rfl) ?_
  refine gfX11_wipe_12 C B 0 rfl rfl dX11_wipe_1 ?_
  refine gfX11_wipe_100 C B 2 rfl rfl dX11_wipe_4 ?_
  refine lv_istore_n (lv' := [(1, .int pd_count), (0, .ref (a 0))]) hx hb dX11_wipe_7 rfl hl (by decide) rfl (fun ls hl => ?_)
  refine lv_aload_n hx hb dX11_wipe_8 rfl (lv_at hl 1 rfl) ?_
  refine gfX11_wipe_12 C B 0 rfl rfl dX11_wipe_9 ?_
  refine lv_iconst (v := 0) hx hb dX11_wipe_12 (by decide) ?_
  refine pfX11_wipe_100 C B 2 rfl (by rfl) rfl (Nat.le_of_ble_eq_true rfl) dX11_wipe_13 (fun H locs B => ?_)
  have B : DB D A (wd_nt_pd a b cI cJ cT pd_signs (0 : Int32) pd_lacking) s H locs := B
  refine lv_iload_n hx hb dX11_wipe_16 rfl (lv_at hl 0 rfl) ?_
  cases h
  exact k_iret C B dX11_wipe_17
end
theorem tX11_wipe {l : Launch} {D : va_G} {Es : (Nat → Nat) × (Nat → Nat)} {a b : Nat → Nat} {cI cJ cT : ClassId} {pd_signs : Nat → Int32} {pd_count : Int32} {pd_lacking : Nat → Int32} {z_r : Int32} {z_pd_count : Int32} (N : Nat) (h : fX11_wipe N pd_count = some (z_r, z_pd_count)) : CtI l yX11_wipe wsX11_wipe rmX11_wipe D (tyl cI cJ cT) Es [.ref (a 0)] (wd_nt_pd a b cI cJ cT pd_signs pd_count pd_lacking) z_r (wd_nt_pd a b cI cJ cT pd_signs z_pd_count pd_lacking) :=
  CtI.of (own := RX11) (cc := cX11_wipe) (nL := 2) (ret := (some .int)) (by decide +kernel) rfl rfl (Nat.le_of_ble_eq_true rfl) rfl (fun p e s m below meth c A ls C B hl => qX11_wipe_0 C (N := N) pd_count h _ _ _ B hl)

abbrev rmX11_fault : Room := { frames := 7, cells := 0, slots := 0, locals := 156 }
theorem hdX11_fault : yX11_fault.cls ≠ "java/lang/invoke/MethodHandle" ∧ yX11_fault.cls ≠ "java/lang/invoke/VarHandle" ∧ (parseMethodDescriptor yX11_fault.desc).map (fun d => d.parameters.length) = some 0 := by decide +kernel
theorem iX11_fault_X11 : ∀ w ∈ wsX110, w ∈ wsX11_fault := by decide +kernel
theorem gfX11_fault_12 {p : Program} {l : Launch} {e : Env} {R : Room} {s : State} {m : MethodId} {args : Array Value} {below : List Frame} {meth : Method} {c : Code} {H : Heap} {locs : List Loc} {cells slots : Nat} {Q : State → Prop} {D : va_G} {A : Nat → Prop} {tys : List (ClassId × FieldType)} {Es : (Nat → Nat) × (Nat → Nat)} {ws : va_W} {pc : Nat} {ls : Array Slot} {rest : List Value} {a : Nat} (C : CT p s m args meth c RX11 cX11_fault 1 (some .int) wsX11_fault D A tys Es) (B : DB D A ws s H locs) (q0 : Nat) {fs : List Value} {v : Value} (he : ws[q0]? = some (a, .inr (11, fs))) (hv : fs[0]? = some v) (hdg : decode cX11_fault pc = .ok (.getfield 12, 3)) (kk : W p l e R s m args below meth c H locs cells slots Q (F0 m (pc + 3) ls (v :: rest))) : W p l e R s m args below meth c H locs cells slots Q (F0 m pc ls (.ref a :: rest)) :=
  k_get (Cn := RX11) (T := TX11) (N := 11) (index := 12) C B iX11_fault_X11 rfl 0 (by decide) (by decide +kernel) q0 he hv hdg kk
section
variable {p : Program} {l : Launch} {e : Env} {s : State} {m : MethodId} {args : Array Value} {below : List Frame} {meth : Method} {c : Code} {D : va_G} {A : Nat → Prop} {Es : (Nat → Nat) × (Nat → Nat)} {a b : Nat → Nat} {cI cJ cT : ClassId}
set_option maxHeartbeats 4000000 in
set_option maxRecDepth 100000 in
theorem qX11_fault_0 (C : CT p s m args meth c RX11 cX11_fault 1 (some .int) wsX11_fault D A (tyl cI cJ cT) Es) {N : Nat} {pd_signs : Nat → Int32} {pd_count : Int32} {z_r : Int32} {z_pd_lacking : Nat → Int32} : ∀ (pd_lacking : Nat → Int32), fX11_fault N pd_signs pd_count pd_lacking = some (z_r, z_pd_lacking) → ∀ (H : Heap) (locs : List Loc) (ls : Array Slot), DB D A (wd_nt_pd a b cI cJ cT pd_signs pd_count pd_lacking) s H locs → lv_has ls 1 [(0, .ref (a 0))] → W p l e rmX11_fault s m args below meth c H locs 0 0 (ZI below args s D A (tyl cI cJ cT) z_r (wd_nt_pd a b cI cJ cT pd_signs pd_count z_pd_lacking) 0 0) (F0 m 0 ls []) := by
  have hx := C.1.1
  have hb := C.1.2.1
  have hown := C.1.2.2.2.1
  have hts := C.1.2.2.2.2
  intro pd_lacking h H locs ls B hl
  rw [fX11_fault] at h
  refine lv_aload_n hx hb dX11_fault_0 rfl (lv_at hl 0 rfl) ?_
  refine gfX11_fault_12 C B 0 rfl rfl dX11_fault_1 ?_
  obtain ⟨⟨r_1, pd_lacking_2⟩, g_3, h⟩ := ob_some h
  try dsimp only at h
  refine kc_VI C B (q0 := 0) (ci := 5) (As := []) (rest := []) (w2 := (wd_nt_pd a b cI cJ cT pd_signs pd_count pd_lacking_2)) (tX5_firstFault (a := a) (b := b) N g_3) gX11_fault_X5_firstFault rfl ⟨rfl, rfl⟩ ⟨rfl, hdX5_firstFault⟩ ⟨Nat.le_of_ble_eq_true rfl, Nat.le_of_ble_eq_true rfl⟩ rfl rfl [2, 3, 4] [0, 1] [0, 1, 2, 3, 4] rfl rfl rfl rfl rfl rfl rfl rfl hl.1 rfl (Nat.le_of_ble_eq_true rfl) ⟨Nat.zero_le _, Nat.zero_le _⟩ dX11_fault_4 (fun H locs B => ?_)
  cases h
  exact k_iret C B dX11_fault_7
end
theorem tX11_fault {l : Launch} {D : va_G} {Es : (Nat → Nat) × (Nat → Nat)} {a b : Nat → Nat} {cI cJ cT : ClassId} {pd_signs : Nat → Int32} {pd_count : Int32} {pd_lacking : Nat → Int32} {z_r : Int32} {z_pd_lacking : Nat → Int32} (N : Nat) (h : fX11_fault N pd_signs pd_count pd_lacking = some (z_r, z_pd_lacking)) : CtI l yX11_fault wsX11_fault rmX11_fault D (tyl cI cJ cT) Es [.ref (a 0)] (wd_nt_pd a b cI cJ cT pd_signs pd_count pd_lacking) z_r (wd_nt_pd a b cI cJ cT pd_signs pd_count z_pd_lacking) :=
  CtI.of (own := RX11) (cc := cX11_fault) (nL := 1) (ret := (some .int)) (by decide +kernel) rfl rfl (Nat.le_of_ble_eq_true rfl) rfl (fun p e s m below meth c A ls C B hl => qX11_fault_0 C (N := N) pd_lacking h _ _ _ B hl)

abbrev rmX11_isText : Room := { frames := 0, cells := 0, slots := 0, locals := 0 }
theorem hdX11_isText : yX11_isText.cls ≠ "java/lang/invoke/MethodHandle" ∧ yX11_isText.cls ≠ "java/lang/invoke/VarHandle" ∧ (parseMethodDescriptor yX11_isText.desc).map (fun d => d.parameters.length) = some 1 := by decide +kernel
section
variable {p : Program} {l : Launch} {e : Env} {s : State} {m : MethodId} {args : Array Value} {below : List Frame} {meth : Method} {c : Code} {D : va_G} {A : Nat → Prop} {Es : (Nat → Nat) × (Nat → Nat)} {a b : Nat → Nat} {cI cJ cT : ClassId}
set_option maxHeartbeats 4000000 in
set_option maxRecDepth 100000 in
theorem qX11_isText_0 (C : CT p s m args meth c RX11 cX11_isText 2 (some .boolean) wsX11_isText D A (tyl cI cJ cT) Es) {N : Nat} {z_r : Int32} : ∀ (x1 : Int32), fX11_isText N x1 = some z_r → ∀ (H : Heap) (locs : List Loc) (ls : Array Slot), DB D A (wd_nt a b cI cJ cT) s H locs → lv_has ls 2 [(1, .int x1)] → W p l e rmX11_isText s m args below meth c H locs 0 0 (ZI below args s D A (tyl cI cJ cT) z_r (wd_nt a b cI cJ cT) 0 0) (F0 m 0 ls []) := by
  have hx := C.1.1
  have hb := C.1.2.1
  have hown := C.1.2.2.2.1
  have hts := C.1.2.2.2.2
  intro x1 h H locs ls B hl
  rw [fX11_isText] at h
  refine lv_iload_n hx hb dX11_isText_0 rfl (lv_at hl 0 rfl) ?_
  refine lv_if_eq (tgt := 9) hx hb dX11_isText_1 (by decide) (fun c_1 => ?_) (fun c_1 => ?_)
  · rw [if_pos c_1] at h
    refine lv_iconst (v := 1) hx hb dX11_isText_9 (by decide) ?_
    refine lv_goto (tgt := 14) hx hb dX11_isText_10 (by decide) ?_
    cases h
    exact k_zret C B (by decide) dX11_isText_14
  · rw [if_neg c_1] at h
    refine lv_iload_n hx hb dX11_isText_4 rfl (lv_at hl 0 rfl) ?_
    refine lv_iconst (v := 1) hx hb dX11_isText_5 (by decide) ?_
    refine lv_icmp_ne (tgt := 13) hx hb dX11_isText_6 (by decide) (fun c_2 => ?_) (fun c_2 => ?_)
    · rw [if_neg c_2] at h
      refine lv_iconst (v := 0) hx hb dX11_isText_13 (by decide) ?_
      cases h
      exact k_zret C B (by decide) dX11_isText_14
    · rw [if_pos c_2] at h
      refine lv_iconst (v := 1) hx hb dX11_isText_9 (by decide) ?_
      refine lv_goto (tgt := 14) hx hb dX11_isText_10 (by decide) ?_
      cases h
      exact k_zret C B (by decide) dX11_isText_14
end
theorem tX11_isText {l : Launch} {D : va_G} {Es : (Nat → Nat) × (Nat → Nat)} {a b : Nat → Nat} {cI cJ cT : ClassId} {x1 : Int32} {z_r : Int32} (N : Nat) (h : fX11_isText N x1 = some z_r) : CtI l yX11_isText wsX11_isText rmX11_isText D (tyl cI cJ cT) Es [.ref (a 0), .int x1] (wd_nt a b cI cJ cT) z_r (wd_nt a b cI cJ cT) :=
  CtI.of (own := RX11) (cc := cX11_isText) (nL := 2) (ret := (some .boolean)) (by decide +kernel) rfl rfl (Nat.le_of_ble_eq_true rfl) rfl (fun p e s m below meth c A ls C B hl => qX11_isText_0 C (N := N) x1 h _ _ _ B (lv_sub hl [1] rfl))

abbrev rmX11_settleNotices : Room := { frames := 4, cells := 0, slots := 0, locals := 92 }
theorem hdX11_settleNotices : yX11_settleNotices.cls ≠ "java/lang/invoke/MethodHandle" ∧ yX11_settleNotices.cls ≠ "java/lang/invoke/VarHandle" ∧ (parseMethodDescriptor yX11_settleNotices.desc).map (fun d => d.parameters.length) = some 0 := by decide +kernel
theorem iX11_settleNotices_X11 : ∀ w ∈ wsX110, w ∈ wsX11_settleNotices := by decide +kernel
theorem gfX11_settleNotices_60 {p : Program} {l : Launch} {e : Env} {R : Room} {s : State} {m : MethodId} {args : Array Value} {below : List Frame} {meth : Method} {c : Code} {H : Heap} {locs : List Loc} {cells slots : Nat} {Q : State → Prop} {D : va_G} {A : Nat → Prop} {tys : List (ClassId × FieldType)} {Es : (Nat → Nat) × (Nat → Nat)} {ws : va_W} {pc : Nat} {ls : Array Slot} {rest : List Value} {a : Nat} (C : CT p s m args meth c RX11 cX11_settleNotices 1 none wsX11_settleNotices D A tys Es) (B : DB D A ws s H locs) (q0 : Nat) {fs : List Value} {v : Value} (he : ws[q0]? = some (a, .inr (11, fs))) (hv : fs[6]? = some v) (hdg : decode cX11_settleNotices pc = .ok (.getfield 60, 3)) (kk : W p l e R s m args below meth c H locs cells slots Q (F0 m (pc + 3) ls (v :: rest))) : W p l e R s m args below meth c H locs cells slots Q (F0 m pc ls (.ref a :: rest)) :=
  k_get (Cn := RX11) (T := TX11) (N := 11) (index := 60) C B iX11_settleNotices_X11 rfl 6 (by decide) (by decide +kernel) q0 he hv hdg kk
theorem gfX11_settleNotices_69 {p : Program} {l : Launch} {e : Env} {R : Room} {s : State} {m : MethodId} {args : Array Value} {below : List Frame} {meth : Method} {c : Code} {H : Heap} {locs : List Loc} {cells slots : Nat} {Q : State → Prop} {D : va_G} {A : Nat → Prop} {tys : List (ClassId × FieldType)} {Es : (Nat → Nat) × (Nat → Nat)} {ws : va_W} {pc : Nat} {ls : Array Slot} {rest : List Value} {a : Nat} (C : CT p s m args meth c RX11 cX11_settleNotices 1 none wsX11_settleNotices D A tys Es) (B : DB D A ws s H locs) (q0 : Nat) {fs : List Value} {v : Value} (he : ws[q0]? = some (a, .inr (11, fs))) (hv : fs[7]? = some v) (hdg : decode cX11_settleNotices pc = .ok (.getfield 69, 3)) (kk : W p l e R s m args below meth c H locs cells slots Q (F0 m (pc + 3) ls (v :: rest))) : W p l e R s m args below meth c H locs cells slots Q (F0 m pc ls (.ref a :: rest)) :=
  k_get (Cn := RX11) (T := TX11) (N := 11) (index := 69) C B iX11_settleNotices_X11 rfl 7 (by decide) (by decide +kernel) q0 he hv hdg kk
section
variable {p : Program} {l : Launch} {e : Env} {s : State} {m : MethodId} {args : Array Value} {below : List Frame} {meth : Method} {c : Code} {D : va_G} {A : Nat → Prop} {Es : (Nat → Nat) × (Nat → Nat)} {a b : Nat → Nat} {cI cJ cT : ClassId}
set_option maxHeartbeats 4000000 in
set_option maxRecDepth 100000 in
theorem qX11_settleNotices_0 (C : CT p s m args meth c RX11 cX11_settleNotices 1 none wsX11_settleNotices D A (tyl cI cJ cT) Es) {N : Nat} {rs_low : Nat → Int64} {rs_mid : Nat → Int64} {rs_high : Nat → Int64} {ch_nodes : Nat → Int32} {ch_signs : Nat → Int32} {ch_felt : Nat → Int32} {ch_count : Int32} {te_inputs : Nat → Int32} {te_dues : Nat → Int32} {te_count : Int32} {no_wishedInputs : Int32} {no_wishedMany : Int32} {no_hiddenUnlike : Nat → Int64} {fw_waits : Nat → Int32} {fw_wl : Nat} {fw_wa : Nat} {fw_order : Nat → Int32} {fw_sum : Int32} {fw_set : Int32} {z_no_bits : Nat → Int32} {z_fw_fresh : Int32} : ∀ (no_bits : Nat → Int32) (fw_fresh : Int32), fX11_settleNotices N rs_low rs_mid rs_high ch_count te_inputs te_count no_bits fw_fresh = some (z_no_bits, z_fw_fresh) → ∀ (H : Heap) (locs : List Loc) (ls : Array Slot), DB D A (wd_nt_rs_ch_te_no_fw a b cI cJ cT rs_low rs_mid rs_high ch_nodes ch_signs ch_felt ch_count te_inputs te_dues te_count no_bits no_wishedInputs no_wishedMany no_hiddenUnlike fw_waits fw_wl fw_wa fw_order fw_sum fw_set fw_fresh) s H locs → lv_has ls 1 [(0, .ref (a 0))] → W p l e rmX11_settleNotices s m args below meth c H locs 0 0 (ZV below args s D A (tyl cI cJ cT) (wd_nt_rs_ch_te_no_fw a b cI cJ cT rs_low rs_mid rs_high ch_nodes ch_signs ch_felt ch_count te_inputs te_dues te_count z_no_bits no_wishedInputs no_wishedMany no_hiddenUnlike fw_waits fw_wl fw_wa fw_order fw_sum fw_set z_fw_fresh) 0 0) (F0 m 0 ls []) := by
  have hx := C.1.1
  have hb := C.1.2.1
  have hown := C.1.2.2.2.1
  have hts := C.1.2.2.2.2
  intro no_bits fw_fresh h H locs ls B hl
  rw [fX11_settleNotices] at h
  refine lv_aload_n hx hb dX11_settleNotices_0 rfl (lv_at hl 0 rfl) ?_
  refine gfX11_settleNotices_60 C B 0 rfl rfl dX11_settleNotices_1 ?_
  obtain ⟨no_bits_1, g_4, h⟩ := ob_some h
  try dsimp only at h
  refine kc_VV C B (q0 := 11) (ci := 4) (As := []) (rest := []) (w2 := (wd_nt_rs_ch_te_no_fw a b cI cJ cT rs_low rs_mid rs_high ch_nodes ch_signs ch_felt ch_count te_inputs te_dues te_count no_bits_1 no_wishedInputs no_wishedMany no_hiddenUnlike fw_waits fw_wl fw_wa fw_order fw_sum fw_set fw_fresh)) (tX4_settle (a := a) (b := b) N g_4) gX11_settleNotices_X4_settle rfl ⟨rfl, rfl⟩ ⟨rfl, hdX4_settle⟩ ⟨Nat.le_of_ble_eq_true rfl, Nat.le_of_ble_eq_true rfl⟩ rfl rfl [2, 3, 4, 5, 6, 7, 8, 9, 10, 11, 12, 13, 14, 15] [0, 1, 16, 17, 18] [0, 1, 5, 6, 7, 8, 9, 10, 11, 12, 13, 14, 15, 16, 17, 18, 2, 3, 4] rfl rfl rfl rfl rfl rfl rfl rfl hl.1 rfl (Nat.le_of_ble_eq_true rfl) ⟨Nat.zero_le _, Nat.zero_le _⟩ dX11_settleNotices_4 (fun H locs B => ?_)
  refine lv_aload_n hx hb dX11_settleNotices_7 rfl (lv_at hl 0 rfl) ?_
  refine gfX11_settleNotices_69 C B 0 rfl rfl dX11_settleNotices_8 ?_
  obtain ⟨fw_fresh_2, g_3, h⟩ := ob_some h
  try dsimp only at h
  refine kc_VV C B (q0 := 0) (ci := 2) (As := []) (rest := []) (w2 := (wd_nt_rs_ch_te_no_fw a b cI cJ cT rs_low rs_mid rs_high ch_nodes ch_signs ch_felt ch_count te_inputs te_dues te_count no_bits_1 no_wishedInputs no_wishedMany no_hiddenUnlike fw_waits fw_wl fw_wa fw_order fw_sum fw_set fw_fresh_2)) (tX2_forget (a := a) (b := b) N g_3) gX11_settleNotices_X2_forget rfl ⟨rfl, rfl⟩ ⟨rfl, hdX2_forget⟩ ⟨Nat.le_of_ble_eq_true rfl, Nat.le_of_ble_eq_true rfl⟩ rfl rfl [16, 17, 18] [0, 1, 2, 3, 4, 5, 6, 7, 8, 9, 10, 11, 12, 13, 14, 15] [0, 1, 2, 3, 4, 5, 6, 7, 8, 9, 10, 11, 12, 13, 14, 15, 16, 17, 18] rfl rfl rfl rfl rfl rfl rfl rfl hl.1 rfl (Nat.le_of_ble_eq_true rfl) ⟨Nat.zero_le _, Nat.zero_le _⟩ dX11_settleNotices_11 (fun H locs B => ?_)
  cases h
  exact k_vret C B dX11_settleNotices_14
end
theorem tX11_settleNotices {l : Launch} {D : va_G} {Es : (Nat → Nat) × (Nat → Nat)} {a b : Nat → Nat} {cI cJ cT : ClassId} {rs_low : Nat → Int64} {rs_mid : Nat → Int64} {rs_high : Nat → Int64} {ch_nodes : Nat → Int32} {ch_signs : Nat → Int32} {ch_felt : Nat → Int32} {ch_count : Int32} {te_inputs : Nat → Int32} {te_dues : Nat → Int32} {te_count : Int32} {no_bits : Nat → Int32} {no_wishedInputs : Int32} {no_wishedMany : Int32} {no_hiddenUnlike : Nat → Int64} {fw_waits : Nat → Int32} {fw_wl : Nat} {fw_wa : Nat} {fw_order : Nat → Int32} {fw_sum : Int32} {fw_set : Int32} {fw_fresh : Int32} {z_no_bits : Nat → Int32} {z_fw_fresh : Int32} (N : Nat) (h : fX11_settleNotices N rs_low rs_mid rs_high ch_count te_inputs te_count no_bits fw_fresh = some (z_no_bits, z_fw_fresh)) : CtV l yX11_settleNotices wsX11_settleNotices rmX11_settleNotices D (tyl cI cJ cT) Es [.ref (a 0)] (wd_nt_rs_ch_te_no_fw a b cI cJ cT rs_low rs_mid rs_high ch_nodes ch_signs ch_felt ch_count te_inputs te_dues te_count no_bits no_wishedInputs no_wishedMany no_hiddenUnlike fw_waits fw_wl fw_wa fw_order fw_sum fw_set fw_fresh) (wd_nt_rs_ch_te_no_fw a b cI cJ cT rs_low rs_mid rs_high ch_nodes ch_signs ch_felt ch_count te_inputs te_dues te_count z_no_bits no_wishedInputs no_wishedMany no_hiddenUnlike fw_waits fw_wl fw_wa fw_order fw_sum fw_set z_fw_fresh) :=
  CtV.of (own := RX11) (cc := cX11_settleNotices) (nL := 1) (ret := none) (by decide +kernel) rfl rfl (Nat.le_of_ble_eq_true rfl) rfl (fun p e s m below meth c A ls C B hl => qX11_settleNotices_0 C (N := N) no_bits fw_fresh h _ _ _ B hl)

abbrev rmX11_settleText : Room := { frames := 7, cells := 0, slots := 0, locals := 157 }
theorem hdX11_settleText : yX11_settleText.cls ≠ "java/lang/invoke/MethodHandle" ∧ yX11_settleText.cls ≠ "java/lang/invoke/VarHandle" ∧ (parseMethodDescriptor yX11_settleText.desc).map (fun d => d.parameters.length) = some 1 := by decide +kernel
theorem iX11_settleText_X11 : ∀ w ∈ wsX110, w ∈ wsX11_settleText := by decide +kernel
theorem gfX11_settleText_35 {p : Program} {l : Launch} {e : Env} {R : Room} {s : State} {m : MethodId} {args : Array Value} {below : List Frame} {meth : Method} {c : Code} {H : Heap} {locs : List Loc} {cells slots : Nat} {Q : State → Prop} {D : va_G} {A : Nat → Prop} {tys : List (ClassId × FieldType)} {Es : (Nat → Nat) × (Nat → Nat)} {ws : va_W} {pc : Nat} {ls : Array Slot} {rest : List Value} {a : Nat} (C : CT p s m args meth c RX11 cX11_settleText 2 none wsX11_settleText D A tys Es) (B : DB D A ws s H locs) (q0 : Nat) {fs : List Value} {v : Value} (he : ws[q0]? = some (a, .inr (11, fs))) (hv : fs[3]? = some v) (hdg : decode cX11_settleText pc = .ok (.getfield 35, 3)) (kk : W p l e R s m args below meth c H locs cells slots Q (F0 m (pc + 3) ls (v :: rest))) : W p l e R s m args below meth c H locs cells slots Q (F0 m pc ls (.ref a :: rest)) :=
  k_get (Cn := RX11) (T := TX11) (N := 11) (index := 35) C B iX11_settleText_X11 rfl 3 (by decide) (by decide +kernel) q0 he hv hdg kk
theorem gfX11_settleText_19 {p : Program} {l : Launch} {e : Env} {R : Room} {s : State} {m : MethodId} {args : Array Value} {below : List Frame} {meth : Method} {c : Code} {H : Heap} {locs : List Loc} {cells slots : Nat} {Q : State → Prop} {D : va_G} {A : Nat → Prop} {tys : List (ClassId × FieldType)} {Es : (Nat → Nat) × (Nat → Nat)} {ws : va_W} {pc : Nat} {ls : Array Slot} {rest : List Value} {a : Nat} (C : CT p s m args meth c RX11 cX11_settleText 2 none wsX11_settleText D A tys Es) (B : DB D A ws s H locs) (q0 : Nat) {fs : List Value} {v : Value} (he : ws[q0]? = some (a, .inr (11, fs))) (hv : fs[1]? = some v) (hdg : decode cX11_settleText pc = .ok (.getfield 19, 3)) (kk : W p l e R s m args below meth c H locs cells slots Q (F0 m (pc + 3) ls (v :: rest))) : W p l e R s m args below meth c H locs cells slots Q (F0 m pc ls (.ref a :: rest)) :=
  k_get (Cn := RX11) (T := TX11) (N := 11) (index := 19) C B iX11_settleText_X11 rfl 1 (by decide) (by decide +kernel) q0 he hv hdg kk
theorem gfX11_settleText_44 {p : Program} {l : Launch} {e : Env} {R : Room} {s : State} {m : MethodId} {args : Array Value} {below : List Frame} {meth : Method} {c : Code} {H : Heap} {locs : List Loc} {cells slots : Nat} {Q : State → Prop} {D : va_G} {A : Nat → Prop} {tys : List (ClassId × FieldType)} {Es : (Nat → Nat) × (Nat → Nat)} {ws : va_W} {pc : Nat} {ls : Array Slot} {rest : List Value} {a : Nat} (C : CT p s m args meth c RX11 cX11_settleText 2 none wsX11_settleText D A tys Es) (B : DB D A ws s H locs) (q0 : Nat) {fs : List Value} {v : Value} (he : ws[q0]? = some (a, .inr (11, fs))) (hv : fs[4]? = some v) (hdg : decode cX11_settleText pc = .ok (.getfield 44, 3)) (kk : W p l e R s m args below meth c H locs cells slots Q (F0 m (pc + 3) ls (v :: rest))) : W p l e R s m args below meth c H locs cells slots Q (F0 m pc ls (.ref a :: rest)) :=
  k_get (Cn := RX11) (T := TX11) (N := 11) (index := 44) C B iX11_settleText_X11 rfl 4 (by decide) (by decide +kernel) q0 he hv hdg kk
section
variable {p : Program} {l : Launch} {e : Env} {s : State} {m : MethodId} {args : Array Value} {below : List Frame} {meth : Method} {c : Code} {D : va_G} {A : Nat → Prop} {Es : (Nat → Nat) × (Nat → Nat)} {a b : Nat → Nat} {cI cJ cT : ClassId}
set_option maxHeartbeats 4000000 in
set_option maxRecDepth 100000 in
theorem qX11_settleText_0 (C : CT p s m args meth c RX11 cX11_settleText 2 none wsX11_settleText D A (tyl cI cJ cT) Es) {N : Nat} {t0_signs : Nat → Int32} {t0_wanted : Nat → Int32} {t0_owners : Nat → Int32} {t0_places : Nat → Int32} {t0_spans : Nat → Int32} {t0_partNodes : Nat → Int32} {t0_count : Int32} {t1_signs : Nat → Int32} {t1_wanted : Nat → Int32} {t1_owners : Nat → Int32} {t1_places : Nat → Int32} {t1_spans : Nat → Int32} {t1_partNodes : Nat → Int32} {t1_count : Int32} {te_inputs : Nat → Int32} {te_dues : Nat → Int32} {te_count : Int32} {no_wishedInputs : Int32} {no_wishedMany : Int32} {no_hiddenUnlike : Nat → Int64} {fw_waits : Nat → Int32} {fw_wl : Nat} {fw_wa : Nat} {fw_order : Nat → Int32} {fw_sum : Int32} {fw_set : Int32} {z_wk_low : Nat → Int64} {z_wk_mid : Nat → Int64} {z_wk_high : Nat → Int64} {z_wk_holds : Nat → Int64} {z_rs_low : Nat → Int64} {z_rs_mid : Nat → Int64} {z_rs_high : Nat → Int64} {z_ch_nodes : Nat → Int32} {z_ch_signs : Nat → Int32} {z_ch_felt : Nat → Int32} {z_ch_count : Int32} {z_no_bits : Nat → Int32} {z_fw_fresh : Int32} : ∀ (x1 : Int32) (wk_low : Nat → Int64) (wk_mid : Nat → Int64) (wk_high : Nat → Int64) (wk_holds : Nat → Int64) (rs_low : Nat → Int64) (rs_mid : Nat → Int64) (rs_high : Nat → Int64) (ch_nodes : Nat → Int32) (ch_signs : Nat → Int32) (ch_felt : Nat → Int32) (ch_count : Int32) (no_bits : Nat → Int32) (fw_fresh : Int32), fX11_settleText N t0_signs t0_wanted t0_partNodes t0_count t1_signs t1_wanted t1_partNodes t1_count te_inputs te_count x1 wk_low wk_mid wk_high wk_holds rs_low rs_mid rs_high ch_nodes ch_signs ch_felt ch_count no_bits fw_fresh = some (z_wk_low, z_wk_mid, z_wk_high, z_wk_holds, z_rs_low, z_rs_mid, z_rs_high, z_ch_nodes, z_ch_signs, z_ch_felt, z_ch_count, z_no_bits, z_fw_fresh) → ∀ (H : Heap) (locs : List Loc) (ls : Array Slot), DB D A (wd_nt_t0_t1_wk_rs_ch_te_no_fw a b cI cJ cT t0_signs t0_wanted t0_owners t0_places t0_spans t0_partNodes t0_count t1_signs t1_wanted t1_owners t1_places t1_spans t1_partNodes t1_count wk_low wk_mid wk_high wk_holds rs_low rs_mid rs_high ch_nodes ch_signs ch_felt ch_count te_inputs te_dues te_count no_bits no_wishedInputs no_wishedMany no_hiddenUnlike fw_waits fw_wl fw_wa fw_order fw_sum fw_set fw_fresh) s H locs → lv_has ls 2 [(0, .ref (a 0)), (1, .int x1)] → W p l e rmX11_settleText s m args below meth c H locs 0 0 (ZV below args s D A (tyl cI cJ cT) (wd_nt_t0_t1_wk_rs_ch_te_no_fw a b cI cJ cT t0_signs t0_wanted t0_owners t0_places t0_spans t0_partNodes t0_count t1_signs t1_wanted t1_owners t1_places t1_spans t1_partNodes t1_count z_wk_low z_wk_mid z_wk_high z_wk_holds z_rs_low z_rs_mid z_rs_high z_ch_nodes z_ch_signs z_ch_felt z_ch_count te_inputs te_dues te_count z_no_bits no_wishedInputs no_wishedMany no_hiddenUnlike fw_waits fw_wl fw_wa fw_order fw_sum fw_set z_fw_fresh) 0 0) (F0 m 0 ls []) := by
  have hx := C.1.1
  have hb := C.1.2.1
  have hown := C.1.2.2.2.1
  have hts := C.1.2.2.2.2
  intro x1 wk_low wk_mid wk_high wk_holds rs_low rs_mid rs_high ch_nodes ch_signs ch_felt ch_count no_bits fw_fresh h H locs ls B hl
  rw [fX11_settleText] at h
  refine lv_aload_n hx hb dX11_settleText_0 rfl (lv_at hl 0 rfl) ?_
  refine gfX11_settleText_35 C B 0 rfl rfl dX11_settleText_1 ?_
  refine lv_iload_n hx hb dX11_settleText_4 rfl (lv_at hl 1 rfl) ?_
  refine lv_aload_n hx hb dX11_settleText_5 rfl (lv_at hl 0 rfl) ?_
  refine gfX11_settleText_19 C B 0 rfl rfl dX11_settleText_6 ?_
  refine lv_iload_n hx hb dX11_settleText_9 rfl (lv_at hl 1 rfl) ?_
  by_cases c_83 : x1 = 0
  · rw [if_pos c_83] at h
    refine k_ald0 C B 1 rfl rfl c_83 dX11_settleText_10 ?_
    obtain ⟨⟨wk_low_1, wk_mid_2, wk_high_3, wk_holds_4, rs_low_5, rs_mid_6, rs_high_7⟩, g_41, h⟩ := ob_some h
    try dsimp only at h
    refine kc_VV C B (q0 := 12) (ci := 7) (As := [.int x1, .ref (a 5)]) (rest := []) (w2 := (wd_nt_t0_t1_wk_rs_ch_te_no_fw a b cI cJ cT t0_signs t0_wanted t0_owners t0_places t0_spans t0_partNodes t0_count t1_signs t1_wanted t1_owners t1_places t1_spans t1_partNodes t1_count wk_low_1 wk_mid_2 wk_high_3 wk_holds_4 rs_low_5 rs_mid_6 rs_high_7 ch_nodes ch_signs ch_felt ch_count te_inputs te_dues te_count no_bits no_wishedInputs no_wishedMany no_hiddenUnlike fw_waits fw_wl fw_wa fw_order fw_sum fw_set fw_fresh)) (tX7_workOutText (a := a) (b := fun k => a (5 + k)) N g_41) gX11_settleText_X7_workOutText rfl ⟨rfl, rfl⟩ ⟨rfl, hdX7_workOutText⟩ ⟨Nat.le_of_ble_eq_true rfl, Nat.le_of_ble_eq_true rfl⟩ rfl rfl [2, 3, 4, 5, 6, 7, 8, 16, 17, 18, 19, 20, 21, 22, 23, 24] [0, 1, 9, 10, 11, 12, 13, 14, 15, 25, 26, 27, 28, 29, 30, 31, 32, 33, 34, 35, 36, 37] [0, 1, 22, 23, 24, 25, 26, 27, 28, 2, 3, 4, 5, 6, 7, 8, 29, 30, 31, 32, 33, 34, 35, 36, 37, 9, 10, 11, 12, 13, 14, 15, 16, 17, 18, 19, 20, 21] rfl rfl rfl rfl rfl rfl rfl rfl hl.1 rfl (Nat.le_of_ble_eq_true rfl) ⟨Nat.zero_le _, Nat.zero_le _⟩ dX11_settleText_11 (fun H locs B => ?_)
    refine lv_iload_n hx hb dX11_settleText_14 rfl (lv_at hl 1 rfl) ?_
    refine lv_if_ne (tgt := 35) hx hb dX11_settleText_15 (by decide) (fun c_8 => ?_) (fun c_8 => ?_)
    · rw [if_neg c_8] at h
      cases h
      exact k_vret C B dX11_settleText_35
    · rw [if_pos c_8] at h
      refine lv_aload_n hx hb dX11_settleText_18 rfl (lv_at hl 0 rfl) ?_
      refine gfX11_settleText_44 C B 0 rfl rfl dX11_settleText_19 ?_
      refine lv_aload_n hx hb dX11_settleText_22 rfl (lv_at hl 0 rfl) ?_
      refine gfX11_settleText_19 C B 0 rfl rfl dX11_settleText_23 ?_
      refine lv_iload_n hx hb dX11_settleText_26 rfl (lv_at hl 1 rfl) ?_
      by_cases c_39 : x1 = 0
      · rw [if_pos c_39] at h
        refine k_ald0 C B 1 rfl rfl c_39 dX11_settleText_27 ?_
        obtain ⟨⟨wk_low_9, wk_mid_10, wk_high_11, wk_holds_12, rs_low_13, rs_mid_14, rs_high_15, ch_nodes_16, ch_signs_17, ch_felt_18, ch_count_19⟩, g_23, h⟩ := ob_some h
        try dsimp only at h
        refine kc_VV C B (q0 := 16) (ci := 1) (As := [.ref (a 5)]) (rest := []) (w2 := (wd_nt_t0_t1_wk_rs_ch_te_no_fw a b cI cJ cT t0_signs t0_wanted t0_owners t0_places t0_spans t0_partNodes t0_count t1_signs t1_wanted t1_owners t1_places t1_spans t1_partNodes t1_count wk_low_9 wk_mid_10 wk_high_11 wk_holds_12 rs_low_13 rs_mid_14 rs_high_15 ch_nodes_16 ch_signs_17 ch_felt_18 ch_count_19 te_inputs te_dues te_count no_bits no_wishedInputs no_wishedMany no_hiddenUnlike fw_waits fw_wl fw_wa fw_order fw_sum fw_set fw_fresh)) (tX1_list (a := a) (b := fun k => a (5 + k)) N g_23) gX11_settleText_X1_list rfl ⟨rfl, rfl⟩ ⟨rfl, hdX1_list⟩ ⟨Nat.le_of_ble_eq_true rfl, Nat.le_of_ble_eq_true rfl⟩ rfl rfl [2, 3, 4, 5, 6, 7, 8, 16, 17, 18, 19, 20, 21, 22, 23, 24, 25, 26, 27, 28] [0, 1, 9, 10, 11, 12, 13, 14, 15, 29, 30, 31, 32, 33, 34, 35, 36, 37] [0, 1, 18, 19, 20, 21, 22, 23, 24, 2, 3, 4, 5, 6, 7, 8, 25, 26, 27, 28, 29, 30, 31, 32, 33, 34, 35, 36, 37, 9, 10, 11, 12, 13, 14, 15, 16, 17] rfl rfl rfl rfl rfl rfl rfl rfl hl.1 rfl (Nat.le_of_ble_eq_true rfl) ⟨Nat.zero_le _, Nat.zero_le _⟩ dX11_settleText_28 (fun H locs B => ?_)
        refine lv_aload_n hx hb dX11_settleText_31 rfl (lv_at hl 0 rfl) ?_
        obtain ⟨⟨no_bits_20, fw_fresh_21⟩, g_22, h⟩ := ob_some h
        try dsimp only at h
        refine kc_VV C B (q0 := 0) (ci := 11) (As := []) (rest := []) (w2 := (wd_nt_t0_t1_wk_rs_ch_te_no_fw a b cI cJ cT t0_signs t0_wanted t0_owners t0_places t0_spans t0_partNodes t0_count t1_signs t1_wanted t1_owners t1_places t1_spans t1_partNodes t1_count wk_low_9 wk_mid_10 wk_high_11 wk_holds_12 rs_low_13 rs_mid_14 rs_high_15 ch_nodes_16 ch_signs_17 ch_felt_18 ch_count_19 te_inputs te_dues te_count no_bits_20 no_wishedInputs no_wishedMany no_hiddenUnlike fw_waits fw_wl fw_wa fw_order fw_sum fw_set fw_fresh_21)) (tX11_settleNotices (a := a) (b := b) N g_22) gX11_settleText_X11_settleNotices rfl ⟨rfl, rfl⟩ ⟨rfl, hdX11_settleNotices⟩ ⟨Nat.le_of_ble_eq_true rfl, Nat.le_of_ble_eq_true rfl⟩ rfl rfl [0, 1, 21, 22, 23, 24, 25, 26, 27, 28, 29, 30, 31, 32, 33, 34, 35, 36, 37] [2, 3, 4, 5, 6, 7, 8, 9, 10, 11, 12, 13, 14, 15, 16, 17, 18, 19, 20] [19, 20, 0, 1, 2, 3, 4, 5, 6, 7, 8, 9, 10, 11, 12, 13, 14, 15, 16, 17, 18, 21, 22, 23, 24, 25, 26, 27, 28, 29, 30, 31, 32, 33, 34, 35, 36, 37] rfl rfl rfl rfl rfl rfl rfl rfl hl.1 rfl (Nat.le_of_ble_eq_true rfl) ⟨Nat.zero_le _, Nat.zero_le _⟩ dX11_settleText_32 (fun H locs B => ?_)
        cases h
        exact k_vret C B dX11_settleText_35
      · rw [if_neg c_39] at h
        by_cases c_40 : x1 = 1
        · rw [if_pos c_40] at h
          refine k_ald1 C B 1 rfl rfl c_40 dX11_settleText_27 ?_
          obtain ⟨⟨wk_low_24, wk_mid_25, wk_high_26, wk_holds_27, rs_low_28, rs_mid_29, rs_high_30, ch_nodes_31, ch_signs_32, ch_felt_33, ch_count_34⟩, g_38, h⟩ := ob_some h
          try dsimp only at h
          refine kc_VV C B (q0 := 16) (ci := 1) (As := [.ref (a 12)]) (rest := []) (w2 := (wd_nt_t0_t1_wk_rs_ch_te_no_fw a b cI cJ cT t0_signs t0_wanted t0_owners t0_places t0_spans t0_partNodes t0_count t1_signs t1_wanted t1_owners t1_places t1_spans t1_partNodes t1_count wk_low_24 wk_mid_25 wk_high_26 wk_holds_27 rs_low_28 rs_mid_29 rs_high_30 ch_nodes_31 ch_signs_32 ch_felt_33 ch_count_34 te_inputs te_dues te_count no_bits no_wishedInputs no_wishedMany no_hiddenUnlike fw_waits fw_wl fw_wa fw_order fw_sum fw_set fw_fresh)) (tX1_list (a := a) (b := fun k => a (12 + k)) N g_38) gX11_settleText_X1_list rfl ⟨rfl, rfl⟩ ⟨rfl, hdX1_list⟩ ⟨Nat.le_of_ble_eq_true rfl, Nat.le_of_ble_eq_true rfl⟩ rfl rfl [9, 10, 11, 12, 13, 14, 15, 16, 17, 18, 19, 20, 21, 22, 23, 24, 25, 26, 27, 28] [0, 1, 2, 3, 4, 5, 6, 7, 8, 29, 30, 31, 32, 33, 34, 35, 36, 37] [0, 1, 2, 3, 4, 5, 6, 7, 8, 18, 19, 20, 21, 22, 23, 24, 25, 26, 27, 28, 29, 30, 31, 32, 33, 34, 35, 36, 37, 9, 10, 11, 12, 13, 14, 15, 16, 17] rfl rfl rfl rfl rfl rfl rfl rfl hl.1 rfl (Nat.le_of_ble_eq_true rfl) ⟨Nat.zero_le _, Nat.zero_le _⟩ dX11_settleText_28 (fun H locs B => ?_)
          refine lv_aload_n hx hb dX11_settleText_31 rfl (lv_at hl 0 rfl) ?_
          obtain ⟨⟨no_bits_35, fw_fresh_36⟩, g_37, h⟩ := ob_some h
          try dsimp only at h
          refine kc_VV C B (q0 := 0) (ci := 11) (As := []) (rest := []) (w2 := (wd_nt_t0_t1_wk_rs_ch_te_no_fw a b cI cJ cT t0_signs t0_wanted t0_owners t0_places t0_spans t0_partNodes t0_count t1_signs t1_wanted t1_owners t1_places t1_spans t1_partNodes t1_count wk_low_24 wk_mid_25 wk_high_26 wk_holds_27 rs_low_28 rs_mid_29 rs_high_30 ch_nodes_31 ch_signs_32 ch_felt_33 ch_count_34 te_inputs te_dues te_count no_bits_35 no_wishedInputs no_wishedMany no_hiddenUnlike fw_waits fw_wl fw_wa fw_order fw_sum fw_set fw_fresh_36)) (tX11_settleNotices (a := a) (b := b) N g_37) gX11_settleText_X11_settleNotices rfl ⟨rfl, rfl⟩ ⟨rfl, hdX11_settleNotices⟩ ⟨Nat.le_of_ble_eq_true rfl, Nat.le_of_ble_eq_true rfl⟩ rfl rfl [0, 1, 21, 22, 23, 24, 25, 26, 27, 28, 29, 30, 31, 32, 33, 34, 35, 36, 37] [2, 3, 4, 5, 6, 7, 8, 9, 10, 11, 12, 13, 14, 15, 16, 17, 18, 19, 20] [19, 20, 0, 1, 2, 3, 4, 5, 6, 7, 8, 9, 10, 11, 12, 13, 14, 15, 16, 17, 18, 21, 22, 23, 24, 25, 26, 27, 28, 29, 30, 31, 32, 33, 34, 35, 36, 37] rfl rfl rfl rfl rfl rfl rfl rfl hl.1 rfl (Nat.le_of_ble_eq_true rfl) ⟨Nat.zero_le _, Nat.zero_le _⟩ dX11_settleText_32 (fun H locs B => ?_)
          cases h
          exact k_vret C B dX11_settleText_35
        · rw [if_neg c_40] at h
          cases h
  · rw [if_neg c_83] at h
    by_cases c_84 : x1 = 1
    · rw [if_pos c_84] at h
      refine k_ald1 C B 1 rfl rfl c_84 dX11_settleText_10 ?_
      obtain ⟨⟨wk_low_42, wk_mid_43, wk_high_44, wk_holds_45, rs_low_46, rs_mid_47, rs_high_48⟩, g_82, h⟩ := ob_some h
      try dsimp only at h
      refine kc_VV C B (q0 := 12) (ci := 7) (As := [.int x1, .ref (a 12)]) (rest := []) (w2 := (wd_nt_t0_t1_wk_rs_ch_te_no_fw a b cI cJ cT t0_signs t0_wanted t0_owners t0_places t0_spans t0_partNodes t0_count t1_signs t1_wanted t1_owners t1_places t1_spans t1_partNodes t1_count wk_low_42 wk_mid_43 wk_high_44 wk_holds_45 rs_low_46 rs_mid_47 rs_high_48 ch_nodes ch_signs ch_felt ch_count te_inputs te_dues te_count no_bits no_wishedInputs no_wishedMany no_hiddenUnlike fw_waits fw_wl fw_wa fw_order fw_sum fw_set fw_fresh)) (tX7_workOutText (a := a) (b := fun k => a (12 + k)) N g_82) gX11_settleText_X7_workOutText rfl ⟨rfl, rfl⟩ ⟨rfl, hdX7_workOutText⟩ ⟨Nat.le_of_ble_eq_true rfl, Nat.le_of_ble_eq_true rfl⟩ rfl rfl [9, 10, 11, 12, 13, 14, 15, 16, 17, 18, 19, 20, 21, 22, 23, 24] [0, 1, 2, 3, 4, 5, 6, 7, 8, 25, 26, 27, 28, 29, 30, 31, 32, 33, 34, 35, 36, 37] [0, 1, 2, 3, 4, 5, 6, 7, 8, 22, 23, 24, 25, 26, 27, 28, 29, 30, 31, 32, 33, 34, 35, 36, 37, 9, 10, 11, 12, 13, 14, 15, 16, 17, 18, 19, 20, 21] rfl rfl rfl rfl rfl rfl rfl rfl hl.1 rfl (Nat.le_of_ble_eq_true rfl) ⟨Nat.zero_le _, Nat.zero_le _⟩ dX11_settleText_11 (fun H locs B => ?_)
      refine lv_iload_n hx hb dX11_settleText_14 rfl (lv_at hl 1 rfl) ?_
      refine lv_if_ne (tgt := 35) hx hb dX11_settleText_15 (by decide) (fun c_49 => ?_) (fun c_49 => ?_)
      · rw [if_neg c_49] at h
        cases h
        exact k_vret C B dX11_settleText_35
      · rw [if_pos c_49] at h
        refine lv_aload_n hx hb dX11_settleText_18 rfl (lv_at hl 0 rfl) ?_
        refine gfX11_settleText_44 C B 0 rfl rfl dX11_settleText_19 ?_
        refine lv_aload_n hx hb dX11_settleText_22 rfl (lv_at hl 0 rfl) ?_
        refine gfX11_settleText_19 C B 0 rfl rfl dX11_settleText_23 ?_
        refine lv_iload_n hx hb dX11_settleText_26 rfl (lv_at hl 1 rfl) ?_
        by_cases c_80 : x1 = 0
        · rw [if_pos c_80] at h
          refine k_ald0 C B 1 rfl rfl c_80 dX11_settleText_27 ?_
          obtain ⟨⟨wk_low_50, wk_mid_51, wk_high_52, wk_holds_53, rs_low_54, rs_mid_55, rs_high_56, ch_nodes_57, ch_signs_58, ch_felt_59, ch_count_60⟩, g_64, h⟩ := ob_some h
          try dsimp only at h
          refine kc_VV C B (q0 := 16) (ci := 1) (As := [.ref (a 5)]) (rest := []) (w2 := (wd_nt_t0_t1_wk_rs_ch_te_no_fw a b cI cJ cT t0_signs t0_wanted t0_owners t0_places t0_spans t0_partNodes t0_count t1_signs t1_wanted t1_owners t1_places t1_spans t1_partNodes t1_count wk_low_50 wk_mid_51 wk_high_52 wk_holds_53 rs_low_54 rs_mid_55 rs_high_56 ch_nodes_57 ch_signs_58 ch_felt_59 ch_count_60 te_inputs te_dues te_count no_bits no_wishedInputs no_wishedMany no_hiddenUnlike fw_waits fw_wl fw_wa fw_order fw_sum fw_set fw_fresh)) (tX1_list (a := a) (b := fun k => a (5 + k)) N g_64) gX11_settleText_X1_list rfl ⟨rfl, rfl⟩ ⟨rfl, hdX1_list⟩ ⟨Nat.le_of_ble_eq_true rfl, Nat.le_of_ble_eq_true rfl⟩ rfl rfl [2, 3, 4, 5, 6, 7, 8, 16, 17, 18, 19, 20, 21, 22, 23, 24, 25, 26, 27, 28] [0, 1, 9, 10, 11, 12, 13, 14, 15, 29, 30, 31, 32, 33, 34, 35, 36, 37] [0, 1, 18, 19, 20, 21, 22, 23, 24, 2, 3, 4, 5, 6, 7, 8, 25, 26, 27, 28, 29, 30, 31, 32, 33, 34, 35, 36, 37, 9, 10, 11, 12, 13, 14, 15, 16, 17] rfl rfl rfl rfl rfl rfl rfl rfl hl.1 rfl (Nat.le_of_ble_eq_true rfl) ⟨Nat.zero_le _, Nat.zero_le _⟩ dX11_settleText_28 (fun H locs B => ?_)
          refine lv_aload_n hx hb dX11_settleText_31 rfl (lv_at hl 0 rfl) ?_
          obtain ⟨⟨no_bits_61, fw_fresh_62⟩, g_63, h⟩ := ob_some h
          try dsimp only at h
          refine kc_VV C B (q0 := 0) (ci := 11) (As := []) (rest := []) (w2 := (wd_nt_t0_t1_wk_rs_ch_te_no_fw a b cI cJ cT t0_signs t0_wanted t0_owners t0_places t0_spans t0_partNodes t0_count t1_signs t1_wanted t1_owners t1_places t1_spans t1_partNodes t1_count wk_low_50 wk_mid_51 wk_high_52 wk_holds_53 rs_low_54 rs_mid_55 rs_high_56 ch_nodes_57 ch_signs_58 ch_felt_59 ch_count_60 te_inputs te_dues te_count no_bits_61 no_wishedInputs no_wishedMany no_hiddenUnlike fw_waits fw_wl fw_wa fw_order fw_sum fw_set fw_fresh_62)) (tX11_settleNotices (a := a) (b := b) N g_63) gX11_settleText_X11_settleNotices rfl ⟨rfl, rfl⟩ ⟨rfl, hdX11_settleNotices⟩ ⟨Nat.le_of_ble_eq_true rfl, Nat.le_of_ble_eq_true rfl⟩ rfl rfl [0, 1, 21, 22, 23, 24, 25, 26, 27, 28, 29, 30, 31, 32, 33, 34, 35, 36, 37] [2, 3, 4, 5, 6, 7, 8, 9, 10, 11, 12, 13, 14, 15, 16, 17, 18, 19, 20] [19, 20, 0, 1, 2, 3, 4, 5, 6, 7, 8, 9, 10, 11, 12, 13, 14, 15, 16, 17, 18, 21, 22, 23, 24, 25, 26, 27, 28, 29, 30, 31, 32, 33, 34, 35, 36, 37] rfl rfl rfl rfl rfl rfl rfl rfl hl.1 rfl (Nat.le_of_ble_eq_true rfl) ⟨Nat.zero_le _, Nat.zero_le _⟩ dX11_settleText_32 (fun H locs B => ?_)
          cases h
          exact k_vret C B dX11_settleText_35
        · rw [if_neg c_80] at h
          by_cases c_81 : x1 = 1
          · rw [if_pos c_81] at h
            refine k_ald1 C B 1 rfl rfl c_81 dX11_settleText_27 ?_
            obtain ⟨⟨wk_low_65, wk_mid_66, wk_high_67, wk_holds_68, rs_low_69, rs_mid_70, rs_high_71, ch_nodes_72, ch_signs_73, ch_felt_74, ch_count_75⟩, g_79, h⟩ := ob_some h
            try dsimp only at h
            refine kc_VV C B (q0 := 16) (ci := 1) (As := [.ref (a 12)]) (rest := []) (w2 := (wd_nt_t0_t1_wk_rs_ch_te_no_fw a b cI cJ cT t0_signs t0_wanted t0_owners t0_places t0_spans t0_partNodes t0_count t1_signs t1_wanted t1_owners t1_places t1_spans t1_partNodes t1_count wk_low_65 wk_mid_66 wk_high_67 wk_holds_68 rs_low_69 rs_mid_70 rs_high_71 ch_nodes_72 ch_signs_73 ch_felt_74 ch_count_75 te_inputs te_dues te_count no_bits no_wishedInputs no_wishedMany no_hiddenUnlike fw_waits fw_wl fw_wa fw_order fw_sum fw_set fw_fresh)) (tX1_list (a := a) (b := fun k => a (12 + k)) N g_79) gX11_settleText_X1_list rfl ⟨rfl, rfl⟩ ⟨rfl, hdX1_list⟩ ⟨Nat.le_of_ble_eq_true rfl, Nat.le_of_ble_eq_true rfl⟩ rfl rfl [9, 10, 11, 12, 13, 14, 15, 16, 17, 18, 19, 20, 21, 22, 23, 24, 25, 26, 27, 28] [0, 1, 2, 3, 4, 5, 6, 7, 8, 29, 30, 31, 32, 33, 34, 35, 36, 37] [0, 1, 2, 3, 4, 5, 6, 7, 8, 18, 19, 20, 21, 22, 23, 24, 25, 26, 27, 28, 29, 30, 31, 32, 33, 34, 35, 36, 37, 9, 10, 11, 12, 13, 14, 15, 16, 17] rfl rfl rfl rfl rfl rfl rfl rfl hl.1 rfl (Nat.le_of_ble_eq_true rfl) ⟨Nat.zero_le _, Nat.zero_le _⟩ dX11_settleText_28 (fun H locs B => ?_)
            refine lv_aload_n hx hb dX11_settleText_31 rfl (lv_at hl 0 rfl) ?_
            obtain ⟨⟨no_bits_76, fw_fresh_77⟩, g_78, h⟩ := ob_some h
            try dsimp only at h
            refine kc_VV C B (q0 := 0) (ci := 11) (As := []) (rest := []) (w2 := (wd_nt_t0_t1_wk_rs_ch_te_no_fw a b cI cJ cT t0_signs t0_wanted t0_owners t0_places t0_spans t0_partNodes t0_count t1_signs t1_wanted t1_owners t1_places t1_spans t1_partNodes t1_count wk_low_65 wk_mid_66 wk_high_67 wk_holds_68 rs_low_69 rs_mid_70 rs_high_71 ch_nodes_72 ch_signs_73 ch_felt_74 ch_count_75 te_inputs te_dues te_count no_bits_76 no_wishedInputs no_wishedMany no_hiddenUnlike fw_waits fw_wl fw_wa fw_order fw_sum fw_set fw_fresh_77)) (tX11_settleNotices (a := a) (b := b) N g_78) gX11_settleText_X11_settleNotices rfl ⟨rfl, rfl⟩ ⟨rfl, hdX11_settleNotices⟩ ⟨Nat.le_of_ble_eq_true rfl, Nat.le_of_ble_eq_true rfl⟩ rfl rfl [0, 1, 21, 22, 23, 24, 25, 26, 27, 28, 29, 30, 31, 32, 33, 34, 35, 36, 37] [2, 3, 4, 5, 6, 7, 8, 9, 10, 11, 12, 13, 14, 15, 16, 17, 18, 19, 20] [19, 20, 0, 1, 2, 3, 4, 5, 6, 7, 8, 9, 10, 11, 12, 13, 14, 15, 16, 17, 18, 21, 22, 23, 24, 25, 26, 27, 28, 29, 30, 31, 32, 33, 34, 35, 36, 37] rfl rfl rfl rfl rfl rfl rfl rfl hl.1 rfl (Nat.le_of_ble_eq_true rfl) ⟨Nat.zero_le _, Nat.zero_le _⟩ dX11_settleText_32 (fun H locs B => ?_)
            cases h
            exact k_vret C B dX11_settleText_35
          · rw [if_neg c_81] at h
            cases h
    · rw [if_neg c_84] at h
      cases h
end
theorem tX11_settleText {l : Launch} {D : va_G} {Es : (Nat → Nat) × (Nat → Nat)} {a b : Nat → Nat} {cI cJ cT : ClassId} {t0_signs : Nat → Int32} {t0_wanted : Nat → Int32} {t0_owners : Nat → Int32} {t0_places : Nat → Int32} {t0_spans : Nat → Int32} {t0_partNodes : Nat → Int32} {t0_count : Int32} {t1_signs : Nat → Int32} {t1_wanted : Nat → Int32} {t1_owners : Nat → Int32} {t1_places : Nat → Int32} {t1_spans : Nat → Int32} {t1_partNodes : Nat → Int32} {t1_count : Int32} {wk_low : Nat → Int64} {wk_mid : Nat → Int64} {wk_high : Nat → Int64} {wk_holds : Nat → Int64} {rs_low : Nat → Int64} {rs_mid : Nat → Int64} {rs_high : Nat → Int64} {ch_nodes : Nat → Int32} {ch_signs : Nat → Int32} {ch_felt : Nat → Int32} {ch_count : Int32} {te_inputs : Nat → Int32} {te_dues : Nat → Int32} {te_count : Int32} {no_bits : Nat → Int32} {no_wishedInputs : Int32} {no_wishedMany : Int32} {no_hiddenUnlike : Nat → Int64} {fw_waits : Nat → Int32} {fw_wl : Nat} {fw_wa : Nat} {fw_order : Nat → Int32} {fw_sum : Int32} {fw_set : Int32} {fw_fresh : Int32} {x1 : Int32} {z_wk_low : Nat → Int64} {z_wk_mid : Nat → Int64} {z_wk_high : Nat → Int64} {z_wk_holds : Nat → Int64} {z_rs_low : Nat → Int64} {z_rs_mid : Nat → Int64} {z_rs_high : Nat → Int64} {z_ch_nodes : Nat → Int32} {z_ch_signs : Nat → Int32} {z_ch_felt : Nat → Int32} {z_ch_count : Int32} {z_no_bits : Nat → Int32} {z_fw_fresh : Int32} (N : Nat) (h : fX11_settleText N t0_signs t0_wanted t0_partNodes t0_count t1_signs t1_wanted t1_partNodes t1_count te_inputs te_count x1 wk_low wk_mid wk_high wk_holds rs_low rs_mid rs_high ch_nodes ch_signs ch_felt ch_count no_bits fw_fresh = some (z_wk_low, z_wk_mid, z_wk_high, z_wk_holds, z_rs_low, z_rs_mid, z_rs_high, z_ch_nodes, z_ch_signs, z_ch_felt, z_ch_count, z_no_bits, z_fw_fresh)) : CtV l yX11_settleText wsX11_settleText rmX11_settleText D (tyl cI cJ cT) Es [.ref (a 0), .int x1] (wd_nt_t0_t1_wk_rs_ch_te_no_fw a b cI cJ cT t0_signs t0_wanted t0_owners t0_places t0_spans t0_partNodes t0_count t1_signs t1_wanted t1_owners t1_places t1_spans t1_partNodes t1_count wk_low wk_mid wk_high wk_holds rs_low rs_mid rs_high ch_nodes ch_signs ch_felt ch_count te_inputs te_dues te_count no_bits no_wishedInputs no_wishedMany no_hiddenUnlike fw_waits fw_wl fw_wa fw_order fw_sum fw_set fw_fresh) (wd_nt_t0_t1_wk_rs_ch_te_no_fw a b cI cJ cT t0_signs t0_wanted t0_owners t0_places t0_spans t0_partNodes t0_count t1_signs t1_wanted t1_owners t1_places t1_spans t1_partNodes t1_count z_wk_low z_wk_mid z_wk_high z_wk_holds z_rs_low z_rs_mid z_rs_high z_ch_nodes z_ch_signs z_ch_felt z_ch_count te_inputs te_dues te_count z_no_bits no_wishedInputs no_wishedMany no_hiddenUnlike fw_waits fw_wl fw_wa fw_order fw_sum fw_set z_fw_fresh) :=
  CtV.of (own := RX11) (cc := cX11_settleText) (nL := 2) (ret := none) (by decide +kernel) rfl rfl (Nat.le_of_ble_eq_true rfl) rfl (fun p e s m below meth c A ls C B hl => qX11_settleText_0 C (N := N) x1 wk_low wk_mid wk_high wk_holds rs_low rs_mid rs_high ch_nodes ch_signs ch_felt ch_count no_bits fw_fresh h _ _ _ B hl)

abbrev rmX11_read : Room := { frames := 8, cells := 0, slots := 0, locals := 178 }
theorem hdX11_read : yX11_read.cls ≠ "java/lang/invoke/MethodHandle" ∧ yX11_read.cls ≠ "java/lang/invoke/VarHandle" ∧ (parseMethodDescriptor yX11_read.desc).map (fun d => d.parameters.length) = some 1 := by decide +kernel
theorem iX11_read_X11 : ∀ w ∈ wsX110, w ∈ wsX11_read := by decide +kernel
theorem gfX11_read_12 {p : Program} {l : Launch} {e : Env} {R : Room} {s : State} {m : MethodId} {args : Array Value} {below : List Frame} {meth : Method} {c : Code} {H : Heap} {locs : List Loc} {cells slots : Nat} {Q : State → Prop} {D : va_G} {A : Nat → Prop} {tys : List (ClassId × FieldType)} {Es : (Nat → Nat) × (Nat → Nat)} {ws : va_W} {pc : Nat} {ls : Array Slot} {rest : List Value} {a : Nat} (C : CT p s m args meth c RX11 cX11_read 2 (some .int) wsX11_read D A tys Es) (B : DB D A ws s H locs) (q0 : Nat) {fs : List Value} {v : Value} (he : ws[q0]? = some (a, .inr (11, fs))) (hv : fs[0]? = some v) (hdg : decode cX11_read pc = .ok (.getfield 12, 3)) (kk : W p l e R s m args below meth c H locs cells slots Q (F0 m (pc + 3) ls (v :: rest))) : W p l e R s m args below meth c H locs cells slots Q (F0 m pc ls (.ref a :: rest)) :=
  k_get (Cn := RX11) (T := TX11) (N := 11) (index := 12) C B iX11_read_X11 rfl 0 (by decide) (by decide +kernel) q0 he hv hdg kk
theorem iX11_read_X5 : ∀ w ∈ wsX50, w ∈ wsX11_read := by decide +kernel
theorem gfX11_read_100 {p : Program} {l : Launch} {e : Env} {R : Room} {s : State} {m : MethodId} {args : Array Value} {below : List Frame} {meth : Method} {c : Code} {H : Heap} {locs : List Loc} {cells slots : Nat} {Q : State → Prop} {D : va_G} {A : Nat → Prop} {tys : List (ClassId × FieldType)} {Es : (Nat → Nat) × (Nat → Nat)} {ws : va_W} {pc : Nat} {ls : Array Slot} {rest : List Value} {a : Nat} (C : CT p s m args meth c RX11 cX11_read 2 (some .int) wsX11_read D A tys Es) (B : DB D A ws s H locs) (q0 : Nat) {fs : List Value} {v : Value} (he : ws[q0]? = some (a, .inr (5, fs))) (hv : fs[1]? = some v) (hdg : decode cX11_read pc = .ok (.getfield 100, 3)) (kk : W p l e R s m args below meth c H locs cells slots Q (F0 m (pc + 3) ls (v :: rest))) : W p l e R s m args below meth c H locs cells slots Q (F0 m pc ls (.ref a :: rest)) :=
  k_get (Cn := RX5) (T := TX5) (N := 3) (index := 100) C B iX11_read_X5 rfl 1 (by decide) (by decide +kernel) q0 he hv hdg kk
theorem gfX11_read_19 {p : Program} {l : Launch} {e : Env} {R : Room} {s : State} {m : MethodId} {args : Array Value} {below : List Frame} {meth : Method} {c : Code} {H : Heap} {locs : List Loc} {cells slots : Nat} {Q : State → Prop} {D : va_G} {A : Nat → Prop} {tys : List (ClassId × FieldType)} {Es : (Nat → Nat) × (Nat → Nat)} {ws : va_W} {pc : Nat} {ls : Array Slot} {rest : List Value} {a : Nat} (C : CT p s m args meth c RX11 cX11_read 2 (some .int) wsX11_read D A tys Es) (B : DB D A ws s H locs) (q0 : Nat) {fs : List Value} {v : Value} (he : ws[q0]? = some (a, .inr (11, fs))) (hv : fs[1]? = some v) (hdg : decode cX11_read pc = .ok (.getfield 19, 3)) (kk : W p l e R s m args below meth c H locs cells slots Q (F0 m (pc + 3) ls (v :: rest))) : W p l e R s m args below meth c H locs cells slots Q (F0 m pc ls (.ref a :: rest)) :=
  k_get (Cn := RX11) (T := TX11) (N := 11) (index := 19) C B iX11_read_X11 rfl 1 (by decide) (by decide +kernel) q0 he hv hdg kk
theorem gfX11_read_104 {p : Program} {l : Launch} {e : Env} {R : Room} {s : State} {m : MethodId} {args : Array Value} {below : List Frame} {meth : Method} {c : Code} {H : Heap} {locs : List Loc} {cells slots : Nat} {Q : State → Prop} {D : va_G} {A : Nat → Prop} {tys : List (ClassId × FieldType)} {Es : (Nat → Nat) × (Nat → Nat)} {ws : va_W} {pc : Nat} {ls : Array Slot} {rest : List Value} {a : Nat} (C : CT p s m args meth c RX11 cX11_read 2 (some .int) wsX11_read D A tys Es) (B : DB D A ws s H locs) (q0 : Nat) {fs : List Value} {v : Value} (he : ws[q0]? = some (a, .inr (5, fs))) (hv : fs[0]? = some v) (hdg : decode cX11_read pc = .ok (.getfield 104, 3)) (kk : W p l e R s m args below meth c H locs cells slots Q (F0 m (pc + 3) ls (v :: rest))) : W p l e R s m args below meth c H locs cells slots Q (F0 m pc ls (.ref a :: rest)) :=
  k_get (Cn := RX5) (T := TX5) (N := 3) (index := 104) C B iX11_read_X5 rfl 0 (by decide) (by decide +kernel) q0 he hv hdg kk
theorem iX11_read_X9 : ∀ w ∈ wsX90, w ∈ wsX11_read := by decide +kernel
theorem gfX11_read_120 {p : Program} {l : Launch} {e : Env} {R : Room} {s : State} {m : MethodId} {args : Array Value} {below : List Frame} {meth : Method} {c : Code} {H : Heap} {locs : List Loc} {cells slots : Nat} {Q : State → Prop} {D : va_G} {A : Nat → Prop} {tys : List (ClassId × FieldType)} {Es : (Nat → Nat) × (Nat → Nat)} {ws : va_W} {pc : Nat} {ls : Array Slot} {rest : List Value} {a : Nat} (C : CT p s m args meth c RX11 cX11_read 2 (some .int) wsX11_read D A tys Es) (B : DB D A ws s H locs) (q0 : Nat) {fs : List Value} {v : Value} (he : ws[q0]? = some (a, .inr (9, fs))) (hv : fs[6]? = some v) (hdg : decode cX11_read pc = .ok (.getfield 120, 3)) (kk : W p l e R s m args below meth c H locs cells slots Q (F0 m (pc + 3) ls (v :: rest))) : W p l e R s m args below meth c H locs cells slots Q (F0 m pc ls (.ref a :: rest)) :=
  k_get (Cn := RX9) (T := TX9) (N := 7) (index := 120) C B iX11_read_X9 rfl 6 (by decide) (by decide +kernel) q0 he hv hdg kk
theorem pfX11_read_100 {p : Program} {l : Launch} {e : Env} {R : Room} {s : State} {m : MethodId} {args : Array Value} {below : List Frame} {meth : Method} {c : Code} {H : Heap} {locs : List Loc} {cells slots : Nat} {Q : State → Prop} {D : va_G} {A : Nat → Prop} {tys : List (ClassId × FieldType)} {Es : (Nat → Nat) × (Nat → Nat)} {ws : va_W} {pc : Nat} {ls : Array Slot} {rest : List Value} {a : Nat} (C : CT p s m args meth c RX11 cX11_read 2 (some .int) wsX11_read D A tys Es) (B : DB D A ws s H locs) (q0 : Nat) {fs : List Value} {v : Value} (hn : narrow .int v = v) (hfit : fits .int v = true) (he : ws[q0]? = some (a, .inr (5, fs))) (hl : 1 < fs.length) (hdg : decode cX11_read pc = .ok (.putfield 100, 3)) (kk : ∀ (H1 : Heap) (locs1 : List Loc), DB D A (ws.set q0 (a, .inr (5, fs.set 1 v))) s H1 locs1 → W p l e R s m args below meth c H1 locs1 cells slots Q (F0 m (pc + 3) ls rest)) : W p l e R s m args below meth c H locs cells slots Q (F0 m pc ls (v :: .ref a :: rest)) :=
  k_put (Cn := RX5) (T := TX5) (N := 3) (index := 100) C B iX11_read_X5 rfl tyX5 tyX5_ok nmX5 1 (by decide) (by decide +kernel) rfl q0 (by decide +kernel) hn hfit he hl hdg kk
section
variable {p : Program} {l : Launch} {e : Env} {s : State} {m : MethodId} {args : Array Value} {below : List Frame} {meth : Method} {c : Code} {D : va_G} {A : Nat → Prop} {Es : (Nat → Nat) × (Nat → Nat)} {a b : Nat → Nat} {cI cJ cT : ClassId}
set_option maxHeartbeats 4000000 in
set_option maxRecDepth 100000 in
theorem qX11_read_0 (C : CT p s m args meth c RX11 cX11_read 2 (some .int) wsX11_read D A (tyl cI cJ cT) Es) {N : Nat} {pd_signs : Nat → Int32} {te_inputs : Nat → Int32} {te_dues : Nat → Int32} {te_count : Int32} {no_wishedInputs : Int32} {no_wishedMany : Int32} {no_hiddenUnlike : Nat → Int64} {fw_waits : Nat → Int32} {fw_wl : Nat} {fw_wa : Nat} {fw_order : Nat → Int32} {fw_sum : Int32} {fw_set : Int32} {z_r : Int32} {z_pd_count : Int32} {z_pd_lacking : Nat → Int32} {z_t0_signs : Nat → Int32} {z_t0_wanted : Nat → Int32} {z_t0_owners : Nat → Int32} {z_t0_places : Nat → Int32} {z_t0_spans : Nat → Int32} {z_t0_partNodes : Nat → Int32} {z_t0_count : Int32} {z_t1_signs : Nat → Int32} {z_t1_wanted : Nat → Int32} {z_t1_owners : Nat → Int32} {z_t1_places : Nat → Int32} {z_t1_spans : Nat → Int32} {z_t1_partNodes : Nat → Int32} {z_t1_count : Int32} {z_wk_low : Nat → Int64} {z_wk_mid : Nat → Int64} {z_wk_high : Nat → Int64} {z_wk_holds : Nat → Int64} {z_rs_low : Nat → Int64} {z_rs_mid : Nat → Int64} {z_rs_high : Nat → Int64} {z_ch_nodes : Nat → Int32} {z_ch_signs : Nat → Int32} {z_ch_felt : Nat → Int32} {z_ch_count : Int32} {z_no_bits : Nat → Int32} {z_fw_fresh : Int32} : ∀ (x1 : Int32) (pd_count : Int32) (pd_lacking : Nat → Int32) (t0_signs : Nat → Int32) (t0_wanted : Nat → Int32) (t0_owners : Nat → Int32) (t0_places : Nat → Int32) (t0_spans : Nat → Int32) (t0_partNodes : Nat → Int32) (t0_count : Int32) (t1_signs : Nat → Int32) (t1_wanted : Nat → Int32) (t1_owners : Nat → Int32) (t1_places : Nat → Int32) (t1_spans : Nat → Int32) (t1_partNodes : Nat → Int32) (t1_count : Int32) (wk_low : Nat → Int64) (wk_mid : Nat → Int64) (wk_high : Nat → Int64) (wk_holds : Nat → Int64) (rs_low : Nat → Int64) (rs_mid : Nat → Int64) (rs_high : Nat → Int64) (ch_nodes : Nat → Int32) (ch_signs : Nat → Int32) (ch_felt : Nat → Int32) (ch_count : Int32) (no_bits : Nat → Int32) (fw_fresh : Int32), fX11_read N pd_signs te_inputs te_count x1 pd_count pd_lacking t0_signs t0_wanted t0_owners t0_places t0_spans t0_partNodes t0_count t1_signs t1_wanted t1_owners t1_places t1_spans t1_partNodes t1_count wk_low wk_mid wk_high wk_holds rs_low rs_mid rs_high ch_nodes ch_signs ch_felt ch_count no_bits fw_fresh = some (z_r, z_pd_count, z_pd_lacking, z_t0_signs, z_t0_wanted, z_t0_owners, z_t0_places, z_t0_spans, z_t0_partNodes, z_t0_count, z_t1_signs, z_t1_wanted, z_t1_owners, z_t1_places, z_t1_spans, z_t1_partNodes, z_t1_count, z_wk_low, z_wk_mid, z_wk_high, z_wk_holds, z_rs_low, z_rs_mid, z_rs_high, z_ch_nodes, z_ch_signs, z_ch_felt, z_ch_count, z_no_bits, z_fw_fresh) → ∀ (H : Heap) (locs : List Loc) (ls : Array Slot), DB D A (wd_nt_pd_t0_t1_wk_rs_ch_te_no_fw a b cI cJ cT pd_signs pd_count pd_lacking t0_signs t0_wanted t0_owners t0_places t0_spans t0_partNodes t0_count t1_signs t1_wanted t1_owners t1_places t1_spans t1_partNodes t1_count wk_low wk_mid wk_high wk_holds rs_low rs_mid rs_high ch_nodes ch_signs ch_felt ch_count te_inputs te_dues te_count no_bits no_wishedInputs no_wishedMany no_hiddenUnlike fw_waits fw_wl fw_wa fw_order fw_sum fw_set fw_fresh) s H locs → lv_has ls 2 [(0, .ref (a 0)), (1, .int x1)] → W p l e rmX11_read s m args below meth c H locs 0 0 (ZI below args s D A (tyl cI cJ cT) z_r (wd_nt_pd_t0_t1_wk_rs_ch_te_no_fw a b cI cJ cT pd_signs z_pd_count z_pd_lacking z_t0_signs z_t0_wanted z_t0_owners z_t0_places z_t0_spans z_t0_partNodes z_t0_count z_t1_signs z_t1_wanted z_t1_owners z_t1_places z_t1_spans z_t1_partNodes z_t1_count z_wk_low z_wk_mid z_wk_high z_wk_holds z_rs_low z_rs_mid z_rs_high z_ch_nodes z_ch_signs z_ch_felt z_ch_count te_inputs te_dues te_count z_no_bits no_wishedInputs no_wishedMany no_hiddenUnlike fw_waits fw_wl fw_wa fw_order fw_sum fw_set z_fw_fresh) 0 0) (F0 m 0 ls []) := by
  have hx := C.1.1
  have hb := C.1.2.1
  have hown := C.1.2.2.2.1
  have hts := C.1.2.2.2.2
  intro x1 pd_count pd_lacking t0_signs t0_wanted t0_owners t0_places t0_spans t0_partNodes t0_count t1_signs t1_wanted t1_owners t1_places t1_spans t1_partNodes t1_count wk_low wk_mid wk_high wk_holds rs_low rs_mid rs_high ch_nodes ch_signs ch_felt ch_count no_bits fw_fresh h H locs ls B hl
  rw [fX11_read] at h
  refine lv_aload_n hx hb dX11_read_0 rfl (lv_at hl 0 rfl) ?_
  refine lv_iload_n hx hb dX11_read_1 rfl (lv_at hl 1 rfl) ?_
  obtain ⟨r_1, g_58, h⟩ := ob_some h
  try dsimp only at h
  refine kc_VI C B (q0 := 0) (ci := 11) (As := [.int x1]) (rest := []) (w2 := (wd_nt_pd_t0_t1_wk_rs_ch_te_no_fw a b cI cJ cT pd_signs pd_count pd_lacking t0_signs t0_wanted t0_owners t0_places t0_spans t0_partNodes t0_count t1_signs t1_wanted t1_owners t1_places t1_spans t1_partNodes t1_count wk_low wk_mid wk_high wk_holds rs_low rs_mid rs_high ch_nodes ch_signs ch_felt ch_count te_inputs te_dues te_count no_bits no_wishedInputs no_wishedMany no_hiddenUnlike fw_waits fw_wl fw_wa fw_order fw_sum fw_set fw_fresh)) (tX11_isText (a := a) (b := b) N g_58) gX11_read_X11_isText rfl ⟨rfl, rfl⟩ ⟨rfl, hdX11_isText⟩ ⟨Nat.le_of_ble_eq_true rfl, Nat.le_of_ble_eq_true rfl⟩ rfl rfl [0, 1] [2, 3, 4, 5, 6, 7, 8, 9, 10, 11, 12, 13, 14, 15, 16, 17, 18, 19, 20, 21, 22, 23, 24, 25, 26, 27, 28, 29, 30, 31, 32, 33, 34, 35, 36, 37, 38, 39, 40] [39, 40, 0, 1, 2, 3, 4, 5, 6, 7, 8, 9, 10, 11, 12, 13, 14, 15, 16, 17, 18, 19, 20, 21, 22, 23, 24, 25, 26, 27, 28, 29, 30, 31, 32, 33, 34, 35, 36, 37, 38] rfl rfl rfl rfl rfl rfl rfl rfl hl.1 rfl (Nat.le_of_ble_eq_true rfl) ⟨Nat.zero_le _, Nat.zero_le _⟩ dX11_read_2 (fun H locs B => ?_)
  refine lv_if_ne (tgt := 10) hx hb dX11_read_5 (by decide) (fun c_2 => ?_) (fun c_2 => ?_)
  · rw [if_neg c_2] at h
    refine lv_aload_n hx hb dX11_read_10 rfl (lv_at hl 0 rfl) ?_
    refine gfX11_read_12 C B 0 rfl rfl dX11_read_11 ?_
    obtain ⟨⟨r_3, pd_lacking_4⟩, g_57, h⟩ := ob_some h
    try dsimp only at h
    refine kc_VI C B (q0 := 0) (ci := 5) (As := []) (rest := []) (w2 := (wd_nt_pd_t0_t1_wk_rs_ch_te_no_fw a b cI cJ cT pd_signs pd_count pd_lacking_4 t0_signs t0_wanted t0_owners t0_places t0_spans t0_partNodes t0_count t1_signs t1_wanted t1_owners t1_places t1_spans t1_partNodes t1_count wk_low wk_mid wk_high wk_holds rs_low rs_mid rs_high ch_nodes ch_signs ch_felt ch_count te_inputs te_dues te_count no_bits no_wishedInputs no_wishedMany no_hiddenUnlike fw_waits fw_wl fw_wa fw_order fw_sum fw_set fw_fresh)) (tX5_firstFault (a := a) (b := b) N g_57) gX11_read_X5_firstFault rfl ⟨rfl, rfl⟩ ⟨rfl, hdX5_firstFault⟩ ⟨Nat.le_of_ble_eq_true rfl, Nat.le_of_ble_eq_true rfl⟩ rfl rfl [2, 3, 4] [0, 1, 5, 6, 7, 8, 9, 10, 11, 12, 13, 14, 15, 16, 17, 18, 19, 20, 21, 22, 23, 24, 25, 26, 27, 28, 29, 30, 31, 32, 33, 34, 35, 36, 37, 38, 39, 40] [0, 1, 38, 39, 40, 2, 3, 4, 5, 6, 7, 8, 9, 10, 11, 12, 13, 14, 15, 16, 17, 18, 19, 20, 21, 22, 23, 24, 25, 26, 27, 28, 29, 30, 31, 32, 33, 34, 35, 36, 37] rfl rfl rfl rfl rfl rfl rfl rfl hl.1 rfl (Nat.le_of_ble_eq_true rfl) ⟨Nat.zero_le _, Nat.zero_le _⟩ dX11_read_14 (fun H locs B => ?_)
    refine lv_bipush (v := -6) hx hb dX11_read_17 (by decide) ?_
    refine lv_icmp_eq (tgt := 25) hx hb dX11_read_19 (by decide) (fun c_5 => ?_) (fun c_5 => ?_)
    · rw [if_pos c_5] at h
      refine lv_aload_n hx hb dX11_read_25 rfl (lv_at hl 0 rfl) ?_
      refine gfX11_read_12 C B 0 rfl rfl dX11_read_26 ?_
      refine gfX11_read_100 C B 2 rfl rfl dX11_read_29 ?_
      refine lv_bipush (v := 24) hx hb dX11_read_32 (by decide) ?_
      refine lv_icmp_le (tgt := 40) hx hb dX11_read_34 (by decide) (fun c_6 => ?_) (fun c_6 => ?_)
      · rw [if_pos c_6] at h
        refine lv_aload_n hx hb dX11_read_40 rfl (lv_at hl 0 rfl) ?_
        refine gfX11_read_19 C B 0 rfl rfl dX11_read_41 ?_
        refine lv_iload_n hx hb dX11_read_44 rfl (lv_at hl 1 rfl) ?_
        by_cases c_55 : x1 = 0
        · rw [if_pos c_55] at h
          refine k_ald0 C B 1 rfl rfl c_55 dX11_read_45 ?_
          refine lv_aload_n hx hb dX11_read_46 rfl (lv_at hl 0 rfl) ?_
          refine gfX11_read_12 C B 0 rfl rfl dX11_read_47 ?_
          refine gfX11_read_104 C B 2 rfl rfl dX11_read_50 ?_
          refine lv_aload_n hx hb dX11_read_53 rfl (lv_at hl 0 rfl) ?_
          refine gfX11_read_12 C B 0 rfl rfl dX11_read_54 ?_
          refine gfX11_read_100 C B 2 rfl rfl dX11_read_57 ?_
          obtain ⟨⟨t0_signs_7, t0_wanted_8, t0_owners_9, t0_places_10, t0_spans_11, t0_partNodes_12, t0_count_13⟩, g_30, h⟩ := ob_some h
          try dsimp only at h
          refine kc_VV C B (q0 := 3) (ci := 9) (As := [.ref (a 3), .int pd_count]) (rest := []) (w2 := (wd_nt_pd_t0_t1_wk_rs_ch_te_no_fw a b cI cJ cT pd_signs pd_count pd_lacking_4 t0_signs_7 t0_wanted_8 t0_owners_9 t0_places_10 t0_spans_11 t0_partNodes_12 t0_count_13 t1_signs t1_wanted t1_owners t1_places t1_spans t1_partNodes t1_count wk_low wk_mid wk_high wk_holds rs_low rs_mid rs_high ch_nodes ch_signs ch_felt ch_count te_inputs te_dues te_count no_bits no_wishedInputs no_wishedMany no_hiddenUnlike fw_waits fw_wl fw_wa fw_order fw_sum fw_set fw_fresh)) (tX9_take (a := a) (b := fun k => a (5 + k)) N g_30) gX11_read_X9_take rfl ⟨rfl, rfl⟩ ⟨rfl, hdX9_take⟩ ⟨Nat.le_of_ble_eq_true rfl, Nat.le_of_ble_eq_true rfl⟩ rfl rfl [2, 3, 4, 5, 6, 7, 8, 9, 10, 11] [0, 1, 12, 13, 14, 15, 16, 17, 18, 19, 20, 21, 22, 23, 24, 25, 26, 27, 28, 29, 30, 31, 32, 33, 34, 35, 36, 37, 38, 39, 40] [0, 1, 31, 32, 33, 34, 35, 36, 37, 38, 39, 40, 2, 3, 4, 5, 6, 7, 8, 9, 10, 11, 12, 13, 14, 15, 16, 17, 18, 19, 20, 21, 22, 23, 24, 25, 26, 27, 28, 29, 30] rfl rfl rfl rfl rfl rfl rfl rfl hl.1 rfl (Nat.le_of_ble_eq_true rfl) ⟨Nat.zero_le _, Nat.zero_le _⟩ dX11_read_60 (fun H locs B => ?_)
          refine lv_aload_n hx hb dX11_read_63 rfl (lv_at hl 0 rfl) ?_
          refine gfX11_read_12 C B 0 rfl rfl dX11_read_64 ?_
          refine lv_iconst (v := 0) hx hb dX11_read_67 (by decide) ?_
          refine pfX11_read_100 C B 2 rfl (by rfl) rfl (Nat.le_of_ble_eq_true rfl) dX11_read_68 (fun H locs B => ?_)
          have B : DB D A (wd_nt_pd_t0_t1_wk_rs_ch_te_no_fw a b cI cJ cT pd_signs (0 : Int32) pd_lacking_4 t0_signs_7 t0_wanted_8 t0_owners_9 t0_places_10 t0_spans_11 t0_partNodes_12 t0_count_13 t1_signs t1_wanted t1_owners t1_places t1_spans t1_partNodes t1_count wk_low wk_mid wk_high wk_holds rs_low rs_mid rs_high ch_nodes ch_signs ch_felt ch_count te_inputs te_dues te_count no_bits no_wishedInputs no_wishedMany no_hiddenUnlike fw_waits fw_wl fw_wa fw_order fw_sum fw_set fw_fresh) s H locs := B
          refine lv_aload_n hx hb dX11_read_71 rfl (lv_at hl 0 rfl) ?_
          refine lv_iload_n hx hb dX11_read_72 rfl (lv_at hl 1 rfl) ?_
          obtain ⟨⟨wk_low_14, wk_mid_15, wk_high_16, wk_holds_17, rs_low_18, rs_mid_19, rs_high_20, ch_nodes_21, ch_signs_22, ch_felt_23, ch_count_24, no_bits_25, fw_fresh_26⟩, g_29, h⟩ := ob_some h
          try dsimp only at h
          refine kc_VV C B (q0 := 0) (ci := 11) (As := [.int x1]) (rest := []) (w2 := (wd_nt_pd_t0_t1_wk_rs_ch_te_no_fw a b cI cJ cT pd_signs (0 : Int32) pd_lacking_4 t0_signs_7 t0_wanted_8 t0_owners_9 t0_places_10 t0_spans_11 t0_partNodes_12 t0_count_13 t1_signs t1_wanted t1_owners t1_places t1_spans t1_partNodes t1_count wk_low_14 wk_mid_15 wk_high_16 wk_holds_17 rs_low_18 rs_mid_19 rs_high_20 ch_nodes_21 ch_signs_22 ch_felt_23 ch_count_24 te_inputs te_dues te_count no_bits_25 no_wishedInputs no_wishedMany no_hiddenUnlike fw_waits fw_wl fw_wa fw_order fw_sum fw_set fw_fresh_26)) (tX11_settleText (a := a) (b := b) N g_29) gX11_read_X11_settleText rfl ⟨rfl, rfl⟩ ⟨rfl, hdX11_settleText⟩ ⟨Nat.le_of_ble_eq_true rfl, Nat.le_of_ble_eq_true rfl⟩ rfl rfl [0, 1, 5, 6, 7, 8, 9, 10, 11, 12, 13, 14, 15, 16, 17, 18, 19, 20, 21, 22, 23, 24, 25, 26, 27, 28, 29, 30, 31, 32, 33, 34, 35, 36, 37, 38, 39, 40] [2, 3, 4] [3, 4, 0, 1, 2, 5, 6, 7, 8, 9, 10, 11, 12, 13, 14, 15, 16, 17, 18, 19, 20, 21, 22, 23, 24, 25, 26, 27, 28, 29, 30, 31, 32, 33, 34, 35, 36, 37, 38, 39, 40] rfl rfl rfl rfl rfl rfl rfl rfl hl.1 rfl (Nat.le_of_ble_eq_true rfl) ⟨Nat.zero_le _, Nat.zero_le _⟩ dX11_read_73 (fun H locs B => ?_)
          refine lv_aload_n hx hb dX11_read_76 rfl (lv_at hl 0 rfl) ?_
          refine gfX11_read_19 C B 0 rfl rfl dX11_read_77 ?_
          refine lv_iload_n hx hb dX11_read_80 rfl (lv_at hl 1 rfl) ?_
          by_cases c_27 : x1 = 0
          · rw [if_pos c_27] at h
            refine k_ald0 C B 1 rfl rfl c_27 dX11_read_81 ?_
            refine gfX11_read_120 C B 5 rfl rfl dX11_read_82 ?_
            cases h
            exact k_iret C B dX11_read_85
          · rw [if_neg c_27] at h
            by_cases c_28 : x1 = 1
            · rw [if_pos c_28] at h
              refine k_ald1 C B 1 rfl rfl c_28 dX11_read_81 ?_
              refine gfX11_read_120 C B 12 rfl rfl dX11_read_82 ?_
              cases h
              exact k_iret C B dX11_read_85
            · rw [if_neg c_28] at h
              cases h
        · rw [if_neg c_55] at h
          by_cases c_56 : x1 = 1
          · rw [if_pos c_56] at h
            refine k_ald1 C B 1 rfl rfl c_56 dX11_read_45 ?_
            refine lv_aload_n hx hb dX11_read_46 rfl (lv_at hl 0 rfl) ?_
            refine gfX11_read_12 C B 0 rfl rfl dX11_read_47 ?_
            refine gfX11_read_104 C B 2 rfl rfl dX11_read_50 ?_
            refine lv_aload_n hx hb dX11_read_53 rfl (lv_at hl 0 rfl) ?_
            refine gfX11_read_12 C B 0 rfl rfl dX11_read_54 ?_
            refine gfX11_read_100 C B 2 rfl rfl dX11_read_57 ?_
            obtain ⟨⟨t1_signs_31, t1_wanted_32, t1_owners_33, t1_places_34, t1_spans_35, t1_partNodes_36, t1_count_37⟩, g_54, h⟩ := ob_some h
            try dsimp only at h
            refine kc_VV C B (q0 := 3) (ci := 9) (As := [.ref (a 3), .int pd_count]) (rest := []) (w2 := (wd_nt_pd_t0_t1_wk_rs_ch_te_no_fw a b cI cJ cT pd_signs pd_count pd_lacking_4 t0_signs t0_wanted t0_owners t0_places t0_spans t0_partNodes t0_count t1_signs_31 t1_wanted_32 t1_owners_33 t1_places_34 t1_spans_35 t1_partNodes_36 t1_count_37 wk_low wk_mid wk_high wk_holds rs_low rs_mid rs_high ch_nodes ch_signs ch_felt ch_count te_inputs te_dues te_count no_bits no_wishedInputs no_wishedMany no_hiddenUnlike fw_waits fw_wl fw_wa fw_order fw_sum fw_set fw_fresh)) (tX9_take (a := a) (b := fun k => a (12 + k)) N g_54) gX11_read_X9_take rfl ⟨rfl, rfl⟩ ⟨rfl, hdX9_take⟩ ⟨Nat.le_of_ble_eq_true rfl, Nat.le_of_ble_eq_true rfl⟩ rfl rfl [2, 3, 4, 12, 13, 14, 15, 16, 17, 18] [0, 1, 5, 6, 7, 8, 9, 10, 11, 19, 20, 21, 22, 23, 24, 25, 26, 27, 28, 29, 30, 31, 32, 33, 34, 35, 36, 37, 38, 39, 40] [0, 1, 31, 32, 33, 2, 3, 4, 5, 6, 7, 8, 34, 35, 36, 37, 38, 39, 40, 9, 10, 11, 12, 13, 14, 15, 16, 17, 18, 19, 20, 21, 22, 23, 24, 25, 26, 27, 28, 29, 30] rfl rfl rfl rfl rfl rfl rfl rfl hl.1 rfl (Nat.le_of_ble_eq_true rfl) ⟨Nat.zero_le _, Nat.zero_le _⟩ dX11_read_60 (fun H locs B => ?_)
            refine lv_aload_n hx hb dX11_read_63 rfl (lv_at hl 0 rfl) ?_
            refine gfX11_read_12 C B 0 rfl rfl dX11_read_64 ?_
            refine lv_iconst (v := 0) hx hb dX11_read_67 (by decide) ?_
            refine pfX11_read_100 C B 2 rfl (by rfl) rfl (Nat.le_of_ble_eq_true rfl) dX11_read_68 (fun H locs B => ?_)
            have B : DB D A (wd_nt_pd_t0_t1_wk_rs_ch_te_no_fw a b cI cJ cT pd_signs (0 : Int32) pd_lacking_4 t0_signs t0_wanted t0_owners t0_places t0_spans t0_partNodes t0_count t1_signs_31 t1_wanted_32 t1_owners_33 t1_places_34 t1_spans_35 t1_partNodes_36 t1_count_37 wk_low wk_mid wk_high wk_holds rs_low rs_mid rs_high ch_nodes ch_signs ch_felt ch_count te_inputs te_dues te_count no_bits no_wishedInputs no_wishedMany no_hiddenUnlike fw_waits fw_wl fw_wa fw_order fw_sum fw_set fw_fresh) s H locs := B
            refine lv_aload_n hx hb dX11_read_71 rfl (lv_at hl 0 rfl) ?_
            refine lv_iload_n hx hb dX11_read_72 rfl (lv_at hl 1 rfl) ?_
            obtain ⟨⟨wk_low_38, wk_mid_39, wk_high_40, wk_holds_41, rs_low_42, rs_mid_43, rs_high_44, ch_nodes_45, ch_signs_46, ch_felt_47, ch_count_48, no_bits_49, fw_fresh_50⟩, g_53, h⟩ := ob_some h
            try dsimp only at h
            refine kc_VV C B (q0 := 0) (ci := 11) (As := [.int x1]) (rest := []) (w2 := (wd_nt_pd_t0_t1_wk_rs_ch_te_no_fw a b cI cJ cT pd_signs (0 : Int32) pd_lacking_4 t0_signs t0_wanted t0_owners t0_places t0_spans t0_partNodes t0_count t1_signs_31 t1_wanted_32 t1_owners_33 t1_places_34 t1_spans_35 t1_partNodes_36 t1_count_37 wk_low_38 wk_mid_39 wk_high_40 wk_holds_41 rs_low_42 rs_mid_43 rs_high_44 ch_nodes_45 ch_signs_46 ch_felt_47 ch_count_48 te_inputs te_dues te_count no_bits_49 no_wishedInputs no_wishedMany no_hiddenUnlike fw_waits fw_wl fw_wa fw_order fw_sum fw_set fw_fresh_50)) (tX11_settleText (a := a) (b := b) N g_53) gX11_read_X11_settleText rfl ⟨rfl, rfl⟩ ⟨rfl, hdX11_settleText⟩ ⟨Nat.le_of_ble_eq_true rfl, Nat.le_of_ble_eq_true rfl⟩ rfl rfl [0, 1, 5, 6, 7, 8, 9, 10, 11, 12, 13, 14, 15, 16, 17, 18, 19, 20, 21, 22, 23, 24, 25, 26, 27, 28, 29, 30, 31, 32, 33, 34, 35, 36, 37, 38, 39, 40] [2, 3, 4] [3, 4, 0, 1, 2, 5, 6, 7, 8, 9, 10, 11, 12, 13, 14, 15, 16, 17, 18, 19, 20, 21, 22, 23, 24, 25, 26, 27, 28, 29, 30, 31, 32, 33, 34, 35, 36, 37, 38, 39, 40] rfl rfl rfl rfl rfl rfl rfl rfl hl.1 rfl (Nat.le_of_ble_eq_true rfl) ⟨Nat.zero_le _, Nat.zero_le _⟩ dX11_read_73 (fun H locs B => ?_)
            refine lv_aload_n hx hb dX11_read_76 rfl (lv_at hl 0 rfl) ?_
            refine gfX11_read_19 C B 0 rfl rfl dX11_read_77 ?_
            refine lv_iload_n hx hb dX11_read_80 rfl (lv_at hl 1 rfl) ?_
            by_cases c_51 : x1 = 0
            · rw [if_pos c_51] at h
              refine k_ald0 C B 1 rfl rfl c_51 dX11_read_81 ?_
              refine gfX11_read_120 C B 5 rfl rfl dX11_read_82 ?_
              cases h
              exact k_iret C B dX11_read_85
            · rw [if_neg c_51] at h
              by_cases c_52 : x1 = 1
              · rw [if_pos c_52] at h
                refine k_ald1 C B 1 rfl rfl c_52 dX11_read_81 ?_
                refine gfX11_read_120 C B 12 rfl rfl dX11_read_82 ?_
                cases h
                exact k_iret C B dX11_read_85
              · rw [if_neg c_52] at h
                cases h
          · rw [if_neg c_56] at h
            cases h
      · rw [if_neg c_6] at h
        refine lv_bipush (v := -4) hx hb dX11_read_37 (by decide) ?_
        cases h
        exact k_iret C B dX11_read_39
    · rw [if_neg c_5] at h
      refine lv_bipush (v := -5) hx hb dX11_read_22 (by decide) ?_
      cases h
      exact k_iret C B dX11_read_24
  · rw [if_pos c_2] at h
    refine lv_iconst (v := -1) hx hb dX11_read_8 (by decide) ?_
    cases h
    exact k_iret C B dX11_read_9
end
theorem tX11_read {l : Launch} {D : va_G} {Es : (Nat → Nat) × (Nat → Nat)} {a b : Nat → Nat} {cI cJ cT : ClassId} {pd_signs : Nat → Int32} {pd_count : Int32} {pd_lacking : Nat → Int32} {t0_signs : Nat → Int32} {t0_wanted : Nat → Int32} {t0_owners : Nat → Int32} {t0_places : Nat → Int32} {t0_spans : Nat → Int32} {t0_partNodes : Nat → Int32} {t0_count : Int32} {t1_signs : Nat → Int32} {t1_wanted : Nat → Int32} {t1_owners : Nat → Int32} {t1_places : Nat → Int32} {t1_spans : Nat → Int32} {t1_partNodes : Nat → Int32} {t1_count : Int32} {wk_low : Nat → Int64} {wk_mid : Nat → Int64} {wk_high : Nat → Int64} {wk_holds : Nat → Int64} {rs_low : Nat → Int64} {rs_mid : Nat → Int64} {rs_high : Nat → Int64} {ch_nodes : Nat → Int32} {ch_signs : Nat → Int32} {ch_felt : Nat → Int32} {ch_count : Int32} {te_inputs : Nat → Int32} {te_dues : Nat → Int32} {te_count : Int32} {no_bits : Nat → Int32} {no_wishedInputs : Int32} {no_wishedMany : Int32} {no_hiddenUnlike : Nat → Int64} {fw_waits : Nat → Int32} {fw_wl : Nat} {fw_wa : Nat} {fw_order : Nat → Int32} {fw_sum : Int32} {fw_set : Int32} {fw_fresh : Int32} {x1 : Int32} {z_r : Int32} {z_pd_count : Int32} {z_pd_lacking : Nat → Int32} {z_t0_signs : Nat → Int32} {z_t0_wanted : Nat → Int32} {z_t0_owners : Nat → Int32} {z_t0_places : Nat → Int32} {z_t0_spans : Nat → Int32} {z_t0_partNodes : Nat → Int32} {z_t0_count : Int32} {z_t1_signs : Nat → Int32} {z_t1_wanted : Nat → Int32} {z_t1_owners : Nat → Int32} {z_t1_places : Nat → Int32} {z_t1_spans : Nat → Int32} {z_t1_partNodes : Nat → Int32} {z_t1_count : Int32} {z_wk_low : Nat → Int64} {z_wk_mid : Nat → Int64} {z_wk_high : Nat → Int64} {z_wk_holds : Nat → Int64} {z_rs_low : Nat → Int64} {z_rs_mid : Nat → Int64} {z_rs_high : Nat → Int64} {z_ch_nodes : Nat → Int32} {z_ch_signs : Nat → Int32} {z_ch_felt : Nat → Int32} {z_ch_count : Int32} {z_no_bits : Nat → Int32} {z_fw_fresh : Int32} (N : Nat) (h : fX11_read N pd_signs te_inputs te_count x1 pd_count pd_lacking t0_signs t0_wanted t0_owners t0_places t0_spans t0_partNodes t0_count t1_signs t1_wanted t1_owners t1_places t1_spans t1_partNodes t1_count wk_low wk_mid wk_high wk_holds rs_low rs_mid rs_high ch_nodes ch_signs ch_felt ch_count no_bits fw_fresh = some (z_r, z_pd_count, z_pd_lacking, z_t0_signs, z_t0_wanted, z_t0_owners, z_t0_places, z_t0_spans, z_t0_partNodes, z_t0_count, z_t1_signs, z_t1_wanted, z_t1_owners, z_t1_places, z_t1_spans, z_t1_partNodes, z_t1_count, z_wk_low, z_wk_mid, z_wk_high, z_wk_holds, z_rs_low, z_rs_mid, z_rs_high, z_ch_nodes, z_ch_signs, z_ch_felt, z_ch_count, z_no_bits, z_fw_fresh)) : CtI l yX11_read wsX11_read rmX11_read D (tyl cI cJ cT) Es [.ref (a 0), .int x1] (wd_nt_pd_t0_t1_wk_rs_ch_te_no_fw a b cI cJ cT pd_signs pd_count pd_lacking t0_signs t0_wanted t0_owners t0_places t0_spans t0_partNodes t0_count t1_signs t1_wanted t1_owners t1_places t1_spans t1_partNodes t1_count wk_low wk_mid wk_high wk_holds rs_low rs_mid rs_high ch_nodes ch_signs ch_felt ch_count te_inputs te_dues te_count no_bits no_wishedInputs no_wishedMany no_hiddenUnlike fw_waits fw_wl fw_wa fw_order fw_sum fw_set fw_fresh) z_r (wd_nt_pd_t0_t1_wk_rs_ch_te_no_fw a b cI cJ cT pd_signs z_pd_count z_pd_lacking z_t0_signs z_t0_wanted z_t0_owners z_t0_places z_t0_spans z_t0_partNodes z_t0_count z_t1_signs z_t1_wanted z_t1_owners z_t1_places z_t1_spans z_t1_partNodes z_t1_count z_wk_low z_wk_mid z_wk_high z_wk_holds z_rs_low z_rs_mid z_rs_high z_ch_nodes z_ch_signs z_ch_felt z_ch_count te_inputs te_dues te_count z_no_bits no_wishedInputs no_wishedMany no_hiddenUnlike fw_waits fw_wl fw_wa fw_order fw_sum fw_set z_fw_fresh) :=
  CtI.of (own := RX11) (cc := cX11_read) (nL := 2) (ret := (some .int)) (by decide +kernel) rfl rfl (Nat.le_of_ble_eq_true rfl) rfl (fun p e s m below meth c A ls C B hl => qX11_read_0 C (N := N) x1 pd_count pd_lacking t0_signs t0_wanted t0_owners t0_places t0_spans t0_partNodes t0_count t1_signs t1_wanted t1_owners t1_places t1_spans t1_partNodes t1_count wk_low wk_mid wk_high wk_holds rs_low rs_mid rs_high ch_nodes ch_signs ch_felt ch_count no_bits fw_fresh h _ _ _ B hl)

abbrev rmX11_node : Room := { frames := 1, cells := 0, slots := 0, locals := 21 }
theorem hdX11_node : yX11_node.cls ≠ "java/lang/invoke/MethodHandle" ∧ yX11_node.cls ≠ "java/lang/invoke/VarHandle" ∧ (parseMethodDescriptor yX11_node.desc).map (fun d => d.parameters.length) = some 3 := by decide +kernel
theorem iX11_node_X11 : ∀ w ∈ wsX110, w ∈ wsX11_node := by decide +kernel
theorem gfX11_node_19 {p : Program} {l : Launch} {e : Env} {R : Room} {s : State} {m : MethodId} {args : Array Value} {below : List Frame} {meth : Method} {c : Code} {H : Heap} {locs : List Loc} {cells slots : Nat} {Q : State → Prop} {D : va_G} {A : Nat → Prop} {tys : List (ClassId × FieldType)} {Es : (Nat → Nat) × (Nat → Nat)} {ws : va_W} {pc : Nat} {ls : Array Slot} {rest : List Value} {a : Nat} (C : CT p s m args meth c RX11 cX11_node 4 (some .int) wsX11_node D A tys Es) (B : DB D A ws s H locs) (q0 : Nat) {fs : List Value} {v : Value} (he : ws[q0]? = some (a, .inr (11, fs))) (hv : fs[1]? = some v) (hdg : decode cX11_node pc = .ok (.getfield 19, 3)) (kk : W p l e R s m args below meth c H locs cells slots Q (F0 m (pc + 3) ls (v :: rest))) : W p l e R s m args below meth c H locs cells slots Q (F0 m pc ls (.ref a :: rest)) :=
  k_get (Cn := RX11) (T := TX11) (N := 11) (index := 19) C B iX11_node_X11 rfl 1 (by decide) (by decide +kernel) q0 he hv hdg kk
theorem iX11_node_X9 : ∀ w ∈ wsX90, w ∈ wsX11_node := by decide +kernel
theorem gfX11_node_120 {p : Program} {l : Launch} {e : Env} {R : Room} {s : State} {m : MethodId} {args : Array Value} {below : List Frame} {meth : Method} {c : Code} {H : Heap} {locs : List Loc} {cells slots : Nat} {Q : State → Prop} {D : va_G} {A : Nat → Prop} {tys : List (ClassId × FieldType)} {Es : (Nat → Nat) × (Nat → Nat)} {ws : va_W} {pc : Nat} {ls : Array Slot} {rest : List Value} {a : Nat} (C : CT p s m args meth c RX11 cX11_node 4 (some .int) wsX11_node D A tys Es) (B : DB D A ws s H locs) (q0 : Nat) {fs : List Value} {v : Value} (he : ws[q0]? = some (a, .inr (9, fs))) (hv : fs[6]? = some v) (hdg : decode cX11_node pc = .ok (.getfield 120, 3)) (kk : W p l e R s m args below meth c H locs cells slots Q (F0 m (pc + 3) ls (v :: rest))) : W p l e R s m args below meth c H locs cells slots Q (F0 m pc ls (.ref a :: rest)) :=
  k_get (Cn := RX9) (T := TX9) (N := 7) (index := 120) C B iX11_node_X9 rfl 6 (by decide) (by decide +kernel) q0 he hv hdg kk
theorem gfX11_node_121 {p : Program} {l : Launch} {e : Env} {R : Room} {s : State} {m : MethodId} {args : Array Value} {below : List Frame} {meth : Method} {c : Code} {H : Heap} {locs : List Loc} {cells slots : Nat} {Q : State → Prop} {D : va_G} {A : Nat → Prop} {tys : List (ClassId × FieldType)} {Es : (Nat → Nat) × (Nat → Nat)} {ws : va_W} {pc : Nat} {ls : Array Slot} {rest : List Value} {a : Nat} (C : CT p s m args meth c RX11 cX11_node 4 (some .int) wsX11_node D A tys Es) (B : DB D A ws s H locs) (q0 : Nat) {fs : List Value} {v : Value} (he : ws[q0]? = some (a, .inr (9, fs))) (hv : fs[0]? = some v) (hdg : decode cX11_node pc = .ok (.getfield 121, 3)) (kk : W p l e R s m args below meth c H locs cells slots Q (F0 m (pc + 3) ls (v :: rest))) : W p l e R s m args below meth c H locs cells slots Q (F0 m pc ls (.ref a :: rest)) :=
  k_get (Cn := RX9) (T := TX9) (N := 7) (index := 121) C B iX11_node_X9 rfl 0 (by decide) (by decide +kernel) q0 he hv hdg kk
theorem gfX11_node_122 {p : Program} {l : Launch} {e : Env} {R : Room} {s : State} {m : MethodId} {args : Array Value} {below : List Frame} {meth : Method} {c : Code} {H : Heap} {locs : List Loc} {cells slots : Nat} {Q : State → Prop} {D : va_G} {A : Nat → Prop} {tys : List (ClassId × FieldType)} {Es : (Nat → Nat) × (Nat → Nat)} {ws : va_W} {pc : Nat} {ls : Array Slot} {rest : List Value} {a : Nat} (C : CT p s m args meth c RX11 cX11_node 4 (some .int) wsX11_node D A tys Es) (B : DB D A ws s H locs) (q0 : Nat) {fs : List Value} {v : Value} (he : ws[q0]? = some (a, .inr (9, fs))) (hv : fs[2]? = some v) (hdg : decode cX11_node pc = .ok (.getfield 122, 3)) (kk : W p l e R s m args below meth c H locs cells slots Q (F0 m (pc + 3) ls (v :: rest))) : W p l e R s m args below meth c H locs cells slots Q (F0 m pc ls (.ref a :: rest)) :=
  k_get (Cn := RX9) (T := TX9) (N := 7) (index := 122) C B iX11_node_X9 rfl 2 (by decide) (by decide +kernel) q0 he hv hdg kk
theorem gfX11_node_125 {p : Program} {l : Launch} {e : Env} {R : Room} {s : State} {m : MethodId} {args : Array Value} {below : List Frame} {meth : Method} {c : Code} {H : Heap} {locs : List Loc} {cells slots : Nat} {Q : State → Prop} {D : va_G} {A : Nat → Prop} {tys : List (ClassId × FieldType)} {Es : (Nat → Nat) × (Nat → Nat)} {ws : va_W} {pc : Nat} {ls : Array Slot} {rest : List Value} {a : Nat} (C : CT p s m args meth c RX11 cX11_node 4 (some .int) wsX11_node D A tys Es) (B : DB D A ws s H locs) (q0 : Nat) {fs : List Value} {v : Value} (he : ws[q0]? = some (a, .inr (9, fs))) (hv : fs[4]? = some v) (hdg : decode cX11_node pc = .ok (.getfield 125, 3)) (kk : W p l e R s m args below meth c H locs cells slots Q (F0 m (pc + 3) ls (v :: rest))) : W p l e R s m args below meth c H locs cells slots Q (F0 m pc ls (.ref a :: rest)) :=
  k_get (Cn := RX9) (T := TX9) (N := 7) (index := 125) C B iX11_node_X9 rfl 4 (by decide) (by decide +kernel) q0 he hv hdg kk
section
variable {p : Program} {l : Launch} {e : Env} {s : State} {m : MethodId} {args : Array Value} {below : List Frame} {meth : Method} {c : Code} {D : va_G} {A : Nat → Prop} {Es : (Nat → Nat) × (Nat → Nat)} {a b : Nat → Nat} {cI cJ cT : ClassId}
set_option maxHeartbeats 4000000 in
set_option maxRecDepth 100000 in
theorem qX11_node_0 (C : CT p s m args meth c RX11 cX11_node 4 (some .int) wsX11_node D A (tyl cI cJ cT) Es) {N : Nat} {t0_signs : Nat → Int32} {t0_wanted : Nat → Int32} {t0_owners : Nat → Int32} {t0_places : Nat → Int32} {t0_spans : Nat → Int32} {t0_partNodes : Nat → Int32} {t0_count : Int32} {t1_signs : Nat → Int32} {t1_wanted : Nat → Int32} {t1_owners : Nat → Int32} {t1_places : Nat → Int32} {t1_spans : Nat → Int32} {t1_partNodes : Nat → Int32} {t1_count : Int32} {z_r : Int32} : ∀ (x1 : Int32) (x2 : Int32) (x3 : Int32), fX11_node N t0_signs t0_owners t0_spans t0_count t1_signs t1_owners t1_spans t1_count x1 x2 x3 = some z_r → ∀ (H : Heap) (locs : List Loc) (ls : Array Slot), DB D A (wd_nt_t0_t1 a b cI cJ cT t0_signs t0_wanted t0_owners t0_places t0_spans t0_partNodes t0_count t1_signs t1_wanted t1_owners t1_places t1_spans t1_partNodes t1_count) s H locs → lv_has ls 4 [(0, .ref (a 0)), (1, .int x1), (2, .int x2), (3, .int x3)] → W p l e rmX11_node s m args below meth c H locs 0 0 (ZI below args s D A (tyl cI cJ cT) z_r (wd_nt_t0_t1 a b cI cJ cT t0_signs t0_wanted t0_owners t0_places t0_spans t0_partNodes t0_count t1_signs t1_wanted t1_owners t1_places t1_spans t1_partNodes t1_count) 0 0) (F0 m 0 ls []) := by
  have hx := C.1.1
  have hb := C.1.2.1
  have hown := C.1.2.2.2.1
  have hts := C.1.2.2.2.2
  intro x1 x2 x3 h H locs ls B hl
  rw [fX11_node] at h
  refine lv_aload_n hx hb dX11_node_0 rfl (lv_at hl 0 rfl) ?_
  refine lv_iload_n hx hb dX11_node_1 rfl (lv_at hl 1 rfl) ?_
  obtain ⟨r_1, g_38, h⟩ := ob_some h
  try dsimp only at h
  refine kc_VI C B (q0 := 0) (ci := 11) (As := [.int x1]) (rest := []) (w2 := (wd_nt_t0_t1 a b cI cJ cT t0_signs t0_wanted t0_owners t0_places t0_spans t0_partNodes t0_count t1_signs t1_wanted t1_owners t1_places t1_spans t1_partNodes t1_count)) (tX11_isText (a := a) (b := b) N g_38) gX11_node_X11_isText rfl ⟨rfl, rfl⟩ ⟨rfl, hdX11_isText⟩ ⟨Nat.le_of_ble_eq_true rfl, Nat.le_of_ble_eq_true rfl⟩ rfl rfl [0, 1] [2, 3, 4, 5, 6, 7, 8, 9, 10, 11, 12, 13, 14, 15] [14, 15, 0, 1, 2, 3, 4, 5, 6, 7, 8, 9, 10, 11, 12, 13] rfl rfl rfl rfl rfl rfl rfl rfl hl.1 rfl (Nat.le_of_ble_eq_true rfl) ⟨Nat.zero_le _, Nat.zero_le _⟩ dX11_node_2 (fun H locs B => ?_)
  refine lv_if_eq (tgt := 25) hx hb dX11_node_5 (by decide) (fun c_2 => ?_) (fun c_2 => ?_)
  · rw [if_pos c_2] at h
    refine lv_iconst (v := -1) hx hb dX11_node_25 (by decide) ?_
    cases h
    exact k_iret C B dX11_node_26
  · rw [if_neg c_2] at h
    refine lv_iload_n hx hb dX11_node_8 rfl (lv_at hl 2 rfl) ?_
    refine lv_if_lt (tgt := 25) hx hb dX11_node_9 (by decide) (fun c_3 => ?_) (fun c_3 => ?_)
    · rw [if_pos c_3] at h
      refine lv_iconst (v := -1) hx hb dX11_node_25 (by decide) ?_
      cases h
      exact k_iret C B dX11_node_26
    · rw [if_neg c_3] at h
      refine lv_iload_n hx hb dX11_node_12 rfl (lv_at hl 2 rfl) ?_
      refine lv_aload_n hx hb dX11_node_13 rfl (lv_at hl 0 rfl) ?_
      refine gfX11_node_19 C B 0 rfl rfl dX11_node_14 ?_
      refine lv_iload_n hx hb dX11_node_17 rfl (lv_at hl 1 rfl) ?_
      by_cases c_36 : x1 = 0
      · rw [if_pos c_36] at h
        refine k_ald0 C B 1 rfl rfl c_36 dX11_node_18 ?_
        refine gfX11_node_120 C B 2 rfl rfl dX11_node_19 ?_
        refine lv_icmp_lt (tgt := 27) hx hb dX11_node_22 (by decide) (fun c_4 => ?_) (fun c_4 => ?_)
        · rw [if_pos c_4] at h
          refine lv_iload_n hx hb dX11_node_27 rfl (lv_at hl 3 rfl) ?_
          by_cases c_5 : x3 = 0
          · rw [if_pos c_5] at h
            refine lv_tableIn (off := 28) (tgt := 56) hx hb dX11_node_28 (by rw [c_5]; decide) (by rw [c_5]; decide) (by rw [c_5]; try rfl) (by decide) ?_
            refine lv_aload_n hx hb dX11_node_56 rfl (lv_at hl 0 rfl) ?_
            refine gfX11_node_19 C B 0 rfl rfl dX11_node_57 ?_
            refine lv_iload_n hx hb dX11_node_60 rfl (lv_at hl 1 rfl) ?_
            by_cases c_8 : x1 = 0
            · rw [if_pos c_8] at h
              refine k_ald0 C B 1 rfl rfl c_8 dX11_node_61 ?_
              refine gfX11_node_121 C B 2 rfl rfl dX11_node_62 ?_
              refine lv_iload_n hx hb dX11_node_65 rfl (lv_at hl 2 rfl) ?_
              obtain ⟨b_6, h⟩ := bnd_some h
              refine k_iald C B 3 0 rfl rfl b_6 dX11_node_66 ?_
              cases h
              exact k_iret C B dX11_node_67
            · rw [if_neg c_8] at h
              by_cases c_9 : x1 = 1
              · rw [if_pos c_9] at h
                refine k_ald1 C B 1 rfl rfl c_9 dX11_node_61 ?_
                refine gfX11_node_121 C B 9 rfl rfl dX11_node_62 ?_
                refine lv_iload_n hx hb dX11_node_65 rfl (lv_at hl 2 rfl) ?_
                obtain ⟨b_7, h⟩ := bnd_some h
                refine k_iald C B 10 0 rfl rfl b_7 dX11_node_66 ?_
                cases h
                exact k_iret C B dX11_node_67
              · rw [if_neg c_9] at h
                cases h
          · rw [if_neg c_5] at h
            by_cases c_10 : x3 = 1
            · rw [if_pos c_10] at h
              refine lv_tableIn (off := 40) (tgt := 68) hx hb dX11_node_28 (by rw [c_10]; decide) (by rw [c_10]; decide) (by rw [c_10]; try rfl) (by decide) ?_
              refine lv_aload_n hx hb dX11_node_68 rfl (lv_at hl 0 rfl) ?_
              refine gfX11_node_19 C B 0 rfl rfl dX11_node_69 ?_
              refine lv_iload_n hx hb dX11_node_72 rfl (lv_at hl 1 rfl) ?_
              by_cases c_13 : x1 = 0
              · rw [if_pos c_13] at h
                refine k_ald0 C B 1 rfl rfl c_13 dX11_node_73 ?_
                refine gfX11_node_122 C B 2 rfl rfl dX11_node_74 ?_
                refine lv_iload_n hx hb dX11_node_77 rfl (lv_at hl 2 rfl) ?_
                obtain ⟨b_11, h⟩ := bnd_some h
                refine k_iald C B 5 0 rfl rfl b_11 dX11_node_78 ?_
                cases h
                exact k_iret C B dX11_node_79
              · rw [if_neg c_13] at h
                by_cases c_14 : x1 = 1
                · rw [if_pos c_14] at h
                  refine k_ald1 C B 1 rfl rfl c_14 dX11_node_73 ?_
                  refine gfX11_node_122 C B 9 rfl rfl dX11_node_74 ?_
                  refine lv_iload_n hx hb dX11_node_77 rfl (lv_at hl 2 rfl) ?_
                  obtain ⟨b_12, h⟩ := bnd_some h
                  refine k_iald C B 12 0 rfl rfl b_12 dX11_node_78 ?_
                  cases h
                  exact k_iret C B dX11_node_79
                · rw [if_neg c_14] at h
                  cases h
            · rw [if_neg c_10] at h
              by_cases c_15 : x3 = 2
              · rw [if_pos c_15] at h
                refine lv_tableIn (off := 52) (tgt := 80) hx hb dX11_node_28 (by rw [c_15]; decide) (by rw [c_15]; decide) (by rw [c_15]; try rfl) (by decide) ?_
                refine lv_aload_n hx hb dX11_node_80 rfl (lv_at hl 0 rfl) ?_
                refine gfX11_node_19 C B 0 rfl rfl dX11_node_81 ?_
                refine lv_iload_n hx hb dX11_node_84 rfl (lv_at hl 1 rfl) ?_
                by_cases c_18 : x1 = 0
                · rw [if_pos c_18] at h
                  refine k_ald0 C B 1 rfl rfl c_18 dX11_node_85 ?_
                  refine gfX11_node_125 C B 2 rfl rfl dX11_node_86 ?_
                  refine lv_iload_n hx hb dX11_node_89 rfl (lv_at hl 2 rfl) ?_
                  obtain ⟨b_16, h⟩ := bnd_some h
                  refine k_iald C B 7 0 rfl rfl b_16 dX11_node_90 ?_
                  cases h
                  exact k_iret C B dX11_node_91
                · rw [if_neg c_18] at h
                  by_cases c_19 : x1 = 1
                  · rw [if_pos c_19] at h
                    refine k_ald1 C B 1 rfl rfl c_19 dX11_node_85 ?_
                    refine gfX11_node_125 C B 9 rfl rfl dX11_node_86 ?_
                    refine lv_iload_n hx hb dX11_node_89 rfl (lv_at hl 2 rfl) ?_
                    obtain ⟨b_17, h⟩ := bnd_some h
                    refine k_iald C B 14 0 rfl rfl b_17 dX11_node_90 ?_
                    cases h
                    exact k_iret C B dX11_node_91
                  · rw [if_neg c_19] at h
                    cases h
              · rw [if_neg c_15] at h
                refine lv_tableOut (tgt := 92) hx hb dX11_node_28 (tb_out 0 2 (by have := tb_ne c_5 (a := 0) rfl; have := tb_ne c_10 (a := 1) rfl; have := tb_ne c_15 (a := 2) rfl; omega)) (by decide) ?_
                refine lv_bipush (v := -2) hx hb dX11_node_92 (by decide) ?_
                cases h
                exact k_iret C B dX11_node_94
        · rw [if_neg c_4] at h
          refine lv_iconst (v := -1) hx hb dX11_node_25 (by decide) ?_
          cases h
          exact k_iret C B dX11_node_26
      · rw [if_neg c_36] at h
        by_cases c_37 : x1 = 1
        · rw [if_pos c_37] at h
          refine k_ald1 C B 1 rfl rfl c_37 dX11_node_18 ?_
          refine gfX11_node_120 C B 9 rfl rfl dX11_node_19 ?_
          refine lv_icmp_lt (tgt := 27) hx hb dX11_node_22 (by decide) (fun c_20 => ?_) (fun c_20 => ?_)
          · rw [if_pos c_20] at h
            refine lv_iload_n hx hb dX11_node_27 rfl (lv_at hl 3 rfl) ?_
            by_cases c_21 : x3 = 0
            · rw [if_pos c_21] at h
              refine lv_tableIn (off := 28) (tgt := 56) hx hb dX11_node_28 (by rw [c_21]; decide) (by rw [c_21]; decide) (by rw [c_21]; try rfl) (by decide) ?_
              refine lv_aload_n hx hb dX11_node_56 rfl (lv_at hl 0 rfl) ?_
              refine gfX11_node_19 C B 0 rfl rfl dX11_node_57 ?_
              refine lv_iload_n hx hb dX11_node_60 rfl (lv_at hl 1 rfl) ?_
              by_cases c_24 : x1 = 0
              · rw [if_pos c_24] at h
                refine k_ald0 C B 1 rfl rfl c_24 dX11_node_61 ?_
                refine gfX11_node_121 C B 2 rfl rfl dX11_node_62 ?_
                refine lv_iload_n hx hb dX11_node_65 rfl (lv_at hl 2 rfl) ?_
                obtain ⟨b_22, h⟩ := bnd_some h
                refine k_iald C B 3 0 rfl rfl b_22 dX11_node_66 ?_
                cases h
                exact k_iret C B dX11_node_67
              · rw [if_neg c_24] at h
                by_cases c_25 : x1 = 1
                · rw [if_pos c_25] at h
                  refine k_ald1 C B 1 rfl rfl c_25 dX11_node_61 ?_
                  refine gfX11_node_121 C B 9 rfl rfl dX11_node_62 ?_
                  refine lv_iload_n hx hb dX11_node_65 rfl (lv_at hl 2 rfl) ?_
                  obtain ⟨b_23, h⟩ := bnd_some h
                  refine k_iald C B 10 0 rfl rfl b_23 dX11_node_66 ?_
                  cases h
                  exact k_iret C B dX11_node_67
                · rw [if_neg c_25] at h
                  cases h
            · rw [if_neg c_21] at h
              by_cases c_26 : x3 = 1
              · rw [if_pos c_26] at h
                refine lv_tableIn (off := 40) (tgt := 68) hx hb dX11_node_28 (by rw [c_26]; decide) (by rw [c_26]; decide) (by rw [c_26]; try rfl) (by decide) ?_
                refine lv_aload_n hx hb dX11_node_68 rfl (lv_at hl 0 rfl) ?_
                refine gfX11_node_19 C B 0 rfl rfl dX11_node_69 ?_
                refine lv_iload_n hx hb dX11_node_72 rfl (lv_at hl 1 rfl) ?_
                by_cases c_29 : x1 = 0
                · rw [if_pos c_29] at h
                  refine k_ald0 C B 1 rfl rfl c_29 dX11_node_73 ?_
                  refine gfX11_node_122 C B 2 rfl rfl dX11_node_74 ?_
                  refine lv_iload_n hx hb dX11_node_77 rfl (lv_at hl 2 rfl) ?_
                  obtain ⟨b_27, h⟩ := bnd_some h
                  refine k_iald C B 5 0 rfl rfl b_27 dX11_node_78 ?_
                  cases h
                  exact k_iret C B dX11_node_79
                · rw [if_neg c_29] at h
                  by_cases c_30 : x1 = 1
                  · rw [if_pos c_30] at h
                    refine k_ald1 C B 1 rfl rfl c_30 dX11_node_73 ?_
                    refine gfX11_node_122 C B 9 rfl rfl dX11_node_74 ?_
                    refine lv_iload_n hx hb dX11_node_77 rfl (lv_at hl 2 rfl) ?_
                    obtain ⟨b_28, h⟩ := bnd_some h
                    refine k_iald C B 12 0 rfl rfl b_28 dX11_node_78 ?_
                    cases h
                    exact k_iret C B dX11_node_79
                  · rw [if_neg c_30] at h
                    cases h
              · rw [if_neg c_26] at h
                by_cases c_31 : x3 = 2
                · rw [if_pos c_31] at h
                  refine lv_tableIn (off := 52) (tgt := 80) hx hb dX11_node_28 (by rw [c_31]; decide) (by rw [c_31]; decide) (by rw [c_31]; try rfl) (by decide) ?_
                  refine lv_aload_n hx hb dX11_node_80 rfl (lv_at hl 0 rfl) ?_
                  refine gfX11_node_19 C B 0 rfl rfl dX11_node_81 ?_
                  refine lv_iload_n hx hb dX11_node_84 rfl (lv_at hl 1 rfl) ?_
                  by_cases c_34 : x1 = 0
                  · rw [if_pos c_34] at h
                    refine k_ald0 C B 1 rfl rfl c_34 dX11_node_85 ?_
                    refine gfX11_node_125 C B 2 rfl rfl dX11_node_86 ?_
                    refine lv_iload_n hx hb dX11_node_89 rfl (lv_at hl 2 rfl) ?_
                    obtain ⟨b_32, h⟩ := bnd_some h
                    refine k_iald C B 7 0 rfl rfl b_32 dX11_node_90 ?_
                    cases h
                    exact k_iret C B dX11_node_91
                  · rw [if_neg c_34] at h
                    by_cases c_35 : x1 = 1
                    · rw [if_pos c_35] at h
                      refine k_ald1 C B 1 rfl rfl c_35 dX11_node_85 ?_
                      refine gfX11_node_125 C B 9 rfl rfl dX11_node_86 ?_
                      refine lv_iload_n hx hb dX11_node_89 rfl (lv_at hl 2 rfl) ?_
                      obtain ⟨b_33, h⟩ := bnd_some h
                      refine k_iald C B 14 0 rfl rfl b_33 dX11_node_90 ?_
                      cases h
                      exact k_iret C B dX11_node_91
                    · rw [if_neg c_35] at h
                      cases h
                · rw [if_neg c_31] at h
                  refine lv_tableOut (tgt := 92) hx hb dX11_node_28 (tb_out 0 2 (by have := tb_ne c_21 (a := 0) rfl; have := tb_ne c_26 (a := 1) rfl; have := tb_ne c_31 (a := 2) rfl; omega)) (by decide) ?_
                  refine lv_bipush (v := -2) hx hb dX11_node_92 (by decide) ?_
                  cases h
                  exact k_iret C B dX11_node_94
          · rw [if_neg c_20] at h
            refine lv_iconst (v := -1) hx hb dX11_node_25 (by decide) ?_
            cases h
            exact k_iret C B dX11_node_26
        · rw [if_neg c_37] at h
          cases h
end
theorem tX11_node {l : Launch} {D : va_G} {Es : (Nat → Nat) × (Nat → Nat)} {a b : Nat → Nat} {cI cJ cT : ClassId} {t0_signs : Nat → Int32} {t0_wanted : Nat → Int32} {t0_owners : Nat → Int32} {t0_places : Nat → Int32} {t0_spans : Nat → Int32} {t0_partNodes : Nat → Int32} {t0_count : Int32} {t1_signs : Nat → Int32} {t1_wanted : Nat → Int32} {t1_owners : Nat → Int32} {t1_places : Nat → Int32} {t1_spans : Nat → Int32} {t1_partNodes : Nat → Int32} {t1_count : Int32} {x1 : Int32} {x2 : Int32} {x3 : Int32} {z_r : Int32} (N : Nat) (h : fX11_node N t0_signs t0_owners t0_spans t0_count t1_signs t1_owners t1_spans t1_count x1 x2 x3 = some z_r) : CtI l yX11_node wsX11_node rmX11_node D (tyl cI cJ cT) Es [.ref (a 0), .int x1, .int x2, .int x3] (wd_nt_t0_t1 a b cI cJ cT t0_signs t0_wanted t0_owners t0_places t0_spans t0_partNodes t0_count t1_signs t1_wanted t1_owners t1_places t1_spans t1_partNodes t1_count) z_r (wd_nt_t0_t1 a b cI cJ cT t0_signs t0_wanted t0_owners t0_places t0_spans t0_partNodes t0_count t1_signs t1_wanted t1_owners t1_places t1_spans t1_partNodes t1_count) :=
  CtI.of (own := RX11) (cc := cX11_node) (nL := 4) (ret := (some .int)) (by decide +kernel) rfl rfl (Nat.le_of_ble_eq_true rfl) rfl (fun p e s m below meth c A ls C B hl => qX11_node_0 C (N := N) x1 x2 x3 h _ _ _ B hl)

abbrev rmX11_result : Room := { frames := 2, cells := 0, slots := 0, locals := 46 }
theorem hdX11_result : yX11_result.cls ≠ "java/lang/invoke/MethodHandle" ∧ yX11_result.cls ≠ "java/lang/invoke/VarHandle" ∧ (parseMethodDescriptor yX11_result.desc).map (fun d => d.parameters.length) = some 2 := by decide +kernel
theorem iX11_result_X11 : ∀ w ∈ wsX110, w ∈ wsX11_result := by decide +kernel
theorem gfX11_result_35 {p : Program} {l : Launch} {e : Env} {R : Room} {s : State} {m : MethodId} {args : Array Value} {below : List Frame} {meth : Method} {c : Code} {H : Heap} {locs : List Loc} {cells slots : Nat} {Q : State → Prop} {D : va_G} {A : Nat → Prop} {tys : List (ClassId × FieldType)} {Es : (Nat → Nat) × (Nat → Nat)} {ws : va_W} {pc : Nat} {ls : Array Slot} {rest : List Value} {a : Nat} (C : CT p s m args meth c RX11 cX11_result 3 (some .int) wsX11_result D A tys Es) (B : DB D A ws s H locs) (q0 : Nat) {fs : List Value} {v : Value} (he : ws[q0]? = some (a, .inr (11, fs))) (hv : fs[3]? = some v) (hdg : decode cX11_result pc = .ok (.getfield 35, 3)) (kk : W p l e R s m args below meth c H locs cells slots Q (F0 m (pc + 3) ls (v :: rest))) : W p l e R s m args below meth c H locs cells slots Q (F0 m pc ls (.ref a :: rest)) :=
  k_get (Cn := RX11) (T := TX11) (N := 11) (index := 35) C B iX11_result_X11 rfl 3 (by decide) (by decide +kernel) q0 he hv hdg kk
section
variable {p : Program} {l : Launch} {e : Env} {s : State} {m : MethodId} {args : Array Value} {below : List Frame} {meth : Method} {c : Code} {D : va_G} {A : Nat → Prop} {Es : (Nat → Nat) × (Nat → Nat)} {a b : Nat → Nat} {cI cJ cT : ClassId}
set_option maxHeartbeats 4000000 in
set_option maxRecDepth 100000 in
theorem qX11_result_0 (C : CT p s m args meth c RX11 cX11_result 3 (some .int) wsX11_result D A (tyl cI cJ cT) Es) {N : Nat} {rs_low : Nat → Int64} {rs_mid : Nat → Int64} {rs_high : Nat → Int64} {z_r : Int32} : ∀ (x1 : Int32) (x2 : Int32), fX11_result N rs_low rs_mid rs_high x1 x2 = some z_r → ∀ (H : Heap) (locs : List Loc) (ls : Array Slot), DB D A (wd_nt_rs a b cI cJ cT rs_low rs_mid rs_high) s H locs → lv_has ls 3 [(0, .ref (a 0)), (1, .int x1), (2, .int x2)] → W p l e rmX11_result s m args below meth c H locs 0 0 (ZI below args s D A (tyl cI cJ cT) z_r (wd_nt_rs a b cI cJ cT rs_low rs_mid rs_high) 0 0) (F0 m 0 ls []) := by
  have hx := C.1.1
  have hb := C.1.2.1
  have hown := C.1.2.2.2.1
  have hts := C.1.2.2.2.2
  intro x1 x2 h H locs ls B hl
  rw [fX11_result] at h
  refine lv_aload_n hx hb dX11_result_0 rfl (lv_at hl 0 rfl) ?_
  refine lv_iload_n hx hb dX11_result_1 rfl (lv_at hl 1 rfl) ?_
  obtain ⟨r_1, g_8, h⟩ := ob_some h
  try dsimp only at h
  refine kc_VI C B (q0 := 0) (ci := 11) (As := [.int x1]) (rest := []) (w2 := (wd_nt_rs a b cI cJ cT rs_low rs_mid rs_high)) (tX11_isText (a := a) (b := b) N g_8) gX11_result_X11_isText rfl ⟨rfl, rfl⟩ ⟨rfl, hdX11_isText⟩ ⟨Nat.le_of_ble_eq_true rfl, Nat.le_of_ble_eq_true rfl⟩ rfl rfl [0, 1] [2, 3, 4, 5] [4, 5, 0, 1, 2, 3] rfl rfl rfl rfl rfl rfl rfl rfl hl.1 rfl (Nat.le_of_ble_eq_true rfl) ⟨Nat.zero_le _, Nat.zero_le _⟩ dX11_result_2 (fun H locs B => ?_)
  refine lv_if_ne (tgt := 10) hx hb dX11_result_5 (by decide) (fun c_2 => ?_) (fun c_2 => ?_)
  · rw [if_neg c_2] at h
    refine lv_iload_n hx hb dX11_result_10 rfl (lv_at hl 2 rfl) ?_
    obtain ⟨r_3, g_7, h⟩ := ob_some h
    try dsimp only at h
    refine kc_SI C B (As := [.int x2]) (rest := []) (w2 := (wd_nt_rs a b cI cJ cT rs_low rs_mid rs_high)) (tX11_isInputs N g_7) gX11_result_X11_isInputs rfl ⟨rfl, rfl⟩ hdX11_isInputs ⟨Nat.le_of_ble_eq_true rfl, Nat.le_of_ble_eq_true rfl⟩ [] [0, 1, 2, 3, 4, 5] [0, 1, 2, 3, 4, 5] rfl rfl rfl rfl rfl rfl rfl rfl hl.1 rfl (Nat.le_of_ble_eq_true rfl) ⟨Nat.zero_le _, Nat.zero_le _⟩ dX11_result_11 (fun H locs B => ?_)
    refine lv_if_eq (tgt := 29) hx hb dX11_result_14 (by decide) (fun c_4 => ?_) (fun c_4 => ?_)
    · rw [if_pos c_4] at h
      refine lv_bipush (v := -2) hx hb dX11_result_29 (by decide) ?_
      cases h
      exact k_iret C B dX11_result_31
    · rw [if_neg c_4] at h
      refine lv_aload_n hx hb dX11_result_17 rfl (lv_at hl 0 rfl) ?_
      refine gfX11_result_35 C B 0 rfl rfl dX11_result_18 ?_
      refine lv_iload_n hx hb dX11_result_21 rfl (lv_at hl 1 rfl) ?_
      refine lv_iload_n hx hb dX11_result_22 rfl (lv_at hl 2 rfl) ?_
      obtain ⟨r_5, g_6, h⟩ := ob_some h
      try dsimp only at h
      refine kc_VI C B (q0 := 0) (ci := 7) (As := [.int x1, .int x2]) (rest := []) (w2 := (wd_nt_rs a b cI cJ cT rs_low rs_mid rs_high)) (tX7_at (a := a) (b := b) N g_6) gX11_result_X7_at rfl ⟨rfl, rfl⟩ ⟨rfl, hdX7_at⟩ ⟨Nat.le_of_ble_eq_true rfl, Nat.le_of_ble_eq_true rfl⟩ rfl rfl [2, 3, 4, 5] [0, 1] [0, 1, 2, 3, 4, 5] rfl rfl rfl rfl rfl rfl rfl rfl hl.1 rfl (Nat.le_of_ble_eq_true rfl) ⟨Nat.zero_le _, Nat.zero_le _⟩ dX11_result_23 (fun H locs B => ?_)
      refine lv_goto (tgt := 31) hx hb dX11_result_26 (by decide) ?_
      cases h
      exact k_iret C B dX11_result_31
  · rw [if_pos c_2] at h
    refine lv_iconst (v := -1) hx hb dX11_result_8 (by decide) ?_
    cases h
    exact k_iret C B dX11_result_9
end
theorem tX11_result {l : Launch} {D : va_G} {Es : (Nat → Nat) × (Nat → Nat)} {a b : Nat → Nat} {cI cJ cT : ClassId} {rs_low : Nat → Int64} {rs_mid : Nat → Int64} {rs_high : Nat → Int64} {x1 : Int32} {x2 : Int32} {z_r : Int32} (N : Nat) (h : fX11_result N rs_low rs_mid rs_high x1 x2 = some z_r) : CtI l yX11_result wsX11_result rmX11_result D (tyl cI cJ cT) Es [.ref (a 0), .int x1, .int x2] (wd_nt_rs a b cI cJ cT rs_low rs_mid rs_high) z_r (wd_nt_rs a b cI cJ cT rs_low rs_mid rs_high) :=
  CtI.of (own := RX11) (cc := cX11_result) (nL := 3) (ret := (some .int)) (by decide +kernel) rfl rfl (Nat.le_of_ble_eq_true rfl) rfl (fun p e s m below meth c A ls C B hl => qX11_result_0 C (N := N) x1 x2 h _ _ _ B hl)

abbrev rmX11_runs : Room := { frames := 5, cells := 0, slots := 0, locals := 131 }
theorem hdX11_runs : yX11_runs.cls ≠ "java/lang/invoke/MethodHandle" ∧ yX11_runs.cls ≠ "java/lang/invoke/VarHandle" ∧ (parseMethodDescriptor yX11_runs.desc).map (fun d => d.parameters.length) = some 2 := by decide +kernel
theorem iX11_runs_X11 : ∀ w ∈ wsX110, w ∈ wsX11_runs := by decide +kernel
theorem gfX11_runs_26 {p : Program} {l : Launch} {e : Env} {R : Room} {s : State} {m : MethodId} {args : Array Value} {below : List Frame} {meth : Method} {c : Code} {H : Heap} {locs : List Loc} {cells slots : Nat} {Q : State → Prop} {D : va_G} {A : Nat → Prop} {tys : List (ClassId × FieldType)} {Es : (Nat → Nat) × (Nat → Nat)} {ws : va_W} {pc : Nat} {ls : Array Slot} {rest : List Value} {a : Nat} (C : CT p s m args meth c RX11 cX11_runs 3 (some .int) wsX11_runs D A tys Es) (B : DB D A ws s H locs) (q0 : Nat) {fs : List Value} {v : Value} (he : ws[q0]? = some (a, .inr (11, fs))) (hv : fs[2]? = some v) (hdg : decode cX11_runs pc = .ok (.getfield 26, 3)) (kk : W p l e R s m args below meth c H locs cells slots Q (F0 m (pc + 3) ls (v :: rest))) : W p l e R s m args below meth c H locs cells slots Q (F0 m pc ls (.ref a :: rest)) :=
  k_get (Cn := RX11) (T := TX11) (N := 11) (index := 26) C B iX11_runs_X11 rfl 2 (by decide) (by decide +kernel) q0 he hv hdg kk
theorem gfX11_runs_19 {p : Program} {l : Launch} {e : Env} {R : Room} {s : State} {m : MethodId} {args : Array Value} {below : List Frame} {meth : Method} {c : Code} {H : Heap} {locs : List Loc} {cells slots : Nat} {Q : State → Prop} {D : va_G} {A : Nat → Prop} {tys : List (ClassId × FieldType)} {Es : (Nat → Nat) × (Nat → Nat)} {ws : va_W} {pc : Nat} {ls : Array Slot} {rest : List Value} {a : Nat} (C : CT p s m args meth c RX11 cX11_runs 3 (some .int) wsX11_runs D A tys Es) (B : DB D A ws s H locs) (q0 : Nat) {fs : List Value} {v : Value} (he : ws[q0]? = some (a, .inr (11, fs))) (hv : fs[1]? = some v) (hdg : decode cX11_runs pc = .ok (.getfield 19, 3)) (kk : W p l e R s m args below meth c H locs cells slots Q (F0 m (pc + 3) ls (v :: rest))) : W p l e R s m args below meth c H locs cells slots Q (F0 m pc ls (.ref a :: rest)) :=
  k_get (Cn := RX11) (T := TX11) (N := 11) (index := 19) C B iX11_runs_X11 rfl 1 (by decide) (by decide +kernel) q0 he hv hdg kk
section
variable {p : Program} {l : Launch} {e : Env} {s : State} {m : MethodId} {args : Array Value} {below : List Frame} {meth : Method} {c : Code} {D : va_G} {A : Nat → Prop} {Es : (Nat → Nat) × (Nat → Nat)} {a b : Nat → Nat} {cI cJ cT : ClassId}
set_option maxHeartbeats 4000000 in
set_option maxRecDepth 100000 in
theorem qX11_runs_0 (C : CT p s m args meth c RX11 cX11_runs 3 (some .int) wsX11_runs D A (tyl cI cJ cT) Es) {N : Nat} {t0_signs : Nat → Int32} {t0_wanted : Nat → Int32} {t0_owners : Nat → Int32} {t0_places : Nat → Int32} {t0_spans : Nat → Int32} {t0_partNodes : Nat → Int32} {t0_count : Int32} {t1_signs : Nat → Int32} {t1_wanted : Nat → Int32} {t1_owners : Nat → Int32} {t1_places : Nat → Int32} {t1_spans : Nat → Int32} {t1_partNodes : Nat → Int32} {t1_count : Int32} {z_r : Int32} {z_wk_low : Nat → Int64} {z_wk_mid : Nat → Int64} {z_wk_high : Nat → Int64} {z_wk_holds : Nat → Int64} : ∀ (x1 : Int32) (x2 : Int32) (wk_low : Nat → Int64) (wk_mid : Nat → Int64) (wk_high : Nat → Int64) (wk_holds : Nat → Int64), fX11_runs N t0_signs t0_wanted t0_owners t0_places t0_partNodes t0_count t1_signs t1_wanted t1_owners t1_places t1_partNodes t1_count x1 x2 wk_low wk_mid wk_high wk_holds = some (z_r, z_wk_low, z_wk_mid, z_wk_high, z_wk_holds) → ∀ (H : Heap) (locs : List Loc) (ls : Array Slot), DB D A (wd_nt_t0_t1_wk a b cI cJ cT t0_signs t0_wanted t0_owners t0_places t0_spans t0_partNodes t0_count t1_signs t1_wanted t1_owners t1_places t1_spans t1_partNodes t1_count wk_low wk_mid wk_high wk_holds) s H locs → lv_has ls 3 [(0, .ref (a 0)), (1, .int x1), (2, .int x2)] → W p l e rmX11_runs s m args below meth c H locs 0 0 (ZI below args s D A (tyl cI cJ cT) z_r (wd_nt_t0_t1_wk a b cI cJ cT t0_signs t0_wanted t0_owners t0_places t0_spans t0_partNodes t0_count t1_signs t1_wanted t1_owners t1_places t1_spans t1_partNodes t1_count z_wk_low z_wk_mid z_wk_high z_wk_holds) 0 0) (F0 m 0 ls []) := by
  have hx := C.1.1
  have hb := C.1.2.1
  have hown := C.1.2.2.2.1
  have hts := C.1.2.2.2.2
  intro x1 x2 wk_low wk_mid wk_high wk_holds h H locs ls B hl
  rw [fX11_runs] at h
  refine lv_aload_n hx hb dX11_runs_0 rfl (lv_at hl 0 rfl) ?_
  refine lv_iload_n hx hb dX11_runs_1 rfl (lv_at hl 1 rfl) ?_
  obtain ⟨r_1, g_20, h⟩ := ob_some h
  try dsimp only at h
  refine kc_VI C B (q0 := 0) (ci := 11) (As := [.int x1]) (rest := []) (w2 := (wd_nt_t0_t1_wk a b cI cJ cT t0_signs t0_wanted t0_owners t0_places t0_spans t0_partNodes t0_count t1_signs t1_wanted t1_owners t1_places t1_spans t1_partNodes t1_count wk_low wk_mid wk_high wk_holds)) (tX11_isText (a := a) (b := b) N g_20) gX11_runs_X11_isText rfl ⟨rfl, rfl⟩ ⟨rfl, hdX11_isText⟩ ⟨Nat.le_of_ble_eq_true rfl, Nat.le_of_ble_eq_true rfl⟩ rfl rfl [0, 1] [2, 3, 4, 5, 6, 7, 8, 9, 10, 11, 12, 13, 14, 15, 16, 17, 18, 19, 20] [19, 20, 0, 1, 2, 3, 4, 5, 6, 7, 8, 9, 10, 11, 12, 13, 14, 15, 16, 17, 18] rfl rfl rfl rfl rfl rfl rfl rfl hl.1 rfl (Nat.le_of_ble_eq_true rfl) ⟨Nat.zero_le _, Nat.zero_le _⟩ dX11_runs_2 (fun H locs B => ?_)
  refine lv_if_ne (tgt := 10) hx hb dX11_runs_5 (by decide) (fun c_2 => ?_) (fun c_2 => ?_)
  · rw [if_neg c_2] at h
    refine lv_iload_n hx hb dX11_runs_10 rfl (lv_at hl 2 rfl) ?_
    obtain ⟨r_3, g_19, h⟩ := ob_some h
    try dsimp only at h
    refine kc_SI C B (As := [.int x2]) (rest := []) (w2 := (wd_nt_t0_t1_wk a b cI cJ cT t0_signs t0_wanted t0_owners t0_places t0_spans t0_partNodes t0_count t1_signs t1_wanted t1_owners t1_places t1_spans t1_partNodes t1_count wk_low wk_mid wk_high wk_holds)) (tX11_isInputs N g_19) gX11_runs_X11_isInputs rfl ⟨rfl, rfl⟩ hdX11_isInputs ⟨Nat.le_of_ble_eq_true rfl, Nat.le_of_ble_eq_true rfl⟩ [] [0, 1, 2, 3, 4, 5, 6, 7, 8, 9, 10, 11, 12, 13, 14, 15, 16, 17, 18, 19, 20] [0, 1, 2, 3, 4, 5, 6, 7, 8, 9, 10, 11, 12, 13, 14, 15, 16, 17, 18, 19, 20] rfl rfl rfl rfl rfl rfl rfl rfl hl.1 rfl (Nat.le_of_ble_eq_true rfl) ⟨Nat.zero_le _, Nat.zero_le _⟩ dX11_runs_11 (fun H locs B => ?_)
    refine lv_if_eq (tgt := 34) hx hb dX11_runs_14 (by decide) (fun c_4 => ?_) (fun c_4 => ?_)
    · rw [if_pos c_4] at h
      refine lv_bipush (v := -2) hx hb dX11_runs_34 (by decide) ?_
      cases h
      exact k_iret C B dX11_runs_36
    · rw [if_neg c_4] at h
      refine lv_aload_n hx hb dX11_runs_17 rfl (lv_at hl 0 rfl) ?_
      refine gfX11_runs_26 C B 0 rfl rfl dX11_runs_18 ?_
      refine lv_aload_n hx hb dX11_runs_21 rfl (lv_at hl 0 rfl) ?_
      refine gfX11_runs_19 C B 0 rfl rfl dX11_runs_22 ?_
      refine lv_iload_n hx hb dX11_runs_25 rfl (lv_at hl 1 rfl) ?_
      by_cases c_17 : x1 = 0
      · rw [if_pos c_17] at h
        refine k_ald0 C B 1 rfl rfl c_17 dX11_runs_26 ?_
        refine lv_iload_n hx hb dX11_runs_27 rfl (lv_at hl 2 rfl) ?_
        obtain ⟨⟨r_5, wk_low_6, wk_mid_7, wk_high_8, wk_holds_9⟩, g_10, h⟩ := ob_some h
        try dsimp only at h
        refine kc_VI C B (q0 := 7) (ci := 10) (As := [.ref (a 5), .int x2]) (rest := []) (w2 := (wd_nt_t0_t1_wk a b cI cJ cT t0_signs t0_wanted t0_owners t0_places t0_spans t0_partNodes t0_count t1_signs t1_wanted t1_owners t1_places t1_spans t1_partNodes t1_count wk_low_6 wk_mid_7 wk_high_8 wk_holds_9)) (tX10_nodesRun (a := a) (b := fun k => a (5 + k)) N g_10) gX11_runs_X10_nodesRun rfl ⟨rfl, rfl⟩ ⟨rfl, hdX10_nodesRun⟩ ⟨Nat.le_of_ble_eq_true rfl, Nat.le_of_ble_eq_true rfl⟩ rfl rfl [2, 3, 4, 5, 6, 7, 8, 16, 17, 18, 19, 20] [0, 1, 9, 10, 11, 12, 13, 14, 15] [0, 1, 9, 10, 11, 12, 13, 14, 15, 2, 3, 4, 5, 6, 7, 8, 16, 17, 18, 19, 20] rfl rfl rfl rfl rfl rfl rfl rfl hl.1 rfl (Nat.le_of_ble_eq_true rfl) ⟨Nat.zero_le _, Nat.zero_le _⟩ dX11_runs_28 (fun H locs B => ?_)
        refine lv_goto (tgt := 36) hx hb dX11_runs_31 (by decide) ?_
        cases h
        exact k_iret C B dX11_runs_36
      · rw [if_neg c_17] at h
        by_cases c_18 : x1 = 1
        · rw [if_pos c_18] at h
          refine k_ald1 C B 1 rfl rfl c_18 dX11_runs_26 ?_
          refine lv_iload_n hx hb dX11_runs_27 rfl (lv_at hl 2 rfl) ?_
          obtain ⟨⟨r_11, wk_low_12, wk_mid_13, wk_high_14, wk_holds_15⟩, g_16, h⟩ := ob_some h
          try dsimp only at h
          refine kc_VI C B (q0 := 7) (ci := 10) (As := [.ref (a 12), .int x2]) (rest := []) (w2 := (wd_nt_t0_t1_wk a b cI cJ cT t0_signs t0_wanted t0_owners t0_places t0_spans t0_partNodes t0_count t1_signs t1_wanted t1_owners t1_places t1_spans t1_partNodes t1_count wk_low_12 wk_mid_13 wk_high_14 wk_holds_15)) (tX10_nodesRun (a := a) (b := fun k => a (12 + k)) N g_16) gX11_runs_X10_nodesRun rfl ⟨rfl, rfl⟩ ⟨rfl, hdX10_nodesRun⟩ ⟨Nat.le_of_ble_eq_true rfl, Nat.le_of_ble_eq_true rfl⟩ rfl rfl [9, 10, 11, 12, 13, 14, 15, 16, 17, 18, 19, 20] [0, 1, 2, 3, 4, 5, 6, 7, 8] [0, 1, 2, 3, 4, 5, 6, 7, 8, 9, 10, 11, 12, 13, 14, 15, 16, 17, 18, 19, 20] rfl rfl rfl rfl rfl rfl rfl rfl hl.1 rfl (Nat.le_of_ble_eq_true rfl) ⟨Nat.zero_le _, Nat.zero_le _⟩ dX11_runs_28 (fun H locs B => ?_)
          refine lv_goto (tgt := 36) hx hb dX11_runs_31 (by decide) ?_
          cases h
          exact k_iret C B dX11_runs_36
        · rw [if_neg c_18] at h
          cases h
  · rw [if_pos c_2] at h
    refine lv_iconst (v := -1) hx hb dX11_runs_8 (by decide) ?_
    cases h
    exact k_iret C B dX11_runs_9
end
theorem tX11_runs {l : Launch} {D : va_G} {Es : (Nat → Nat) × (Nat → Nat)} {a b : Nat → Nat} {cI cJ cT : ClassId} {t0_signs : Nat → Int32} {t0_wanted : Nat → Int32} {t0_owners : Nat → Int32} {t0_places : Nat → Int32} {t0_spans : Nat → Int32} {t0_partNodes : Nat → Int32} {t0_count : Int32} {t1_signs : Nat → Int32} {t1_wanted : Nat → Int32} {t1_owners : Nat → Int32} {t1_places : Nat → Int32} {t1_spans : Nat → Int32} {t1_partNodes : Nat → Int32} {t1_count : Int32} {wk_low : Nat → Int64} {wk_mid : Nat → Int64} {wk_high : Nat → Int64} {wk_holds : Nat → Int64} {x1 : Int32} {x2 : Int32} {z_r : Int32} {z_wk_low : Nat → Int64} {z_wk_mid : Nat → Int64} {z_wk_high : Nat → Int64} {z_wk_holds : Nat → Int64} (N : Nat) (h : fX11_runs N t0_signs t0_wanted t0_owners t0_places t0_partNodes t0_count t1_signs t1_wanted t1_owners t1_places t1_partNodes t1_count x1 x2 wk_low wk_mid wk_high wk_holds = some (z_r, z_wk_low, z_wk_mid, z_wk_high, z_wk_holds)) : CtI l yX11_runs wsX11_runs rmX11_runs D (tyl cI cJ cT) Es [.ref (a 0), .int x1, .int x2] (wd_nt_t0_t1_wk a b cI cJ cT t0_signs t0_wanted t0_owners t0_places t0_spans t0_partNodes t0_count t1_signs t1_wanted t1_owners t1_places t1_spans t1_partNodes t1_count wk_low wk_mid wk_high wk_holds) z_r (wd_nt_t0_t1_wk a b cI cJ cT t0_signs t0_wanted t0_owners t0_places t0_spans t0_partNodes t0_count t1_signs t1_wanted t1_owners t1_places t1_spans t1_partNodes t1_count z_wk_low z_wk_mid z_wk_high z_wk_holds) :=
  CtI.of (own := RX11) (cc := cX11_runs) (nL := 3) (ret := (some .int)) (by decide +kernel) rfl rfl (Nat.le_of_ble_eq_true rfl) rfl (fun p e s m below meth c A ls C B hl => qX11_runs_0 C (N := N) x1 x2 wk_low wk_mid wk_high wk_holds h _ _ _ B hl)

abbrev rmX11_isChange : Room := { frames := 0, cells := 0, slots := 0, locals := 0 }
theorem hdX11_isChange : yX11_isChange.cls ≠ "java/lang/invoke/MethodHandle" ∧ yX11_isChange.cls ≠ "java/lang/invoke/VarHandle" ∧ (parseMethodDescriptor yX11_isChange.desc).map (fun d => d.parameters.length) = some 1 := by decide +kernel
theorem iX11_isChange_X11 : ∀ w ∈ wsX110, w ∈ wsX11_isChange := by decide +kernel
theorem gfX11_isChange_44 {p : Program} {l : Launch} {e : Env} {R : Room} {s : State} {m : MethodId} {args : Array Value} {below : List Frame} {meth : Method} {c : Code} {H : Heap} {locs : List Loc} {cells slots : Nat} {Q : State → Prop} {D : va_G} {A : Nat → Prop} {tys : List (ClassId × FieldType)} {Es : (Nat → Nat) × (Nat → Nat)} {ws : va_W} {pc : Nat} {ls : Array Slot} {rest : List Value} {a : Nat} (C : CT p s m args meth c RX11 cX11_isChange 2 (some .boolean) wsX11_isChange D A tys Es) (B : DB D A ws s H locs) (q0 : Nat) {fs : List Value} {v : Value} (he : ws[q0]? = some (a, .inr (11, fs))) (hv : fs[4]? = some v) (hdg : decode cX11_isChange pc = .ok (.getfield 44, 3)) (kk : W p l e R s m args below meth c H locs cells slots Q (F0 m (pc + 3) ls (v :: rest))) : W p l e R s m args below meth c H locs cells slots Q (F0 m pc ls (.ref a :: rest)) :=
  k_get (Cn := RX11) (T := TX11) (N := 11) (index := 44) C B iX11_isChange_X11 rfl 4 (by decide) (by decide +kernel) q0 he hv hdg kk
theorem iX11_isChange_X1 : ∀ w ∈ wsX10, w ∈ wsX11_isChange := by decide +kernel
theorem gfX11_isChange_139 {p : Program} {l : Launch} {e : Env} {R : Room} {s : State} {m : MethodId} {args : Array Value} {below : List Frame} {meth : Method} {c : Code} {H : Heap} {locs : List Loc} {cells slots : Nat} {Q : State → Prop} {D : va_G} {A : Nat → Prop} {tys : List (ClassId × FieldType)} {Es : (Nat → Nat) × (Nat → Nat)} {ws : va_W} {pc : Nat} {ls : Array Slot} {rest : List Value} {a : Nat} (C : CT p s m args meth c RX11 cX11_isChange 2 (some .boolean) wsX11_isChange D A tys Es) (B : DB D A ws s H locs) (q0 : Nat) {fs : List Value} {v : Value} (he : ws[q0]? = some (a, .inr (1, fs))) (hv : fs[3]? = some v) (hdg : decode cX11_isChange pc = .ok (.getfield 139, 3)) (kk : W p l e R s m args below meth c H locs cells slots Q (F0 m (pc + 3) ls (v :: rest))) : W p l e R s m args below meth c H locs cells slots Q (F0 m pc ls (.ref a :: rest)) :=
  k_get (Cn := RX1) (T := TX1) (N := 5) (index := 139) C B iX11_isChange_X1 rfl 3 (by decide) (by decide +kernel) q0 he hv hdg kk
section
variable {p : Program} {l : Launch} {e : Env} {s : State} {m : MethodId} {args : Array Value} {below : List Frame} {meth : Method} {c : Code} {D : va_G} {A : Nat → Prop} {Es : (Nat → Nat) × (Nat → Nat)} {a b : Nat → Nat} {cI cJ cT : ClassId}
set_option maxHeartbeats 4000000 in
set_option maxRecDepth 100000 in
theorem qX11_isChange_0 (C : CT p s m args meth c RX11 cX11_isChange 2 (some .boolean) wsX11_isChange D A (tyl cI cJ cT) Es) {N : Nat} {ch_nodes : Nat → Int32} {ch_signs : Nat → Int32} {ch_felt : Nat → Int32} {ch_count : Int32} {z_r : Int32} : ∀ (x1 : Int32), fX11_isChange N ch_count x1 = some z_r → ∀ (H : Heap) (locs : List Loc) (ls : Array Slot), DB D A (wd_nt_ch a b cI cJ cT ch_nodes ch_signs ch_felt ch_count) s H locs → lv_has ls 2 [(0, .ref (a 0)), (1, .int x1)] → W p l e rmX11_isChange s m args below meth c H locs 0 0 (ZI below args s D A (tyl cI cJ cT) z_r (wd_nt_ch a b cI cJ cT ch_nodes ch_signs ch_felt ch_count) 0 0) (F0 m 0 ls []) := by
  have hx := C.1.1
  have hb := C.1.2.1
  have hown := C.1.2.2.2.1
  have hts := C.1.2.2.2.2
  intro x1 h H locs ls B hl
  rw [fX11_isChange] at h
  refine lv_iload_n hx hb dX11_isChange_0 rfl (lv_at hl 1 rfl) ?_
  refine lv_if_lt (tgt := 19) hx hb dX11_isChange_1 (by decide) (fun c_1 => ?_) (fun c_1 => ?_)
  · rw [if_pos c_1] at h
    refine lv_iconst (v := 0) hx hb dX11_isChange_19 (by decide) ?_
    cases h
    exact k_zret C B (by decide) dX11_isChange_20
  · rw [if_neg c_1] at h
    refine lv_iload_n hx hb dX11_isChange_4 rfl (lv_at hl 1 rfl) ?_
    refine lv_aload_n hx hb dX11_isChange_5 rfl (lv_at hl 0 rfl) ?_
    refine gfX11_isChange_44 C B 0 rfl rfl dX11_isChange_6 ?_
    refine gfX11_isChange_139 C B 2 rfl rfl dX11_isChange_9 ?_
    refine lv_icmp_ge (tgt := 19) hx hb dX11_isChange_12 (by decide) (fun c_2 => ?_) (fun c_2 => ?_)
    · rw [if_pos c_2] at h
      refine lv_iconst (v := 0) hx hb dX11_isChange_19 (by decide) ?_
      cases h
      exact k_zret C B (by decide) dX11_isChange_20
    · rw [if_neg c_2] at h
      refine lv_iconst (v := 1) hx hb dX11_isChange_15 (by decide) ?_
      refine lv_goto (tgt := 20) hx hb dX11_isChange_16 (by decide) ?_
      cases h
      exact k_zret C B (by decide) dX11_isChange_20
end
theorem tX11_isChange {l : Launch} {D : va_G} {Es : (Nat → Nat) × (Nat → Nat)} {a b : Nat → Nat} {cI cJ cT : ClassId} {ch_nodes : Nat → Int32} {ch_signs : Nat → Int32} {ch_felt : Nat → Int32} {ch_count : Int32} {x1 : Int32} {z_r : Int32} (N : Nat) (h : fX11_isChange N ch_count x1 = some z_r) : CtI l yX11_isChange wsX11_isChange rmX11_isChange D (tyl cI cJ cT) Es [.ref (a 0), .int x1] (wd_nt_ch a b cI cJ cT ch_nodes ch_signs ch_felt ch_count) z_r (wd_nt_ch a b cI cJ cT ch_nodes ch_signs ch_felt ch_count) :=
  CtI.of (own := RX11) (cc := cX11_isChange) (nL := 2) (ret := (some .boolean)) (by decide +kernel) rfl rfl (Nat.le_of_ble_eq_true rfl) rfl (fun p e s m below meth c A ls C B hl => qX11_isChange_0 C (N := N) x1 h _ _ _ B hl)

abbrev rmX11_change : Room := { frames := 2, cells := 0, slots := 0, locals := 46 }
theorem hdX11_change : yX11_change.cls ≠ "java/lang/invoke/MethodHandle" ∧ yX11_change.cls ≠ "java/lang/invoke/VarHandle" ∧ (parseMethodDescriptor yX11_change.desc).map (fun d => d.parameters.length) = some 2 := by decide +kernel
theorem iX11_change_X11 : ∀ w ∈ wsX110, w ∈ wsX11_change := by decide +kernel
theorem gfX11_change_44 {p : Program} {l : Launch} {e : Env} {R : Room} {s : State} {m : MethodId} {args : Array Value} {below : List Frame} {meth : Method} {c : Code} {H : Heap} {locs : List Loc} {cells slots : Nat} {Q : State → Prop} {D : va_G} {A : Nat → Prop} {tys : List (ClassId × FieldType)} {Es : (Nat → Nat) × (Nat → Nat)} {ws : va_W} {pc : Nat} {ls : Array Slot} {rest : List Value} {a : Nat} (C : CT p s m args meth c RX11 cX11_change 3 (some .int) wsX11_change D A tys Es) (B : DB D A ws s H locs) (q0 : Nat) {fs : List Value} {v : Value} (he : ws[q0]? = some (a, .inr (11, fs))) (hv : fs[4]? = some v) (hdg : decode cX11_change pc = .ok (.getfield 44, 3)) (kk : W p l e R s m args below meth c H locs cells slots Q (F0 m (pc + 3) ls (v :: rest))) : W p l e R s m args below meth c H locs cells slots Q (F0 m pc ls (.ref a :: rest)) :=
  k_get (Cn := RX11) (T := TX11) (N := 11) (index := 44) C B iX11_change_X11 rfl 4 (by decide) (by decide +kernel) q0 he hv hdg kk
theorem iX11_change_X1 : ∀ w ∈ wsX10, w ∈ wsX11_change := by decide +kernel
theorem gfX11_change_143 {p : Program} {l : Launch} {e : Env} {R : Room} {s : State} {m : MethodId} {args : Array Value} {below : List Frame} {meth : Method} {c : Code} {H : Heap} {locs : List Loc} {cells slots : Nat} {Q : State → Prop} {D : va_G} {A : Nat → Prop} {tys : List (ClassId × FieldType)} {Es : (Nat → Nat) × (Nat → Nat)} {ws : va_W} {pc : Nat} {ls : Array Slot} {rest : List Value} {a : Nat} (C : CT p s m args meth c RX11 cX11_change 3 (some .int) wsX11_change D A tys Es) (B : DB D A ws s H locs) (q0 : Nat) {fs : List Value} {v : Value} (he : ws[q0]? = some (a, .inr (1, fs))) (hv : fs[0]? = some v) (hdg : decode cX11_change pc = .ok (.getfield 143, 3)) (kk : W p l e R s m args below meth c H locs cells slots Q (F0 m (pc + 3) ls (v :: rest))) : W p l e R s m args below meth c H locs cells slots Q (F0 m pc ls (.ref a :: rest)) :=
  k_get (Cn := RX1) (T := TX1) (N := 5) (index := 143) C B iX11_change_X1 rfl 0 (by decide) (by decide +kernel) q0 he hv hdg kk
theorem gfX11_change_146 {p : Program} {l : Launch} {e : Env} {R : Room} {s : State} {m : MethodId} {args : Array Value} {below : List Frame} {meth : Method} {c : Code} {H : Heap} {locs : List Loc} {cells slots : Nat} {Q : State → Prop} {D : va_G} {A : Nat → Prop} {tys : List (ClassId × FieldType)} {Es : (Nat → Nat) × (Nat → Nat)} {ws : va_W} {pc : Nat} {ls : Array Slot} {rest : List Value} {a : Nat} (C : CT p s m args meth c RX11 cX11_change 3 (some .int) wsX11_change D A tys Es) (B : DB D A ws s H locs) (q0 : Nat) {fs : List Value} {v : Value} (he : ws[q0]? = some (a, .inr (1, fs))) (hv : fs[1]? = some v) (hdg : decode cX11_change pc = .ok (.getfield 146, 3)) (kk : W p l e R s m args below meth c H locs cells slots Q (F0 m (pc + 3) ls (v :: rest))) : W p l e R s m args below meth c H locs cells slots Q (F0 m pc ls (.ref a :: rest)) :=
  k_get (Cn := RX1) (T := TX1) (N := 5) (index := 146) C B iX11_change_X1 rfl 1 (by decide) (by decide +kernel) q0 he hv hdg kk
theorem gfX11_change_147 {p : Program} {l : Launch} {e : Env} {R : Room} {s : State} {m : MethodId} {args : Array Value} {below : List Frame} {meth : Method} {c : Code} {H : Heap} {locs : List Loc} {cells slots : Nat} {Q : State → Prop} {D : va_G} {A : Nat → Prop} {tys : List (ClassId × FieldType)} {Es : (Nat → Nat) × (Nat → Nat)} {ws : va_W} {pc : Nat} {ls : Array Slot} {rest : List Value} {a : Nat} (C : CT p s m args meth c RX11 cX11_change 3 (some .int) wsX11_change D A tys Es) (B : DB D A ws s H locs) (q0 : Nat) {fs : List Value} {v : Value} (he : ws[q0]? = some (a, .inr (1, fs))) (hv : fs[2]? = some v) (hdg : decode cX11_change pc = .ok (.getfield 147, 3)) (kk : W p l e R s m args below meth c H locs cells slots Q (F0 m (pc + 3) ls (v :: rest))) : W p l e R s m args below meth c H locs cells slots Q (F0 m pc ls (.ref a :: rest)) :=
  k_get (Cn := RX1) (T := TX1) (N := 5) (index := 147) C B iX11_change_X1 rfl 2 (by decide) (by decide +kernel) q0 he hv hdg kk
theorem gfX11_change_60 {p : Program} {l : Launch} {e : Env} {R : Room} {s : State} {m : MethodId} {args : Array Value} {below : List Frame} {meth : Method} {c : Code} {H : Heap} {locs : List Loc} {cells slots : Nat} {Q : State → Prop} {D : va_G} {A : Nat → Prop} {tys : List (ClassId × FieldType)} {Es : (Nat → Nat) × (Nat → Nat)} {ws : va_W} {pc : Nat} {ls : Array Slot} {rest : List Value} {a : Nat} (C : CT p s m args meth c RX11 cX11_change 3 (some .int) wsX11_change D A tys Es) (B : DB D A ws s H locs) (q0 : Nat) {fs : List Value} {v : Value} (he : ws[q0]? = some (a, .inr (11, fs))) (hv : fs[6]? = some v) (hdg : decode cX11_change pc = .ok (.getfield 60, 3)) (kk : W p l e R s m args below meth c H locs cells slots Q (F0 m (pc + 3) ls (v :: rest))) : W p l e R s m args below meth c H locs cells slots Q (F0 m pc ls (.ref a :: rest)) :=
  k_get (Cn := RX11) (T := TX11) (N := 11) (index := 60) C B iX11_change_X11 rfl 6 (by decide) (by decide +kernel) q0 he hv hdg kk
theorem iX11_change_X4 : ∀ w ∈ wsX40, w ∈ wsX11_change := by decide +kernel
theorem gfX11_change_150 {p : Program} {l : Launch} {e : Env} {R : Room} {s : State} {m : MethodId} {args : Array Value} {below : List Frame} {meth : Method} {c : Code} {H : Heap} {locs : List Loc} {cells slots : Nat} {Q : State → Prop} {D : va_G} {A : Nat → Prop} {tys : List (ClassId × FieldType)} {Es : (Nat → Nat) × (Nat → Nat)} {ws : va_W} {pc : Nat} {ls : Array Slot} {rest : List Value} {a : Nat} (C : CT p s m args meth c RX11 cX11_change 3 (some .int) wsX11_change D A tys Es) (B : DB D A ws s H locs) (q0 : Nat) {fs : List Value} {v : Value} (he : ws[q0]? = some (a, .inr (4, fs))) (hv : fs[0]? = some v) (hdg : decode cX11_change pc = .ok (.getfield 150, 3)) (kk : W p l e R s m args below meth c H locs cells slots Q (F0 m (pc + 3) ls (v :: rest))) : W p l e R s m args below meth c H locs cells slots Q (F0 m pc ls (.ref a :: rest)) :=
  k_get (Cn := RX4) (T := TX4) (N := 7) (index := 150) C B iX11_change_X4 rfl 0 (by decide) (by decide +kernel) q0 he hv hdg kk
theorem gfX11_change_139 {p : Program} {l : Launch} {e : Env} {R : Room} {s : State} {m : MethodId} {args : Array Value} {below : List Frame} {meth : Method} {c : Code} {H : Heap} {locs : List Loc} {cells slots : Nat} {Q : State → Prop} {D : va_G} {A : Nat → Prop} {tys : List (ClassId × FieldType)} {Es : (Nat → Nat) × (Nat → Nat)} {ws : va_W} {pc : Nat} {ls : Array Slot} {rest : List Value} {a : Nat} (C : CT p s m args meth c RX11 cX11_change 3 (some .int) wsX11_change D A tys Es) (B : DB D A ws s H locs) (q0 : Nat) {fs : List Value} {v : Value} (he : ws[q0]? = some (a, .inr (1, fs))) (hv : fs[3]? = some v) (hdg : decode cX11_change pc = .ok (.getfield 139, 3)) (kk : W p l e R s m args below meth c H locs cells slots Q (F0 m (pc + 3) ls (v :: rest))) : W p l e R s m args below meth c H locs cells slots Q (F0 m pc ls (.ref a :: rest)) :=
  k_get (Cn := RX1) (T := TX1) (N := 5) (index := 139) C B iX11_change_X1 rfl 3 (by decide) (by decide +kernel) q0 he hv hdg kk
section
variable {p : Program} {l : Launch} {e : Env} {s : State} {m : MethodId} {args : Array Value} {below : List Frame} {meth : Method} {c : Code} {D : va_G} {A : Nat → Prop} {Es : (Nat → Nat) × (Nat → Nat)} {a b : Nat → Nat} {cI cJ cT : ClassId}
set_option maxHeartbeats 4000000 in
set_option maxRecDepth 100000 in
theorem qX11_change_0 (C : CT p s m args meth c RX11 cX11_change 3 (some .int) wsX11_change D A (tyl cI cJ cT) Es) {N : Nat} {ch_nodes : Nat → Int32} {ch_signs : Nat → Int32} {ch_felt : Nat → Int32} {ch_count : Int32} {no_bits : Nat → Int32} {no_wishedInputs : Int32} {no_wishedMany : Int32} {no_hiddenUnlike : Nat → Int64} {z_r : Int32} : ∀ (x1 : Int32) (x2 : Int32), fX11_change N ch_nodes ch_signs ch_felt ch_count no_bits x1 x2 = some z_r → ∀ (H : Heap) (locs : List Loc) (ls : Array Slot), DB D A (wd_nt_ch_no a b cI cJ cT ch_nodes ch_signs ch_felt ch_count no_bits no_wishedInputs no_wishedMany no_hiddenUnlike) s H locs → lv_has ls 3 [(0, .ref (a 0)), (1, .int x1), (2, .int x2)] → W p l e rmX11_change s m args below meth c H locs 0 0 (ZI below args s D A (tyl cI cJ cT) z_r (wd_nt_ch_no a b cI cJ cT ch_nodes ch_signs ch_felt ch_count no_bits no_wishedInputs no_wishedMany no_hiddenUnlike) 0 0) (F0 m 0 ls []) := by
  have hx := C.1.1
  have hb := C.1.2.1
  have hown := C.1.2.2.2.1
  have hts := C.1.2.2.2.2
  intro x1 x2 h H locs ls B hl
  rw [fX11_change] at h
  refine lv_iload_n hx hb dX11_change_0 rfl (lv_at hl 1 rfl) ?_
  refine lv_iconst (v := -1) hx hb dX11_change_1 (by decide) ?_
  refine lv_icmp_ne (tgt := 13) hx hb dX11_change_2 (by decide) (fun c_1 => ?_) (fun c_1 => ?_)
  · rw [if_neg c_1] at h
    refine lv_aload_n hx hb dX11_change_13 rfl (lv_at hl 0 rfl) ?_
    refine lv_iload_n hx hb dX11_change_14 rfl (lv_at hl 1 rfl) ?_
    obtain ⟨r_2, g_18, h⟩ := ob_some h
    try dsimp only at h
    refine kc_VI C B (q0 := 0) (ci := 11) (As := [.int x1]) (rest := []) (w2 := (wd_nt_ch_no a b cI cJ cT ch_nodes ch_signs ch_felt ch_count no_bits no_wishedInputs no_wishedMany no_hiddenUnlike)) (tX11_isChange (a := a) (b := b) N g_18) gX11_change_X11_isChange rfl ⟨rfl, rfl⟩ ⟨rfl, hdX11_isChange⟩ ⟨Nat.le_of_ble_eq_true rfl, Nat.le_of_ble_eq_true rfl⟩ rfl rfl [0, 1, 2, 3, 4, 5] [6, 7, 8] [3, 4, 5, 6, 7, 8, 0, 1, 2] rfl rfl rfl rfl rfl rfl rfl rfl hl.1 rfl (Nat.le_of_ble_eq_true rfl) ⟨Nat.zero_le _, Nat.zero_le _⟩ dX11_change_15 (fun H locs B => ?_)
    refine lv_if_ne (tgt := 23) hx hb dX11_change_18 (by decide) (fun c_3 => ?_) (fun c_3 => ?_)
    · rw [if_neg c_3] at h
      refine lv_iload_n hx hb dX11_change_23 rfl (lv_at hl 2 rfl) ?_
      by_cases c_4 : x2 = 0
      · rw [if_pos c_4] at h
        refine lv_tableIn (off := 40) (tgt := 64) hx hb dX11_change_24 (by rw [c_4]; decide) (by rw [c_4]; decide) (by rw [c_4]; try rfl) (by decide) ?_
        refine lv_aload_n hx hb dX11_change_64 rfl (lv_at hl 0 rfl) ?_
        refine gfX11_change_44 C B 0 rfl rfl dX11_change_65 ?_
        refine gfX11_change_143 C B 2 rfl rfl dX11_change_68 ?_
        refine lv_iload_n hx hb dX11_change_71 rfl (lv_at hl 1 rfl) ?_
        obtain ⟨b_5, h⟩ := bnd_some h
        refine k_iald C B 3 0 rfl rfl b_5 dX11_change_72 ?_
        cases h
        exact k_iret C B dX11_change_73
      · rw [if_neg c_4] at h
        by_cases c_6 : x2 = 1
        · rw [if_pos c_6] at h
          refine lv_tableIn (off := 50) (tgt := 74) hx hb dX11_change_24 (by rw [c_6]; decide) (by rw [c_6]; decide) (by rw [c_6]; try rfl) (by decide) ?_
          refine lv_aload_n hx hb dX11_change_74 rfl (lv_at hl 0 rfl) ?_
          refine gfX11_change_44 C B 0 rfl rfl dX11_change_75 ?_
          refine gfX11_change_146 C B 2 rfl rfl dX11_change_78 ?_
          refine lv_iload_n hx hb dX11_change_81 rfl (lv_at hl 1 rfl) ?_
          obtain ⟨b_7, h⟩ := bnd_some h
          refine k_iald C B 4 0 rfl rfl b_7 dX11_change_82 ?_
          cases h
          exact k_iret C B dX11_change_83
        · rw [if_neg c_6] at h
          by_cases c_8 : x2 = 2
          · rw [if_pos c_8] at h
            refine lv_tableIn (off := 60) (tgt := 84) hx hb dX11_change_24 (by rw [c_8]; decide) (by rw [c_8]; decide) (by rw [c_8]; try rfl) (by decide) ?_
            refine lv_aload_n hx hb dX11_change_84 rfl (lv_at hl 0 rfl) ?_
            refine gfX11_change_44 C B 0 rfl rfl dX11_change_85 ?_
            refine gfX11_change_147 C B 2 rfl rfl dX11_change_88 ?_
            refine lv_iload_n hx hb dX11_change_91 rfl (lv_at hl 1 rfl) ?_
            obtain ⟨b_9, h⟩ := bnd_some h
            refine k_iald C B 5 0 rfl rfl b_9 dX11_change_92 ?_
            cases h
            exact k_iret C B dX11_change_93
          · rw [if_neg c_8] at h
            by_cases c_10 : x2 = 3
            · rw [if_pos c_10] at h
              refine lv_tableIn (off := 70) (tgt := 94) hx hb dX11_change_24 (by rw [c_10]; decide) (by rw [c_10]; decide) (by rw [c_10]; try rfl) (by decide) ?_
              refine lv_aload_n hx hb dX11_change_94 rfl (lv_at hl 0 rfl) ?_
              refine gfX11_change_60 C B 0 rfl rfl dX11_change_95 ?_
              refine gfX11_change_150 C B 6 rfl rfl dX11_change_98 ?_
              refine lv_iload_n hx hb dX11_change_101 rfl (lv_at hl 1 rfl) ?_
              obtain ⟨b_11, h⟩ := bnd_some h
              refine k_iald C B 7 0 rfl rfl b_11 dX11_change_102 ?_
              refine lv_if_eq (tgt := 110) hx hb dX11_change_103 (by decide) (fun c_12 => ?_) (fun c_12 => ?_)
              · rw [if_pos c_12] at h
                refine lv_iconst (v := 0) hx hb dX11_change_110 (by decide) ?_
                cases h
                exact k_iret C B dX11_change_111
              · rw [if_neg c_12] at h
                refine lv_iconst (v := 1) hx hb dX11_change_106 (by decide) ?_
                refine lv_goto (tgt := 111) hx hb dX11_change_107 (by decide) ?_
                cases h
                exact k_iret C B dX11_change_111
            · rw [if_neg c_10] at h
              by_cases c_13 : x2 = 4
              · rw [if_pos c_13] at h
                refine lv_tableIn (off := 88) (tgt := 112) hx hb dX11_change_24 (by rw [c_13]; decide) (by rw [c_13]; decide) (by rw [c_13]; try rfl) (by decide) ?_
                refine lv_aload_n hx hb dX11_change_112 rfl (lv_at hl 0 rfl) ?_
                refine gfX11_change_60 C B 0 rfl rfl dX11_change_113 ?_
                refine gfX11_change_150 C B 6 rfl rfl dX11_change_116 ?_
                refine lv_iload_n hx hb dX11_change_119 rfl (lv_at hl 1 rfl) ?_
                obtain ⟨b_14, h⟩ := bnd_some h
                refine k_iald C B 7 0 rfl rfl b_14 dX11_change_120 ?_
                cases h
                exact k_iret C B dX11_change_121
              · rw [if_neg c_13] at h
                by_cases c_15 : x2 = 5
                · rw [if_pos c_15] at h
                  refine lv_tableIn (off := 98) (tgt := 122) hx hb dX11_change_24 (by rw [c_15]; decide) (by rw [c_15]; decide) (by rw [c_15]; try rfl) (by decide) ?_
                  refine lv_aload_n hx hb dX11_change_122 rfl (lv_at hl 0 rfl) ?_
                  refine gfX11_change_60 C B 0 rfl rfl dX11_change_123 ?_
                  refine lv_iload_n hx hb dX11_change_126 rfl (lv_at hl 1 rfl) ?_
                  obtain ⟨r_16, g_17, h⟩ := ob_some h
                  try dsimp only at h
                  refine kc_VI C B (q0 := 4) (ci := 4) (As := [.int x1]) (rest := []) (w2 := (wd_nt_ch_no a b cI cJ cT ch_nodes ch_signs ch_felt ch_count no_bits no_wishedInputs no_wishedMany no_hiddenUnlike)) (tX4_behindHowMany (a := a) (b := b) N g_17) gX11_change_X4_behindHowMany rfl ⟨rfl, rfl⟩ ⟨rfl, hdX4_behindHowMany⟩ ⟨Nat.le_of_ble_eq_true rfl, Nat.le_of_ble_eq_true rfl⟩ rfl rfl [2, 3, 4, 5, 6, 7, 8] [0, 1] [0, 1, 2, 3, 4, 5, 6, 7, 8] rfl rfl rfl rfl rfl rfl rfl rfl hl.1 rfl (Nat.le_of_ble_eq_true rfl) ⟨Nat.zero_le _, Nat.zero_le _⟩ dX11_change_127 (fun H locs B => ?_)
                  cases h
                  exact k_iret C B dX11_change_130
                · rw [if_neg c_15] at h
                  refine lv_tableOut (tgt := 131) hx hb dX11_change_24 (tb_out 0 5 (by have := tb_ne c_4 (a := 0) rfl; have := tb_ne c_6 (a := 1) rfl; have := tb_ne c_8 (a := 2) rfl; have := tb_ne c_10 (a := 3) rfl; have := tb_ne c_13 (a := 4) rfl; have := tb_ne c_15 (a := 5) rfl; omega)) (by decide) ?_
                  refine lv_bipush (v := -2) hx hb dX11_change_131 (by decide) ?_
                  cases h
                  exact k_iret C B dX11_change_133
    · rw [if_pos c_3] at h
      refine lv_iconst (v := -1) hx hb dX11_change_21 (by decide) ?_
      cases h
      exact k_iret C B dX11_change_22
  · rw [if_pos c_1] at h
    refine lv_aload_n hx hb dX11_change_5 rfl (lv_at hl 0 rfl) ?_
    refine gfX11_change_44 C B 0 rfl rfl dX11_change_6 ?_
    refine gfX11_change_139 C B 2 rfl rfl dX11_change_9 ?_
    cases h
    exact k_iret C B dX11_change_12
end
theorem tX11_change {l : Launch} {D : va_G} {Es : (Nat → Nat) × (Nat → Nat)} {a b : Nat → Nat} {cI cJ cT : ClassId} {ch_nodes : Nat → Int32} {ch_signs : Nat → Int32} {ch_felt : Nat → Int32} {ch_count : Int32} {no_bits : Nat → Int32} {no_wishedInputs : Int32} {no_wishedMany : Int32} {no_hiddenUnlike : Nat → Int64} {x1 : Int32} {x2 : Int32} {z_r : Int32} (N : Nat) (h : fX11_change N ch_nodes ch_signs ch_felt ch_count no_bits x1 x2 = some z_r) : CtI l yX11_change wsX11_change rmX11_change D (tyl cI cJ cT) Es [.ref (a 0), .int x1, .int x2] (wd_nt_ch_no a b cI cJ cT ch_nodes ch_signs ch_felt ch_count no_bits no_wishedInputs no_wishedMany no_hiddenUnlike) z_r (wd_nt_ch_no a b cI cJ cT ch_nodes ch_signs ch_felt ch_count no_bits no_wishedInputs no_wishedMany no_hiddenUnlike) :=
  CtI.of (own := RX11) (cc := cX11_change) (nL := 3) (ret := (some .int)) (by decide +kernel) rfl rfl (Nat.le_of_ble_eq_true rfl) rfl (fun p e s m below meth c A ls C B hl => qX11_change_0 C (N := N) x1 x2 h _ _ _ B hl)

abbrev rmX11_by : Room := { frames := 2, cells := 0, slots := 0, locals := 46 }
theorem hdX11_by : yX11_by.cls ≠ "java/lang/invoke/MethodHandle" ∧ yX11_by.cls ≠ "java/lang/invoke/VarHandle" ∧ (parseMethodDescriptor yX11_by.desc).map (fun d => d.parameters.length) = some 2 := by decide +kernel
theorem iX11_by_X11 : ∀ w ∈ wsX110, w ∈ wsX11_by := by decide +kernel
theorem gfX11_by_35 {p : Program} {l : Launch} {e : Env} {R : Room} {s : State} {m : MethodId} {args : Array Value} {below : List Frame} {meth : Method} {c : Code} {H : Heap} {locs : List Loc} {cells slots : Nat} {Q : State → Prop} {D : va_G} {A : Nat → Prop} {tys : List (ClassId × FieldType)} {Es : (Nat → Nat) × (Nat → Nat)} {ws : va_W} {pc : Nat} {ls : Array Slot} {rest : List Value} {a : Nat} (C : CT p s m args meth c RX11 cX11_by 3 (some .int) wsX11_by D A tys Es) (B : DB D A ws s H locs) (q0 : Nat) {fs : List Value} {v : Value} (he : ws[q0]? = some (a, .inr (11, fs))) (hv : fs[3]? = some v) (hdg : decode cX11_by pc = .ok (.getfield 35, 3)) (kk : W p l e R s m args below meth c H locs cells slots Q (F0 m (pc + 3) ls (v :: rest))) : W p l e R s m args below meth c H locs cells slots Q (F0 m pc ls (.ref a :: rest)) :=
  k_get (Cn := RX11) (T := TX11) (N := 11) (index := 35) C B iX11_by_X11 rfl 3 (by decide) (by decide +kernel) q0 he hv hdg kk
section
variable {p : Program} {l : Launch} {e : Env} {s : State} {m : MethodId} {args : Array Value} {below : List Frame} {meth : Method} {c : Code} {D : va_G} {A : Nat → Prop} {Es : (Nat → Nat) × (Nat → Nat)} {a b : Nat → Nat} {cI cJ cT : ClassId}
set_option maxHeartbeats 4000000 in
set_option maxRecDepth 100000 in
theorem qX11_by_0 (C : CT p s m args meth c RX11 cX11_by 3 (some .int) wsX11_by D A (tyl cI cJ cT) Es) {N : Nat} {rs_low : Nat → Int64} {rs_mid : Nat → Int64} {rs_high : Nat → Int64} {ch_nodes : Nat → Int32} {ch_signs : Nat → Int32} {ch_felt : Nat → Int32} {ch_count : Int32} {z_r : Int32} : ∀ (x1 : Int32) (x2 : Int32), fX11_by N rs_low rs_mid rs_high ch_count x1 x2 = some z_r → ∀ (H : Heap) (locs : List Loc) (ls : Array Slot), DB D A (wd_nt_rs_ch a b cI cJ cT rs_low rs_mid rs_high ch_nodes ch_signs ch_felt ch_count) s H locs → lv_has ls 3 [(0, .ref (a 0)), (1, .int x1), (2, .int x2)] → W p l e rmX11_by s m args below meth c H locs 0 0 (ZI below args s D A (tyl cI cJ cT) z_r (wd_nt_rs_ch a b cI cJ cT rs_low rs_mid rs_high ch_nodes ch_signs ch_felt ch_count) 0 0) (F0 m 0 ls []) := by
  have hx := C.1.1
  have hb := C.1.2.1
  have hown := C.1.2.2.2.1
  have hts := C.1.2.2.2.2
  intro x1 x2 h H locs ls B hl
  rw [fX11_by] at h
  refine lv_aload_n hx hb dX11_by_0 rfl (lv_at hl 0 rfl) ?_
  refine lv_iload_n hx hb dX11_by_1 rfl (lv_at hl 1 rfl) ?_
  obtain ⟨r_1, g_8, h⟩ := ob_some h
  try dsimp only at h
  refine kc_VI C B (q0 := 0) (ci := 11) (As := [.int x1]) (rest := []) (w2 := (wd_nt_rs_ch a b cI cJ cT rs_low rs_mid rs_high ch_nodes ch_signs ch_felt ch_count)) (tX11_isChange (a := a) (b := b) N g_8) gX11_by_X11_isChange rfl ⟨rfl, rfl⟩ ⟨rfl, hdX11_isChange⟩ ⟨Nat.le_of_ble_eq_true rfl, Nat.le_of_ble_eq_true rfl⟩ rfl rfl [0, 1, 6, 7, 8, 9] [2, 3, 4, 5] [4, 5, 0, 1, 2, 3, 6, 7, 8, 9] rfl rfl rfl rfl rfl rfl rfl rfl hl.1 rfl (Nat.le_of_ble_eq_true rfl) ⟨Nat.zero_le _, Nat.zero_le _⟩ dX11_by_2 (fun H locs B => ?_)
  refine lv_if_ne (tgt := 10) hx hb dX11_by_5 (by decide) (fun c_2 => ?_) (fun c_2 => ?_)
  · rw [if_neg c_2] at h
    refine lv_iload_n hx hb dX11_by_10 rfl (lv_at hl 2 rfl) ?_
    obtain ⟨r_3, g_7, h⟩ := ob_some h
    try dsimp only at h
    refine kc_SI C B (As := [.int x2]) (rest := []) (w2 := (wd_nt_rs_ch a b cI cJ cT rs_low rs_mid rs_high ch_nodes ch_signs ch_felt ch_count)) (tX11_isInputs N g_7) gX11_by_X11_isInputs rfl ⟨rfl, rfl⟩ hdX11_isInputs ⟨Nat.le_of_ble_eq_true rfl, Nat.le_of_ble_eq_true rfl⟩ [] [0, 1, 2, 3, 4, 5, 6, 7, 8, 9] [0, 1, 2, 3, 4, 5, 6, 7, 8, 9] rfl rfl rfl rfl rfl rfl rfl rfl hl.1 rfl (Nat.le_of_ble_eq_true rfl) ⟨Nat.zero_le _, Nat.zero_le _⟩ dX11_by_11 (fun H locs B => ?_)
    refine lv_if_eq (tgt := 31) hx hb dX11_by_14 (by decide) (fun c_4 => ?_) (fun c_4 => ?_)
    · rw [if_pos c_4] at h
      refine lv_bipush (v := -2) hx hb dX11_by_31 (by decide) ?_
      cases h
      exact k_iret C B dX11_by_33
    · rw [if_neg c_4] at h
      refine lv_aload_n hx hb dX11_by_17 rfl (lv_at hl 0 rfl) ?_
      refine gfX11_by_35 C B 0 rfl rfl dX11_by_18 ?_
      refine lv_iconst (v := 2) hx hb dX11_by_21 (by decide) ?_
      refine lv_iload_n hx hb dX11_by_22 rfl (lv_at hl 1 rfl) ?_
      refine lv_iadd hx hb dX11_by_23 ?_
      refine lv_iload_n hx hb dX11_by_24 rfl (lv_at hl 2 rfl) ?_
      obtain ⟨r_5, g_6, h⟩ := ob_some h
      try dsimp only at h
      refine kc_VI C B (q0 := 0) (ci := 7) (As := [.int ((2 : Int32) + x1), .int x2]) (rest := []) (w2 := (wd_nt_rs_ch a b cI cJ cT rs_low rs_mid rs_high ch_nodes ch_signs ch_felt ch_count)) (tX7_at (a := a) (b := b) N g_6) gX11_by_X7_at rfl ⟨rfl, rfl⟩ ⟨rfl, hdX7_at⟩ ⟨Nat.le_of_ble_eq_true rfl, Nat.le_of_ble_eq_true rfl⟩ rfl rfl [2, 3, 4, 5] [0, 1, 6, 7, 8, 9] [0, 1, 6, 7, 8, 9, 2, 3, 4, 5] rfl rfl rfl rfl rfl rfl rfl rfl hl.1 rfl (Nat.le_of_ble_eq_true rfl) ⟨Nat.zero_le _, Nat.zero_le _⟩ dX11_by_25 (fun H locs B => ?_)
      refine lv_goto (tgt := 33) hx hb dX11_by_28 (by decide) ?_
      cases h
      exact k_iret C B dX11_by_33
  · rw [if_pos c_2] at h
    refine lv_iconst (v := -1) hx hb dX11_by_8 (by decide) ?_
    cases h
    exact k_iret C B dX11_by_9
end
theorem tX11_by {l : Launch} {D : va_G} {Es : (Nat → Nat) × (Nat → Nat)} {a b : Nat → Nat} {cI cJ cT : ClassId} {rs_low : Nat → Int64} {rs_mid : Nat → Int64} {rs_high : Nat → Int64} {ch_nodes : Nat → Int32} {ch_signs : Nat → Int32} {ch_felt : Nat → Int32} {ch_count : Int32} {x1 : Int32} {x2 : Int32} {z_r : Int32} (N : Nat) (h : fX11_by N rs_low rs_mid rs_high ch_count x1 x2 = some z_r) : CtI l yX11_by wsX11_by rmX11_by D (tyl cI cJ cT) Es [.ref (a 0), .int x1, .int x2] (wd_nt_rs_ch a b cI cJ cT rs_low rs_mid rs_high ch_nodes ch_signs ch_felt ch_count) z_r (wd_nt_rs_ch a b cI cJ cT rs_low rs_mid rs_high ch_nodes ch_signs ch_felt ch_count) :=
  CtI.of (own := RX11) (cc := cX11_by) (nL := 3) (ret := (some .int)) (by decide +kernel) rfl rfl (Nat.le_of_ble_eq_true rfl) rfl (fun p e s m below meth c A ls C B hl => qX11_by_0 C (N := N) x1 x2 h _ _ _ B hl)

abbrev rmX11_test : Room := { frames := 5, cells := 0, slots := 0, locals := 112 }
theorem hdX11_test : yX11_test.cls ≠ "java/lang/invoke/MethodHandle" ∧ yX11_test.cls ≠ "java/lang/invoke/VarHandle" ∧ (parseMethodDescriptor yX11_test.desc).map (fun d => d.parameters.length) = some 2 := by decide +kernel
theorem iX11_test_X11 : ∀ w ∈ wsX110, w ∈ wsX11_test := by decide +kernel
theorem gfX11_test_51 {p : Program} {l : Launch} {e : Env} {R : Room} {s : State} {m : MethodId} {args : Array Value} {below : List Frame} {meth : Method} {c : Code} {H : Heap} {locs : List Loc} {cells slots : Nat} {Q : State → Prop} {D : va_G} {A : Nat → Prop} {tys : List (ClassId × FieldType)} {Es : (Nat → Nat) × (Nat → Nat)} {ws : va_W} {pc : Nat} {ls : Array Slot} {rest : List Value} {a : Nat} (C : CT p s m args meth c RX11 cX11_test 3 (some .int) wsX11_test D A tys Es) (B : DB D A ws s H locs) (q0 : Nat) {fs : List Value} {v : Value} (he : ws[q0]? = some (a, .inr (11, fs))) (hv : fs[5]? = some v) (hdg : decode cX11_test pc = .ok (.getfield 51, 3)) (kk : W p l e R s m args below meth c H locs cells slots Q (F0 m (pc + 3) ls (v :: rest))) : W p l e R s m args below meth c H locs cells slots Q (F0 m pc ls (.ref a :: rest)) :=
  k_get (Cn := RX11) (T := TX11) (N := 11) (index := 51) C B iX11_test_X11 rfl 5 (by decide) (by decide +kernel) q0 he hv hdg kk
theorem iX11_test_X8 : ∀ w ∈ wsX80, w ∈ wsX11_test := by decide +kernel
theorem gfX11_test_157 {p : Program} {l : Launch} {e : Env} {R : Room} {s : State} {m : MethodId} {args : Array Value} {below : List Frame} {meth : Method} {c : Code} {H : Heap} {locs : List Loc} {cells slots : Nat} {Q : State → Prop} {D : va_G} {A : Nat → Prop} {tys : List (ClassId × FieldType)} {Es : (Nat → Nat) × (Nat → Nat)} {ws : va_W} {pc : Nat} {ls : Array Slot} {rest : List Value} {a : Nat} (C : CT p s m args meth c RX11 cX11_test 3 (some .int) wsX11_test D A tys Es) (B : DB D A ws s H locs) (q0 : Nat) {fs : List Value} {v : Value} (he : ws[q0]? = some (a, .inr (8, fs))) (hv : fs[2]? = some v) (hdg : decode cX11_test pc = .ok (.getfield 157, 3)) (kk : W p l e R s m args below meth c H locs cells slots Q (F0 m (pc + 3) ls (v :: rest))) : W p l e R s m args below meth c H locs cells slots Q (F0 m pc ls (.ref a :: rest)) :=
  k_get (Cn := RX8) (T := TX8) (N := 4) (index := 157) C B iX11_test_X8 rfl 2 (by decide) (by decide +kernel) q0 he hv hdg kk
section
variable {p : Program} {l : Launch} {e : Env} {s : State} {m : MethodId} {args : Array Value} {below : List Frame} {meth : Method} {c : Code} {D : va_G} {A : Nat → Prop} {Es : (Nat → Nat) × (Nat → Nat)} {a b : Nat → Nat} {cI cJ cT : ClassId}
set_option maxHeartbeats 4000000 in
set_option maxRecDepth 100000 in
theorem qX11_test_0 (C : CT p s m args meth c RX11 cX11_test 3 (some .int) wsX11_test D A (tyl cI cJ cT) Es) {N : Nat} {rs_low : Nat → Int64} {rs_mid : Nat → Int64} {rs_high : Nat → Int64} {ch_nodes : Nat → Int32} {ch_signs : Nat → Int32} {ch_felt : Nat → Int32} {ch_count : Int32} {no_wishedInputs : Int32} {no_wishedMany : Int32} {no_hiddenUnlike : Nat → Int64} {fw_waits : Nat → Int32} {fw_wl : Nat} {fw_wa : Nat} {fw_order : Nat → Int32} {fw_sum : Int32} {fw_set : Int32} {z_r : Int32} {z_te_inputs : Nat → Int32} {z_te_dues : Nat → Int32} {z_te_count : Int32} {z_no_bits : Nat → Int32} {z_fw_fresh : Int32} : ∀ (x1 : Int32) (x2 : Int32) (te_inputs : Nat → Int32) (te_dues : Nat → Int32) (te_count : Int32) (no_bits : Nat → Int32) (fw_fresh : Int32), fX11_test N rs_low rs_mid rs_high ch_count x1 x2 te_inputs te_dues te_count no_bits fw_fresh = some (z_r, z_te_inputs, z_te_dues, z_te_count, z_no_bits, z_fw_fresh) → ∀ (H : Heap) (locs : List Loc) (ls : Array Slot), DB D A (wd_nt_rs_ch_te_no_fw a b cI cJ cT rs_low rs_mid rs_high ch_nodes ch_signs ch_felt ch_count te_inputs te_dues te_count no_bits no_wishedInputs no_wishedMany no_hiddenUnlike fw_waits fw_wl fw_wa fw_order fw_sum fw_set fw_fresh) s H locs → lv_has ls 3 [(0, .ref (a 0)), (1, .int x1), (2, .int x2)] → W p l e rmX11_test s m args below meth c H locs 0 0 (ZI below args s D A (tyl cI cJ cT) z_r (wd_nt_rs_ch_te_no_fw a b cI cJ cT rs_low rs_mid rs_high ch_nodes ch_signs ch_felt ch_count z_te_inputs z_te_dues z_te_count z_no_bits no_wishedInputs no_wishedMany no_hiddenUnlike fw_waits fw_wl fw_wa fw_order fw_sum fw_set z_fw_fresh) 0 0) (F0 m 0 ls []) := by
  have hx := C.1.1
  have hb := C.1.2.1
  have hown := C.1.2.2.2.1
  have hts := C.1.2.2.2.2
  intro x1 x2 te_inputs te_dues te_count no_bits fw_fresh h H locs ls B hl
  rw [fX11_test] at h
  refine lv_iload_n hx hb dX11_test_0 rfl (lv_at hl 1 rfl) ?_
  obtain ⟨r_1, g_13, h⟩ := ob_some h
  try dsimp only at h
  refine kc_SI C B (As := [.int x1]) (rest := []) (w2 := (wd_nt_rs_ch_te_no_fw a b cI cJ cT rs_low rs_mid rs_high ch_nodes ch_signs ch_felt ch_count te_inputs te_dues te_count no_bits no_wishedInputs no_wishedMany no_hiddenUnlike fw_waits fw_wl fw_wa fw_order fw_sum fw_set fw_fresh)) (tX11_isInputs N g_13) gX11_test_X11_isInputs rfl ⟨rfl, rfl⟩ hdX11_isInputs ⟨Nat.le_of_ble_eq_true rfl, Nat.le_of_ble_eq_true rfl⟩ [] [0, 1, 2, 3, 4, 5, 6, 7, 8, 9, 10, 11, 12, 13, 14, 15, 16, 17, 18] [0, 1, 2, 3, 4, 5, 6, 7, 8, 9, 10, 11, 12, 13, 14, 15, 16, 17, 18] rfl rfl rfl rfl rfl rfl rfl rfl hl.1 rfl (Nat.le_of_ble_eq_true rfl) ⟨Nat.zero_le _, Nat.zero_le _⟩ dX11_test_1 (fun H locs B => ?_)
  refine lv_if_eq (tgt := 17) hx hb dX11_test_4 (by decide) (fun c_2 => ?_) (fun c_2 => ?_)
  · rw [if_pos c_2] at h
    refine lv_bipush (v := -2) hx hb dX11_test_17 (by decide) ?_
    cases h
    exact k_iret C B dX11_test_19
  · rw [if_neg c_2] at h
    refine lv_iload_n hx hb dX11_test_7 rfl (lv_at hl 2 rfl) ?_
    refine lv_if_lt (tgt := 17) hx hb dX11_test_8 (by decide) (fun c_3 => ?_) (fun c_3 => ?_)
    · rw [if_pos c_3] at h
      refine lv_bipush (v := -2) hx hb dX11_test_17 (by decide) ?_
      cases h
      exact k_iret C B dX11_test_19
    · rw [if_neg c_3] at h
      refine lv_iload_n hx hb dX11_test_11 rfl (lv_at hl 2 rfl) ?_
      refine lv_bipush (v := 8) hx hb dX11_test_12 (by decide) ?_
      refine lv_icmp_lt (tgt := 20) hx hb dX11_test_14 (by decide) (fun c_4 => ?_) (fun c_4 => ?_)
      · rw [if_pos c_4] at h
        refine lv_aload_n hx hb dX11_test_20 rfl (lv_at hl 0 rfl) ?_
        refine gfX11_test_51 C B 0 rfl rfl dX11_test_21 ?_
        refine gfX11_test_157 C B 10 rfl rfl dX11_test_24 ?_
        refine lv_bipush (v := 14) hx hb dX11_test_27 (by decide) ?_
        refine lv_icmp_lt (tgt := 35) hx hb dX11_test_29 (by decide) (fun c_5 => ?_) (fun c_5 => ?_)
        · rw [if_pos c_5] at h
          refine lv_aload_n hx hb dX11_test_35 rfl (lv_at hl 0 rfl) ?_
          refine gfX11_test_51 C B 0 rfl rfl dX11_test_36 ?_
          refine lv_iload_n hx hb dX11_test_39 rfl (lv_at hl 1 rfl) ?_
          refine lv_iload_n hx hb dX11_test_40 rfl (lv_at hl 2 rfl) ?_
          obtain ⟨⟨te_inputs_6, te_dues_7, te_count_8⟩, g_12, h⟩ := ob_some h
          try dsimp only at h
          refine kc_VV C B (q0 := 0) (ci := 8) (As := [.int x1, .int x2]) (rest := []) (w2 := (wd_nt_rs_ch_te_no_fw a b cI cJ cT rs_low rs_mid rs_high ch_nodes ch_signs ch_felt ch_count te_inputs_6 te_dues_7 te_count_8 no_bits no_wishedInputs no_wishedMany no_hiddenUnlike fw_waits fw_wl fw_wa fw_order fw_sum fw_set fw_fresh)) (tX8_append (a := a) (b := b) N g_12) gX11_test_X8_append rfl ⟨rfl, rfl⟩ ⟨rfl, hdX8_append⟩ ⟨Nat.le_of_ble_eq_true rfl, Nat.le_of_ble_eq_true rfl⟩ rfl rfl [10, 11, 12] [0, 1, 2, 3, 4, 5, 6, 7, 8, 9, 13, 14, 15, 16, 17, 18] [0, 1, 2, 3, 4, 5, 6, 7, 8, 9, 16, 17, 18, 10, 11, 12, 13, 14, 15] rfl rfl rfl rfl rfl rfl rfl rfl hl.1 rfl (Nat.le_of_ble_eq_true rfl) ⟨Nat.zero_le _, Nat.zero_le _⟩ dX11_test_41 (fun H locs B => ?_)
          refine lv_aload_n hx hb dX11_test_44 rfl (lv_at hl 0 rfl) ?_
          obtain ⟨⟨no_bits_9, fw_fresh_10⟩, g_11, h⟩ := ob_some h
          try dsimp only at h
          refine kc_VV C B (q0 := 0) (ci := 11) (As := []) (rest := []) (w2 := (wd_nt_rs_ch_te_no_fw a b cI cJ cT rs_low rs_mid rs_high ch_nodes ch_signs ch_felt ch_count te_inputs_6 te_dues_7 te_count_8 no_bits_9 no_wishedInputs no_wishedMany no_hiddenUnlike fw_waits fw_wl fw_wa fw_order fw_sum fw_set fw_fresh_10)) (tX11_settleNotices (a := a) (b := b) N g_11) gX11_test_X11_settleNotices rfl ⟨rfl, rfl⟩ ⟨rfl, hdX11_settleNotices⟩ ⟨Nat.le_of_ble_eq_true rfl, Nat.le_of_ble_eq_true rfl⟩ rfl rfl [0, 1, 2, 3, 4, 5, 6, 7, 8, 9, 10, 11, 12, 13, 14, 15, 16, 17, 18] [] [0, 1, 2, 3, 4, 5, 6, 7, 8, 9, 10, 11, 12, 13, 14, 15, 16, 17, 18] rfl rfl rfl rfl rfl rfl rfl rfl hl.1 rfl (Nat.le_of_ble_eq_true rfl) ⟨Nat.zero_le _, Nat.zero_le _⟩ dX11_test_45 (fun H locs B => ?_)
          refine lv_aload_n hx hb dX11_test_48 rfl (lv_at hl 0 rfl) ?_
          refine gfX11_test_51 C B 0 rfl rfl dX11_test_49 ?_
          refine gfX11_test_157 C B 10 rfl rfl dX11_test_52 ?_
          refine lv_iconst (v := 1) hx hb dX11_test_55 (by decide) ?_
          refine lv_isub hx hb dX11_test_56 ?_
          cases h
          exact k_iret C B dX11_test_57
        · rw [if_neg c_5] at h
          refine lv_bipush (v := -4) hx hb dX11_test_32 (by decide) ?_
          cases h
          exact k_iret C B dX11_test_34
      · rw [if_neg c_4] at h
        refine lv_bipush (v := -2) hx hb dX11_test_17 (by decide) ?_
        cases h
        exact k_iret C B dX11_test_19
end
theorem tX11_test {l : Launch} {D : va_G} {Es : (Nat → Nat) × (Nat → Nat)} {a b : Nat → Nat} {cI cJ cT : ClassId} {rs_low : Nat → Int64} {rs_mid : Nat → Int64} {rs_high : Nat → Int64} {ch_nodes : Nat → Int32} {ch_signs : Nat → Int32} {ch_felt : Nat → Int32} {ch_count : Int32} {te_inputs : Nat → Int32} {te_dues : Nat → Int32} {te_count : Int32} {no_bits : Nat → Int32} {no_wishedInputs : Int32} {no_wishedMany : Int32} {no_hiddenUnlike : Nat → Int64} {fw_waits : Nat → Int32} {fw_wl : Nat} {fw_wa : Nat} {fw_order : Nat → Int32} {fw_sum : Int32} {fw_set : Int32} {fw_fresh : Int32} {x1 : Int32} {x2 : Int32} {z_r : Int32} {z_te_inputs : Nat → Int32} {z_te_dues : Nat → Int32} {z_te_count : Int32} {z_no_bits : Nat → Int32} {z_fw_fresh : Int32} (N : Nat) (h : fX11_test N rs_low rs_mid rs_high ch_count x1 x2 te_inputs te_dues te_count no_bits fw_fresh = some (z_r, z_te_inputs, z_te_dues, z_te_count, z_no_bits, z_fw_fresh)) : CtI l yX11_test wsX11_test rmX11_test D (tyl cI cJ cT) Es [.ref (a 0), .int x1, .int x2] (wd_nt_rs_ch_te_no_fw a b cI cJ cT rs_low rs_mid rs_high ch_nodes ch_signs ch_felt ch_count te_inputs te_dues te_count no_bits no_wishedInputs no_wishedMany no_hiddenUnlike fw_waits fw_wl fw_wa fw_order fw_sum fw_set fw_fresh) z_r (wd_nt_rs_ch_te_no_fw a b cI cJ cT rs_low rs_mid rs_high ch_nodes ch_signs ch_felt ch_count z_te_inputs z_te_dues z_te_count z_no_bits no_wishedInputs no_wishedMany no_hiddenUnlike fw_waits fw_wl fw_wa fw_order fw_sum fw_set z_fw_fresh) :=
  CtI.of (own := RX11) (cc := cX11_test) (nL := 3) (ret := (some .int)) (by decide +kernel) rfl rfl (Nat.le_of_ble_eq_true rfl) rfl (fun p e s m below meth c A ls C B hl => qX11_test_0 C (N := N) x1 x2 te_inputs te_dues te_count no_bits fw_fresh h _ _ _ B hl)

abbrev rmX11_isTest : Room := { frames := 0, cells := 0, slots := 0, locals := 0 }
theorem hdX11_isTest : yX11_isTest.cls ≠ "java/lang/invoke/MethodHandle" ∧ yX11_isTest.cls ≠ "java/lang/invoke/VarHandle" ∧ (parseMethodDescriptor yX11_isTest.desc).map (fun d => d.parameters.length) = some 1 := by decide +kernel
theorem iX11_isTest_X11 : ∀ w ∈ wsX110, w ∈ wsX11_isTest := by decide +kernel
theorem gfX11_isTest_51 {p : Program} {l : Launch} {e : Env} {R : Room} {s : State} {m : MethodId} {args : Array Value} {below : List Frame} {meth : Method} {c : Code} {H : Heap} {locs : List Loc} {cells slots : Nat} {Q : State → Prop} {D : va_G} {A : Nat → Prop} {tys : List (ClassId × FieldType)} {Es : (Nat → Nat) × (Nat → Nat)} {ws : va_W} {pc : Nat} {ls : Array Slot} {rest : List Value} {a : Nat} (C : CT p s m args meth c RX11 cX11_isTest 2 (some .boolean) wsX11_isTest D A tys Es) (B : DB D A ws s H locs) (q0 : Nat) {fs : List Value} {v : Value} (he : ws[q0]? = some (a, .inr (11, fs))) (hv : fs[5]? = some v) (hdg : decode cX11_isTest pc = .ok (.getfield 51, 3)) (kk : W p l e R s m args below meth c H locs cells slots Q (F0 m (pc + 3) ls (v :: rest))) : W p l e R s m args below meth c H locs cells slots Q (F0 m pc ls (.ref a :: rest)) :=
  k_get (Cn := RX11) (T := TX11) (N := 11) (index := 51) C B iX11_isTest_X11 rfl 5 (by decide) (by decide +kernel) q0 he hv hdg kk
theorem iX11_isTest_X8 : ∀ w ∈ wsX80, w ∈ wsX11_isTest := by decide +kernel
theorem gfX11_isTest_157 {p : Program} {l : Launch} {e : Env} {R : Room} {s : State} {m : MethodId} {args : Array Value} {below : List Frame} {meth : Method} {c : Code} {H : Heap} {locs : List Loc} {cells slots : Nat} {Q : State → Prop} {D : va_G} {A : Nat → Prop} {tys : List (ClassId × FieldType)} {Es : (Nat → Nat) × (Nat → Nat)} {ws : va_W} {pc : Nat} {ls : Array Slot} {rest : List Value} {a : Nat} (C : CT p s m args meth c RX11 cX11_isTest 2 (some .boolean) wsX11_isTest D A tys Es) (B : DB D A ws s H locs) (q0 : Nat) {fs : List Value} {v : Value} (he : ws[q0]? = some (a, .inr (8, fs))) (hv : fs[2]? = some v) (hdg : decode cX11_isTest pc = .ok (.getfield 157, 3)) (kk : W p l e R s m args below meth c H locs cells slots Q (F0 m (pc + 3) ls (v :: rest))) : W p l e R s m args below meth c H locs cells slots Q (F0 m pc ls (.ref a :: rest)) :=
  k_get (Cn := RX8) (T := TX8) (N := 4) (index := 157) C B iX11_isTest_X8 rfl 2 (by decide) (by decide +kernel) q0 he hv hdg kk
section
variable {p : Program} {l : Launch} {e : Env} {s : State} {m : MethodId} {args : Array Value} {below : List Frame} {meth : Method} {c : Code} {D : va_G} {A : Nat → Prop} {Es : (Nat → Nat) × (Nat → Nat)} {a b : Nat → Nat} {cI cJ cT : ClassId}
set_option maxHeartbeats 4000000 in
set_option maxRecDepth 100000 in
theorem qX11_isTest_0 (C : CT p s m args meth c RX11 cX11_isTest 2 (some .boolean) wsX11_isTest D A (tyl cI cJ cT) Es) {N : Nat} {te_inputs : Nat → Int32} {te_dues : Nat → Int32} {te_count : Int32} {z_r : Int32} : ∀ (x1 : Int32), fX11_isTest N te_count x1 = some z_r → ∀ (H : Heap) (locs : List Loc) (ls : Array Slot), DB D A (wd_nt_te a b cI cJ cT te_inputs te_dues te_count) s H locs → lv_has ls 2 [(0, .ref (a 0)), (1, .int x1)] → W p l e rmX11_isTest s m args below meth c H locs 0 0 (ZI below args s D A (tyl cI cJ cT) z_r (wd_nt_te a b cI cJ cT te_inputs te_dues te_count) 0 0) (F0 m 0 ls []) := by
  have hx := C.1.1
  have hb := C.1.2.1
  have hown := C.1.2.2.2.1
  have hts := C.1.2.2.2.2
  intro x1 h H locs ls B hl
  rw [fX11_isTest] at h
  refine lv_iload_n hx hb dX11_isTest_0 rfl (lv_at hl 1 rfl) ?_
  refine lv_if_lt (tgt := 19) hx hb dX11_isTest_1 (by decide) (fun c_1 => ?_) (fun c_1 => ?_)
  · rw [if_pos c_1] at h
    refine lv_iconst (v := 0) hx hb dX11_isTest_19 (by decide) ?_
    cases h
    exact k_zret C B (by decide) dX11_isTest_20
  · rw [if_neg c_1] at h
    refine lv_iload_n hx hb dX11_isTest_4 rfl (lv_at hl 1 rfl) ?_
    refine lv_aload_n hx hb dX11_isTest_5 rfl (lv_at hl 0 rfl) ?_
    refine gfX11_isTest_51 C B 0 rfl rfl dX11_isTest_6 ?_
    refine gfX11_isTest_157 C B 2 rfl rfl dX11_isTest_9 ?_
    refine lv_icmp_ge (tgt := 19) hx hb dX11_isTest_12 (by decide) (fun c_2 => ?_) (fun c_2 => ?_)
    · rw [if_pos c_2] at h
      refine lv_iconst (v := 0) hx hb dX11_isTest_19 (by decide) ?_
      cases h
      exact k_zret C B (by decide) dX11_isTest_20
    · rw [if_neg c_2] at h
      refine lv_iconst (v := 1) hx hb dX11_isTest_15 (by decide) ?_
      refine lv_goto (tgt := 20) hx hb dX11_isTest_16 (by decide) ?_
      cases h
      exact k_zret C B (by decide) dX11_isTest_20
end
theorem tX11_isTest {l : Launch} {D : va_G} {Es : (Nat → Nat) × (Nat → Nat)} {a b : Nat → Nat} {cI cJ cT : ClassId} {te_inputs : Nat → Int32} {te_dues : Nat → Int32} {te_count : Int32} {x1 : Int32} {z_r : Int32} (N : Nat) (h : fX11_isTest N te_count x1 = some z_r) : CtI l yX11_isTest wsX11_isTest rmX11_isTest D (tyl cI cJ cT) Es [.ref (a 0), .int x1] (wd_nt_te a b cI cJ cT te_inputs te_dues te_count) z_r (wd_nt_te a b cI cJ cT te_inputs te_dues te_count) :=
  CtI.of (own := RX11) (cc := cX11_isTest) (nL := 2) (ret := (some .boolean)) (by decide +kernel) rfl rfl (Nat.le_of_ble_eq_true rfl) rfl (fun p e s m below meth c A ls C B hl => qX11_isTest_0 C (N := N) x1 h _ _ _ B hl)

abbrev rmX11_drop : Room := { frames := 5, cells := 0, slots := 0, locals := 112 }
theorem hdX11_drop : yX11_drop.cls ≠ "java/lang/invoke/MethodHandle" ∧ yX11_drop.cls ≠ "java/lang/invoke/VarHandle" ∧ (parseMethodDescriptor yX11_drop.desc).map (fun d => d.parameters.length) = some 1 := by decide +kernel
theorem iX11_drop_X11 : ∀ w ∈ wsX110, w ∈ wsX11_drop := by decide +kernel
theorem gfX11_drop_51 {p : Program} {l : Launch} {e : Env} {R : Room} {s : State} {m : MethodId} {args : Array Value} {below : List Frame} {meth : Method} {c : Code} {H : Heap} {locs : List Loc} {cells slots : Nat} {Q : State → Prop} {D : va_G} {A : Nat → Prop} {tys : List (ClassId × FieldType)} {Es : (Nat → Nat) × (Nat → Nat)} {ws : va_W} {pc : Nat} {ls : Array Slot} {rest : List Value} {a : Nat} (C : CT p s m args meth c RX11 cX11_drop 3 (some .int) wsX11_drop D A tys Es) (B : DB D A ws s H locs) (q0 : Nat) {fs : List Value} {v : Value} (he : ws[q0]? = some (a, .inr (11, fs))) (hv : fs[5]? = some v) (hdg : decode cX11_drop pc = .ok (.getfield 51, 3)) (kk : W p l e R s m args below meth c H locs cells slots Q (F0 m (pc + 3) ls (v :: rest))) : W p l e R s m args below meth c H locs cells slots Q (F0 m pc ls (.ref a :: rest)) :=
  k_get (Cn := RX11) (T := TX11) (N := 11) (index := 51) C B iX11_drop_X11 rfl 5 (by decide) (by decide +kernel) q0 he hv hdg kk
theorem iX11_drop_X8 : ∀ w ∈ wsX80, w ∈ wsX11_drop := by decide +kernel
theorem gfX11_drop_168 {p : Program} {l : Launch} {e : Env} {R : Room} {s : State} {m : MethodId} {args : Array Value} {below : List Frame} {meth : Method} {c : Code} {H : Heap} {locs : List Loc} {cells slots : Nat} {Q : State → Prop} {D : va_G} {A : Nat → Prop} {tys : List (ClassId × FieldType)} {Es : (Nat → Nat) × (Nat → Nat)} {ws : va_W} {pc : Nat} {ls : Array Slot} {rest : List Value} {a : Nat} (C : CT p s m args meth c RX11 cX11_drop 3 (some .int) wsX11_drop D A tys Es) (B : DB D A ws s H locs) (q0 : Nat) {fs : List Value} {v : Value} (he : ws[q0]? = some (a, .inr (8, fs))) (hv : fs[0]? = some v) (hdg : decode cX11_drop pc = .ok (.getfield 168, 3)) (kk : W p l e R s m args below meth c H locs cells slots Q (F0 m (pc + 3) ls (v :: rest))) : W p l e R s m args below meth c H locs cells slots Q (F0 m pc ls (.ref a :: rest)) :=
  k_get (Cn := RX8) (T := TX8) (N := 4) (index := 168) C B iX11_drop_X8 rfl 0 (by decide) (by decide +kernel) q0 he hv hdg kk
section
variable {p : Program} {l : Launch} {e : Env} {s : State} {m : MethodId} {args : Array Value} {below : List Frame} {meth : Method} {c : Code} {D : va_G} {A : Nat → Prop} {Es : (Nat → Nat) × (Nat → Nat)} {a b : Nat → Nat} {cI cJ cT : ClassId}
set_option maxHeartbeats 4000000 in
set_option maxRecDepth 100000 in
theorem qX11_drop_0 (C : CT p s m args meth c RX11 cX11_drop 3 (some .int) wsX11_drop D A (tyl cI cJ cT) Es) {N : Nat} {rs_low : Nat → Int64} {rs_mid : Nat → Int64} {rs_high : Nat → Int64} {ch_nodes : Nat → Int32} {ch_signs : Nat → Int32} {ch_felt : Nat → Int32} {ch_count : Int32} {no_wishedInputs : Int32} {no_wishedMany : Int32} {no_hiddenUnlike : Nat → Int64} {fw_waits : Nat → Int32} {fw_wl : Nat} {fw_wa : Nat} {fw_order : Nat → Int32} {fw_sum : Int32} {fw_set : Int32} {z_r : Int32} {z_te_inputs : Nat → Int32} {z_te_dues : Nat → Int32} {z_te_count : Int32} {z_no_bits : Nat → Int32} {z_fw_fresh : Int32} : ∀ (x1 : Int32) (te_inputs : Nat → Int32) (te_dues : Nat → Int32) (te_count : Int32) (no_bits : Nat → Int32) (fw_fresh : Int32), fX11_drop N rs_low rs_mid rs_high ch_count x1 te_inputs te_dues te_count no_bits fw_fresh = some (z_r, z_te_inputs, z_te_dues, z_te_count, z_no_bits, z_fw_fresh) → ∀ (H : Heap) (locs : List Loc) (ls : Array Slot), DB D A (wd_nt_rs_ch_te_no_fw a b cI cJ cT rs_low rs_mid rs_high ch_nodes ch_signs ch_felt ch_count te_inputs te_dues te_count no_bits no_wishedInputs no_wishedMany no_hiddenUnlike fw_waits fw_wl fw_wa fw_order fw_sum fw_set fw_fresh) s H locs → lv_has ls 3 [(0, .ref (a 0)), (1, .int x1)] → W p l e rmX11_drop s m args below meth c H locs 0 0 (ZI below args s D A (tyl cI cJ cT) z_r (wd_nt_rs_ch_te_no_fw a b cI cJ cT rs_low rs_mid rs_high ch_nodes ch_signs ch_felt ch_count z_te_inputs z_te_dues z_te_count z_no_bits no_wishedInputs no_wishedMany no_hiddenUnlike fw_waits fw_wl fw_wa fw_order fw_sum fw_set z_fw_fresh) 0 0) (F0 m 0 ls []) := by
  have hx := C.1.1
  have hb := C.1.2.1
  have hown := C.1.2.2.2.1
  have hts := C.1.2.2.2.2
  intro x1 te_inputs te_dues te_count no_bits fw_fresh h H locs ls B hl
  rw [fX11_drop] at h
  refine lv_aload_n hx hb dX11_drop_0 rfl (lv_at hl 0 rfl) ?_
  refine lv_iload_n hx hb dX11_drop_1 rfl (lv_at hl 1 rfl) ?_
  obtain ⟨r_1, g_11, h⟩ := ob_some h
  try dsimp only at h
  refine kc_VI C B (q0 := 0) (ci := 11) (As := [.int x1]) (rest := []) (w2 := (wd_nt_rs_ch_te_no_fw a b cI cJ cT rs_low rs_mid rs_high ch_nodes ch_signs ch_felt ch_count te_inputs te_dues te_count no_bits no_wishedInputs no_wishedMany no_hiddenUnlike fw_waits fw_wl fw_wa fw_order fw_sum fw_set fw_fresh)) (tX11_isTest (a := a) (b := b) N g_11) gX11_drop_X11_isTest rfl ⟨rfl, rfl⟩ ⟨rfl, hdX11_isTest⟩ ⟨Nat.le_of_ble_eq_true rfl, Nat.le_of_ble_eq_true rfl⟩ rfl rfl [0, 1, 10, 11, 12] [2, 3, 4, 5, 6, 7, 8, 9, 13, 14, 15, 16, 17, 18] [14, 15, 0, 1, 2, 3, 4, 5, 6, 7, 16, 17, 18, 8, 9, 10, 11, 12, 13] rfl rfl rfl rfl rfl rfl rfl rfl hl.1 rfl (Nat.le_of_ble_eq_true rfl) ⟨Nat.zero_le _, Nat.zero_le _⟩ dX11_drop_2 (fun H locs B => ?_)
  refine lv_if_ne (tgt := 10) hx hb dX11_drop_5 (by decide) (fun c_2 => ?_) (fun c_2 => ?_)
  · rw [if_neg c_2] at h
    refine lv_aload_n hx hb dX11_drop_10 rfl (lv_at hl 0 rfl) ?_
    refine gfX11_drop_51 C B 0 rfl rfl dX11_drop_11 ?_
    refine gfX11_drop_168 C B 10 rfl rfl dX11_drop_14 ?_
    refine lv_iload_n hx hb dX11_drop_17 rfl (lv_at hl 1 rfl) ?_
    obtain ⟨b_3, h⟩ := bnd_some h
    refine k_iald C B 11 0 rfl rfl b_3 dX11_drop_18 ?_
    refine lv_istore_n (lv' := [(2, .int (te_inputs (Int32.toNatClampNeg x1))), (0, .ref (a 0)), (1, .int x1)]) hx hb dX11_drop_19 rfl hl (by decide) rfl (fun ls hl => ?_)
    refine lv_aload_n hx hb dX11_drop_20 rfl (lv_at hl 1 rfl) ?_
    refine gfX11_drop_51 C B 0 rfl rfl dX11_drop_21 ?_
    refine lv_iload_n hx hb dX11_drop_24 rfl (lv_at hl 2 rfl) ?_
    obtain ⟨⟨te_inputs_4, te_dues_5, te_count_6⟩, g_10, h⟩ := ob_some h
    try dsimp only at h
    refine kc_VV C B (q0 := 0) (ci := 8) (As := [.int x1]) (rest := []) (w2 := (wd_nt_rs_ch_te_no_fw a b cI cJ cT rs_low rs_mid rs_high ch_nodes ch_signs ch_felt ch_count te_inputs_4 te_dues_5 te_count_6 no_bits no_wishedInputs no_wishedMany no_hiddenUnlike fw_waits fw_wl fw_wa fw_order fw_sum fw_set fw_fresh)) (tX8_remove (a := a) (b := b) N g_10) gX11_drop_X8_remove rfl ⟨rfl, rfl⟩ ⟨rfl, hdX8_remove⟩ ⟨Nat.le_of_ble_eq_true rfl, Nat.le_of_ble_eq_true rfl⟩ rfl rfl [10, 11, 12] [0, 1, 2, 3, 4, 5, 6, 7, 8, 9, 13, 14, 15, 16, 17, 18] [0, 1, 2, 3, 4, 5, 6, 7, 8, 9, 16, 17, 18, 10, 11, 12, 13, 14, 15] rfl rfl rfl rfl rfl rfl rfl rfl hl.1 rfl (Nat.le_of_ble_eq_true rfl) ⟨Nat.zero_le _, Nat.zero_le _⟩ dX11_drop_25 (fun H locs B => ?_)
    refine lv_aload_n hx hb dX11_drop_28 rfl (lv_at hl 1 rfl) ?_
    obtain ⟨⟨no_bits_7, fw_fresh_8⟩, g_9, h⟩ := ob_some h
    try dsimp only at h
    refine kc_VV C B (q0 := 0) (ci := 11) (As := []) (rest := []) (w2 := (wd_nt_rs_ch_te_no_fw a b cI cJ cT rs_low rs_mid rs_high ch_nodes ch_signs ch_felt ch_count te_inputs_4 te_dues_5 te_count_6 no_bits_7 no_wishedInputs no_wishedMany no_hiddenUnlike fw_waits fw_wl fw_wa fw_order fw_sum fw_set fw_fresh_8)) (tX11_settleNotices (a := a) (b := b) N g_9) gX11_drop_X11_settleNotices rfl ⟨rfl, rfl⟩ ⟨rfl, hdX11_settleNotices⟩ ⟨Nat.le_of_ble_eq_true rfl, Nat.le_of_ble_eq_true rfl⟩ rfl rfl [0, 1, 2, 3, 4, 5, 6, 7, 8, 9, 10, 11, 12, 13, 14, 15, 16, 17, 18] [] [0, 1, 2, 3, 4, 5, 6, 7, 8, 9, 10, 11, 12, 13, 14, 15, 16, 17, 18] rfl rfl rfl rfl rfl rfl rfl rfl hl.1 rfl (Nat.le_of_ble_eq_true rfl) ⟨Nat.zero_le _, Nat.zero_le _⟩ dX11_drop_29 (fun H locs B => ?_)
    refine lv_iload_n hx hb dX11_drop_32 rfl (lv_at hl 0 rfl) ?_
    cases h
    exact k_iret C B dX11_drop_33
  · rw [if_pos c_2] at h
    refine lv_iconst (v := -1) hx hb dX11_drop_8 (by decide) ?_
    cases h
    exact k_iret C B dX11_drop_9
end
theorem tX11_drop {l : Launch} {D : va_G} {Es : (Nat → Nat) × (Nat → Nat)} {a b : Nat → Nat} {cI cJ cT : ClassId} {rs_low : Nat → Int64} {rs_mid : Nat → Int64} {rs_high : Nat → Int64} {ch_nodes : Nat → Int32} {ch_signs : Nat → Int32} {ch_felt : Nat → Int32} {ch_count : Int32} {te_inputs : Nat → Int32} {te_dues : Nat → Int32} {te_count : Int32} {no_bits : Nat → Int32} {no_wishedInputs : Int32} {no_wishedMany : Int32} {no_hiddenUnlike : Nat → Int64} {fw_waits : Nat → Int32} {fw_wl : Nat} {fw_wa : Nat} {fw_order : Nat → Int32} {fw_sum : Int32} {fw_set : Int32} {fw_fresh : Int32} {x1 : Int32} {z_r : Int32} {z_te_inputs : Nat → Int32} {z_te_dues : Nat → Int32} {z_te_count : Int32} {z_no_bits : Nat → Int32} {z_fw_fresh : Int32} (N : Nat) (h : fX11_drop N rs_low rs_mid rs_high ch_count x1 te_inputs te_dues te_count no_bits fw_fresh = some (z_r, z_te_inputs, z_te_dues, z_te_count, z_no_bits, z_fw_fresh)) : CtI l yX11_drop wsX11_drop rmX11_drop D (tyl cI cJ cT) Es [.ref (a 0), .int x1] (wd_nt_rs_ch_te_no_fw a b cI cJ cT rs_low rs_mid rs_high ch_nodes ch_signs ch_felt ch_count te_inputs te_dues te_count no_bits no_wishedInputs no_wishedMany no_hiddenUnlike fw_waits fw_wl fw_wa fw_order fw_sum fw_set fw_fresh) z_r (wd_nt_rs_ch_te_no_fw a b cI cJ cT rs_low rs_mid rs_high ch_nodes ch_signs ch_felt ch_count z_te_inputs z_te_dues z_te_count z_no_bits no_wishedInputs no_wishedMany no_hiddenUnlike fw_waits fw_wl fw_wa fw_order fw_sum fw_set z_fw_fresh) :=
  CtI.of (own := RX11) (cc := cX11_drop) (nL := 3) (ret := (some .int)) (by decide +kernel) rfl rfl (Nat.le_of_ble_eq_true rfl) rfl (fun p e s m below meth c A ls C B hl => qX11_drop_0 C (N := N) x1 te_inputs te_dues te_count no_bits fw_fresh h _ _ _ B hl)

abbrev rmX11_of : Room := { frames := 3, cells := 0, slots := 0, locals := 68 }
theorem hdX11_of : yX11_of.cls ≠ "java/lang/invoke/MethodHandle" ∧ yX11_of.cls ≠ "java/lang/invoke/VarHandle" ∧ (parseMethodDescriptor yX11_of.desc).map (fun d => d.parameters.length) = some 2 := by decide +kernel
theorem iX11_of_X11 : ∀ w ∈ wsX110, w ∈ wsX11_of := by decide +kernel
theorem gfX11_of_51 {p : Program} {l : Launch} {e : Env} {R : Room} {s : State} {m : MethodId} {args : Array Value} {below : List Frame} {meth : Method} {c : Code} {H : Heap} {locs : List Loc} {cells slots : Nat} {Q : State → Prop} {D : va_G} {A : Nat → Prop} {tys : List (ClassId × FieldType)} {Es : (Nat → Nat) × (Nat → Nat)} {ws : va_W} {pc : Nat} {ls : Array Slot} {rest : List Value} {a : Nat} (C : CT p s m args meth c RX11 cX11_of 3 (some .int) wsX11_of D A tys Es) (B : DB D A ws s H locs) (q0 : Nat) {fs : List Value} {v : Value} (he : ws[q0]? = some (a, .inr (11, fs))) (hv : fs[5]? = some v) (hdg : decode cX11_of pc = .ok (.getfield 51, 3)) (kk : W p l e R s m args below meth c H locs cells slots Q (F0 m (pc + 3) ls (v :: rest))) : W p l e R s m args below meth c H locs cells slots Q (F0 m pc ls (.ref a :: rest)) :=
  k_get (Cn := RX11) (T := TX11) (N := 11) (index := 51) C B iX11_of_X11 rfl 5 (by decide) (by decide +kernel) q0 he hv hdg kk
theorem iX11_of_X8 : ∀ w ∈ wsX80, w ∈ wsX11_of := by decide +kernel
theorem gfX11_of_168 {p : Program} {l : Launch} {e : Env} {R : Room} {s : State} {m : MethodId} {args : Array Value} {below : List Frame} {meth : Method} {c : Code} {H : Heap} {locs : List Loc} {cells slots : Nat} {Q : State → Prop} {D : va_G} {A : Nat → Prop} {tys : List (ClassId × FieldType)} {Es : (Nat → Nat) × (Nat → Nat)} {ws : va_W} {pc : Nat} {ls : Array Slot} {rest : List Value} {a : Nat} (C : CT p s m args meth c RX11 cX11_of 3 (some .int) wsX11_of D A tys Es) (B : DB D A ws s H locs) (q0 : Nat) {fs : List Value} {v : Value} (he : ws[q0]? = some (a, .inr (8, fs))) (hv : fs[0]? = some v) (hdg : decode cX11_of pc = .ok (.getfield 168, 3)) (kk : W p l e R s m args below meth c H locs cells slots Q (F0 m (pc + 3) ls (v :: rest))) : W p l e R s m args below meth c H locs cells slots Q (F0 m pc ls (.ref a :: rest)) :=
  k_get (Cn := RX8) (T := TX8) (N := 4) (index := 168) C B iX11_of_X8 rfl 0 (by decide) (by decide +kernel) q0 he hv hdg kk
theorem gfX11_of_174 {p : Program} {l : Launch} {e : Env} {R : Room} {s : State} {m : MethodId} {args : Array Value} {below : List Frame} {meth : Method} {c : Code} {H : Heap} {locs : List Loc} {cells slots : Nat} {Q : State → Prop} {D : va_G} {A : Nat → Prop} {tys : List (ClassId × FieldType)} {Es : (Nat → Nat) × (Nat → Nat)} {ws : va_W} {pc : Nat} {ls : Array Slot} {rest : List Value} {a : Nat} (C : CT p s m args meth c RX11 cX11_of 3 (some .int) wsX11_of D A tys Es) (B : DB D A ws s H locs) (q0 : Nat) {fs : List Value} {v : Value} (he : ws[q0]? = some (a, .inr (8, fs))) (hv : fs[1]? = some v) (hdg : decode cX11_of pc = .ok (.getfield 174, 3)) (kk : W p l e R s m args below meth c H locs cells slots Q (F0 m (pc + 3) ls (v :: rest))) : W p l e R s m args below meth c H locs cells slots Q (F0 m pc ls (.ref a :: rest)) :=
  k_get (Cn := RX8) (T := TX8) (N := 4) (index := 174) C B iX11_of_X8 rfl 1 (by decide) (by decide +kernel) q0 he hv hdg kk
theorem gfX11_of_60 {p : Program} {l : Launch} {e : Env} {R : Room} {s : State} {m : MethodId} {args : Array Value} {below : List Frame} {meth : Method} {c : Code} {H : Heap} {locs : List Loc} {cells slots : Nat} {Q : State → Prop} {D : va_G} {A : Nat → Prop} {tys : List (ClassId × FieldType)} {Es : (Nat → Nat) × (Nat → Nat)} {ws : va_W} {pc : Nat} {ls : Array Slot} {rest : List Value} {a : Nat} (C : CT p s m args meth c RX11 cX11_of 3 (some .int) wsX11_of D A tys Es) (B : DB D A ws s H locs) (q0 : Nat) {fs : List Value} {v : Value} (he : ws[q0]? = some (a, .inr (11, fs))) (hv : fs[6]? = some v) (hdg : decode cX11_of pc = .ok (.getfield 60, 3)) (kk : W p l e R s m args below meth c H locs cells slots Q (F0 m (pc + 3) ls (v :: rest))) : W p l e R s m args below meth c H locs cells slots Q (F0 m pc ls (.ref a :: rest)) :=
  k_get (Cn := RX11) (T := TX11) (N := 11) (index := 60) C B iX11_of_X11 rfl 6 (by decide) (by decide +kernel) q0 he hv hdg kk
section
variable {p : Program} {l : Launch} {e : Env} {s : State} {m : MethodId} {args : Array Value} {below : List Frame} {meth : Method} {c : Code} {D : va_G} {A : Nat → Prop} {Es : (Nat → Nat) × (Nat → Nat)} {a b : Nat → Nat} {cI cJ cT : ClassId}
set_option maxHeartbeats 4000000 in
set_option maxRecDepth 100000 in
theorem qX11_of_0 (C : CT p s m args meth c RX11 cX11_of 3 (some .int) wsX11_of D A (tyl cI cJ cT) Es) {N : Nat} {rs_low : Nat → Int64} {rs_mid : Nat → Int64} {rs_high : Nat → Int64} {ch_nodes : Nat → Int32} {ch_signs : Nat → Int32} {ch_felt : Nat → Int32} {ch_count : Int32} {te_inputs : Nat → Int32} {te_dues : Nat → Int32} {te_count : Int32} {no_bits : Nat → Int32} {no_wishedInputs : Int32} {no_wishedMany : Int32} {no_hiddenUnlike : Nat → Int64} {z_r : Int32} : ∀ (x1 : Int32) (x2 : Int32), fX11_of N rs_low rs_mid rs_high ch_count te_inputs te_dues te_count no_bits x1 x2 = some z_r → ∀ (H : Heap) (locs : List Loc) (ls : Array Slot), DB D A (wd_nt_rs_ch_te_no a b cI cJ cT rs_low rs_mid rs_high ch_nodes ch_signs ch_felt ch_count te_inputs te_dues te_count no_bits no_wishedInputs no_wishedMany no_hiddenUnlike) s H locs → lv_has ls 3 [(0, .ref (a 0)), (1, .int x1), (2, .int x2)] → W p l e rmX11_of s m args below meth c H locs 0 0 (ZI below args s D A (tyl cI cJ cT) z_r (wd_nt_rs_ch_te_no a b cI cJ cT rs_low rs_mid rs_high ch_nodes ch_signs ch_felt ch_count te_inputs te_dues te_count no_bits no_wishedInputs no_wishedMany no_hiddenUnlike) 0 0) (F0 m 0 ls []) := by
  have hx := C.1.1
  have hb := C.1.2.1
  have hown := C.1.2.2.2.1
  have hts := C.1.2.2.2.2
  intro x1 x2 h H locs ls B hl
  rw [fX11_of] at h
  refine lv_aload_n hx hb dX11_of_0 rfl (lv_at hl 0 rfl) ?_
  refine lv_iload_n hx hb dX11_of_1 rfl (lv_at hl 1 rfl) ?_
  obtain ⟨r_1, g_14, h⟩ := ob_some h
  try dsimp only at h
  refine kc_VI C B (q0 := 0) (ci := 11) (As := [.int x1]) (rest := []) (w2 := (wd_nt_rs_ch_te_no a b cI cJ cT rs_low rs_mid rs_high ch_nodes ch_signs ch_felt ch_count te_inputs te_dues te_count no_bits no_wishedInputs no_wishedMany no_hiddenUnlike)) (tX11_isTest (a := a) (b := b) N g_14) gX11_of_X11_isTest rfl ⟨rfl, rfl⟩ ⟨rfl, hdX11_isTest⟩ ⟨Nat.le_of_ble_eq_true rfl, Nat.le_of_ble_eq_true rfl⟩ rfl rfl [0, 1, 10, 11, 12] [2, 3, 4, 5, 6, 7, 8, 9, 13, 14, 15] [11, 12, 0, 1, 2, 3, 4, 5, 6, 7, 13, 14, 15, 8, 9, 10] rfl rfl rfl rfl rfl rfl rfl rfl hl.1 rfl (Nat.le_of_ble_eq_true rfl) ⟨Nat.zero_le _, Nat.zero_le _⟩ dX11_of_2 (fun H locs B => ?_)
  refine lv_if_ne (tgt := 10) hx hb dX11_of_5 (by decide) (fun c_2 => ?_) (fun c_2 => ?_)
  · rw [if_neg c_2] at h
    refine lv_iload_n hx hb dX11_of_10 rfl (lv_at hl 2 rfl) ?_
    by_cases c_3 : x2 = 0
    · rw [if_pos c_3] at h
      refine lv_tableIn (off := 29) (tgt := 40) hx hb dX11_of_11 (by rw [c_3]; decide) (by rw [c_3]; decide) (by rw [c_3]; try rfl) (by decide) ?_
      refine lv_aload_n hx hb dX11_of_40 rfl (lv_at hl 0 rfl) ?_
      refine gfX11_of_51 C B 0 rfl rfl dX11_of_41 ?_
      refine gfX11_of_168 C B 10 rfl rfl dX11_of_44 ?_
      refine lv_iload_n hx hb dX11_of_47 rfl (lv_at hl 1 rfl) ?_
      obtain ⟨b_4, h⟩ := bnd_some h
      refine k_iald C B 11 0 rfl rfl b_4 dX11_of_48 ?_
      cases h
      exact k_iret C B dX11_of_49
    · rw [if_neg c_3] at h
      by_cases c_5 : x2 = 1
      · rw [if_pos c_5] at h
        refine lv_tableIn (off := 39) (tgt := 50) hx hb dX11_of_11 (by rw [c_5]; decide) (by rw [c_5]; decide) (by rw [c_5]; try rfl) (by decide) ?_
        refine lv_aload_n hx hb dX11_of_50 rfl (lv_at hl 0 rfl) ?_
        refine gfX11_of_51 C B 0 rfl rfl dX11_of_51 ?_
        refine gfX11_of_174 C B 10 rfl rfl dX11_of_54 ?_
        refine lv_iload_n hx hb dX11_of_57 rfl (lv_at hl 1 rfl) ?_
        obtain ⟨b_6, h⟩ := bnd_some h
        refine k_iald C B 12 0 rfl rfl b_6 dX11_of_58 ?_
        cases h
        exact k_iret C B dX11_of_59
      · rw [if_neg c_5] at h
        by_cases c_7 : x2 = 2
        · rw [if_pos c_7] at h
          refine lv_tableIn (off := 49) (tgt := 60) hx hb dX11_of_11 (by rw [c_7]; decide) (by rw [c_7]; decide) (by rw [c_7]; try rfl) (by decide) ?_
          refine lv_aload_n hx hb dX11_of_60 rfl (lv_at hl 0 rfl) ?_
          refine gfX11_of_51 C B 0 rfl rfl dX11_of_61 ?_
          refine lv_iload_n hx hb dX11_of_64 rfl (lv_at hl 1 rfl) ?_
          refine lv_iconst (v := 0) hx hb dX11_of_65 (by decide) ?_
          obtain ⟨r_8, g_10, h⟩ := ob_some h
          try dsimp only at h
          refine kc_VI C B (q0 := 4) (ci := 8) (As := [.int x1, .int (0 : Int32)]) (rest := []) (w2 := (wd_nt_rs_ch_te_no a b cI cJ cT rs_low rs_mid rs_high ch_nodes ch_signs ch_felt ch_count te_inputs te_dues te_count no_bits no_wishedInputs no_wishedMany no_hiddenUnlike)) (tX8_failsFor (a := a) (b := b) N g_10) gX11_of_X8_failsFor rfl ⟨rfl, rfl⟩ ⟨rfl, hdX8_failsFor⟩ ⟨Nat.le_of_ble_eq_true rfl, Nat.le_of_ble_eq_true rfl⟩ rfl rfl [2, 3, 4, 5, 10, 11, 12] [0, 1, 6, 7, 8, 9, 13, 14, 15] [0, 1, 9, 10, 11, 12, 2, 3, 4, 5, 13, 14, 15, 6, 7, 8] rfl rfl rfl rfl rfl rfl rfl rfl hl.1 rfl (Nat.le_of_ble_eq_true rfl) ⟨Nat.zero_le _, Nat.zero_le _⟩ dX11_of_66 (fun H locs B => ?_)
          refine lv_if_eq (tgt := 76) hx hb dX11_of_69 (by decide) (fun c_9 => ?_) (fun c_9 => ?_)
          · rw [if_pos c_9] at h
            refine lv_iconst (v := 0) hx hb dX11_of_76 (by decide) ?_
            cases h
            exact k_iret C B dX11_of_77
          · rw [if_neg c_9] at h
            refine lv_iconst (v := 1) hx hb dX11_of_72 (by decide) ?_
            refine lv_goto (tgt := 77) hx hb dX11_of_73 (by decide) ?_
            cases h
            exact k_iret C B dX11_of_77
        · rw [if_neg c_7] at h
          by_cases c_11 : x2 = 3
          · rw [if_pos c_11] at h
            refine lv_tableIn (off := 67) (tgt := 78) hx hb dX11_of_11 (by rw [c_11]; decide) (by rw [c_11]; decide) (by rw [c_11]; try rfl) (by decide) ?_
            refine lv_aload_n hx hb dX11_of_78 rfl (lv_at hl 0 rfl) ?_
            refine gfX11_of_60 C B 0 rfl rfl dX11_of_79 ?_
            refine lv_iload_n hx hb dX11_of_82 rfl (lv_at hl 1 rfl) ?_
            obtain ⟨r_12, g_13, h⟩ := ob_some h
            try dsimp only at h
            refine kc_VI C B (q0 := 4) (ci := 4) (As := [.int x1]) (rest := []) (w2 := (wd_nt_rs_ch_te_no a b cI cJ cT rs_low rs_mid rs_high ch_nodes ch_signs ch_felt ch_count te_inputs te_dues te_count no_bits no_wishedInputs no_wishedMany no_hiddenUnlike)) (tX4_howManyNoticedBy (a := a) (b := b) N g_13) gX11_of_X4_howManyNoticedBy rfl ⟨rfl, rfl⟩ ⟨rfl, hdX4_howManyNoticedBy⟩ ⟨Nat.le_of_ble_eq_true rfl, Nat.le_of_ble_eq_true rfl⟩ rfl rfl [6, 7, 8, 9, 13, 14, 15] [0, 1, 2, 3, 4, 5, 10, 11, 12] [0, 1, 2, 3, 4, 5, 9, 10, 11, 12, 6, 7, 8, 13, 14, 15] rfl rfl rfl rfl rfl rfl rfl rfl hl.1 rfl (Nat.le_of_ble_eq_true rfl) ⟨Nat.zero_le _, Nat.zero_le _⟩ dX11_of_83 (fun H locs B => ?_)
            cases h
            exact k_iret C B dX11_of_86
          · rw [if_neg c_11] at h
            refine lv_tableOut (tgt := 87) hx hb dX11_of_11 (tb_out 0 3 (by have := tb_ne c_3 (a := 0) rfl; have := tb_ne c_5 (a := 1) rfl; have := tb_ne c_7 (a := 2) rfl; have := tb_ne c_11 (a := 3) rfl; omega)) (by decide) ?_
            refine lv_bipush (v := -2) hx hb dX11_of_87 (by decide) ?_
            cases h
            exact k_iret C B dX11_of_89
  · rw [if_pos c_2] at h
    refine lv_iconst (v := -1) hx hb dX11_of_8 (by decide) ?_
    cases h
    exact k_iret C B dX11_of_9
end
theorem tX11_of {l : Launch} {D : va_G} {Es : (Nat → Nat) × (Nat → Nat)} {a b : Nat → Nat} {cI cJ cT : ClassId} {rs_low : Nat → Int64} {rs_mid : Nat → Int64} {rs_high : Nat → Int64} {ch_nodes : Nat → Int32} {ch_signs : Nat → Int32} {ch_felt : Nat → Int32} {ch_count : Int32} {te_inputs : Nat → Int32} {te_dues : Nat → Int32} {te_count : Int32} {no_bits : Nat → Int32} {no_wishedInputs : Int32} {no_wishedMany : Int32} {no_hiddenUnlike : Nat → Int64} {x1 : Int32} {x2 : Int32} {z_r : Int32} (N : Nat) (h : fX11_of N rs_low rs_mid rs_high ch_count te_inputs te_dues te_count no_bits x1 x2 = some z_r) : CtI l yX11_of wsX11_of rmX11_of D (tyl cI cJ cT) Es [.ref (a 0), .int x1, .int x2] (wd_nt_rs_ch_te_no a b cI cJ cT rs_low rs_mid rs_high ch_nodes ch_signs ch_felt ch_count te_inputs te_dues te_count no_bits no_wishedInputs no_wishedMany no_hiddenUnlike) z_r (wd_nt_rs_ch_te_no a b cI cJ cT rs_low rs_mid rs_high ch_nodes ch_signs ch_felt ch_count te_inputs te_dues te_count no_bits no_wishedInputs no_wishedMany no_hiddenUnlike) :=
  CtI.of (own := RX11) (cc := cX11_of) (nL := 3) (ret := (some .int)) (by decide +kernel) rfl rfl (Nat.le_of_ble_eq_true rfl) rfl (fun p e s m below meth c A ls C B hl => qX11_of_0 C (N := N) x1 x2 h _ _ _ B hl)

abbrev rmX11_many : Room := { frames := 3, cells := 0, slots := 0, locals := 68 }
theorem hdX11_many : yX11_many.cls ≠ "java/lang/invoke/MethodHandle" ∧ yX11_many.cls ≠ "java/lang/invoke/VarHandle" ∧ (parseMethodDescriptor yX11_many.desc).map (fun d => d.parameters.length) = some 1 := by decide +kernel
theorem iX11_many_X11 : ∀ w ∈ wsX110, w ∈ wsX11_many := by decide +kernel
theorem gfX11_many_44 {p : Program} {l : Launch} {e : Env} {R : Room} {s : State} {m : MethodId} {args : Array Value} {below : List Frame} {meth : Method} {c : Code} {H : Heap} {locs : List Loc} {cells slots : Nat} {Q : State → Prop} {D : va_G} {A : Nat → Prop} {tys : List (ClassId × FieldType)} {Es : (Nat → Nat) × (Nat → Nat)} {ws : va_W} {pc : Nat} {ls : Array Slot} {rest : List Value} {a : Nat} (C : CT p s m args meth c RX11 cX11_many 2 (some .int) wsX11_many D A tys Es) (B : DB D A ws s H locs) (q0 : Nat) {fs : List Value} {v : Value} (he : ws[q0]? = some (a, .inr (11, fs))) (hv : fs[4]? = some v) (hdg : decode cX11_many pc = .ok (.getfield 44, 3)) (kk : W p l e R s m args below meth c H locs cells slots Q (F0 m (pc + 3) ls (v :: rest))) : W p l e R s m args below meth c H locs cells slots Q (F0 m pc ls (.ref a :: rest)) :=
  k_get (Cn := RX11) (T := TX11) (N := 11) (index := 44) C B iX11_many_X11 rfl 4 (by decide) (by decide +kernel) q0 he hv hdg kk
theorem gfX11_many_60 {p : Program} {l : Launch} {e : Env} {R : Room} {s : State} {m : MethodId} {args : Array Value} {below : List Frame} {meth : Method} {c : Code} {H : Heap} {locs : List Loc} {cells slots : Nat} {Q : State → Prop} {D : va_G} {A : Nat → Prop} {tys : List (ClassId × FieldType)} {Es : (Nat → Nat) × (Nat → Nat)} {ws : va_W} {pc : Nat} {ls : Array Slot} {rest : List Value} {a : Nat} (C : CT p s m args meth c RX11 cX11_many 2 (some .int) wsX11_many D A tys Es) (B : DB D A ws s H locs) (q0 : Nat) {fs : List Value} {v : Value} (he : ws[q0]? = some (a, .inr (11, fs))) (hv : fs[6]? = some v) (hdg : decode cX11_many pc = .ok (.getfield 60, 3)) (kk : W p l e R s m args below meth c H locs cells slots Q (F0 m (pc + 3) ls (v :: rest))) : W p l e R s m args below meth c H locs cells slots Q (F0 m pc ls (.ref a :: rest)) :=
  k_get (Cn := RX11) (T := TX11) (N := 11) (index := 60) C B iX11_many_X11 rfl 6 (by decide) (by decide +kernel) q0 he hv hdg kk
section
variable {p : Program} {l : Launch} {e : Env} {s : State} {m : MethodId} {args : Array Value} {below : List Frame} {meth : Method} {c : Code} {D : va_G} {A : Nat → Prop} {Es : (Nat → Nat) × (Nat → Nat)} {a b : Nat → Nat} {cI cJ cT : ClassId}
set_option maxHeartbeats 4000000 in
set_option maxRecDepth 100000 in
theorem qX11_many_0 (C : CT p s m args meth c RX11 cX11_many 2 (some .int) wsX11_many D A (tyl cI cJ cT) Es) {N : Nat} {ch_nodes : Nat → Int32} {ch_signs : Nat → Int32} {ch_felt : Nat → Int32} {ch_count : Int32} {no_bits : Nat → Int32} {no_wishedInputs : Int32} {no_wishedMany : Int32} {no_hiddenUnlike : Nat → Int64} {z_r : Int32} : ∀ (x1 : Int32), fX11_many N ch_felt ch_count no_bits x1 = some z_r → ∀ (H : Heap) (locs : List Loc) (ls : Array Slot), DB D A (wd_nt_ch_no a b cI cJ cT ch_nodes ch_signs ch_felt ch_count no_bits no_wishedInputs no_wishedMany no_hiddenUnlike) s H locs → lv_has ls 2 [(0, .ref (a 0)), (1, .int x1)] → W p l e rmX11_many s m args below meth c H locs 0 0 (ZI below args s D A (tyl cI cJ cT) z_r (wd_nt_ch_no a b cI cJ cT ch_nodes ch_signs ch_felt ch_count no_bits no_wishedInputs no_wishedMany no_hiddenUnlike) 0 0) (F0 m 0 ls []) := by
  have hx := C.1.1
  have hb := C.1.2.1
  have hown := C.1.2.2.2.1
  have hts := C.1.2.2.2.2
  intro x1 h H locs ls B hl
  rw [fX11_many] at h
  refine lv_iload_n hx hb dX11_many_0 rfl (lv_at hl 1 rfl) ?_
  by_cases c_1 : x1 = 0
  · rw [if_pos c_1] at h
    refine lv_tableIn (off := 31) (tgt := 32) hx hb dX11_many_1 (by rw [c_1]; decide) (by rw [c_1]; decide) (by rw [c_1]; try rfl) (by decide) ?_
    refine lv_aload_n hx hb dX11_many_32 rfl (lv_at hl 0 rfl) ?_
    refine gfX11_many_44 C B 0 rfl rfl dX11_many_33 ?_
    obtain ⟨r_2, g_3, h⟩ := ob_some h
    try dsimp only at h
    refine kc_VI C B (q0 := 0) (ci := 1) (As := []) (rest := []) (w2 := (wd_nt_ch_no a b cI cJ cT ch_nodes ch_signs ch_felt ch_count no_bits no_wishedInputs no_wishedMany no_hiddenUnlike)) (tX1_silentOnes (a := a) (b := b) N g_3) gX11_many_X1_silentOnes rfl ⟨rfl, rfl⟩ ⟨rfl, hdX1_silentOnes⟩ ⟨Nat.le_of_ble_eq_true rfl, Nat.le_of_ble_eq_true rfl⟩ rfl rfl [2, 3, 4, 5] [0, 1, 6, 7, 8] [0, 1, 5, 6, 7, 8, 2, 3, 4] rfl rfl rfl rfl rfl rfl rfl rfl hl.1 rfl (Nat.le_of_ble_eq_true rfl) ⟨Nat.zero_le _, Nat.zero_le _⟩ dX11_many_36 (fun H locs B => ?_)
    cases h
    exact k_iret C B dX11_many_39
  · rw [if_neg c_1] at h
    by_cases c_4 : x1 = 1
    · rw [if_pos c_4] at h
      refine lv_tableIn (off := 39) (tgt := 40) hx hb dX11_many_1 (by rw [c_4]; decide) (by rw [c_4]; decide) (by rw [c_4]; try rfl) (by decide) ?_
      refine lv_aload_n hx hb dX11_many_40 rfl (lv_at hl 0 rfl) ?_
      refine gfX11_many_60 C B 0 rfl rfl dX11_many_41 ?_
      obtain ⟨r_5, g_6, h⟩ := ob_some h
      try dsimp only at h
      refine kc_VI C B (q0 := 4) (ci := 4) (As := []) (rest := []) (w2 := (wd_nt_ch_no a b cI cJ cT ch_nodes ch_signs ch_felt ch_count no_bits no_wishedInputs no_wishedMany no_hiddenUnlike)) (tX4_noticedOnes (a := a) (b := b) N g_6) gX11_many_X4_noticedOnes rfl ⟨rfl, rfl⟩ ⟨rfl, hdX4_noticedOnes⟩ ⟨Nat.le_of_ble_eq_true rfl, Nat.le_of_ble_eq_true rfl⟩ rfl rfl [2, 3, 4, 5, 6, 7, 8] [0, 1] [0, 1, 2, 3, 4, 5, 6, 7, 8] rfl rfl rfl rfl rfl rfl rfl rfl hl.1 rfl (Nat.le_of_ble_eq_true rfl) ⟨Nat.zero_le _, Nat.zero_le _⟩ dX11_many_44 (fun H locs B => ?_)
      cases h
      exact k_iret C B dX11_many_47
    · rw [if_neg c_4] at h
      by_cases c_7 : x1 = 2
      · rw [if_pos c_7] at h
        refine lv_tableIn (off := 47) (tgt := 48) hx hb dX11_many_1 (by rw [c_7]; decide) (by rw [c_7]; decide) (by rw [c_7]; try rfl) (by decide) ?_
        refine lv_aload_n hx hb dX11_many_48 rfl (lv_at hl 0 rfl) ?_
        refine gfX11_many_60 C B 0 rfl rfl dX11_many_49 ?_
        obtain ⟨r_8, g_9, h⟩ := ob_some h
        try dsimp only at h
        refine kc_VI C B (q0 := 4) (ci := 4) (As := []) (rest := []) (w2 := (wd_nt_ch_no a b cI cJ cT ch_nodes ch_signs ch_felt ch_count no_bits no_wishedInputs no_wishedMany no_hiddenUnlike)) (tX4_hiddenOnes (a := a) (b := b) N g_9) gX11_many_X4_hiddenOnes rfl ⟨rfl, rfl⟩ ⟨rfl, hdX4_hiddenOnes⟩ ⟨Nat.le_of_ble_eq_true rfl, Nat.le_of_ble_eq_true rfl⟩ rfl rfl [2, 3, 4, 5, 6, 7, 8] [0, 1] [0, 1, 2, 3, 4, 5, 6, 7, 8] rfl rfl rfl rfl rfl rfl rfl rfl hl.1 rfl (Nat.le_of_ble_eq_true rfl) ⟨Nat.zero_le _, Nat.zero_le _⟩ dX11_many_52 (fun H locs B => ?_)
        cases h
        exact k_iret C B dX11_many_55
      · rw [if_neg c_7] at h
        by_cases c_10 : x1 = 3
        · rw [if_pos c_10] at h
          refine lv_tableIn (off := 55) (tgt := 56) hx hb dX11_many_1 (by rw [c_10]; decide) (by rw [c_10]; decide) (by rw [c_10]; try rfl) (by decide) ?_
          refine lv_aload_n hx hb dX11_many_56 rfl (lv_at hl 0 rfl) ?_
          refine gfX11_many_60 C B 0 rfl rfl dX11_many_57 ?_
          obtain ⟨r_11, g_12, h⟩ := ob_some h
          try dsimp only at h
          refine kc_VI C B (q0 := 4) (ci := 4) (As := []) (rest := []) (w2 := (wd_nt_ch_no a b cI cJ cT ch_nodes ch_signs ch_felt ch_count no_bits no_wishedInputs no_wishedMany no_hiddenUnlike)) (tX4_frontOnes (a := a) (b := b) N g_12) gX11_many_X4_frontOnes rfl ⟨rfl, rfl⟩ ⟨rfl, hdX4_frontOnes⟩ ⟨Nat.le_of_ble_eq_true rfl, Nat.le_of_ble_eq_true rfl⟩ rfl rfl [2, 3, 4, 5, 6, 7, 8] [0, 1] [0, 1, 2, 3, 4, 5, 6, 7, 8] rfl rfl rfl rfl rfl rfl rfl rfl hl.1 rfl (Nat.le_of_ble_eq_true rfl) ⟨Nat.zero_le _, Nat.zero_le _⟩ dX11_many_60 (fun H locs B => ?_)
          cases h
          exact k_iret C B dX11_many_63
        · rw [if_neg c_10] at h
          refine lv_tableOut (tgt := 64) hx hb dX11_many_1 (tb_out 0 3 (by have := tb_ne c_1 (a := 0) rfl; have := tb_ne c_4 (a := 1) rfl; have := tb_ne c_7 (a := 2) rfl; have := tb_ne c_10 (a := 3) rfl; omega)) (by decide) ?_
          refine lv_bipush (v := -2) hx hb dX11_many_64 (by decide) ?_
          cases h
          exact k_iret C B dX11_many_66
end
theorem tX11_many {l : Launch} {D : va_G} {Es : (Nat → Nat) × (Nat → Nat)} {a b : Nat → Nat} {cI cJ cT : ClassId} {ch_nodes : Nat → Int32} {ch_signs : Nat → Int32} {ch_felt : Nat → Int32} {ch_count : Int32} {no_bits : Nat → Int32} {no_wishedInputs : Int32} {no_wishedMany : Int32} {no_hiddenUnlike : Nat → Int64} {x1 : Int32} {z_r : Int32} (N : Nat) (h : fX11_many N ch_felt ch_count no_bits x1 = some z_r) : CtI l yX11_many wsX11_many rmX11_many D (tyl cI cJ cT) Es [.ref (a 0), .int x1] (wd_nt_ch_no a b cI cJ cT ch_nodes ch_signs ch_felt ch_count no_bits no_wishedInputs no_wishedMany no_hiddenUnlike) z_r (wd_nt_ch_no a b cI cJ cT ch_nodes ch_signs ch_felt ch_count no_bits no_wishedInputs no_wishedMany no_hiddenUnlike) :=
  CtI.of (own := RX11) (cc := cX11_many) (nL := 2) (ret := (some .int)) (by decide +kernel) rfl rfl (Nat.le_of_ble_eq_true rfl) rfl (fun p e s m below meth c A ls C B hl => qX11_many_0 C (N := N) x1 h _ _ _ B hl)

abbrev rmX11_score : Room := { frames := 2, cells := 0, slots := 0, locals := 48 }
theorem hdX11_score : yX11_score.cls ≠ "java/lang/invoke/MethodHandle" ∧ yX11_score.cls ≠ "java/lang/invoke/VarHandle" ∧ (parseMethodDescriptor yX11_score.desc).map (fun d => d.parameters.length) = some 1 := by decide +kernel
theorem iX11_score_X11 : ∀ w ∈ wsX110, w ∈ wsX11_score := by decide +kernel
theorem gfX11_score_60 {p : Program} {l : Launch} {e : Env} {R : Room} {s : State} {m : MethodId} {args : Array Value} {below : List Frame} {meth : Method} {c : Code} {H : Heap} {locs : List Loc} {cells slots : Nat} {Q : State → Prop} {D : va_G} {A : Nat → Prop} {tys : List (ClassId × FieldType)} {Es : (Nat → Nat) × (Nat → Nat)} {ws : va_W} {pc : Nat} {ls : Array Slot} {rest : List Value} {a : Nat} (C : CT p s m args meth c RX11 cX11_score 2 (some .int) wsX11_score D A tys Es) (B : DB D A ws s H locs) (q0 : Nat) {fs : List Value} {v : Value} (he : ws[q0]? = some (a, .inr (11, fs))) (hv : fs[6]? = some v) (hdg : decode cX11_score pc = .ok (.getfield 60, 3)) (kk : W p l e R s m args below meth c H locs cells slots Q (F0 m (pc + 3) ls (v :: rest))) : W p l e R s m args below meth c H locs cells slots Q (F0 m pc ls (.ref a :: rest)) :=
  k_get (Cn := RX11) (T := TX11) (N := 11) (index := 60) C B iX11_score_X11 rfl 6 (by decide) (by decide +kernel) q0 he hv hdg kk
theorem gfX11_score_44 {p : Program} {l : Launch} {e : Env} {R : Room} {s : State} {m : MethodId} {args : Array Value} {below : List Frame} {meth : Method} {c : Code} {H : Heap} {locs : List Loc} {cells slots : Nat} {Q : State → Prop} {D : va_G} {A : Nat → Prop} {tys : List (ClassId × FieldType)} {Es : (Nat → Nat) × (Nat → Nat)} {ws : va_W} {pc : Nat} {ls : Array Slot} {rest : List Value} {a : Nat} (C : CT p s m args meth c RX11 cX11_score 2 (some .int) wsX11_score D A tys Es) (B : DB D A ws s H locs) (q0 : Nat) {fs : List Value} {v : Value} (he : ws[q0]? = some (a, .inr (11, fs))) (hv : fs[4]? = some v) (hdg : decode cX11_score pc = .ok (.getfield 44, 3)) (kk : W p l e R s m args below meth c H locs cells slots Q (F0 m (pc + 3) ls (v :: rest))) : W p l e R s m args below meth c H locs cells slots Q (F0 m pc ls (.ref a :: rest)) :=
  k_get (Cn := RX11) (T := TX11) (N := 11) (index := 44) C B iX11_score_X11 rfl 4 (by decide) (by decide +kernel) q0 he hv hdg kk
theorem iX11_score_X1 : ∀ w ∈ wsX10, w ∈ wsX11_score := by decide +kernel
theorem gfX11_score_139 {p : Program} {l : Launch} {e : Env} {R : Room} {s : State} {m : MethodId} {args : Array Value} {below : List Frame} {meth : Method} {c : Code} {H : Heap} {locs : List Loc} {cells slots : Nat} {Q : State → Prop} {D : va_G} {A : Nat → Prop} {tys : List (ClassId × FieldType)} {Es : (Nat → Nat) × (Nat → Nat)} {ws : va_W} {pc : Nat} {ls : Array Slot} {rest : List Value} {a : Nat} (C : CT p s m args meth c RX11 cX11_score 2 (some .int) wsX11_score D A tys Es) (B : DB D A ws s H locs) (q0 : Nat) {fs : List Value} {v : Value} (he : ws[q0]? = some (a, .inr (1, fs))) (hv : fs[3]? = some v) (hdg : decode cX11_score pc = .ok (.getfield 139, 3)) (kk : W p l e R s m args below meth c H locs cells slots Q (F0 m (pc + 3) ls (v :: rest))) : W p l e R s m args below meth c H locs cells slots Q (F0 m pc ls (.ref a :: rest)) :=
  k_get (Cn := RX1) (T := TX1) (N := 5) (index := 139) C B iX11_score_X1 rfl 3 (by decide) (by decide +kernel) q0 he hv hdg kk
section
variable {p : Program} {l : Launch} {e : Env} {s : State} {m : MethodId} {args : Array Value} {below : List Frame} {meth : Method} {c : Code} {D : va_G} {A : Nat → Prop} {Es : (Nat → Nat) × (Nat → Nat)} {a b : Nat → Nat} {cI cJ cT : ClassId}
set_option maxHeartbeats 4000000 in
set_option maxRecDepth 100000 in
theorem qX11_score_0 (C : CT p s m args meth c RX11 cX11_score 2 (some .int) wsX11_score D A (tyl cI cJ cT) Es) {N : Nat} {ch_nodes : Nat → Int32} {ch_signs : Nat → Int32} {ch_felt : Nat → Int32} {ch_count : Int32} {no_bits : Nat → Int32} {no_wishedInputs : Int32} {no_wishedMany : Int32} {no_hiddenUnlike : Nat → Int64} {z_r : Int32} : ∀ (x1 : Int32), fX11_score N ch_felt ch_count no_bits x1 = some z_r → ∀ (H : Heap) (locs : List Loc) (ls : Array Slot), DB D A (wd_nt_ch_no a b cI cJ cT ch_nodes ch_signs ch_felt ch_count no_bits no_wishedInputs no_wishedMany no_hiddenUnlike) s H locs → lv_has ls 2 [(0, .ref (a 0)), (1, .int x1)] → W p l e rmX11_score s m args below meth c H locs 0 0 (ZI below args s D A (tyl cI cJ cT) z_r (wd_nt_ch_no a b cI cJ cT ch_nodes ch_signs ch_felt ch_count no_bits no_wishedInputs no_wishedMany no_hiddenUnlike) 0 0) (F0 m 0 ls []) := by
  have hx := C.1.1
  have hb := C.1.2.1
  have hown := C.1.2.2.2.1
  have hts := C.1.2.2.2.2
  intro x1 h H locs ls B hl
  rw [fX11_score] at h
  refine lv_iload_n hx hb dX11_score_0 rfl (lv_at hl 1 rfl) ?_
  obtain ⟨r_1, g_9, h⟩ := ob_some h
  try dsimp only at h
  refine kc_SI C B (As := [.int x1]) (rest := []) (w2 := (wd_nt_ch_no a b cI cJ cT ch_nodes ch_signs ch_felt ch_count no_bits no_wishedInputs no_wishedMany no_hiddenUnlike)) (tX11_isPart N g_9) gX11_score_X11_isPart rfl ⟨rfl, rfl⟩ hdX11_isPart ⟨Nat.le_of_ble_eq_true rfl, Nat.le_of_ble_eq_true rfl⟩ [] [0, 1, 2, 3, 4, 5, 6, 7, 8] [0, 1, 2, 3, 4, 5, 6, 7, 8] rfl rfl rfl rfl rfl rfl rfl rfl hl.1 rfl (Nat.le_of_ble_eq_true rfl) ⟨Nat.zero_le _, Nat.zero_le _⟩ dX11_score_1 (fun H locs B => ?_)
  refine lv_if_ne (tgt := 10) hx hb dX11_score_4 (by decide) (fun c_2 => ?_) (fun c_2 => ?_)
  · rw [if_neg c_2] at h
    refine lv_aload_n hx hb dX11_score_10 rfl (lv_at hl 0 rfl) ?_
    refine gfX11_score_60 C B 0 rfl rfl dX11_score_11 ?_
    obtain ⟨r_3, g_8, h⟩ := ob_some h
    try dsimp only at h
    refine kc_VI C B (q0 := 4) (ci := 4) (As := []) (rest := []) (w2 := (wd_nt_ch_no a b cI cJ cT ch_nodes ch_signs ch_felt ch_count no_bits no_wishedInputs no_wishedMany no_hiddenUnlike)) (tX4_noticedOnes (a := a) (b := b) N g_8) gX11_score_X4_noticedOnes rfl ⟨rfl, rfl⟩ ⟨rfl, hdX4_noticedOnes⟩ ⟨Nat.le_of_ble_eq_true rfl, Nat.le_of_ble_eq_true rfl⟩ rfl rfl [2, 3, 4, 5, 6, 7, 8] [0, 1] [0, 1, 2, 3, 4, 5, 6, 7, 8] rfl rfl rfl rfl rfl rfl rfl rfl hl.1 rfl (Nat.le_of_ble_eq_true rfl) ⟨Nat.zero_le _, Nat.zero_le _⟩ dX11_score_14 (fun H locs B => ?_)
    refine lv_aload_n hx hb dX11_score_17 rfl (lv_at hl 0 rfl) ?_
    refine gfX11_score_44 C B 0 rfl rfl dX11_score_18 ?_
    refine gfX11_score_139 C B 2 rfl rfl dX11_score_21 ?_
    refine lv_aload_n hx hb dX11_score_24 rfl (lv_at hl 0 rfl) ?_
    refine gfX11_score_44 C B 0 rfl rfl dX11_score_25 ?_
    obtain ⟨r_4, g_7, h⟩ := ob_some h
    try dsimp only at h
    refine kc_VI C B (q0 := 0) (ci := 1) (As := []) (rest := [.int ch_count, .int r_3]) (w2 := (wd_nt_ch_no a b cI cJ cT ch_nodes ch_signs ch_felt ch_count no_bits no_wishedInputs no_wishedMany no_hiddenUnlike)) (tX1_silentOnes (a := a) (b := b) N g_7) gX11_score_X1_silentOnes rfl ⟨rfl, rfl⟩ ⟨rfl, hdX1_silentOnes⟩ ⟨Nat.le_of_ble_eq_true rfl, Nat.le_of_ble_eq_true rfl⟩ rfl rfl [2, 3, 4, 5] [0, 1, 6, 7, 8] [0, 1, 5, 6, 7, 8, 2, 3, 4] rfl rfl rfl rfl rfl rfl rfl rfl hl.1 rfl (Nat.le_of_ble_eq_true rfl) ⟨Nat.zero_le _, Nat.zero_le _⟩ dX11_score_28 (fun H locs B => ?_)
    refine lv_isub hx hb dX11_score_31 ?_
    refine lv_iload_n hx hb dX11_score_32 rfl (lv_at hl 1 rfl) ?_
    obtain ⟨r_5, g_6, h⟩ := ob_some h
    try dsimp only at h
    refine kc_SI C B (As := [.int r_3, .int (ch_count - r_4), .int x1]) (rest := []) (w2 := (wd_nt_ch_no a b cI cJ cT ch_nodes ch_signs ch_felt ch_count no_bits no_wishedInputs no_wishedMany no_hiddenUnlike)) (tX11_inLowestTerms N g_6) gX11_score_X11_inLowestTerms rfl ⟨rfl, rfl⟩ hdX11_inLowestTerms ⟨Nat.le_of_ble_eq_true rfl, Nat.le_of_ble_eq_true rfl⟩ [] [0, 1, 2, 3, 4, 5, 6, 7, 8] [0, 1, 2, 3, 4, 5, 6, 7, 8] rfl rfl rfl rfl rfl rfl rfl rfl hl.1 rfl (Nat.le_of_ble_eq_true rfl) ⟨Nat.zero_le _, Nat.zero_le _⟩ dX11_score_33 (fun H locs B => ?_)
    cases h
    exact k_iret C B dX11_score_36
  · rw [if_pos c_2] at h
    refine lv_bipush (v := -2) hx hb dX11_score_7 (by decide) ?_
    cases h
    exact k_iret C B dX11_score_9
end
theorem tX11_score {l : Launch} {D : va_G} {Es : (Nat → Nat) × (Nat → Nat)} {a b : Nat → Nat} {cI cJ cT : ClassId} {ch_nodes : Nat → Int32} {ch_signs : Nat → Int32} {ch_felt : Nat → Int32} {ch_count : Int32} {no_bits : Nat → Int32} {no_wishedInputs : Int32} {no_wishedMany : Int32} {no_hiddenUnlike : Nat → Int64} {x1 : Int32} {z_r : Int32} (N : Nat) (h : fX11_score N ch_felt ch_count no_bits x1 = some z_r) : CtI l yX11_score wsX11_score rmX11_score D (tyl cI cJ cT) Es [.ref (a 0), .int x1] (wd_nt_ch_no a b cI cJ cT ch_nodes ch_signs ch_felt ch_count no_bits no_wishedInputs no_wishedMany no_hiddenUnlike) z_r (wd_nt_ch_no a b cI cJ cT ch_nodes ch_signs ch_felt ch_count no_bits no_wishedInputs no_wishedMany no_hiddenUnlike) :=
  CtI.of (own := RX11) (cc := cX11_score) (nL := 2) (ret := (some .int)) (by decide +kernel) rfl rfl (Nat.le_of_ble_eq_true rfl) rfl (fun p e s m below meth c A ls C B hl => qX11_score_0 C (N := N) x1 h _ _ _ B hl)

abbrev rmX11_wished : Room := { frames := 3, cells := 0, slots := 0, locals := 69 }
theorem hdX11_wished : yX11_wished.cls ≠ "java/lang/invoke/MethodHandle" ∧ yX11_wished.cls ≠ "java/lang/invoke/VarHandle" ∧ (parseMethodDescriptor yX11_wished.desc).map (fun d => d.parameters.length) = some 1 := by decide +kernel
theorem iX11_wished_X11 : ∀ w ∈ wsX110, w ∈ wsX11_wished := by decide +kernel
theorem gfX11_wished_60 {p : Program} {l : Launch} {e : Env} {R : Room} {s : State} {m : MethodId} {args : Array Value} {below : List Frame} {meth : Method} {c : Code} {H : Heap} {locs : List Loc} {cells slots : Nat} {Q : State → Prop} {D : va_G} {A : Nat → Prop} {tys : List (ClassId × FieldType)} {Es : (Nat → Nat) × (Nat → Nat)} {ws : va_W} {pc : Nat} {ls : Array Slot} {rest : List Value} {a : Nat} (C : CT p s m args meth c RX11 cX11_wished 2 (some .int) wsX11_wished D A tys Es) (B : DB D A ws s H locs) (q0 : Nat) {fs : List Value} {v : Value} (he : ws[q0]? = some (a, .inr (11, fs))) (hv : fs[6]? = some v) (hdg : decode cX11_wished pc = .ok (.getfield 60, 3)) (kk : W p l e R s m args below meth c H locs cells slots Q (F0 m (pc + 3) ls (v :: rest))) : W p l e R s m args below meth c H locs cells slots Q (F0 m pc ls (.ref a :: rest)) :=
  k_get (Cn := RX11) (T := TX11) (N := 11) (index := 60) C B iX11_wished_X11 rfl 6 (by decide) (by decide +kernel) q0 he hv hdg kk
theorem iX11_wished_X4 : ∀ w ∈ wsX40, w ∈ wsX11_wished := by decide +kernel
theorem gfX11_wished_223 {p : Program} {l : Launch} {e : Env} {R : Room} {s : State} {m : MethodId} {args : Array Value} {below : List Frame} {meth : Method} {c : Code} {H : Heap} {locs : List Loc} {cells slots : Nat} {Q : State → Prop} {D : va_G} {A : Nat → Prop} {tys : List (ClassId × FieldType)} {Es : (Nat → Nat) × (Nat → Nat)} {ws : va_W} {pc : Nat} {ls : Array Slot} {rest : List Value} {a : Nat} (C : CT p s m args meth c RX11 cX11_wished 2 (some .int) wsX11_wished D A tys Es) (B : DB D A ws s H locs) (q0 : Nat) {fs : List Value} {v : Value} (he : ws[q0]? = some (a, .inr (4, fs))) (hv : fs[2]? = some v) (hdg : decode cX11_wished pc = .ok (.getfield 223, 3)) (kk : W p l e R s m args below meth c H locs cells slots Q (F0 m (pc + 3) ls (v :: rest))) : W p l e R s m args below meth c H locs cells slots Q (F0 m pc ls (.ref a :: rest)) :=
  k_get (Cn := RX4) (T := TX4) (N := 7) (index := 223) C B iX11_wished_X4 rfl 2 (by decide) (by decide +kernel) q0 he hv hdg kk
theorem gfX11_wished_220 {p : Program} {l : Launch} {e : Env} {R : Room} {s : State} {m : MethodId} {args : Array Value} {below : List Frame} {meth : Method} {c : Code} {H : Heap} {locs : List Loc} {cells slots : Nat} {Q : State → Prop} {D : va_G} {A : Nat → Prop} {tys : List (ClassId × FieldType)} {Es : (Nat → Nat) × (Nat → Nat)} {ws : va_W} {pc : Nat} {ls : Array Slot} {rest : List Value} {a : Nat} (C : CT p s m args meth c RX11 cX11_wished 2 (some .int) wsX11_wished D A tys Es) (B : DB D A ws s H locs) (q0 : Nat) {fs : List Value} {v : Value} (he : ws[q0]? = some (a, .inr (4, fs))) (hv : fs[1]? = some v) (hdg : decode cX11_wished pc = .ok (.getfield 220, 3)) (kk : W p l e R s m args below meth c H locs cells slots Q (F0 m (pc + 3) ls (v :: rest))) : W p l e R s m args below meth c H locs cells slots Q (F0 m pc ls (.ref a :: rest)) :=
  k_get (Cn := RX4) (T := TX4) (N := 7) (index := 220) C B iX11_wished_X4 rfl 1 (by decide) (by decide +kernel) q0 he hv hdg kk
section
variable {p : Program} {l : Launch} {e : Env} {s : State} {m : MethodId} {args : Array Value} {below : List Frame} {meth : Method} {c : Code} {D : va_G} {A : Nat → Prop} {Es : (Nat → Nat) × (Nat → Nat)} {a b : Nat → Nat} {cI cJ cT : ClassId}
set_option maxHeartbeats 4000000 in
set_option maxRecDepth 100000 in
theorem qX11_wished_12 (C : CT p s m args meth c RX11 cX11_wished 2 (some .int) wsX11_wished D A (tyl cI cJ cT) Es) {N : Nat} {rs_low : Nat → Int64} {rs_mid : Nat → Int64} {rs_high : Nat → Int64} {ch_nodes : Nat → Int32} {ch_signs : Nat → Int32} {ch_felt : Nat → Int32} {ch_count : Int32} {no_bits : Nat → Int32} {z_r : Int32} {z_no_wishedInputs : Int32} {z_no_wishedMany : Int32} {z_no_hiddenUnlike : Nat → Int64} : ∀ (x1 : Int32) (no_wishedInputs : Int32) (no_wishedMany : Int32) (no_hiddenUnlike : Nat → Int64), bX11_wished_12 N rs_low rs_mid rs_high ch_felt ch_count no_bits x1 no_wishedInputs no_wishedMany no_hiddenUnlike = some (z_r, z_no_wishedInputs, z_no_wishedMany, z_no_hiddenUnlike) → ∀ (H : Heap) (locs : List Loc) (ls : Array Slot), DB D A (wd_nt_rs_ch_no a b cI cJ cT rs_low rs_mid rs_high ch_nodes ch_signs ch_felt ch_count no_bits no_wishedInputs no_wishedMany no_hiddenUnlike) s H locs → lv_has ls 2 [(0, .ref (a 0)), (1, .int x1)] → W p l e rmX11_wished s m args below meth c H locs 0 0 (ZI below args s D A (tyl cI cJ cT) z_r (wd_nt_rs_ch_no a b cI cJ cT rs_low rs_mid rs_high ch_nodes ch_signs ch_felt ch_count no_bits z_no_wishedInputs z_no_wishedMany z_no_hiddenUnlike) 0 0) (F0 m 12 ls []) := by
  have hx := C.1.1
  have hb := C.1.2.1
  have hown := C.1.2.2.2.1
  have hts := C.1.2.2.2.2
  intro x1 no_wishedInputs no_wishedMany no_hiddenUnlike h H locs ls B hl
  rw [bX11_wished_12] at h
  refine lv_aload_n hx hb dX11_wished_12 rfl (lv_at hl 0 rfl) ?_
  refine gfX11_wished_60 C B 0 rfl rfl dX11_wished_13 ?_
  obtain ⟨⟨no_wishedInputs_1, no_wishedMany_2, no_hiddenUnlike_3⟩, g_5, h⟩ := ob_some h
  try dsimp only at h
  refine kc_VV C B (q0 := 8) (ci := 4) (As := []) (rest := []) (w2 := (wd_nt_rs_ch_no a b cI cJ cT rs_low rs_mid rs_high ch_nodes ch_signs ch_felt ch_count no_bits no_wishedInputs_1 no_wishedMany_2 no_hiddenUnlike_3)) (tX4_findWished (a := a) (b := b) N g_5) gX11_wished_X4_findWished rfl ⟨rfl, rfl⟩ ⟨rfl, hdX4_findWished⟩ ⟨Nat.le_of_ble_eq_true rfl, Nat.le_of_ble_eq_true rfl⟩ rfl rfl [2, 3, 4, 5, 6, 7, 8, 9, 10, 11, 12] [0, 1] [0, 1, 2, 3, 4, 5, 6, 7, 8, 9, 10, 11, 12] rfl rfl rfl rfl rfl rfl rfl rfl hl.1 rfl (Nat.le_of_ble_eq_true rfl) ⟨Nat.zero_le _, Nat.zero_le _⟩ dX11_wished_16 (fun H locs B => ?_)
  refine lv_iload_n hx hb dX11_wished_19 rfl (lv_at hl 1 rfl) ?_
  refine lv_if_ne (tgt := 33) hx hb dX11_wished_20 (by decide) (fun c_4 => ?_) (fun c_4 => ?_)
  · rw [if_neg c_4] at h
    refine lv_aload_n hx hb dX11_wished_33 rfl (lv_at hl 0 rfl) ?_
    refine gfX11_wished_60 C B 0 rfl rfl dX11_wished_34 ?_
    refine gfX11_wished_223 C B 10 rfl rfl dX11_wished_37 ?_
    cases h
    exact k_iret C B dX11_wished_40
  · rw [if_pos c_4] at h
    refine lv_aload_n hx hb dX11_wished_23 rfl (lv_at hl 0 rfl) ?_
    refine gfX11_wished_60 C B 0 rfl rfl dX11_wished_24 ?_
    refine gfX11_wished_220 C B 10 rfl rfl dX11_wished_27 ?_
    refine lv_goto (tgt := 40) hx hb dX11_wished_30 (by decide) ?_
    cases h
    exact k_iret C B dX11_wished_40
set_option maxHeartbeats 4000000 in
set_option maxRecDepth 100000 in
theorem qX11_wished_0 (C : CT p s m args meth c RX11 cX11_wished 2 (some .int) wsX11_wished D A (tyl cI cJ cT) Es) {N : Nat} {rs_low : Nat → Int64} {rs_mid : Nat → Int64} {rs_high : Nat → Int64} {ch_nodes : Nat → Int32} {ch_signs : Nat → Int32} {ch_felt : Nat → Int32} {ch_count : Int32} {no_bits : Nat → Int32} {z_r : Int32} {z_no_wishedInputs : Int32} {z_no_wishedMany : Int32} {z_no_hiddenUnlike : Nat → Int64} : ∀ (x1 : Int32) (no_wishedInputs : Int32) (no_wishedMany : Int32) (no_hiddenUnlike : Nat → Int64), fX11_wished N rs_low rs_mid rs_high ch_felt ch_count no_bits x1 no_wishedInputs no_wishedMany no_hiddenUnlike = some (z_r, z_no_wishedInputs, z_no_wishedMany, z_no_hiddenUnlike) → ∀ (H : Heap) (locs : List Loc) (ls : Array Slot), DB D A (wd_nt_rs_ch_no a b cI cJ cT rs_low rs_mid rs_high ch_nodes ch_signs ch_felt ch_count no_bits no_wishedInputs no_wishedMany no_hiddenUnlike) s H locs → lv_has ls 2 [(0, .ref (a 0)), (1, .int x1)] → W p l e rmX11_wished s m args below meth c H locs 0 0 (ZI below args s D A (tyl cI cJ cT) z_r (wd_nt_rs_ch_no a b cI cJ cT rs_low rs_mid rs_high ch_nodes ch_signs ch_felt ch_count no_bits z_no_wishedInputs z_no_wishedMany z_no_hiddenUnlike) 0 0) (F0 m 0 ls []) := by
  have hx := C.1.1
  have hb := C.1.2.1
  have hown := C.1.2.2.2.1
  have hts := C.1.2.2.2.2
  intro x1 no_wishedInputs no_wishedMany no_hiddenUnlike h H locs ls B hl
  rw [fX11_wished] at h
  refine lv_iload_n hx hb dX11_wished_0 rfl (lv_at hl 1 rfl) ?_
  refine lv_if_eq (tgt := 12) hx hb dX11_wished_1 (by decide) (fun c_1 => ?_) (fun c_1 => ?_)
  · rw [if_pos c_1] at h
    exact qX11_wished_12 C x1 no_wishedInputs no_wishedMany no_hiddenUnlike h H locs ls B (lv_sub hl [0, 1] rfl)
  · rw [if_neg c_1] at h
    refine lv_iload_n hx hb dX11_wished_4 rfl (lv_at hl 1 rfl) ?_
    refine lv_iconst (v := 1) hx hb dX11_wished_5 (by decide) ?_
    refine lv_icmp_eq (tgt := 12) hx hb dX11_wished_6 (by decide) (fun c_2 => ?_) (fun c_2 => ?_)
    · rw [if_pos c_2] at h
      exact qX11_wished_12 C x1 no_wishedInputs no_wishedMany no_hiddenUnlike h H locs ls B (lv_sub hl [0, 1] rfl)
    · rw [if_neg c_2] at h
      refine lv_bipush (v := -2) hx hb dX11_wished_9 (by decide) ?_
      cases h
      exact k_iret C B dX11_wished_11
end
theorem tX11_wished {l : Launch} {D : va_G} {Es : (Nat → Nat) × (Nat → Nat)} {a b : Nat → Nat} {cI cJ cT : ClassId} {rs_low : Nat → Int64} {rs_mid : Nat → Int64} {rs_high : Nat → Int64} {ch_nodes : Nat → Int32} {ch_signs : Nat → Int32} {ch_felt : Nat → Int32} {ch_count : Int32} {no_bits : Nat → Int32} {no_wishedInputs : Int32} {no_wishedMany : Int32} {no_hiddenUnlike : Nat → Int64} {x1 : Int32} {z_r : Int32} {z_no_wishedInputs : Int32} {z_no_wishedMany : Int32} {z_no_hiddenUnlike : Nat → Int64} (N : Nat) (h : fX11_wished N rs_low rs_mid rs_high ch_felt ch_count no_bits x1 no_wishedInputs no_wishedMany no_hiddenUnlike = some (z_r, z_no_wishedInputs, z_no_wishedMany, z_no_hiddenUnlike)) : CtI l yX11_wished wsX11_wished rmX11_wished D (tyl cI cJ cT) Es [.ref (a 0), .int x1] (wd_nt_rs_ch_no a b cI cJ cT rs_low rs_mid rs_high ch_nodes ch_signs ch_felt ch_count no_bits no_wishedInputs no_wishedMany no_hiddenUnlike) z_r (wd_nt_rs_ch_no a b cI cJ cT rs_low rs_mid rs_high ch_nodes ch_signs ch_felt ch_count no_bits z_no_wishedInputs z_no_wishedMany z_no_hiddenUnlike) :=
  CtI.of (own := RX11) (cc := cX11_wished) (nL := 2) (ret := (some .int)) (by decide +kernel) rfl rfl (Nat.le_of_ble_eq_true rfl) rfl (fun p e s m below meth c A ls C B hl => qX11_wished_0 C (N := N) x1 no_wishedInputs no_wishedMany no_hiddenUnlike h _ _ _ B hl)

abbrev rmX11_isNodeOfFirst : Room := { frames := 0, cells := 0, slots := 0, locals := 0 }
theorem hdX11_isNodeOfFirst : yX11_isNodeOfFirst.cls ≠ "java/lang/invoke/MethodHandle" ∧ yX11_isNodeOfFirst.cls ≠ "java/lang/invoke/VarHandle" ∧ (parseMethodDescriptor yX11_isNodeOfFirst.desc).map (fun d => d.parameters.length) = some 1 := by decide +kernel
theorem iX11_isNodeOfFirst_X11 : ∀ w ∈ wsX110, w ∈ wsX11_isNodeOfFirst := by decide +kernel
theorem gfX11_isNodeOfFirst_19 {p : Program} {l : Launch} {e : Env} {R : Room} {s : State} {m : MethodId} {args : Array Value} {below : List Frame} {meth : Method} {c : Code} {H : Heap} {locs : List Loc} {cells slots : Nat} {Q : State → Prop} {D : va_G} {A : Nat → Prop} {tys : List (ClassId × FieldType)} {Es : (Nat → Nat) × (Nat → Nat)} {ws : va_W} {pc : Nat} {ls : Array Slot} {rest : List Value} {a : Nat} (C : CT p s m args meth c RX11 cX11_isNodeOfFirst 2 (some .boolean) wsX11_isNodeOfFirst D A tys Es) (B : DB D A ws s H locs) (q0 : Nat) {fs : List Value} {v : Value} (he : ws[q0]? = some (a, .inr (11, fs))) (hv : fs[1]? = some v) (hdg : decode cX11_isNodeOfFirst pc = .ok (.getfield 19, 3)) (kk : W p l e R s m args below meth c H locs cells slots Q (F0 m (pc + 3) ls (v :: rest))) : W p l e R s m args below meth c H locs cells slots Q (F0 m pc ls (.ref a :: rest)) :=
  k_get (Cn := RX11) (T := TX11) (N := 11) (index := 19) C B iX11_isNodeOfFirst_X11 rfl 1 (by decide) (by decide +kernel) q0 he hv hdg kk
theorem iX11_isNodeOfFirst_X9 : ∀ w ∈ wsX90, w ∈ wsX11_isNodeOfFirst := by decide +kernel
theorem gfX11_isNodeOfFirst_120 {p : Program} {l : Launch} {e : Env} {R : Room} {s : State} {m : MethodId} {args : Array Value} {below : List Frame} {meth : Method} {c : Code} {H : Heap} {locs : List Loc} {cells slots : Nat} {Q : State → Prop} {D : va_G} {A : Nat → Prop} {tys : List (ClassId × FieldType)} {Es : (Nat → Nat) × (Nat → Nat)} {ws : va_W} {pc : Nat} {ls : Array Slot} {rest : List Value} {a : Nat} (C : CT p s m args meth c RX11 cX11_isNodeOfFirst 2 (some .boolean) wsX11_isNodeOfFirst D A tys Es) (B : DB D A ws s H locs) (q0 : Nat) {fs : List Value} {v : Value} (he : ws[q0]? = some (a, .inr (9, fs))) (hv : fs[6]? = some v) (hdg : decode cX11_isNodeOfFirst pc = .ok (.getfield 120, 3)) (kk : W p l e R s m args below meth c H locs cells slots Q (F0 m (pc + 3) ls (v :: rest))) : W p l e R s m args below meth c H locs cells slots Q (F0 m pc ls (.ref a :: rest)) :=
  k_get (Cn := RX9) (T := TX9) (N := 7) (index := 120) C B iX11_isNodeOfFirst_X9 rfl 6 (by decide) (by decide +kernel) q0 he hv hdg kk
section
variable {p : Program} {l : Launch} {e : Env} {s : State} {m : MethodId} {args : Array Value} {below : List Frame} {meth : Method} {c : Code} {D : va_G} {A : Nat → Prop} {Es : (Nat → Nat) × (Nat → Nat)} {a b : Nat → Nat} {cI cJ cT : ClassId}
set_option maxHeartbeats 4000000 in
set_option maxRecDepth 100000 in
theorem qX11_isNodeOfFirst_0 (C : CT p s m args meth c RX11 cX11_isNodeOfFirst 2 (some .boolean) wsX11_isNodeOfFirst D A (tyl cI cJ cT) Es) {N : Nat} {t0_signs : Nat → Int32} {t0_wanted : Nat → Int32} {t0_owners : Nat → Int32} {t0_places : Nat → Int32} {t0_spans : Nat → Int32} {t0_partNodes : Nat → Int32} {t0_count : Int32} {t1_signs : Nat → Int32} {t1_wanted : Nat → Int32} {t1_owners : Nat → Int32} {t1_places : Nat → Int32} {t1_spans : Nat → Int32} {t1_partNodes : Nat → Int32} {t1_count : Int32} {z_r : Int32} : ∀ (x1 : Int32), fX11_isNodeOfFirst N t0_count t1_count x1 = some z_r → ∀ (H : Heap) (locs : List Loc) (ls : Array Slot), DB D A (wd_nt_t0_t1 a b cI cJ cT t0_signs t0_wanted t0_owners t0_places t0_spans t0_partNodes t0_count t1_signs t1_wanted t1_owners t1_places t1_spans t1_partNodes t1_count) s H locs → lv_has ls 2 [(0, .ref (a 0)), (1, .int x1)] → W p l e rmX11_isNodeOfFirst s m args below meth c H locs 0 0 (ZI below args s D A (tyl cI cJ cT) z_r (wd_nt_t0_t1 a b cI cJ cT t0_signs t0_wanted t0_owners t0_places t0_spans t0_partNodes t0_count t1_signs t1_wanted t1_owners t1_places t1_spans t1_partNodes t1_count) 0 0) (F0 m 0 ls []) := by
  have hx := C.1.1
  have hb := C.1.2.1
  have hown := C.1.2.2.2.1
  have hts := C.1.2.2.2.2
  intro x1 h H locs ls B hl
  rw [fX11_isNodeOfFirst] at h
  refine lv_iload_n hx hb dX11_isNodeOfFirst_0 rfl (lv_at hl 1 rfl) ?_
  refine lv_if_lt (tgt := 21) hx hb dX11_isNodeOfFirst_1 (by decide) (fun c_1 => ?_) (fun c_1 => ?_)
  · rw [if_pos c_1] at h
    refine lv_iconst (v := 0) hx hb dX11_isNodeOfFirst_21 (by decide) ?_
    cases h
    exact k_zret C B (by decide) dX11_isNodeOfFirst_22
  · rw [if_neg c_1] at h
    refine lv_iload_n hx hb dX11_isNodeOfFirst_4 rfl (lv_at hl 1 rfl) ?_
    refine lv_aload_n hx hb dX11_isNodeOfFirst_5 rfl (lv_at hl 0 rfl) ?_
    refine gfX11_isNodeOfFirst_19 C B 0 rfl rfl dX11_isNodeOfFirst_6 ?_
    refine lv_iconst (v := 0) hx hb dX11_isNodeOfFirst_9 (by decide) ?_
    refine k_ald0 C B 1 rfl rfl rfl dX11_isNodeOfFirst_10 ?_
    refine gfX11_isNodeOfFirst_120 C B 2 rfl rfl dX11_isNodeOfFirst_11 ?_
    refine lv_icmp_ge (tgt := 21) hx hb dX11_isNodeOfFirst_14 (by decide) (fun c_2 => ?_) (fun c_2 => ?_)
    · rw [if_pos c_2] at h
      refine lv_iconst (v := 0) hx hb dX11_isNodeOfFirst_21 (by decide) ?_
      cases h
      exact k_zret C B (by decide) dX11_isNodeOfFirst_22
    · rw [if_neg c_2] at h
      refine lv_iconst (v := 1) hx hb dX11_isNodeOfFirst_17 (by decide) ?_
      refine lv_goto (tgt := 22) hx hb dX11_isNodeOfFirst_18 (by decide) ?_
      cases h
      exact k_zret C B (by decide) dX11_isNodeOfFirst_22
end
theorem tX11_isNodeOfFirst {l : Launch} {D : va_G} {Es : (Nat → Nat) × (Nat → Nat)} {a b : Nat → Nat} {cI cJ cT : ClassId} {t0_signs : Nat → Int32} {t0_wanted : Nat → Int32} {t0_owners : Nat → Int32} {t0_places : Nat → Int32} {t0_spans : Nat → Int32} {t0_partNodes : Nat → Int32} {t0_count : Int32} {t1_signs : Nat → Int32} {t1_wanted : Nat → Int32} {t1_owners : Nat → Int32} {t1_places : Nat → Int32} {t1_spans : Nat → Int32} {t1_partNodes : Nat → Int32} {t1_count : Int32} {x1 : Int32} {z_r : Int32} (N : Nat) (h : fX11_isNodeOfFirst N t0_count t1_count x1 = some z_r) : CtI l yX11_isNodeOfFirst wsX11_isNodeOfFirst rmX11_isNodeOfFirst D (tyl cI cJ cT) Es [.ref (a 0), .int x1] (wd_nt_t0_t1 a b cI cJ cT t0_signs t0_wanted t0_owners t0_places t0_spans t0_partNodes t0_count t1_signs t1_wanted t1_owners t1_places t1_spans t1_partNodes t1_count) z_r (wd_nt_t0_t1 a b cI cJ cT t0_signs t0_wanted t0_owners t0_places t0_spans t0_partNodes t0_count t1_signs t1_wanted t1_owners t1_places t1_spans t1_partNodes t1_count) :=
  CtI.of (own := RX11) (cc := cX11_isNodeOfFirst) (nL := 2) (ret := (some .boolean)) (by decide +kernel) rfl rfl (Nat.le_of_ble_eq_true rfl) rfl (fun p e s m below meth c A ls C B hl => qX11_isNodeOfFirst_0 C (N := N) x1 h _ _ _ B hl)

abbrev rmX11_blame : Room := { frames := 6, cells := 0, slots := 0, locals := 154 }
theorem hdX11_blame : yX11_blame.cls ≠ "java/lang/invoke/MethodHandle" ∧ yX11_blame.cls ≠ "java/lang/invoke/VarHandle" ∧ (parseMethodDescriptor yX11_blame.desc).map (fun d => d.parameters.length) = some 2 := by decide +kernel
theorem iX11_blame_X11 : ∀ w ∈ wsX110, w ∈ wsX11_blame := by decide +kernel
theorem gfX11_blame_78 {p : Program} {l : Launch} {e : Env} {R : Room} {s : State} {m : MethodId} {args : Array Value} {below : List Frame} {meth : Method} {c : Code} {H : Heap} {locs : List Loc} {cells slots : Nat} {Q : State → Prop} {D : va_G} {A : Nat → Prop} {tys : List (ClassId × FieldType)} {Es : (Nat → Nat) × (Nat → Nat)} {ws : va_W} {pc : Nat} {ls : Array Slot} {rest : List Value} {a : Nat} (C : CT p s m args meth c RX11 cX11_blame 3 (some .int) wsX11_blame D A tys Es) (B : DB D A ws s H locs) (q0 : Nat) {fs : List Value} {v : Value} (he : ws[q0]? = some (a, .inr (11, fs))) (hv : fs[8]? = some v) (hdg : decode cX11_blame pc = .ok (.getfield 78, 3)) (kk : W p l e R s m args below meth c H locs cells slots Q (F0 m (pc + 3) ls (v :: rest))) : W p l e R s m args below meth c H locs cells slots Q (F0 m pc ls (.ref a :: rest)) :=
  k_get (Cn := RX11) (T := TX11) (N := 11) (index := 78) C B iX11_blame_X11 rfl 8 (by decide) (by decide +kernel) q0 he hv hdg kk
theorem gfX11_blame_19 {p : Program} {l : Launch} {e : Env} {R : Room} {s : State} {m : MethodId} {args : Array Value} {below : List Frame} {meth : Method} {c : Code} {H : Heap} {locs : List Loc} {cells slots : Nat} {Q : State → Prop} {D : va_G} {A : Nat → Prop} {tys : List (ClassId × FieldType)} {Es : (Nat → Nat) × (Nat → Nat)} {ws : va_W} {pc : Nat} {ls : Array Slot} {rest : List Value} {a : Nat} (C : CT p s m args meth c RX11 cX11_blame 3 (some .int) wsX11_blame D A tys Es) (B : DB D A ws s H locs) (q0 : Nat) {fs : List Value} {v : Value} (he : ws[q0]? = some (a, .inr (11, fs))) (hv : fs[1]? = some v) (hdg : decode cX11_blame pc = .ok (.getfield 19, 3)) (kk : W p l e R s m args below meth c H locs cells slots Q (F0 m (pc + 3) ls (v :: rest))) : W p l e R s m args below meth c H locs cells slots Q (F0 m pc ls (.ref a :: rest)) :=
  k_get (Cn := RX11) (T := TX11) (N := 11) (index := 19) C B iX11_blame_X11 rfl 1 (by decide) (by decide +kernel) q0 he hv hdg kk
theorem iX11_blame_X0 : ∀ w ∈ wsX00, w ∈ wsX11_blame := by decide +kernel
theorem gfX11_blame_233 {p : Program} {l : Launch} {e : Env} {R : Room} {s : State} {m : MethodId} {args : Array Value} {below : List Frame} {meth : Method} {c : Code} {H : Heap} {locs : List Loc} {cells slots : Nat} {Q : State → Prop} {D : va_G} {A : Nat → Prop} {tys : List (ClassId × FieldType)} {Es : (Nat → Nat) × (Nat → Nat)} {ws : va_W} {pc : Nat} {ls : Array Slot} {rest : List Value} {a : Nat} (C : CT p s m args meth c RX11 cX11_blame 3 (some .int) wsX11_blame D A tys Es) (B : DB D A ws s H locs) (q0 : Nat) {fs : List Value} {v : Value} (he : ws[q0]? = some (a, .inr (0, fs))) (hv : fs[0]? = some v) (hdg : decode cX11_blame pc = .ok (.getfield 233, 3)) (kk : W p l e R s m args below meth c H locs cells slots Q (F0 m (pc + 3) ls (v :: rest))) : W p l e R s m args below meth c H locs cells slots Q (F0 m pc ls (.ref a :: rest)) :=
  k_get (Cn := RX0) (T := TX0) (N := 5) (index := 233) C B iX11_blame_X0 rfl 0 (by decide) (by decide +kernel) q0 he hv hdg kk
theorem gfX11_blame_236 {p : Program} {l : Launch} {e : Env} {R : Room} {s : State} {m : MethodId} {args : Array Value} {below : List Frame} {meth : Method} {c : Code} {H : Heap} {locs : List Loc} {cells slots : Nat} {Q : State → Prop} {D : va_G} {A : Nat → Prop} {tys : List (ClassId × FieldType)} {Es : (Nat → Nat) × (Nat → Nat)} {ws : va_W} {pc : Nat} {ls : Array Slot} {rest : List Value} {a : Nat} (C : CT p s m args meth c RX11 cX11_blame 3 (some .int) wsX11_blame D A tys Es) (B : DB D A ws s H locs) (q0 : Nat) {fs : List Value} {v : Value} (he : ws[q0]? = some (a, .inr (0, fs))) (hv : fs[1]? = some v) (hdg : decode cX11_blame pc = .ok (.getfield 236, 3)) (kk : W p l e R s m args below meth c H locs cells slots Q (F0 m (pc + 3) ls (v :: rest))) : W p l e R s m args below meth c H locs cells slots Q (F0 m pc ls (.ref a :: rest)) :=
  k_get (Cn := RX0) (T := TX0) (N := 5) (index := 236) C B iX11_blame_X0 rfl 1 (by decide) (by decide +kernel) q0 he hv hdg kk
section
variable {p : Program} {l : Launch} {e : Env} {s : State} {m : MethodId} {args : Array Value} {below : List Frame} {meth : Method} {c : Code} {D : va_G} {A : Nat → Prop} {Es : (Nat → Nat) × (Nat → Nat)} {a b : Nat → Nat} {cI cJ cT : ClassId}
set_option maxHeartbeats 4000000 in
set_option maxRecDepth 100000 in
theorem qX11_blame_0 (C : CT p s m args meth c RX11 cX11_blame 3 (some .int) wsX11_blame D A (tyl cI cJ cT) Es) {N : Nat} {t0_signs : Nat → Int32} {t0_wanted : Nat → Int32} {t0_owners : Nat → Int32} {t0_places : Nat → Int32} {t0_spans : Nat → Int32} {t0_partNodes : Nat → Int32} {t0_count : Int32} {t1_signs : Nat → Int32} {t1_wanted : Nat → Int32} {t1_owners : Nat → Int32} {t1_places : Nat → Int32} {t1_spans : Nat → Int32} {t1_partNodes : Nat → Int32} {t1_count : Int32} {rs_low : Nat → Int64} {rs_mid : Nat → Int64} {rs_high : Nat → Int64} {te_inputs : Nat → Int32} {te_dues : Nat → Int32} {te_count : Int32} {z_r : Int32} {z_wk_low : Nat → Int64} {z_wk_mid : Nat → Int64} {z_wk_high : Nat → Int64} {z_wk_holds : Nat → Int64} {z_bl_uppers : Nat → Int32} {z_bl_lowers : Nat → Int32} {z_bl_runBits : Nat → Int32} : ∀ (x1 : Int32) (x2 : Int32) (wk_low : Nat → Int64) (wk_mid : Nat → Int64) (wk_high : Nat → Int64) (wk_holds : Nat → Int64) (bl_uppers : Nat → Int32) (bl_lowers : Nat → Int32) (bl_runBits : Nat → Int32), fX11_blame N t0_signs t0_wanted t0_owners t0_places t0_partNodes t0_count t1_signs t1_wanted t1_owners t1_places t1_partNodes t1_count rs_low rs_mid rs_high te_inputs te_dues te_count x1 x2 wk_low wk_mid wk_high wk_holds bl_uppers bl_lowers bl_runBits = some (z_r, z_wk_low, z_wk_mid, z_wk_high, z_wk_holds, z_bl_uppers, z_bl_lowers, z_bl_runBits) → ∀ (H : Heap) (locs : List Loc) (ls : Array Slot), DB D A (wd_nt_t0_t1_wk_rs_te_bl a b cI cJ cT t0_signs t0_wanted t0_owners t0_places t0_spans t0_partNodes t0_count t1_signs t1_wanted t1_owners t1_places t1_spans t1_partNodes t1_count wk_low wk_mid wk_high wk_holds rs_low rs_mid rs_high te_inputs te_dues te_count bl_uppers bl_lowers bl_runBits) s H locs → lv_has ls 3 [(0, .ref (a 0)), (1, .int x1), (2, .int x2)] → W p l e rmX11_blame s m args below meth c H locs 0 0 (ZI below args s D A (tyl cI cJ cT) z_r (wd_nt_t0_t1_wk_rs_te_bl a b cI cJ cT t0_signs t0_wanted t0_owners t0_places t0_spans t0_partNodes t0_count t1_signs t1_wanted t1_owners t1_places t1_spans t1_partNodes t1_count z_wk_low z_wk_mid z_wk_high z_wk_holds rs_low rs_mid rs_high te_inputs te_dues te_count z_bl_uppers z_bl_lowers z_bl_runBits) 0 0) (F0 m 0 ls []) := by
  have hx := C.1.1
  have hb := C.1.2.1
  have hown := C.1.2.2.2.1
  have hts := C.1.2.2.2.2
  intro x1 x2 wk_low wk_mid wk_high wk_holds bl_uppers bl_lowers bl_runBits h H locs ls B hl
  rw [fX11_blame] at h
  refine lv_aload_n hx hb dX11_blame_0 rfl (lv_at hl 0 rfl) ?_
  refine lv_iload_n hx hb dX11_blame_1 rfl (lv_at hl 1 rfl) ?_
  obtain ⟨r_1, g_17, h⟩ := ob_some h
  try dsimp only at h
  refine kc_VI C B (q0 := 0) (ci := 11) (As := [.int x1]) (rest := []) (w2 := (wd_nt_t0_t1_wk_rs_te_bl a b cI cJ cT t0_signs t0_wanted t0_owners t0_places t0_spans t0_partNodes t0_count t1_signs t1_wanted t1_owners t1_places t1_spans t1_partNodes t1_count wk_low wk_mid wk_high wk_holds rs_low rs_mid rs_high te_inputs te_dues te_count bl_uppers bl_lowers bl_runBits)) (tX11_isNodeOfFirst (a := a) (b := b) N g_17) gX11_blame_X11_isNodeOfFirst rfl ⟨rfl, rfl⟩ ⟨rfl, hdX11_isNodeOfFirst⟩ ⟨Nat.le_of_ble_eq_true rfl, Nat.le_of_ble_eq_true rfl⟩ rfl rfl [0, 1, 2, 3, 4, 5, 6, 7, 8, 9, 10, 11, 12, 13, 14, 15] [16, 17, 18, 19, 20, 21, 22, 23, 24, 25, 26, 27, 28, 29, 30, 31] [16, 17, 18, 19, 20, 21, 22, 23, 24, 25, 26, 27, 28, 29, 30, 31, 0, 1, 2, 3, 4, 5, 6, 7, 8, 9, 10, 11, 12, 13, 14, 15] rfl rfl rfl rfl rfl rfl rfl rfl hl.1 rfl (Nat.le_of_ble_eq_true rfl) ⟨Nat.zero_le _, Nat.zero_le _⟩ dX11_blame_2 (fun H locs B => ?_)
  refine lv_if_ne (tgt := 10) hx hb dX11_blame_5 (by decide) (fun c_2 => ?_) (fun c_2 => ?_)
  · rw [if_neg c_2] at h
    refine lv_iload_n hx hb dX11_blame_10 rfl (lv_at hl 2 rfl) ?_
    obtain ⟨r_3, g_16, h⟩ := ob_some h
    try dsimp only at h
    refine kc_SI C B (As := [.int x2]) (rest := []) (w2 := (wd_nt_t0_t1_wk_rs_te_bl a b cI cJ cT t0_signs t0_wanted t0_owners t0_places t0_spans t0_partNodes t0_count t1_signs t1_wanted t1_owners t1_places t1_spans t1_partNodes t1_count wk_low wk_mid wk_high wk_holds rs_low rs_mid rs_high te_inputs te_dues te_count bl_uppers bl_lowers bl_runBits)) (tX11_isPart N g_16) gX11_blame_X11_isPart rfl ⟨rfl, rfl⟩ hdX11_isPart ⟨Nat.le_of_ble_eq_true rfl, Nat.le_of_ble_eq_true rfl⟩ [] [0, 1, 2, 3, 4, 5, 6, 7, 8, 9, 10, 11, 12, 13, 14, 15, 16, 17, 18, 19, 20, 21, 22, 23, 24, 25, 26, 27, 28, 29, 30, 31] [0, 1, 2, 3, 4, 5, 6, 7, 8, 9, 10, 11, 12, 13, 14, 15, 16, 17, 18, 19, 20, 21, 22, 23, 24, 25, 26, 27, 28, 29, 30, 31] rfl rfl rfl rfl rfl rfl rfl rfl hl.1 rfl (Nat.le_of_ble_eq_true rfl) ⟨Nat.zero_le _, Nat.zero_le _⟩ dX11_blame_11 (fun H locs B => ?_)
    refine lv_if_ne (tgt := 20) hx hb dX11_blame_14 (by decide) (fun c_4 => ?_) (fun c_4 => ?_)
    · rw [if_neg c_4] at h
      refine lv_aload_n hx hb dX11_blame_20 rfl (lv_at hl 0 rfl) ?_
      refine gfX11_blame_78 C B 0 rfl rfl dX11_blame_21 ?_
      refine lv_aload_n hx hb dX11_blame_24 rfl (lv_at hl 0 rfl) ?_
      refine gfX11_blame_19 C B 0 rfl rfl dX11_blame_25 ?_
      refine lv_iconst (v := 0) hx hb dX11_blame_28 (by decide) ?_
      refine k_ald0 C B 1 rfl rfl rfl dX11_blame_29 ?_
      obtain ⟨⟨wk_low_5, wk_mid_6, wk_high_7, wk_holds_8, bl_uppers_9, bl_lowers_10, bl_runBits_11⟩, g_15, h⟩ := ob_some h
      try dsimp only at h
      refine kc_VV C B (q0 := 19) (ci := 0) (As := [.ref (a 5)]) (rest := []) (w2 := (wd_nt_t0_t1_wk_rs_te_bl a b cI cJ cT t0_signs t0_wanted t0_owners t0_places t0_spans t0_partNodes t0_count t1_signs t1_wanted t1_owners t1_places t1_spans t1_partNodes t1_count wk_low_5 wk_mid_6 wk_high_7 wk_holds_8 rs_low rs_mid rs_high te_inputs te_dues te_count bl_uppers_9 bl_lowers_10 bl_runBits_11)) (tX0_weigh (a := a) (b := fun k => a (5 + k)) N g_15) gX11_blame_X0_weigh rfl ⟨rfl, rfl⟩ ⟨rfl, hdX0_weigh⟩ ⟨Nat.le_of_ble_eq_true rfl, Nat.le_of_ble_eq_true rfl⟩ rfl rfl [2, 3, 4, 5, 6, 7, 8, 16, 17, 18, 19, 20, 21, 22, 23, 24, 25, 26, 27, 28, 29, 30, 31] [0, 1, 9, 10, 11, 12, 13, 14, 15] [0, 1, 9, 10, 11, 12, 13, 14, 15, 2, 3, 4, 5, 6, 7, 8, 16, 17, 18, 19, 20, 21, 22, 23, 24, 25, 26, 27, 28, 29, 30, 31] rfl rfl rfl rfl rfl rfl rfl rfl hl.1 rfl (Nat.le_of_ble_eq_true rfl) ⟨Nat.zero_le _, Nat.zero_le _⟩ dX11_blame_30 (fun H locs B => ?_)
      refine lv_aload_n hx hb dX11_blame_33 rfl (lv_at hl 0 rfl) ?_
      refine gfX11_blame_78 C B 0 rfl rfl dX11_blame_34 ?_
      refine gfX11_blame_233 C B 28 rfl rfl dX11_blame_37 ?_
      refine lv_iload_n hx hb dX11_blame_40 rfl (lv_at hl 1 rfl) ?_
      obtain ⟨b_12, h⟩ := bnd_some h
      refine k_iald C B 29 0 rfl rfl b_12 dX11_blame_41 ?_
      refine lv_aload_n hx hb dX11_blame_42 rfl (lv_at hl 0 rfl) ?_
      refine gfX11_blame_78 C B 0 rfl rfl dX11_blame_43 ?_
      refine gfX11_blame_236 C B 28 rfl rfl dX11_blame_46 ?_
      refine lv_iload_n hx hb dX11_blame_49 rfl (lv_at hl 1 rfl) ?_
      refine k_iald C B 30 0 rfl rfl b_12 dX11_blame_50 ?_
      refine lv_iload_n hx hb dX11_blame_51 rfl (lv_at hl 2 rfl) ?_
      obtain ⟨r_13, g_14, h⟩ := ob_some h
      try dsimp only at h
      refine kc_SI C B (As := [.int (bl_uppers_9 (Int32.toNatClampNeg x1)), .int (bl_lowers_10 (Int32.toNatClampNeg x1)), .int x2]) (rest := []) (w2 := (wd_nt_t0_t1_wk_rs_te_bl a b cI cJ cT t0_signs t0_wanted t0_owners t0_places t0_spans t0_partNodes t0_count t1_signs t1_wanted t1_owners t1_places t1_spans t1_partNodes t1_count wk_low_5 wk_mid_6 wk_high_7 wk_holds_8 rs_low rs_mid rs_high te_inputs te_dues te_count bl_uppers_9 bl_lowers_10 bl_runBits_11)) (tX11_inLowestTerms N g_14) gX11_blame_X11_inLowestTerms rfl ⟨rfl, rfl⟩ hdX11_inLowestTerms ⟨Nat.le_of_ble_eq_true rfl, Nat.le_of_ble_eq_true rfl⟩ [] [0, 1, 2, 3, 4, 5, 6, 7, 8, 9, 10, 11, 12, 13, 14, 15, 16, 17, 18, 19, 20, 21, 22, 23, 24, 25, 26, 27, 28, 29, 30, 31] [0, 1, 2, 3, 4, 5, 6, 7, 8, 9, 10, 11, 12, 13, 14, 15, 16, 17, 18, 19, 20, 21, 22, 23, 24, 25, 26, 27, 28, 29, 30, 31] rfl rfl rfl rfl rfl rfl rfl rfl hl.1 rfl (Nat.le_of_ble_eq_true rfl) ⟨Nat.zero_le _, Nat.zero_le _⟩ dX11_blame_52 (fun H locs B => ?_)
      cases h
      exact k_iret C B dX11_blame_55
    · rw [if_pos c_4] at h
      refine lv_bipush (v := -2) hx hb dX11_blame_17 (by decide) ?_
      cases h
      exact k_iret C B dX11_blame_19
  · rw [if_pos c_2] at h
    refine lv_iconst (v := -1) hx hb dX11_blame_8 (by decide) ?_
    cases h
    exact k_iret C B dX11_blame_9
end
theorem tX11_blame {l : Launch} {D : va_G} {Es : (Nat → Nat) × (Nat → Nat)} {a b : Nat → Nat} {cI cJ cT : ClassId} {t0_signs : Nat → Int32} {t0_wanted : Nat → Int32} {t0_owners : Nat → Int32} {t0_places : Nat → Int32} {t0_spans : Nat → Int32} {t0_partNodes : Nat → Int32} {t0_count : Int32} {t1_signs : Nat → Int32} {t1_wanted : Nat → Int32} {t1_owners : Nat → Int32} {t1_places : Nat → Int32} {t1_spans : Nat → Int32} {t1_partNodes : Nat → Int32} {t1_count : Int32} {wk_low : Nat → Int64} {wk_mid : Nat → Int64} {wk_high : Nat → Int64} {wk_holds : Nat → Int64} {rs_low : Nat → Int64} {rs_mid : Nat → Int64} {rs_high : Nat → Int64} {te_inputs : Nat → Int32} {te_dues : Nat → Int32} {te_count : Int32} {bl_uppers : Nat → Int32} {bl_lowers : Nat → Int32} {bl_runBits : Nat → Int32} {x1 : Int32} {x2 : Int32} {z_r : Int32} {z_wk_low : Nat → Int64} {z_wk_mid : Nat → Int64} {z_wk_high : Nat → Int64} {z_wk_holds : Nat → Int64} {z_bl_uppers : Nat → Int32} {z_bl_lowers : Nat → Int32} {z_bl_runBits : Nat → Int32} (N : Nat) (h : fX11_blame N t0_signs t0_wanted t0_owners t0_places t0_partNodes t0_count t1_signs t1_wanted t1_owners t1_places t1_partNodes t1_count rs_low rs_mid rs_high te_inputs te_dues te_count x1 x2 wk_low wk_mid wk_high wk_holds bl_uppers bl_lowers bl_runBits = some (z_r, z_wk_low, z_wk_mid, z_wk_high, z_wk_holds, z_bl_uppers, z_bl_lowers, z_bl_runBits)) : CtI l yX11_blame wsX11_blame rmX11_blame D (tyl cI cJ cT) Es [.ref (a 0), .int x1, .int x2] (wd_nt_t0_t1_wk_rs_te_bl a b cI cJ cT t0_signs t0_wanted t0_owners t0_places t0_spans t0_partNodes t0_count t1_signs t1_wanted t1_owners t1_places t1_spans t1_partNodes t1_count wk_low wk_mid wk_high wk_holds rs_low rs_mid rs_high te_inputs te_dues te_count bl_uppers bl_lowers bl_runBits) z_r (wd_nt_t0_t1_wk_rs_te_bl a b cI cJ cT t0_signs t0_wanted t0_owners t0_places t0_spans t0_partNodes t0_count t1_signs t1_wanted t1_owners t1_places t1_spans t1_partNodes t1_count z_wk_low z_wk_mid z_wk_high z_wk_holds rs_low rs_mid rs_high te_inputs te_dues te_count z_bl_uppers z_bl_lowers z_bl_runBits) :=
  CtI.of (own := RX11) (cc := cX11_blame) (nL := 3) (ret := (some .int)) (by decide +kernel) rfl rfl (Nat.le_of_ble_eq_true rfl) rfl (fun p e s m below meth c A ls C B hl => qX11_blame_0 C (N := N) x1 x2 wk_low wk_mid wk_high wk_holds bl_uppers bl_lowers bl_runBits h _ _ _ B hl)

abbrev rmX11_rank : Room := { frames := 6, cells := 0, slots := 0, locals := 154 }
theorem hdX11_rank : yX11_rank.cls ≠ "java/lang/invoke/MethodHandle" ∧ yX11_rank.cls ≠ "java/lang/invoke/VarHandle" ∧ (parseMethodDescriptor yX11_rank.desc).map (fun d => d.parameters.length) = some 1 := by decide +kernel
theorem iX11_rank_X11 : ∀ w ∈ wsX110, w ∈ wsX11_rank := by decide +kernel
theorem gfX11_rank_78 {p : Program} {l : Launch} {e : Env} {R : Room} {s : State} {m : MethodId} {args : Array Value} {below : List Frame} {meth : Method} {c : Code} {H : Heap} {locs : List Loc} {cells slots : Nat} {Q : State → Prop} {D : va_G} {A : Nat → Prop} {tys : List (ClassId × FieldType)} {Es : (Nat → Nat) × (Nat → Nat)} {ws : va_W} {pc : Nat} {ls : Array Slot} {rest : List Value} {a : Nat} (C : CT p s m args meth c RX11 cX11_rank 2 (some .int) wsX11_rank D A tys Es) (B : DB D A ws s H locs) (q0 : Nat) {fs : List Value} {v : Value} (he : ws[q0]? = some (a, .inr (11, fs))) (hv : fs[8]? = some v) (hdg : decode cX11_rank pc = .ok (.getfield 78, 3)) (kk : W p l e R s m args below meth c H locs cells slots Q (F0 m (pc + 3) ls (v :: rest))) : W p l e R s m args below meth c H locs cells slots Q (F0 m pc ls (.ref a :: rest)) :=
  k_get (Cn := RX11) (T := TX11) (N := 11) (index := 78) C B iX11_rank_X11 rfl 8 (by decide) (by decide +kernel) q0 he hv hdg kk
theorem gfX11_rank_19 {p : Program} {l : Launch} {e : Env} {R : Room} {s : State} {m : MethodId} {args : Array Value} {below : List Frame} {meth : Method} {c : Code} {H : Heap} {locs : List Loc} {cells slots : Nat} {Q : State → Prop} {D : va_G} {A : Nat → Prop} {tys : List (ClassId × FieldType)} {Es : (Nat → Nat) × (Nat → Nat)} {ws : va_W} {pc : Nat} {ls : Array Slot} {rest : List Value} {a : Nat} (C : CT p s m args meth c RX11 cX11_rank 2 (some .int) wsX11_rank D A tys Es) (B : DB D A ws s H locs) (q0 : Nat) {fs : List Value} {v : Value} (he : ws[q0]? = some (a, .inr (11, fs))) (hv : fs[1]? = some v) (hdg : decode cX11_rank pc = .ok (.getfield 19, 3)) (kk : W p l e R s m args below meth c H locs cells slots Q (F0 m (pc + 3) ls (v :: rest))) : W p l e R s m args below meth c H locs cells slots Q (F0 m pc ls (.ref a :: rest)) :=
  k_get (Cn := RX11) (T := TX11) (N := 11) (index := 19) C B iX11_rank_X11 rfl 1 (by decide) (by decide +kernel) q0 he hv hdg kk
theorem iX11_rank_X9 : ∀ w ∈ wsX90, w ∈ wsX11_rank := by decide +kernel
theorem gfX11_rank_120 {p : Program} {l : Launch} {e : Env} {R : Room} {s : State} {m : MethodId} {args : Array Value} {below : List Frame} {meth : Method} {c : Code} {H : Heap} {locs : List Loc} {cells slots : Nat} {Q : State → Prop} {D : va_G} {A : Nat → Prop} {tys : List (ClassId × FieldType)} {Es : (Nat → Nat) × (Nat → Nat)} {ws : va_W} {pc : Nat} {ls : Array Slot} {rest : List Value} {a : Nat} (C : CT p s m args meth c RX11 cX11_rank 2 (some .int) wsX11_rank D A tys Es) (B : DB D A ws s H locs) (q0 : Nat) {fs : List Value} {v : Value} (he : ws[q0]? = some (a, .inr (9, fs))) (hv : fs[6]? = some v) (hdg : decode cX11_rank pc = .ok (.getfield 120, 3)) (kk : W p l e R s m args below meth c H locs cells slots Q (F0 m (pc + 3) ls (v :: rest))) : W p l e R s m args below meth c H locs cells slots Q (F0 m pc ls (.ref a :: rest)) :=
  k_get (Cn := RX9) (T := TX9) (N := 7) (index := 120) C B iX11_rank_X9 rfl 6 (by decide) (by decide +kernel) q0 he hv hdg kk
section
variable {p : Program} {l : Launch} {e : Env} {s : State} {m : MethodId} {args : Array Value} {below : List Frame} {meth : Method} {c : Code} {D : va_G} {A : Nat → Prop} {Es : (Nat → Nat) × (Nat → Nat)} {a b : Nat → Nat} {cI cJ cT : ClassId}
set_option maxHeartbeats 4000000 in
set_option maxRecDepth 100000 in
theorem qX11_rank_0 (C : CT p s m args meth c RX11 cX11_rank 2 (some .int) wsX11_rank D A (tyl cI cJ cT) Es) {N : Nat} {t0_signs : Nat → Int32} {t0_wanted : Nat → Int32} {t0_owners : Nat → Int32} {t0_places : Nat → Int32} {t0_spans : Nat → Int32} {t0_partNodes : Nat → Int32} {t0_count : Int32} {t1_signs : Nat → Int32} {t1_wanted : Nat → Int32} {t1_owners : Nat → Int32} {t1_places : Nat → Int32} {t1_spans : Nat → Int32} {t1_partNodes : Nat → Int32} {t1_count : Int32} {rs_low : Nat → Int64} {rs_mid : Nat → Int64} {rs_high : Nat → Int64} {te_inputs : Nat → Int32} {te_dues : Nat → Int32} {te_count : Int32} {z_r : Int32} {z_wk_low : Nat → Int64} {z_wk_mid : Nat → Int64} {z_wk_high : Nat → Int64} {z_wk_holds : Nat → Int64} {z_bl_uppers : Nat → Int32} {z_bl_lowers : Nat → Int32} {z_bl_runBits : Nat → Int32} : ∀ (x1 : Int32) (wk_low : Nat → Int64) (wk_mid : Nat → Int64) (wk_high : Nat → Int64) (wk_holds : Nat → Int64) (bl_uppers : Nat → Int32) (bl_lowers : Nat → Int32) (bl_runBits : Nat → Int32), fX11_rank N t0_signs t0_wanted t0_owners t0_places t0_partNodes t0_count t1_signs t1_wanted t1_owners t1_places t1_partNodes t1_count rs_low rs_mid rs_high te_inputs te_dues te_count x1 wk_low wk_mid wk_high wk_holds bl_uppers bl_lowers bl_runBits = some (z_r, z_wk_low, z_wk_mid, z_wk_high, z_wk_holds, z_bl_uppers, z_bl_lowers, z_bl_runBits) → ∀ (H : Heap) (locs : List Loc) (ls : Array Slot), DB D A (wd_nt_t0_t1_wk_rs_te_bl a b cI cJ cT t0_signs t0_wanted t0_owners t0_places t0_spans t0_partNodes t0_count t1_signs t1_wanted t1_owners t1_places t1_spans t1_partNodes t1_count wk_low wk_mid wk_high wk_holds rs_low rs_mid rs_high te_inputs te_dues te_count bl_uppers bl_lowers bl_runBits) s H locs → lv_has ls 2 [(0, .ref (a 0)), (1, .int x1)] → W p l e rmX11_rank s m args below meth c H locs 0 0 (ZI below args s D A (tyl cI cJ cT) z_r (wd_nt_t0_t1_wk_rs_te_bl a b cI cJ cT t0_signs t0_wanted t0_owners t0_places t0_spans t0_partNodes t0_count t1_signs t1_wanted t1_owners t1_places t1_spans t1_partNodes t1_count z_wk_low z_wk_mid z_wk_high z_wk_holds rs_low rs_mid rs_high te_inputs te_dues te_count z_bl_uppers z_bl_lowers z_bl_runBits) 0 0) (F0 m 0 ls []) := by
  have hx := C.1.1
  have hb := C.1.2.1
  have hown := C.1.2.2.2.1
  have hts := C.1.2.2.2.2
  intro x1 wk_low wk_mid wk_high wk_holds bl_uppers bl_lowers bl_runBits h H locs ls B hl
  rw [fX11_rank] at h
  refine lv_aload_n hx hb dX11_rank_0 rfl (lv_at hl 0 rfl) ?_
  refine lv_iload_n hx hb dX11_rank_1 rfl (lv_at hl 1 rfl) ?_
  obtain ⟨r_1, g_13, h⟩ := ob_some h
  try dsimp only at h
  refine kc_VI C B (q0 := 0) (ci := 11) (As := [.int x1]) (rest := []) (w2 := (wd_nt_t0_t1_wk_rs_te_bl a b cI cJ cT t0_signs t0_wanted t0_owners t0_places t0_spans t0_partNodes t0_count t1_signs t1_wanted t1_owners t1_places t1_spans t1_partNodes t1_count wk_low wk_mid wk_high wk_holds rs_low rs_mid rs_high te_inputs te_dues te_count bl_uppers bl_lowers bl_runBits)) (tX11_isNodeOfFirst (a := a) (b := b) N g_13) gX11_rank_X11_isNodeOfFirst rfl ⟨rfl, rfl⟩ ⟨rfl, hdX11_isNodeOfFirst⟩ ⟨Nat.le_of_ble_eq_true rfl, Nat.le_of_ble_eq_true rfl⟩ rfl rfl [0, 1, 2, 3, 4, 5, 6, 7, 8, 9, 10, 11, 12, 13, 14, 15] [16, 17, 18, 19, 20, 21, 22, 23, 24, 25, 26, 27, 28, 29, 30, 31] [16, 17, 18, 19, 20, 21, 22, 23, 24, 25, 26, 27, 28, 29, 30, 31, 0, 1, 2, 3, 4, 5, 6, 7, 8, 9, 10, 11, 12, 13, 14, 15] rfl rfl rfl rfl rfl rfl rfl rfl hl.1 rfl (Nat.le_of_ble_eq_true rfl) ⟨Nat.zero_le _, Nat.zero_le _⟩ dX11_rank_2 (fun H locs B => ?_)
  refine lv_if_ne (tgt := 11) hx hb dX11_rank_5 (by decide) (fun c_2 => ?_) (fun c_2 => ?_)
  · rw [if_neg c_2] at h
    refine lv_aload_n hx hb dX11_rank_11 rfl (lv_at hl 0 rfl) ?_
    refine gfX11_rank_78 C B 0 rfl rfl dX11_rank_12 ?_
    refine lv_aload_n hx hb dX11_rank_15 rfl (lv_at hl 0 rfl) ?_
    refine gfX11_rank_19 C B 0 rfl rfl dX11_rank_16 ?_
    refine lv_iconst (v := 0) hx hb dX11_rank_19 (by decide) ?_
    refine k_ald0 C B 1 rfl rfl rfl dX11_rank_20 ?_
    obtain ⟨⟨wk_low_3, wk_mid_4, wk_high_5, wk_holds_6, bl_uppers_7, bl_lowers_8, bl_runBits_9⟩, g_12, h⟩ := ob_some h
    try dsimp only at h
    refine kc_VV C B (q0 := 19) (ci := 0) (As := [.ref (a 5)]) (rest := []) (w2 := (wd_nt_t0_t1_wk_rs_te_bl a b cI cJ cT t0_signs t0_wanted t0_owners t0_places t0_spans t0_partNodes t0_count t1_signs t1_wanted t1_owners t1_places t1_spans t1_partNodes t1_count wk_low_3 wk_mid_4 wk_high_5 wk_holds_6 rs_low rs_mid rs_high te_inputs te_dues te_count bl_uppers_7 bl_lowers_8 bl_runBits_9)) (tX0_weigh (a := a) (b := fun k => a (5 + k)) N g_12) gX11_rank_X0_weigh rfl ⟨rfl, rfl⟩ ⟨rfl, hdX0_weigh⟩ ⟨Nat.le_of_ble_eq_true rfl, Nat.le_of_ble_eq_true rfl⟩ rfl rfl [2, 3, 4, 5, 6, 7, 8, 16, 17, 18, 19, 20, 21, 22, 23, 24, 25, 26, 27, 28, 29, 30, 31] [0, 1, 9, 10, 11, 12, 13, 14, 15] [0, 1, 9, 10, 11, 12, 13, 14, 15, 2, 3, 4, 5, 6, 7, 8, 16, 17, 18, 19, 20, 21, 22, 23, 24, 25, 26, 27, 28, 29, 30, 31] rfl rfl rfl rfl rfl rfl rfl rfl hl.1 rfl (Nat.le_of_ble_eq_true rfl) ⟨Nat.zero_le _, Nat.zero_le _⟩ dX11_rank_21 (fun H locs B => ?_)
    refine lv_aload_n hx hb dX11_rank_24 rfl (lv_at hl 0 rfl) ?_
    refine gfX11_rank_78 C B 0 rfl rfl dX11_rank_25 ?_
    refine lv_iload_n hx hb dX11_rank_28 rfl (lv_at hl 1 rfl) ?_
    refine lv_aload_n hx hb dX11_rank_29 rfl (lv_at hl 0 rfl) ?_
    refine gfX11_rank_19 C B 0 rfl rfl dX11_rank_30 ?_
    refine lv_iconst (v := 0) hx hb dX11_rank_33 (by decide) ?_
    refine k_ald0 C B 1 rfl rfl rfl dX11_rank_34 ?_
    refine gfX11_rank_120 C B 2 rfl rfl dX11_rank_35 ?_
    obtain ⟨r_10, g_11, h⟩ := ob_some h
    try dsimp only at h
    refine kc_VI C B (q0 := 0) (ci := 0) (As := [.int x1, .int t0_count]) (rest := []) (w2 := (wd_nt_t0_t1_wk_rs_te_bl a b cI cJ cT t0_signs t0_wanted t0_owners t0_places t0_spans t0_partNodes t0_count t1_signs t1_wanted t1_owners t1_places t1_spans t1_partNodes t1_count wk_low_3 wk_mid_4 wk_high_5 wk_holds_6 rs_low rs_mid rs_high te_inputs te_dues te_count bl_uppers_7 bl_lowers_8 bl_runBits_9)) (tX0_nodeAtPlace (a := a) (b := b) N g_11) gX11_rank_X0_nodeAtPlace rfl ⟨rfl, rfl⟩ ⟨rfl, hdX0_nodeAtPlace⟩ ⟨Nat.le_of_ble_eq_true rfl, Nat.le_of_ble_eq_true rfl⟩ rfl rfl [28, 29, 30, 31] [0, 1, 2, 3, 4, 5, 6, 7, 8, 9, 10, 11, 12, 13, 14, 15, 16, 17, 18, 19, 20, 21, 22, 23, 24, 25, 26, 27] [0, 1, 2, 3, 4, 5, 6, 7, 8, 9, 10, 11, 12, 13, 14, 15, 16, 17, 18, 19, 20, 21, 22, 23, 24, 25, 26, 27, 28, 29, 30, 31] rfl rfl rfl rfl rfl rfl rfl rfl hl.1 rfl (Nat.le_of_ble_eq_true rfl) ⟨Nat.zero_le _, Nat.zero_le _⟩ dX11_rank_38 (fun H locs B => ?_)
    cases h
    exact k_iret C B dX11_rank_41
  · rw [if_pos c_2] at h
    refine lv_bipush (v := -6) hx hb dX11_rank_8 (by decide) ?_
    cases h
    exact k_iret C B dX11_rank_10
end
theorem tX11_rank {l : Launch} {D : va_G} {Es : (Nat → Nat) × (Nat → Nat)} {a b : Nat → Nat} {cI cJ cT : ClassId} {t0_signs : Nat → Int32} {t0_wanted : Nat → Int32} {t0_owners : Nat → Int32} {t0_places : Nat → Int32} {t0_spans : Nat → Int32} {t0_partNodes : Nat → Int32} {t0_count : Int32} {t1_signs : Nat → Int32} {t1_wanted : Nat → Int32} {t1_owners : Nat → Int32} {t1_places : Nat → Int32} {t1_spans : Nat → Int32} {t1_partNodes : Nat → Int32} {t1_count : Int32} {wk_low : Nat → Int64} {wk_mid : Nat → Int64} {wk_high : Nat → Int64} {wk_holds : Nat → Int64} {rs_low : Nat → Int64} {rs_mid : Nat → Int64} {rs_high : Nat → Int64} {te_inputs : Nat → Int32} {te_dues : Nat → Int32} {te_count : Int32} {bl_uppers : Nat → Int32} {bl_lowers : Nat → Int32} {bl_runBits : Nat → Int32} {x1 : Int32} {z_r : Int32} {z_wk_low : Nat → Int64} {z_wk_mid : Nat → Int64} {z_wk_high : Nat → Int64} {z_wk_holds : Nat → Int64} {z_bl_uppers : Nat → Int32} {z_bl_lowers : Nat → Int32} {z_bl_runBits : Nat → Int32} (N : Nat) (h : fX11_rank N t0_signs t0_wanted t0_owners t0_places t0_partNodes t0_count t1_signs t1_wanted t1_owners t1_places t1_partNodes t1_count rs_low rs_mid rs_high te_inputs te_dues te_count x1 wk_low wk_mid wk_high wk_holds bl_uppers bl_lowers bl_runBits = some (z_r, z_wk_low, z_wk_mid, z_wk_high, z_wk_holds, z_bl_uppers, z_bl_lowers, z_bl_runBits)) : CtI l yX11_rank wsX11_rank rmX11_rank D (tyl cI cJ cT) Es [.ref (a 0), .int x1] (wd_nt_t0_t1_wk_rs_te_bl a b cI cJ cT t0_signs t0_wanted t0_owners t0_places t0_spans t0_partNodes t0_count t1_signs t1_wanted t1_owners t1_places t1_spans t1_partNodes t1_count wk_low wk_mid wk_high wk_holds rs_low rs_mid rs_high te_inputs te_dues te_count bl_uppers bl_lowers bl_runBits) z_r (wd_nt_t0_t1_wk_rs_te_bl a b cI cJ cT t0_signs t0_wanted t0_owners t0_places t0_spans t0_partNodes t0_count t1_signs t1_wanted t1_owners t1_places t1_spans t1_partNodes t1_count z_wk_low z_wk_mid z_wk_high z_wk_holds rs_low rs_mid rs_high te_inputs te_dues te_count z_bl_uppers z_bl_lowers z_bl_runBits) :=
  CtI.of (own := RX11) (cc := cX11_rank) (nL := 2) (ret := (some .int)) (by decide +kernel) rfl rfl (Nat.le_of_ble_eq_true rfl) rfl (fun p e s m below meth c A ls C B hl => qX11_rank_0 C (N := N) x1 wk_low wk_mid wk_high wk_holds bl_uppers bl_lowers bl_runBits h _ _ _ B hl)

abbrev rmX11_mend : Room := { frames := 5, cells := 0, slots := 0, locals := 111 }
theorem hdX11_mend : yX11_mend.cls ≠ "java/lang/invoke/MethodHandle" ∧ yX11_mend.cls ≠ "java/lang/invoke/VarHandle" ∧ (parseMethodDescriptor yX11_mend.desc).map (fun d => d.parameters.length) = some 1 := by decide +kernel
theorem iX11_mend_X11 : ∀ w ∈ wsX110, w ∈ wsX11_mend := by decide +kernel
theorem gfX11_mend_51 {p : Program} {l : Launch} {e : Env} {R : Room} {s : State} {m : MethodId} {args : Array Value} {below : List Frame} {meth : Method} {c : Code} {H : Heap} {locs : List Loc} {cells slots : Nat} {Q : State → Prop} {D : va_G} {A : Nat → Prop} {tys : List (ClassId × FieldType)} {Es : (Nat → Nat) × (Nat → Nat)} {ws : va_W} {pc : Nat} {ls : Array Slot} {rest : List Value} {a : Nat} (C : CT p s m args meth c RX11 cX11_mend 2 (some .int) wsX11_mend D A tys Es) (B : DB D A ws s H locs) (q0 : Nat) {fs : List Value} {v : Value} (he : ws[q0]? = some (a, .inr (11, fs))) (hv : fs[5]? = some v) (hdg : decode cX11_mend pc = .ok (.getfield 51, 3)) (kk : W p l e R s m args below meth c H locs cells slots Q (F0 m (pc + 3) ls (v :: rest))) : W p l e R s m args below meth c H locs cells slots Q (F0 m pc ls (.ref a :: rest)) :=
  k_get (Cn := RX11) (T := TX11) (N := 11) (index := 51) C B iX11_mend_X11 rfl 5 (by decide) (by decide +kernel) q0 he hv hdg kk
theorem gfX11_mend_85 {p : Program} {l : Launch} {e : Env} {R : Room} {s : State} {m : MethodId} {args : Array Value} {below : List Frame} {meth : Method} {c : Code} {H : Heap} {locs : List Loc} {cells slots : Nat} {Q : State → Prop} {D : va_G} {A : Nat → Prop} {tys : List (ClassId × FieldType)} {Es : (Nat → Nat) × (Nat → Nat)} {ws : va_W} {pc : Nat} {ls : Array Slot} {rest : List Value} {a : Nat} (C : CT p s m args meth c RX11 cX11_mend 2 (some .int) wsX11_mend D A tys Es) (B : DB D A ws s H locs) (q0 : Nat) {fs : List Value} {v : Value} (he : ws[q0]? = some (a, .inr (11, fs))) (hv : fs[9]? = some v) (hdg : decode cX11_mend pc = .ok (.getfield 85, 3)) (kk : W p l e R s m args below meth c H locs cells slots Q (F0 m (pc + 3) ls (v :: rest))) : W p l e R s m args below meth c H locs cells slots Q (F0 m pc ls (.ref a :: rest)) :=
  k_get (Cn := RX11) (T := TX11) (N := 11) (index := 85) C B iX11_mend_X11 rfl 9 (by decide) (by decide +kernel) q0 he hv hdg kk
theorem iX11_mend_X3 : ∀ w ∈ wsX30, w ∈ wsX11_mend := by decide +kernel
theorem gfX11_mend_248 {p : Program} {l : Launch} {e : Env} {R : Room} {s : State} {m : MethodId} {args : Array Value} {below : List Frame} {meth : Method} {c : Code} {H : Heap} {locs : List Loc} {cells slots : Nat} {Q : State → Prop} {D : va_G} {A : Nat → Prop} {tys : List (ClassId × FieldType)} {Es : (Nat → Nat) × (Nat → Nat)} {ws : va_W} {pc : Nat} {ls : Array Slot} {rest : List Value} {a : Nat} (C : CT p s m args meth c RX11 cX11_mend 2 (some .int) wsX11_mend D A tys Es) (B : DB D A ws s H locs) (q0 : Nat) {fs : List Value} {v : Value} (he : ws[q0]? = some (a, .inr (3, fs))) (hv : fs[1]? = some v) (hdg : decode cX11_mend pc = .ok (.getfield 248, 3)) (kk : W p l e R s m args below meth c H locs cells slots Q (F0 m (pc + 3) ls (v :: rest))) : W p l e R s m args below meth c H locs cells slots Q (F0 m pc ls (.ref a :: rest)) :=
  k_get (Cn := RX3) (T := TX3) (N := 5) (index := 248) C B iX11_mend_X3 rfl 1 (by decide) (by decide +kernel) q0 he hv hdg kk
theorem gfX11_mend_252 {p : Program} {l : Launch} {e : Env} {R : Room} {s : State} {m : MethodId} {args : Array Value} {below : List Frame} {meth : Method} {c : Code} {H : Heap} {locs : List Loc} {cells slots : Nat} {Q : State → Prop} {D : va_G} {A : Nat → Prop} {tys : List (ClassId × FieldType)} {Es : (Nat → Nat) × (Nat → Nat)} {ws : va_W} {pc : Nat} {ls : Array Slot} {rest : List Value} {a : Nat} (C : CT p s m args meth c RX11 cX11_mend 2 (some .int) wsX11_mend D A tys Es) (B : DB D A ws s H locs) (q0 : Nat) {fs : List Value} {v : Value} (he : ws[q0]? = some (a, .inr (3, fs))) (hv : fs[0]? = some v) (hdg : decode cX11_mend pc = .ok (.getfield 252, 3)) (kk : W p l e R s m args below meth c H locs cells slots Q (F0 m (pc + 3) ls (v :: rest))) : W p l e R s m args below meth c H locs cells slots Q (F0 m pc ls (.ref a :: rest)) :=
  k_get (Cn := RX3) (T := TX3) (N := 5) (index := 252) C B iX11_mend_X3 rfl 0 (by decide) (by decide +kernel) q0 he hv hdg kk
section
variable {p : Program} {l : Launch} {e : Env} {s : State} {m : MethodId} {args : Array Value} {below : List Frame} {meth : Method} {c : Code} {D : va_G} {A : Nat → Prop} {Es : (Nat → Nat) × (Nat → Nat)} {a b : Nat → Nat} {cI cJ cT : ClassId}
set_option maxHeartbeats 4000000 in
set_option maxRecDepth 100000 in
theorem qX11_mend_0 (C : CT p s m args meth c RX11 cX11_mend 2 (some .int) wsX11_mend D A (tyl cI cJ cT) Es) {N : Nat} {rs_low : Nat → Int64} {rs_mid : Nat → Int64} {rs_high : Nat → Int64} {ch_nodes : Nat → Int32} {ch_signs : Nat → Int32} {ch_felt : Nat → Int32} {ch_count : Int32} {te_inputs : Nat → Int32} {te_dues : Nat → Int32} {te_count : Int32} {z_r : Int32} {z_me_found : Nat → Int32} {z_me_count : Int32} : ∀ (x1 : Int32) (me_found : Nat → Int32) (me_count : Int32), fX11_mend N rs_low rs_mid rs_high ch_count te_inputs te_dues te_count x1 me_found me_count = some (z_r, z_me_found, z_me_count) → ∀ (H : Heap) (locs : List Loc) (ls : Array Slot), DB D A (wd_nt_rs_ch_te_me a b cI cJ cT rs_low rs_mid rs_high ch_nodes ch_signs ch_felt ch_count te_inputs te_dues te_count me_found me_count) s H locs → lv_has ls 2 [(0, .ref (a 0)), (1, .int x1)] → W p l e rmX11_mend s m args below meth c H locs 0 0 (ZI below args s D A (tyl cI cJ cT) z_r (wd_nt_rs_ch_te_me a b cI cJ cT rs_low rs_mid rs_high ch_nodes ch_signs ch_felt ch_count te_inputs te_dues te_count z_me_found z_me_count) 0 0) (F0 m 0 ls []) := by
  have hx := C.1.1
  have hb := C.1.2.1
  have hown := C.1.2.2.2.1
  have hts := C.1.2.2.2.2
  intro x1 me_found me_count h H locs ls B hl
  rw [fX11_mend] at h
  refine lv_aload_n hx hb dX11_mend_0 rfl (lv_at hl 0 rfl) ?_
  refine gfX11_mend_51 C B 0 rfl rfl dX11_mend_1 ?_
  obtain ⟨r_1, g_13, h⟩ := ob_some h
  try dsimp only at h
  refine kc_VI C B (q0 := 4) (ci := 8) (As := []) (rest := []) (w2 := (wd_nt_rs_ch_te_me a b cI cJ cT rs_low rs_mid rs_high ch_nodes ch_signs ch_felt ch_count te_inputs te_dues te_count me_found me_count)) (tX8_failing (a := a) (b := b) N g_13) gX11_mend_X8_failing rfl ⟨rfl, rfl⟩ ⟨rfl, hdX8_failing⟩ ⟨Nat.le_of_ble_eq_true rfl, Nat.le_of_ble_eq_true rfl⟩ rfl rfl [2, 3, 4, 5, 10, 11, 12] [0, 1, 6, 7, 8, 9, 13, 14] [0, 1, 8, 9, 10, 11, 2, 3, 4, 5, 12, 13, 14, 6, 7] rfl rfl rfl rfl rfl rfl rfl rfl hl.1 rfl (Nat.le_of_ble_eq_true rfl) ⟨Nat.zero_le _, Nat.zero_le _⟩ dX11_mend_4 (fun H locs B => ?_)
  refine lv_if_ne (tgt := 13) hx hb dX11_mend_7 (by decide) (fun c_2 => ?_) (fun c_2 => ?_)
  · rw [if_neg c_2] at h
    refine lv_aload_n hx hb dX11_mend_13 rfl (lv_at hl 0 rfl) ?_
    refine gfX11_mend_85 C B 0 rfl rfl dX11_mend_14 ?_
    obtain ⟨⟨me_found_3, me_count_4⟩, g_12, h⟩ := ob_some h
    try dsimp only at h
    refine kc_VV C B (q0 := 11) (ci := 3) (As := []) (rest := []) (w2 := (wd_nt_rs_ch_te_me a b cI cJ cT rs_low rs_mid rs_high ch_nodes ch_signs ch_felt ch_count te_inputs te_dues te_count me_found_3 me_count_4)) (tX3_find (a := a) (b := b) N g_12) gX11_mend_X3_find rfl ⟨rfl, rfl⟩ ⟨rfl, hdX3_find⟩ ⟨Nat.le_of_ble_eq_true rfl, Nat.le_of_ble_eq_true rfl⟩ rfl rfl [2, 3, 4, 5, 6, 7, 8, 9, 10, 11, 12, 13, 14] [0, 1] [0, 1, 2, 3, 4, 5, 6, 7, 8, 9, 10, 11, 12, 13, 14] rfl rfl rfl rfl rfl rfl rfl rfl hl.1 rfl (Nat.le_of_ble_eq_true rfl) ⟨Nat.zero_le _, Nat.zero_le _⟩ dX11_mend_17 (fun H locs B => ?_)
    refine lv_iload_n hx hb dX11_mend_20 rfl (lv_at hl 1 rfl) ?_
    refine lv_iconst (v := -1) hx hb dX11_mend_21 (by decide) ?_
    refine lv_icmp_ne (tgt := 33) hx hb dX11_mend_22 (by decide) (fun c_5 => ?_) (fun c_5 => ?_)
    · rw [if_neg c_5] at h
      refine lv_iload_n hx hb dX11_mend_33 rfl (lv_at hl 1 rfl) ?_
      refine lv_bipush (v := -2) hx hb dX11_mend_34 (by decide) ?_
      refine lv_icmp_ne (tgt := 47) hx hb dX11_mend_36 (by decide) (fun c_6 => ?_) (fun c_6 => ?_)
      · rw [if_neg c_6] at h
        refine lv_iload_n hx hb dX11_mend_47 rfl (lv_at hl 1 rfl) ?_
        refine lv_if_lt (tgt := 74) hx hb dX11_mend_48 (by decide) (fun c_7 => ?_) (fun c_7 => ?_)
        · rw [if_pos c_7] at h
          refine lv_bipush (v := -6) hx hb dX11_mend_74 (by decide) ?_
          cases h
          exact k_iret C B dX11_mend_76
        · rw [if_neg c_7] at h
          refine lv_iload_n hx hb dX11_mend_51 rfl (lv_at hl 1 rfl) ?_
          refine lv_aload_n hx hb dX11_mend_52 rfl (lv_at hl 0 rfl) ?_
          refine gfX11_mend_85 C B 0 rfl rfl dX11_mend_53 ?_
          refine gfX11_mend_248 C B 13 rfl rfl dX11_mend_56 ?_
          refine lv_icmp_ge (tgt := 74) hx hb dX11_mend_59 (by decide) (fun c_8 => ?_) (fun c_8 => ?_)
          · rw [if_pos c_8] at h
            refine lv_bipush (v := -6) hx hb dX11_mend_74 (by decide) ?_
            cases h
            exact k_iret C B dX11_mend_76
          · rw [if_neg c_8] at h
            refine lv_aload_n hx hb dX11_mend_62 rfl (lv_at hl 0 rfl) ?_
            refine gfX11_mend_85 C B 0 rfl rfl dX11_mend_63 ?_
            refine gfX11_mend_252 C B 13 rfl rfl dX11_mend_66 ?_
            refine lv_iload_n hx hb dX11_mend_69 rfl (lv_at hl 1 rfl) ?_
            obtain ⟨b_9, h⟩ := bnd_some h
            refine k_iald C B 14 0 rfl rfl b_9 dX11_mend_70 ?_
            refine lv_goto (tgt := 76) hx hb dX11_mend_71 (by decide) ?_
            cases h
            exact k_iret C B dX11_mend_76
      · rw [if_pos c_6] at h
        refine lv_aload_n hx hb dX11_mend_39 rfl (lv_at hl 0 rfl) ?_
        refine gfX11_mend_85 C B 0 rfl rfl dX11_mend_40 ?_
        obtain ⟨r_10, g_11, h⟩ := ob_some h
        try dsimp only at h
        refine kc_VI C B (q0 := 4) (ci := 3) (As := []) (rest := []) (w2 := (wd_nt_rs_ch_te_me a b cI cJ cT rs_low rs_mid rs_high ch_nodes ch_signs ch_felt ch_count te_inputs te_dues te_count me_found_3 me_count_4)) (tX3_kinds (a := a) (b := b) N g_11) gX11_mend_X3_kinds rfl ⟨rfl, rfl⟩ ⟨rfl, hdX3_kinds⟩ ⟨Nat.le_of_ble_eq_true rfl, Nat.le_of_ble_eq_true rfl⟩ rfl rfl [2, 3, 4, 5, 13, 14] [0, 1, 6, 7, 8, 9, 10, 11, 12] [0, 1, 9, 10, 11, 12, 2, 3, 4, 5, 6, 7, 8, 13, 14] rfl rfl rfl rfl rfl rfl rfl rfl hl.1 rfl (Nat.le_of_ble_eq_true rfl) ⟨Nat.zero_le _, Nat.zero_le _⟩ dX11_mend_43 (fun H locs B => ?_)
        cases h
        exact k_iret C B dX11_mend_46
    · rw [if_pos c_5] at h
      refine lv_aload_n hx hb dX11_mend_25 rfl (lv_at hl 0 rfl) ?_
      refine gfX11_mend_85 C B 0 rfl rfl dX11_mend_26 ?_
      refine gfX11_mend_248 C B 13 rfl rfl dX11_mend_29 ?_
      cases h
      exact k_iret C B dX11_mend_32
  · rw [if_pos c_2] at h
    refine lv_bipush (v := -3) hx hb dX11_mend_10 (by decide) ?_
    cases h
    exact k_iret C B dX11_mend_12
end
theorem tX11_mend {l : Launch} {D : va_G} {Es : (Nat → Nat) × (Nat → Nat)} {a b : Nat → Nat} {cI cJ cT : ClassId} {rs_low : Nat → Int64} {rs_mid : Nat → Int64} {rs_high : Nat → Int64} {ch_nodes : Nat → Int32} {ch_signs : Nat → Int32} {ch_felt : Nat → Int32} {ch_count : Int32} {te_inputs : Nat → Int32} {te_dues : Nat → Int32} {te_count : Int32} {me_found : Nat → Int32} {me_count : Int32} {x1 : Int32} {z_r : Int32} {z_me_found : Nat → Int32} {z_me_count : Int32} (N : Nat) (h : fX11_mend N rs_low rs_mid rs_high ch_count te_inputs te_dues te_count x1 me_found me_count = some (z_r, z_me_found, z_me_count)) : CtI l yX11_mend wsX11_mend rmX11_mend D (tyl cI cJ cT) Es [.ref (a 0), .int x1] (wd_nt_rs_ch_te_me a b cI cJ cT rs_low rs_mid rs_high ch_nodes ch_signs ch_felt ch_count te_inputs te_dues te_count me_found me_count) z_r (wd_nt_rs_ch_te_me a b cI cJ cT rs_low rs_mid rs_high ch_nodes ch_signs ch_felt ch_count te_inputs te_dues te_count z_me_found z_me_count) :=
  CtI.of (own := RX11) (cc := cX11_mend) (nL := 2) (ret := (some .int)) (by decide +kernel) rfl rfl (Nat.le_of_ble_eq_true rfl) rfl (fun p e s m below meth c A ls C B hl => qX11_mend_0 C (N := N) x1 me_found me_count h _ _ _ B hl)

abbrev rmX11_parts : Room := { frames := 4, cells := 0, slots := 0, locals := 91 }
theorem hdX11_parts : yX11_parts.cls ≠ "java/lang/invoke/MethodHandle" ∧ yX11_parts.cls ≠ "java/lang/invoke/VarHandle" ∧ (parseMethodDescriptor yX11_parts.desc).map (fun d => d.parameters.length) = some 1 := by decide +kernel
theorem iX11_parts_X11 : ∀ w ∈ wsX110, w ∈ wsX11_parts := by decide +kernel
theorem gfX11_parts_35 {p : Program} {l : Launch} {e : Env} {R : Room} {s : State} {m : MethodId} {args : Array Value} {below : List Frame} {meth : Method} {c : Code} {H : Heap} {locs : List Loc} {cells slots : Nat} {Q : State → Prop} {D : va_G} {A : Nat → Prop} {tys : List (ClassId × FieldType)} {Es : (Nat → Nat) × (Nat → Nat)} {ws : va_W} {pc : Nat} {ls : Array Slot} {rest : List Value} {a : Nat} (C : CT p s m args meth c RX11 cX11_parts 2 (some .int) wsX11_parts D A tys Es) (B : DB D A ws s H locs) (q0 : Nat) {fs : List Value} {v : Value} (he : ws[q0]? = some (a, .inr (11, fs))) (hv : fs[3]? = some v) (hdg : decode cX11_parts pc = .ok (.getfield 35, 3)) (kk : W p l e R s m args below meth c H locs cells slots Q (F0 m (pc + 3) ls (v :: rest))) : W p l e R s m args below meth c H locs cells slots Q (F0 m pc ls (.ref a :: rest)) :=
  k_get (Cn := RX11) (T := TX11) (N := 11) (index := 35) C B iX11_parts_X11 rfl 3 (by decide) (by decide +kernel) q0 he hv hdg kk
theorem gfX11_parts_92 {p : Program} {l : Launch} {e : Env} {R : Room} {s : State} {m : MethodId} {args : Array Value} {below : List Frame} {meth : Method} {c : Code} {H : Heap} {locs : List Loc} {cells slots : Nat} {Q : State → Prop} {D : va_G} {A : Nat → Prop} {tys : List (ClassId × FieldType)} {Es : (Nat → Nat) × (Nat → Nat)} {ws : va_W} {pc : Nat} {ls : Array Slot} {rest : List Value} {a : Nat} (C : CT p s m args meth c RX11 cX11_parts 2 (some .int) wsX11_parts D A tys Es) (B : DB D A ws s H locs) (q0 : Nat) {fs : List Value} {v : Value} (he : ws[q0]? = some (a, .inr (11, fs))) (hv : fs[10]? = some v) (hdg : decode cX11_parts pc = .ok (.getfield 92, 3)) (kk : W p l e R s m args below meth c H locs cells slots Q (F0 m (pc + 3) ls (v :: rest))) : W p l e R s m args below meth c H locs cells slots Q (F0 m pc ls (.ref a :: rest)) :=
  k_get (Cn := RX11) (T := TX11) (N := 11) (index := 92) C B iX11_parts_X11 rfl 10 (by decide) (by decide +kernel) q0 he hv hdg kk
section
variable {p : Program} {l : Launch} {e : Env} {s : State} {m : MethodId} {args : Array Value} {below : List Frame} {meth : Method} {c : Code} {D : va_G} {A : Nat → Prop} {Es : (Nat → Nat) × (Nat → Nat)} {a b : Nat → Nat} {cI cJ cT : ClassId}
set_option maxHeartbeats 4000000 in
set_option maxRecDepth 100000 in
theorem qX11_parts_0 (C : CT p s m args meth c RX11 cX11_parts 2 (some .int) wsX11_parts D A (tyl cI cJ cT) Es) {N : Nat} {rs_low : Nat → Int64} {rs_mid : Nat → Int64} {rs_high : Nat → Int64} {pa_lowest : Int32} {pa_steps : Int32} {z_r : Int32} : ∀ (x1 : Int32), fX11_parts N rs_low rs_mid rs_high x1 = some z_r → ∀ (H : Heap) (locs : List Loc) (ls : Array Slot), DB D A (wd_nt_rs_pa a b cI cJ cT rs_low rs_mid rs_high pa_lowest pa_steps) s H locs → lv_has ls 2 [(0, .ref (a 0)), (1, .int x1)] → W p l e rmX11_parts s m args below meth c H locs 0 0 (ZI below args s D A (tyl cI cJ cT) z_r (wd_nt_rs_pa a b cI cJ cT rs_low rs_mid rs_high pa_lowest pa_steps) 0 0) (F0 m 0 ls []) := by
  have hx := C.1.1
  have hb := C.1.2.1
  have hown := C.1.2.2.2.1
  have hts := C.1.2.2.2.2
  intro x1 h H locs ls B hl
  rw [fX11_parts] at h
  refine lv_iload_n hx hb dX11_parts_0 rfl (lv_at hl 1 rfl) ?_
  by_cases c_1 : x1 = 0
  · rw [if_pos c_1] at h
    refine lv_lookup (off := 27) (tgt := 28) hx hb dX11_parts_1 (by decide) (by rw [c_1]; try rfl) (by decide) ?_
    refine lv_aload_n hx hb dX11_parts_28 rfl (lv_at hl 0 rfl) ?_
    refine gfX11_parts_35 C B 0 rfl rfl dX11_parts_29 ?_
    refine lv_iconst (v := 0) hx hb dX11_parts_32 (by decide) ?_
    refine lv_iconst (v := 1) hx hb dX11_parts_33 (by decide) ?_
    obtain ⟨r_2, g_3, h⟩ := ob_some h
    try dsimp only at h
    refine kc_VI C B (q0 := 0) (ci := 7) (As := [.int (0 : Int32), .int (1 : Int32)]) (rest := []) (w2 := (wd_nt_rs_pa a b cI cJ cT rs_low rs_mid rs_high pa_lowest pa_steps)) (tX7_unlikeMany (a := a) (b := b) N g_3) gX11_parts_X7_unlikeMany rfl ⟨rfl, rfl⟩ ⟨rfl, hdX7_unlikeMany⟩ ⟨Nat.le_of_ble_eq_true rfl, Nat.le_of_ble_eq_true rfl⟩ rfl rfl [2, 3, 4, 5] [0, 1, 6] [0, 1, 3, 4, 5, 6, 2] rfl rfl rfl rfl rfl rfl rfl rfl hl.1 rfl (Nat.le_of_ble_eq_true rfl) ⟨Nat.zero_le _, Nat.zero_le _⟩ dX11_parts_34 (fun H locs B => ?_)
    cases h
    exact k_iret C B dX11_parts_37
  · rw [if_neg c_1] at h
    by_cases c_4 : x1 = 1
    · rw [if_pos c_4] at h
      refine lv_lookup (off := 37) (tgt := 38) hx hb dX11_parts_1 (by decide) (by rw [c_4]; try rfl) (by decide) ?_
      refine lv_aload_n hx hb dX11_parts_38 rfl (lv_at hl 0 rfl) ?_
      refine gfX11_parts_92 C B 0 rfl rfl dX11_parts_39 ?_
      obtain ⟨r_5, g_6, h⟩ := ob_some h
      try dsimp only at h
      refine kc_VI C B (q0 := 4) (ci := 6) (As := []) (rest := []) (w2 := (wd_nt_rs_pa a b cI cJ cT rs_low rs_mid rs_high pa_lowest pa_steps)) (tX6_leastInputs (a := a) (b := b) N g_6) gX11_parts_X6_leastInputs rfl ⟨rfl, rfl⟩ ⟨rfl, hdX6_leastInputs⟩ ⟨Nat.le_of_ble_eq_true rfl, Nat.le_of_ble_eq_true rfl⟩ rfl rfl [2, 3, 4, 5, 6] [0, 1] [0, 1, 2, 3, 4, 5, 6] rfl rfl rfl rfl rfl rfl rfl rfl hl.1 rfl (Nat.le_of_ble_eq_true rfl) ⟨Nat.zero_le _, Nat.zero_le _⟩ dX11_parts_42 (fun H locs B => ?_)
      cases h
      exact k_iret C B dX11_parts_45
    · rw [if_neg c_4] at h
      refine lv_lookup (off := 45) (tgt := 46) hx hb dX11_parts_1 (by decide) ((lv_osw c_1 (k := 0) rfl).trans ((lv_osw c_4 (k := 1) rfl).trans rfl)) (by decide) ?_
      refine lv_bipush (v := -2) hx hb dX11_parts_46 (by decide) ?_
      cases h
      exact k_iret C B dX11_parts_48
end
theorem tX11_parts {l : Launch} {D : va_G} {Es : (Nat → Nat) × (Nat → Nat)} {a b : Nat → Nat} {cI cJ cT : ClassId} {rs_low : Nat → Int64} {rs_mid : Nat → Int64} {rs_high : Nat → Int64} {pa_lowest : Int32} {pa_steps : Int32} {x1 : Int32} {z_r : Int32} (N : Nat) (h : fX11_parts N rs_low rs_mid rs_high x1 = some z_r) : CtI l yX11_parts wsX11_parts rmX11_parts D (tyl cI cJ cT) Es [.ref (a 0), .int x1] (wd_nt_rs_pa a b cI cJ cT rs_low rs_mid rs_high pa_lowest pa_steps) z_r (wd_nt_rs_pa a b cI cJ cT rs_low rs_mid rs_high pa_lowest pa_steps) :=
  CtI.of (own := RX11) (cc := cX11_parts) (nL := 2) (ret := (some .int)) (by decide +kernel) rfl rfl (Nat.le_of_ble_eq_true rfl) rfl (fun p e s m below meth c A ls C B hl => qX11_parts_0 C (N := N) x1 h _ _ _ B hl)

abbrev rmX11_less : Room := { frames := 5, cells := 0, slots := 0, locals := 116 }
theorem hdX11_less : yX11_less.cls ≠ "java/lang/invoke/MethodHandle" ∧ yX11_less.cls ≠ "java/lang/invoke/VarHandle" ∧ (parseMethodDescriptor yX11_less.desc).map (fun d => d.parameters.length) = some 2 := by decide +kernel
theorem iX11_less_X11 : ∀ w ∈ wsX110, w ∈ wsX11_less := by decide +kernel
theorem gfX11_less_92 {p : Program} {l : Launch} {e : Env} {R : Room} {s : State} {m : MethodId} {args : Array Value} {below : List Frame} {meth : Method} {c : Code} {H : Heap} {locs : List Loc} {cells slots : Nat} {Q : State → Prop} {D : va_G} {A : Nat → Prop} {tys : List (ClassId × FieldType)} {Es : (Nat → Nat) × (Nat → Nat)} {ws : va_W} {pc : Nat} {ls : Array Slot} {rest : List Value} {a : Nat} (C : CT p s m args meth c RX11 cX11_less 3 (some .int) wsX11_less D A tys Es) (B : DB D A ws s H locs) (q0 : Nat) {fs : List Value} {v : Value} (he : ws[q0]? = some (a, .inr (11, fs))) (hv : fs[10]? = some v) (hdg : decode cX11_less pc = .ok (.getfield 92, 3)) (kk : W p l e R s m args below meth c H locs cells slots Q (F0 m (pc + 3) ls (v :: rest))) : W p l e R s m args below meth c H locs cells slots Q (F0 m pc ls (.ref a :: rest)) :=
  k_get (Cn := RX11) (T := TX11) (N := 11) (index := 92) C B iX11_less_X11 rfl 10 (by decide) (by decide +kernel) q0 he hv hdg kk
theorem iX11_less_X6 : ∀ w ∈ wsX60, w ∈ wsX11_less := by decide +kernel
theorem gfX11_less_270 {p : Program} {l : Launch} {e : Env} {R : Room} {s : State} {m : MethodId} {args : Array Value} {below : List Frame} {meth : Method} {c : Code} {H : Heap} {locs : List Loc} {cells slots : Nat} {Q : State → Prop} {D : va_G} {A : Nat → Prop} {tys : List (ClassId × FieldType)} {Es : (Nat → Nat) × (Nat → Nat)} {ws : va_W} {pc : Nat} {ls : Array Slot} {rest : List Value} {a : Nat} (C : CT p s m args meth c RX11 cX11_less 3 (some .int) wsX11_less D A tys Es) (B : DB D A ws s H locs) (q0 : Nat) {fs : List Value} {v : Value} (he : ws[q0]? = some (a, .inr (6, fs))) (hv : fs[1]? = some v) (hdg : decode cX11_less pc = .ok (.getfield 270, 3)) (kk : W p l e R s m args below meth c H locs cells slots Q (F0 m (pc + 3) ls (v :: rest))) : W p l e R s m args below meth c H locs cells slots Q (F0 m pc ls (.ref a :: rest)) :=
  k_get (Cn := RX6) (T := TX6) (N := 3) (index := 270) C B iX11_less_X6 rfl 1 (by decide) (by decide +kernel) q0 he hv hdg kk
theorem gfX11_less_267 {p : Program} {l : Launch} {e : Env} {R : Room} {s : State} {m : MethodId} {args : Array Value} {below : List Frame} {meth : Method} {c : Code} {H : Heap} {locs : List Loc} {cells slots : Nat} {Q : State → Prop} {D : va_G} {A : Nat → Prop} {tys : List (ClassId × FieldType)} {Es : (Nat → Nat) × (Nat → Nat)} {ws : va_W} {pc : Nat} {ls : Array Slot} {rest : List Value} {a : Nat} (C : CT p s m args meth c RX11 cX11_less 3 (some .int) wsX11_less D A tys Es) (B : DB D A ws s H locs) (q0 : Nat) {fs : List Value} {v : Value} (he : ws[q0]? = some (a, .inr (6, fs))) (hv : fs[0]? = some v) (hdg : decode cX11_less pc = .ok (.getfield 267, 3)) (kk : W p l e R s m args below meth c H locs cells slots Q (F0 m (pc + 3) ls (v :: rest))) : W p l e R s m args below meth c H locs cells slots Q (F0 m pc ls (.ref a :: rest)) :=
  k_get (Cn := RX6) (T := TX6) (N := 3) (index := 267) C B iX11_less_X6 rfl 0 (by decide) (by decide +kernel) q0 he hv hdg kk
section
variable {p : Program} {l : Launch} {e : Env} {s : State} {m : MethodId} {args : Array Value} {below : List Frame} {meth : Method} {c : Code} {D : va_G} {A : Nat → Prop} {Es : (Nat → Nat) × (Nat → Nat)} {a b : Nat → Nat} {cI cJ cT : ClassId}
set_option maxHeartbeats 4000000 in
set_option maxRecDepth 100000 in
theorem qX11_less_19 (C : CT p s m args meth c RX11 cX11_less 3 (some .int) wsX11_less D A (tyl cI cJ cT) Es) {N : Nat} {rs_low : Nat → Int64} {rs_mid : Nat → Int64} {rs_high : Nat → Int64} {z_r : Int32} {z_pa_lowest : Int32} {z_pa_steps : Int32} : ∀ (x1 : Int32) (x2 : Int32) (pa_lowest : Int32) (pa_steps : Int32), bX11_less_19 N rs_low rs_mid rs_high x1 x2 pa_lowest pa_steps = some (z_r, z_pa_lowest, z_pa_steps) → ∀ (H : Heap) (locs : List Loc) (ls : Array Slot), DB D A (wd_nt_rs_pa a b cI cJ cT rs_low rs_mid rs_high pa_lowest pa_steps) s H locs → lv_has ls 3 [(0, .ref (a 0)), (1, .int x1), (2, .int x2)] → W p l e rmX11_less s m args below meth c H locs 0 0 (ZI below args s D A (tyl cI cJ cT) z_r (wd_nt_rs_pa a b cI cJ cT rs_low rs_mid rs_high z_pa_lowest z_pa_steps) 0 0) (F0 m 19 ls []) := by
  have hx := C.1.1
  have hb := C.1.2.1
  have hown := C.1.2.2.2.1
  have hts := C.1.2.2.2.2
  intro x1 x2 pa_lowest pa_steps h H locs ls B hl
  rw [bX11_less_19] at h
  refine lv_aload_n hx hb dX11_less_19 rfl (lv_at hl 0 rfl) ?_
  refine gfX11_less_92 C B 0 rfl rfl dX11_less_20 ?_
  refine lv_iload_n hx hb dX11_less_23 rfl (lv_at hl 1 rfl) ?_
  obtain ⟨r_1, g_7, h⟩ := ob_some h
  try dsimp only at h
  refine kc_VI C B (q0 := 4) (ci := 6) (As := [.int x1]) (rest := []) (w2 := (wd_nt_rs_pa a b cI cJ cT rs_low rs_mid rs_high pa_lowest pa_steps)) (tX6_isAt (a := a) (b := b) N g_7) gX11_less_X6_isAt rfl ⟨rfl, rfl⟩ ⟨rfl, hdX6_isAt⟩ ⟨Nat.le_of_ble_eq_true rfl, Nat.le_of_ble_eq_true rfl⟩ rfl rfl [2, 3, 4, 5, 6] [0, 1] [0, 1, 2, 3, 4, 5, 6] rfl rfl rfl rfl rfl rfl rfl rfl hl.1 rfl (Nat.le_of_ble_eq_true rfl) ⟨Nat.zero_le _, Nat.zero_le _⟩ dX11_less_24 (fun H locs B => ?_)
  refine lv_if_ne (tgt := 33) hx hb dX11_less_27 (by decide) (fun c_2 => ?_) (fun c_2 => ?_)
  · rw [if_neg c_2] at h
    refine lv_aload_n hx hb dX11_less_33 rfl (lv_at hl 0 rfl) ?_
    refine gfX11_less_92 C B 0 rfl rfl dX11_less_34 ?_
    refine lv_iload_n hx hb dX11_less_37 rfl (lv_at hl 1 rfl) ?_
    obtain ⟨⟨pa_lowest_3, pa_steps_4⟩, g_6, h⟩ := ob_some h
    try dsimp only at h
    refine kc_VV C B (q0 := 4) (ci := 6) (As := [.int x1]) (rest := []) (w2 := (wd_nt_rs_pa a b cI cJ cT rs_low rs_mid rs_high pa_lowest_3 pa_steps_4)) (tX6_goDown (a := a) (b := b) N g_6) gX11_less_X6_goDown rfl ⟨rfl, rfl⟩ ⟨rfl, hdX6_goDown⟩ ⟨Nat.le_of_ble_eq_true rfl, Nat.le_of_ble_eq_true rfl⟩ rfl rfl [2, 3, 4, 5, 6] [0, 1] [0, 1, 2, 3, 4, 5, 6] rfl rfl rfl rfl rfl rfl rfl rfl hl.1 rfl (Nat.le_of_ble_eq_true rfl) ⟨Nat.zero_le _, Nat.zero_le _⟩ dX11_less_38 (fun H locs B => ?_)
    refine lv_iload_n hx hb dX11_less_41 rfl (lv_at hl 2 rfl) ?_
    refine lv_if_ne (tgt := 55) hx hb dX11_less_42 (by decide) (fun c_5 => ?_) (fun c_5 => ?_)
    · rw [if_neg c_5] at h
      refine lv_aload_n hx hb dX11_less_55 rfl (lv_at hl 0 rfl) ?_
      refine gfX11_less_92 C B 0 rfl rfl dX11_less_56 ?_
      refine gfX11_less_270 C B 6 rfl rfl dX11_less_59 ?_
      cases h
      exact k_iret C B dX11_less_62
    · rw [if_pos c_5] at h
      refine lv_aload_n hx hb dX11_less_45 rfl (lv_at hl 0 rfl) ?_
      refine gfX11_less_92 C B 0 rfl rfl dX11_less_46 ?_
      refine gfX11_less_267 C B 6 rfl rfl dX11_less_49 ?_
      refine lv_goto (tgt := 62) hx hb dX11_less_52 (by decide) ?_
      cases h
      exact k_iret C B dX11_less_62
  · rw [if_pos c_2] at h
    refine lv_bipush (v := -3) hx hb dX11_less_30 (by decide) ?_
    cases h
    exact k_iret C B dX11_less_32
set_option maxHeartbeats 4000000 in
set_option maxRecDepth 100000 in
theorem qX11_less_0 (C : CT p s m args meth c RX11 cX11_less 3 (some .int) wsX11_less D A (tyl cI cJ cT) Es) {N : Nat} {rs_low : Nat → Int64} {rs_mid : Nat → Int64} {rs_high : Nat → Int64} {z_r : Int32} {z_pa_lowest : Int32} {z_pa_steps : Int32} : ∀ (x1 : Int32) (x2 : Int32) (pa_lowest : Int32) (pa_steps : Int32), fX11_less N rs_low rs_mid rs_high x1 x2 pa_lowest pa_steps = some (z_r, z_pa_lowest, z_pa_steps) → ∀ (H : Heap) (locs : List Loc) (ls : Array Slot), DB D A (wd_nt_rs_pa a b cI cJ cT rs_low rs_mid rs_high pa_lowest pa_steps) s H locs → lv_has ls 3 [(0, .ref (a 0)), (1, .int x1), (2, .int x2)] → W p l e rmX11_less s m args below meth c H locs 0 0 (ZI below args s D A (tyl cI cJ cT) z_r (wd_nt_rs_pa a b cI cJ cT rs_low rs_mid rs_high z_pa_lowest z_pa_steps) 0 0) (F0 m 0 ls []) := by
  have hx := C.1.1
  have hb := C.1.2.1
  have hown := C.1.2.2.2.1
  have hts := C.1.2.2.2.2
  intro x1 x2 pa_lowest pa_steps h H locs ls B hl
  rw [fX11_less] at h
  refine lv_iload_n hx hb dX11_less_0 rfl (lv_at hl 1 rfl) ?_
  obtain ⟨r_1, g_5, h⟩ := ob_some h
  try dsimp only at h
  refine kc_SI C B (As := [.int x1]) (rest := []) (w2 := (wd_nt_rs_pa a b cI cJ cT rs_low rs_mid rs_high pa_lowest pa_steps)) (tX11_isInputs N g_5) gX11_less_X11_isInputs rfl ⟨rfl, rfl⟩ hdX11_isInputs ⟨Nat.le_of_ble_eq_true rfl, Nat.le_of_ble_eq_true rfl⟩ [] [0, 1, 2, 3, 4, 5, 6] [0, 1, 2, 3, 4, 5, 6] rfl rfl rfl rfl rfl rfl rfl rfl hl.1 rfl (Nat.le_of_ble_eq_true rfl) ⟨Nat.zero_le _, Nat.zero_le _⟩ dX11_less_1 (fun H locs B => ?_)
  refine lv_if_eq (tgt := 16) hx hb dX11_less_4 (by decide) (fun c_2 => ?_) (fun c_2 => ?_)
  · rw [if_pos c_2] at h
    refine lv_bipush (v := -2) hx hb dX11_less_16 (by decide) ?_
    cases h
    exact k_iret C B dX11_less_18
  · rw [if_neg c_2] at h
    refine lv_iload_n hx hb dX11_less_7 rfl (lv_at hl 2 rfl) ?_
    refine lv_if_eq (tgt := 19) hx hb dX11_less_8 (by decide) (fun c_3 => ?_) (fun c_3 => ?_)
    · rw [if_pos c_3] at h
      exact qX11_less_19 C x1 x2 pa_lowest pa_steps h H locs ls B (lv_sub hl [0, 1, 2] rfl)
    · rw [if_neg c_3] at h
      refine lv_iload_n hx hb dX11_less_11 rfl (lv_at hl 2 rfl) ?_
      refine lv_iconst (v := 1) hx hb dX11_less_12 (by decide) ?_
      refine lv_icmp_eq (tgt := 19) hx hb dX11_less_13 (by decide) (fun c_4 => ?_) (fun c_4 => ?_)
      · rw [if_pos c_4] at h
        exact qX11_less_19 C x1 x2 pa_lowest pa_steps h H locs ls B (lv_sub hl [0, 1, 2] rfl)
      · rw [if_neg c_4] at h
        refine lv_bipush (v := -2) hx hb dX11_less_16 (by decide) ?_
        cases h
        exact k_iret C B dX11_less_18
end
theorem tX11_less {l : Launch} {D : va_G} {Es : (Nat → Nat) × (Nat → Nat)} {a b : Nat → Nat} {cI cJ cT : ClassId} {rs_low : Nat → Int64} {rs_mid : Nat → Int64} {rs_high : Nat → Int64} {pa_lowest : Int32} {pa_steps : Int32} {x1 : Int32} {x2 : Int32} {z_r : Int32} {z_pa_lowest : Int32} {z_pa_steps : Int32} (N : Nat) (h : fX11_less N rs_low rs_mid rs_high x1 x2 pa_lowest pa_steps = some (z_r, z_pa_lowest, z_pa_steps)) : CtI l yX11_less wsX11_less rmX11_less D (tyl cI cJ cT) Es [.ref (a 0), .int x1, .int x2] (wd_nt_rs_pa a b cI cJ cT rs_low rs_mid rs_high pa_lowest pa_steps) z_r (wd_nt_rs_pa a b cI cJ cT rs_low rs_mid rs_high z_pa_lowest z_pa_steps) :=
  CtI.of (own := RX11) (cc := cX11_less) (nL := 3) (ret := (some .int)) (by decide +kernel) rfl rfl (Nat.le_of_ble_eq_true rfl) rfl (fun p e s m below meth c A ls C B hl => qX11_less_0 C (N := N) x1 x2 pa_lowest pa_steps h _ _ _ B hl)

abbrev rmX11_told : Room := { frames := 4, cells := 0, slots := 0, locals := 90 }
theorem hdX11_told : yX11_told.cls ≠ "java/lang/invoke/MethodHandle" ∧ yX11_told.cls ≠ "java/lang/invoke/VarHandle" ∧ (parseMethodDescriptor yX11_told.desc).map (fun d => d.parameters.length) = some 1 := by decide +kernel
theorem iX11_told_X11 : ∀ w ∈ wsX110, w ∈ wsX11_told := by decide +kernel
theorem gfX11_told_12 {p : Program} {l : Launch} {e : Env} {R : Room} {s : State} {m : MethodId} {args : Array Value} {below : List Frame} {meth : Method} {c : Code} {H : Heap} {locs : List Loc} {cells slots : Nat} {Q : State → Prop} {D : va_G} {A : Nat → Prop} {tys : List (ClassId × FieldType)} {Es : (Nat → Nat) × (Nat → Nat)} {ws : va_W} {pc : Nat} {ls : Array Slot} {rest : List Value} {a : Nat} (C : CT p s m args meth c RX11 cX11_told 2 (some .int) wsX11_told D A tys Es) (B : DB D A ws s H locs) (q0 : Nat) {fs : List Value} {v : Value} (he : ws[q0]? = some (a, .inr (11, fs))) (hv : fs[0]? = some v) (hdg : decode cX11_told pc = .ok (.getfield 12, 3)) (kk : W p l e R s m args below meth c H locs cells slots Q (F0 m (pc + 3) ls (v :: rest))) : W p l e R s m args below meth c H locs cells slots Q (F0 m pc ls (.ref a :: rest)) :=
  k_get (Cn := RX11) (T := TX11) (N := 11) (index := 12) C B iX11_told_X11 rfl 0 (by decide) (by decide +kernel) q0 he hv hdg kk
theorem iX11_told_X5 : ∀ w ∈ wsX50, w ∈ wsX11_told := by decide +kernel
theorem gfX11_told_100 {p : Program} {l : Launch} {e : Env} {R : Room} {s : State} {m : MethodId} {args : Array Value} {below : List Frame} {meth : Method} {c : Code} {H : Heap} {locs : List Loc} {cells slots : Nat} {Q : State → Prop} {D : va_G} {A : Nat → Prop} {tys : List (ClassId × FieldType)} {Es : (Nat → Nat) × (Nat → Nat)} {ws : va_W} {pc : Nat} {ls : Array Slot} {rest : List Value} {a : Nat} (C : CT p s m args meth c RX11 cX11_told 2 (some .int) wsX11_told D A tys Es) (B : DB D A ws s H locs) (q0 : Nat) {fs : List Value} {v : Value} (he : ws[q0]? = some (a, .inr (5, fs))) (hv : fs[1]? = some v) (hdg : decode cX11_told pc = .ok (.getfield 100, 3)) (kk : W p l e R s m args below meth c H locs cells slots Q (F0 m (pc + 3) ls (v :: rest))) : W p l e R s m args below meth c H locs cells slots Q (F0 m pc ls (.ref a :: rest)) :=
  k_get (Cn := RX5) (T := TX5) (N := 3) (index := 100) C B iX11_told_X5 rfl 1 (by decide) (by decide +kernel) q0 he hv hdg kk
theorem gfX11_told_19 {p : Program} {l : Launch} {e : Env} {R : Room} {s : State} {m : MethodId} {args : Array Value} {below : List Frame} {meth : Method} {c : Code} {H : Heap} {locs : List Loc} {cells slots : Nat} {Q : State → Prop} {D : va_G} {A : Nat → Prop} {tys : List (ClassId × FieldType)} {Es : (Nat → Nat) × (Nat → Nat)} {ws : va_W} {pc : Nat} {ls : Array Slot} {rest : List Value} {a : Nat} (C : CT p s m args meth c RX11 cX11_told 2 (some .int) wsX11_told D A tys Es) (B : DB D A ws s H locs) (q0 : Nat) {fs : List Value} {v : Value} (he : ws[q0]? = some (a, .inr (11, fs))) (hv : fs[1]? = some v) (hdg : decode cX11_told pc = .ok (.getfield 19, 3)) (kk : W p l e R s m args below meth c H locs cells slots Q (F0 m (pc + 3) ls (v :: rest))) : W p l e R s m args below meth c H locs cells slots Q (F0 m pc ls (.ref a :: rest)) :=
  k_get (Cn := RX11) (T := TX11) (N := 11) (index := 19) C B iX11_told_X11 rfl 1 (by decide) (by decide +kernel) q0 he hv hdg kk
theorem iX11_told_X9 : ∀ w ∈ wsX90, w ∈ wsX11_told := by decide +kernel
theorem gfX11_told_120 {p : Program} {l : Launch} {e : Env} {R : Room} {s : State} {m : MethodId} {args : Array Value} {below : List Frame} {meth : Method} {c : Code} {H : Heap} {locs : List Loc} {cells slots : Nat} {Q : State → Prop} {D : va_G} {A : Nat → Prop} {tys : List (ClassId × FieldType)} {Es : (Nat → Nat) × (Nat → Nat)} {ws : va_W} {pc : Nat} {ls : Array Slot} {rest : List Value} {a : Nat} (C : CT p s m args meth c RX11 cX11_told 2 (some .int) wsX11_told D A tys Es) (B : DB D A ws s H locs) (q0 : Nat) {fs : List Value} {v : Value} (he : ws[q0]? = some (a, .inr (9, fs))) (hv : fs[6]? = some v) (hdg : decode cX11_told pc = .ok (.getfield 120, 3)) (kk : W p l e R s m args below meth c H locs cells slots Q (F0 m (pc + 3) ls (v :: rest))) : W p l e R s m args below meth c H locs cells slots Q (F0 m pc ls (.ref a :: rest)) :=
  k_get (Cn := RX9) (T := TX9) (N := 7) (index := 120) C B iX11_told_X9 rfl 6 (by decide) (by decide +kernel) q0 he hv hdg kk
theorem gfX11_told_51 {p : Program} {l : Launch} {e : Env} {R : Room} {s : State} {m : MethodId} {args : Array Value} {below : List Frame} {meth : Method} {c : Code} {H : Heap} {locs : List Loc} {cells slots : Nat} {Q : State → Prop} {D : va_G} {A : Nat → Prop} {tys : List (ClassId × FieldType)} {Es : (Nat → Nat) × (Nat → Nat)} {ws : va_W} {pc : Nat} {ls : Array Slot} {rest : List Value} {a : Nat} (C : CT p s m args meth c RX11 cX11_told 2 (some .int) wsX11_told D A tys Es) (B : DB D A ws s H locs) (q0 : Nat) {fs : List Value} {v : Value} (he : ws[q0]? = some (a, .inr (11, fs))) (hv : fs[5]? = some v) (hdg : decode cX11_told pc = .ok (.getfield 51, 3)) (kk : W p l e R s m args below meth c H locs cells slots Q (F0 m (pc + 3) ls (v :: rest))) : W p l e R s m args below meth c H locs cells slots Q (F0 m pc ls (.ref a :: rest)) :=
  k_get (Cn := RX11) (T := TX11) (N := 11) (index := 51) C B iX11_told_X11 rfl 5 (by decide) (by decide +kernel) q0 he hv hdg kk
theorem iX11_told_X8 : ∀ w ∈ wsX80, w ∈ wsX11_told := by decide +kernel
theorem gfX11_told_157 {p : Program} {l : Launch} {e : Env} {R : Room} {s : State} {m : MethodId} {args : Array Value} {below : List Frame} {meth : Method} {c : Code} {H : Heap} {locs : List Loc} {cells slots : Nat} {Q : State → Prop} {D : va_G} {A : Nat → Prop} {tys : List (ClassId × FieldType)} {Es : (Nat → Nat) × (Nat → Nat)} {ws : va_W} {pc : Nat} {ls : Array Slot} {rest : List Value} {a : Nat} (C : CT p s m args meth c RX11 cX11_told 2 (some .int) wsX11_told D A tys Es) (B : DB D A ws s H locs) (q0 : Nat) {fs : List Value} {v : Value} (he : ws[q0]? = some (a, .inr (8, fs))) (hv : fs[2]? = some v) (hdg : decode cX11_told pc = .ok (.getfield 157, 3)) (kk : W p l e R s m args below meth c H locs cells slots Q (F0 m (pc + 3) ls (v :: rest))) : W p l e R s m args below meth c H locs cells slots Q (F0 m pc ls (.ref a :: rest)) :=
  k_get (Cn := RX8) (T := TX8) (N := 4) (index := 157) C B iX11_told_X8 rfl 2 (by decide) (by decide +kernel) q0 he hv hdg kk
section
variable {p : Program} {l : Launch} {e : Env} {s : State} {m : MethodId} {args : Array Value} {below : List Frame} {meth : Method} {c : Code} {D : va_G} {A : Nat → Prop} {Es : (Nat → Nat) × (Nat → Nat)} {a b : Nat → Nat} {cI cJ cT : ClassId}
set_option maxHeartbeats 4000000 in
set_option maxRecDepth 100000 in
theorem qX11_told_0 (C : CT p s m args meth c RX11 cX11_told 2 (some .int) wsX11_told D A (tyl cI cJ cT) Es) {N : Nat} {pd_signs : Nat → Int32} {pd_count : Int32} {pd_lacking : Nat → Int32} {t0_signs : Nat → Int32} {t0_wanted : Nat → Int32} {t0_owners : Nat → Int32} {t0_places : Nat → Int32} {t0_spans : Nat → Int32} {t0_partNodes : Nat → Int32} {t0_count : Int32} {t1_signs : Nat → Int32} {t1_wanted : Nat → Int32} {t1_owners : Nat → Int32} {t1_places : Nat → Int32} {t1_spans : Nat → Int32} {t1_partNodes : Nat → Int32} {t1_count : Int32} {rs_low : Nat → Int64} {rs_mid : Nat → Int64} {rs_high : Nat → Int64} {te_inputs : Nat → Int32} {te_dues : Nat → Int32} {te_count : Int32} {z_r : Int32} : ∀ (x1 : Int32), fX11_told N pd_count t0_count t1_count rs_low rs_mid rs_high te_inputs te_dues te_count x1 = some z_r → ∀ (H : Heap) (locs : List Loc) (ls : Array Slot), DB D A (wd_nt_pd_t0_t1_rs_te a b cI cJ cT pd_signs pd_count pd_lacking t0_signs t0_wanted t0_owners t0_places t0_spans t0_partNodes t0_count t1_signs t1_wanted t1_owners t1_places t1_spans t1_partNodes t1_count rs_low rs_mid rs_high te_inputs te_dues te_count) s H locs → lv_has ls 2 [(0, .ref (a 0)), (1, .int x1)] → W p l e rmX11_told s m args below meth c H locs 0 0 (ZI below args s D A (tyl cI cJ cT) z_r (wd_nt_pd_t0_t1_rs_te a b cI cJ cT pd_signs pd_count pd_lacking t0_signs t0_wanted t0_owners t0_places t0_spans t0_partNodes t0_count t1_signs t1_wanted t1_owners t1_places t1_spans t1_partNodes t1_count rs_low rs_mid rs_high te_inputs te_dues te_count) 0 0) (F0 m 0 ls []) := by
  have hx := C.1.1
  have hb := C.1.2.1
  have hown := C.1.2.2.2.1
  have hts := C.1.2.2.2.2
  intro x1 h H locs ls B hl
  rw [fX11_told] at h
  refine lv_iload_n hx hb dX11_told_0 rfl (lv_at hl 1 rfl) ?_
  by_cases c_1 : x1 = 0
  · rw [if_pos c_1] at h
    refine lv_tableIn (off := 35) (tgt := 36) hx hb dX11_told_1 (by rw [c_1]; decide) (by rw [c_1]; decide) (by rw [c_1]; try rfl) (by decide) ?_
    refine lv_aload_n hx hb dX11_told_36 rfl (lv_at hl 0 rfl) ?_
    refine gfX11_told_12 C B 0 rfl rfl dX11_told_37 ?_
    refine gfX11_told_100 C B 2 rfl rfl dX11_told_40 ?_
    cases h
    exact k_iret C B dX11_told_43
  · rw [if_neg c_1] at h
    by_cases c_2 : x1 = 1
    · rw [if_pos c_2] at h
      refine lv_tableIn (off := 43) (tgt := 44) hx hb dX11_told_1 (by rw [c_2]; decide) (by rw [c_2]; decide) (by rw [c_2]; try rfl) (by decide) ?_
      refine lv_aload_n hx hb dX11_told_44 rfl (lv_at hl 0 rfl) ?_
      refine gfX11_told_19 C B 0 rfl rfl dX11_told_45 ?_
      refine lv_iconst (v := 0) hx hb dX11_told_48 (by decide) ?_
      refine k_ald0 C B 1 rfl rfl rfl dX11_told_49 ?_
      refine gfX11_told_120 C B 5 rfl rfl dX11_told_50 ?_
      cases h
      exact k_iret C B dX11_told_53
    · rw [if_neg c_2] at h
      by_cases c_3 : x1 = 2
      · rw [if_pos c_3] at h
        refine lv_tableIn (off := 53) (tgt := 54) hx hb dX11_told_1 (by rw [c_3]; decide) (by rw [c_3]; decide) (by rw [c_3]; try rfl) (by decide) ?_
        refine lv_aload_n hx hb dX11_told_54 rfl (lv_at hl 0 rfl) ?_
        refine gfX11_told_19 C B 0 rfl rfl dX11_told_55 ?_
        refine lv_iconst (v := 1) hx hb dX11_told_58 (by decide) ?_
        refine k_ald1 C B 1 rfl rfl rfl dX11_told_59 ?_
        refine gfX11_told_120 C B 12 rfl rfl dX11_told_60 ?_
        cases h
        exact k_iret C B dX11_told_63
      · rw [if_neg c_3] at h
        by_cases c_4 : x1 = 3
        · rw [if_pos c_4] at h
          refine lv_tableIn (off := 63) (tgt := 64) hx hb dX11_told_1 (by rw [c_4]; decide) (by rw [c_4]; decide) (by rw [c_4]; try rfl) (by decide) ?_
          refine lv_aload_n hx hb dX11_told_64 rfl (lv_at hl 0 rfl) ?_
          refine gfX11_told_51 C B 0 rfl rfl dX11_told_65 ?_
          refine gfX11_told_157 C B 23 rfl rfl dX11_told_68 ?_
          cases h
          exact k_iret C B dX11_told_71
        · rw [if_neg c_4] at h
          by_cases c_5 : x1 = 4
          · rw [if_pos c_5] at h
            refine lv_tableIn (off := 71) (tgt := 72) hx hb dX11_told_1 (by rw [c_5]; decide) (by rw [c_5]; decide) (by rw [c_5]; try rfl) (by decide) ?_
            refine lv_aload_n hx hb dX11_told_72 rfl (lv_at hl 0 rfl) ?_
            refine gfX11_told_51 C B 0 rfl rfl dX11_told_73 ?_
            obtain ⟨r_6, g_7, h⟩ := ob_some h
            try dsimp only at h
            refine kc_VI C B (q0 := 4) (ci := 8) (As := []) (rest := []) (w2 := (wd_nt_pd_t0_t1_rs_te a b cI cJ cT pd_signs pd_count pd_lacking t0_signs t0_wanted t0_owners t0_places t0_spans t0_partNodes t0_count t1_signs t1_wanted t1_owners t1_places t1_spans t1_partNodes t1_count rs_low rs_mid rs_high te_inputs te_dues te_count)) (tX8_failing (a := a) (b := b) N g_7) gX11_told_X8_failing rfl ⟨rfl, rfl⟩ ⟨rfl, hdX8_failing⟩ ⟨Nat.le_of_ble_eq_true rfl, Nat.le_of_ble_eq_true rfl⟩ rfl rfl [19, 20, 21, 22, 23, 24, 25] [0, 1, 2, 3, 4, 5, 6, 7, 8, 9, 10, 11, 12, 13, 14, 15, 16, 17, 18] [0, 1, 2, 3, 4, 5, 6, 7, 8, 9, 10, 11, 12, 13, 14, 15, 16, 17, 18, 19, 20, 21, 22, 23, 24, 25] rfl rfl rfl rfl rfl rfl rfl rfl hl.1 rfl (Nat.le_of_ble_eq_true rfl) ⟨Nat.zero_le _, Nat.zero_le _⟩ dX11_told_76 (fun H locs B => ?_)
            cases h
            exact k_iret C B dX11_told_79
          · rw [if_neg c_5] at h
            refine lv_tableOut (tgt := 80) hx hb dX11_told_1 (tb_out 0 4 (by have := tb_ne c_1 (a := 0) rfl; have := tb_ne c_2 (a := 1) rfl; have := tb_ne c_3 (a := 2) rfl; have := tb_ne c_4 (a := 3) rfl; have := tb_ne c_5 (a := 4) rfl; omega)) (by decide) ?_
            refine lv_bipush (v := -2) hx hb dX11_told_80 (by decide) ?_
            cases h
            exact k_iret C B dX11_told_82
end
theorem tX11_told {l : Launch} {D : va_G} {Es : (Nat → Nat) × (Nat → Nat)} {a b : Nat → Nat} {cI cJ cT : ClassId} {pd_signs : Nat → Int32} {pd_count : Int32} {pd_lacking : Nat → Int32} {t0_signs : Nat → Int32} {t0_wanted : Nat → Int32} {t0_owners : Nat → Int32} {t0_places : Nat → Int32} {t0_spans : Nat → Int32} {t0_partNodes : Nat → Int32} {t0_count : Int32} {t1_signs : Nat → Int32} {t1_wanted : Nat → Int32} {t1_owners : Nat → Int32} {t1_places : Nat → Int32} {t1_spans : Nat → Int32} {t1_partNodes : Nat → Int32} {t1_count : Int32} {rs_low : Nat → Int64} {rs_mid : Nat → Int64} {rs_high : Nat → Int64} {te_inputs : Nat → Int32} {te_dues : Nat → Int32} {te_count : Int32} {x1 : Int32} {z_r : Int32} (N : Nat) (h : fX11_told N pd_count t0_count t1_count rs_low rs_mid rs_high te_inputs te_dues te_count x1 = some z_r) : CtI l yX11_told wsX11_told rmX11_told D (tyl cI cJ cT) Es [.ref (a 0), .int x1] (wd_nt_pd_t0_t1_rs_te a b cI cJ cT pd_signs pd_count pd_lacking t0_signs t0_wanted t0_owners t0_places t0_spans t0_partNodes t0_count t1_signs t1_wanted t1_owners t1_places t1_spans t1_partNodes t1_count rs_low rs_mid rs_high te_inputs te_dues te_count) z_r (wd_nt_pd_t0_t1_rs_te a b cI cJ cT pd_signs pd_count pd_lacking t0_signs t0_wanted t0_owners t0_places t0_spans t0_partNodes t0_count t1_signs t1_wanted t1_owners t1_places t1_spans t1_partNodes t1_count rs_low rs_mid rs_high te_inputs te_dues te_count) :=
  CtI.of (own := RX11) (cc := cX11_told) (nL := 2) (ret := (some .int)) (by decide +kernel) rfl rfl (Nat.le_of_ble_eq_true rfl) rfl (fun p e s m below meth c A ls C B hl => qX11_told_0 C (N := N) x1 h _ _ _ B hl)
