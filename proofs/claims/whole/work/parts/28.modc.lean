abbrev rmX12_soon : Room := { frames := 7, cells := 0, slots := 0, locals := 162 }
theorem hdX12_soon : yX12_soon.cls ≠ "java/lang/invoke/MethodHandle" ∧ yX12_soon.cls ≠ "java/lang/invoke/VarHandle" ∧ (parseMethodDescriptor yX12_soon.desc).map (fun d => d.parameters.length) = some 1 := by decide +kernel
theorem iX12_soon_X12 : ∀ w ∈ wsX120, w ∈ wsX12_soon := by decide +kernel
theorem gfX12_soon_62 {p : Program} {l : Launch} {e : Env} {R : Room} {s : State} {m : MethodId} {args : Array Value} {below : List Frame} {meth : Method} {c : Code} {H : Heap} {locs : List Loc} {cells slots : Nat} {Q : State → Prop} {D : va_G} {A : Nat → Prop} {tys : List (ClassId × FieldType)} {Es : (Nat → Nat) × (Nat → Nat)} {ws : va_W} {pc : Nat} {ls : Array Slot} {rest : List Value} {a : Nat} (C : CT p s m args meth c RX12 cX12_soon 7 (some .int) wsX12_soon D A tys Es) (B : DB D A ws s H locs) (q0 : Nat) {fs : List Value} {v : Value} (he : ws[q0]? = some (a, .inr (12, fs))) (hv : fs[21]? = some v) (hdg : decode cX12_soon pc = .ok (.getfield 62, 3)) (kk : W p l e R s m args below meth c H locs cells slots Q (F0 m (pc + 3) ls (v :: rest))) : W p l e R s m args below meth c H locs cells slots Q (F0 m pc ls (.ref a :: rest)) :=
  k_get (Cn := RX12) (T := TX12) (N := 25) (index := 62) C B iX12_soon_X12 rfl 21 (by decide) (by decide +kernel) q0 he hv hdg kk
theorem gfX12_soon_65 {p : Program} {l : Launch} {e : Env} {R : Room} {s : State} {m : MethodId} {args : Array Value} {below : List Frame} {meth : Method} {c : Code} {H : Heap} {locs : List Loc} {cells slots : Nat} {Q : State → Prop} {D : va_G} {A : Nat → Prop} {tys : List (ClassId × FieldType)} {Es : (Nat → Nat) × (Nat → Nat)} {ws : va_W} {pc : Nat} {ls : Array Slot} {rest : List Value} {a : Nat} (C : CT p s m args meth c RX12 cX12_soon 7 (some .int) wsX12_soon D A tys Es) (B : DB D A ws s H locs) (q0 : Nat) {fs : List Value} {v : Value} (he : ws[q0]? = some (a, .inr (12, fs))) (hv : fs[22]? = some v) (hdg : decode cX12_soon pc = .ok (.getfield 65, 3)) (kk : W p l e R s m args below meth c H locs cells slots Q (F0 m (pc + 3) ls (v :: rest))) : W p l e R s m args below meth c H locs cells slots Q (F0 m pc ls (.ref a :: rest)) :=
  k_get (Cn := RX12) (T := TX12) (N := 25) (index := 65) C B iX12_soon_X12 rfl 22 (by decide) (by decide +kernel) q0 he hv hdg kk
theorem gfX12_soon_155 {p : Program} {l : Launch} {e : Env} {R : Room} {s : State} {m : MethodId} {args : Array Value} {below : List Frame} {meth : Method} {c : Code} {H : Heap} {locs : List Loc} {cells slots : Nat} {Q : State → Prop} {D : va_G} {A : Nat → Prop} {tys : List (ClassId × FieldType)} {Es : (Nat → Nat) × (Nat → Nat)} {ws : va_W} {pc : Nat} {ls : Array Slot} {rest : List Value} {a : Nat} (C : CT p s m args meth c RX12 cX12_soon 7 (some .int) wsX12_soon D A tys Es) (B : DB D A ws s H locs) (q0 : Nat) {fs : List Value} {v : Value} (he : ws[q0]? = some (a, .inr (12, fs))) (hv : fs[19]? = some v) (hdg : decode cX12_soon pc = .ok (.getfield 155, 3)) (kk : W p l e R s m args below meth c H locs cells slots Q (F0 m (pc + 3) ls (v :: rest))) : W p l e R s m args below meth c H locs cells slots Q (F0 m pc ls (.ref a :: rest)) :=
  k_get (Cn := RX12) (T := TX12) (N := 25) (index := 155) C B iX12_soon_X12 rfl 19 (by decide) (by decide +kernel) q0 he hv hdg kk
section
variable {p : Program} {l : Launch} {e : Env} {s : State} {m : MethodId} {args : Array Value} {below : List Frame} {meth : Method} {c : Code} {D : va_G} {A : Nat → Prop} {Es : (Nat → Nat) × (Nat → Nat)} {a b : Nat → Nat} {cI cJ cT : ClassId}
set_option maxHeartbeats 4000000 in
set_option maxRecDepth 100000 in
theorem qX12_soon_189 (C : CT p s m args meth c RX12 cX12_soon 7 (some .int) wsX12_soon D A (tyl cI cJ cT) Es) {N : Nat} {mo_signs : Nat → Int32} {mo_signMany : Int32} {mo_nodeSign : Nat → Int32} {mo_nodeOn : Nat → Int32} {mo_nodeSize : Nat → Int32} {mo_nodeMany : Nat → Int32} {mo_due : Nat → Int32} {mo_openNode : Nat → Int32} {mo_kinds : Nat → Int32} {mo_testInputs : Nat → Int32} {mo_testDue : Nat → Int32} {mo_tests : Int32} {mo_blameUpper : Nat → Int32} {mo_blameLower : Nat → Int32} {z_r : Int32} {z_mo_value : Nat → Int32} {z_mo_isLaid : Int32} {z_mo_changes : Int32} {z_mo_changeNode : Nat → Int32} {z_mo_changeSign : Nat → Int32} {z_mo_differs : Nat → Int32} {z_mo_results : Nat → Int32} {z_mo_own : Nat → Int32} {z_mo_noticed : Nat → Int32} {z_mo_missed : Nat → Int32} {z_mo_leastFrom : Nat → Int32} {k180 : Int32 → Int32 → Int32 → Int32 → (Nat → Int32) → (Int32) → (Int32) → (Nat → Int32) → (Nat → Int32) → (Nat → Int32) → (Nat → Int32) → (Nat → Int32) → (Nat → Int32) → (Nat → Int32) → (Nat → Int32) → Option (Int32 × (Nat → Int32) × (Int32) × (Int32) × (Nat → Int32) × (Nat → Int32) × (Nat → Int32) × (Nat → Int32) × (Nat → Int32) × (Nat → Int32) × (Nat → Int32) × (Nat → Int32))} (hk180 : ∀ (x1 : Int32) (x3 : Int32) (x4 : Int32) (x5 : Int32) (mo_value : Nat → Int32) (mo_isLaid : Int32) (mo_changes : Int32) (mo_changeNode : Nat → Int32) (mo_changeSign : Nat → Int32) (mo_differs : Nat → Int32) (mo_results : Nat → Int32) (mo_own : Nat → Int32) (mo_noticed : Nat → Int32) (mo_missed : Nat → Int32) (mo_leastFrom : Nat → Int32), k180 x1 x3 x4 x5 mo_value mo_isLaid mo_changes mo_changeNode mo_changeSign mo_differs mo_results mo_own mo_noticed mo_missed mo_leastFrom = some (z_r, z_mo_value, z_mo_isLaid, z_mo_changes, z_mo_changeNode, z_mo_changeSign, z_mo_differs, z_mo_results, z_mo_own, z_mo_noticed, z_mo_missed, z_mo_leastFrom) → ∀ (H : Heap) (locs : List Loc) (ls : Array Slot), DB D A (wd_mo a b cI cJ cT mo_signs mo_signMany mo_nodeSign mo_nodeOn mo_nodeSize mo_nodeMany mo_due mo_openNode mo_value mo_isLaid mo_changes mo_changeNode mo_changeSign mo_differs mo_results mo_own mo_kinds mo_testInputs mo_testDue mo_tests mo_noticed mo_missed mo_leastFrom mo_blameUpper mo_blameLower) s H locs → lv_has ls 7 [(0, .ref (b 0)), (1, .int x1), (3, .int x3), (4, .int x4), (5, .int x5)] → W p l e rmX12_soon s m args below meth c H locs 0 0 (ZI below args s D A (tyl cI cJ cT) z_r (wd_mo a b cI cJ cT mo_signs mo_signMany mo_nodeSign mo_nodeOn mo_nodeSize mo_nodeMany mo_due mo_openNode z_mo_value z_mo_isLaid z_mo_changes z_mo_changeNode z_mo_changeSign z_mo_differs z_mo_results z_mo_own mo_kinds mo_testInputs mo_testDue mo_tests z_mo_noticed z_mo_missed z_mo_leastFrom mo_blameUpper mo_blameLower) 0 0) (F0 m 180 ls [])) : ∀ (n : Nat) (x1 : Int32) (x3 : Int32) (x5 : Int32) (x6 : Int32) (mo_value : Nat → Int32) (mo_isLaid : Int32) (mo_changes : Int32) (mo_changeNode : Nat → Int32) (mo_changeSign : Nat → Int32) (mo_differs : Nat → Int32) (mo_results : Nat → Int32) (mo_own : Nat → Int32) (mo_noticed : Nat → Int32) (mo_missed : Nat → Int32) (mo_leastFrom : Nat → Int32), bX12_soon_189 N mo_nodeSign mo_nodeSize mo_nodeMany mo_kinds mo_testInputs mo_tests k180 n x1 x3 x5 x6 mo_value mo_isLaid mo_changes mo_changeNode mo_changeSign mo_differs mo_results mo_own mo_noticed mo_missed mo_leastFrom = some (z_r, z_mo_value, z_mo_isLaid, z_mo_changes, z_mo_changeNode, z_mo_changeSign, z_mo_differs, z_mo_results, z_mo_own, z_mo_noticed, z_mo_missed, z_mo_leastFrom) → ∀ (H : Heap) (locs : List Loc) (ls : Array Slot), DB D A (wd_mo a b cI cJ cT mo_signs mo_signMany mo_nodeSign mo_nodeOn mo_nodeSize mo_nodeMany mo_due mo_openNode mo_value mo_isLaid mo_changes mo_changeNode mo_changeSign mo_differs mo_results mo_own mo_kinds mo_testInputs mo_testDue mo_tests mo_noticed mo_missed mo_leastFrom mo_blameUpper mo_blameLower) s H locs → lv_has ls 7 [(0, .ref (b 0)), (1, .int x1), (3, .int x3), (5, .int x5), (6, .int x6)] → W p l e rmX12_soon s m args below meth c H locs 0 0 (ZI below args s D A (tyl cI cJ cT) z_r (wd_mo a b cI cJ cT mo_signs mo_signMany mo_nodeSign mo_nodeOn mo_nodeSize mo_nodeMany mo_due mo_openNode z_mo_value z_mo_isLaid z_mo_changes z_mo_changeNode z_mo_changeSign z_mo_differs z_mo_results z_mo_own mo_kinds mo_testInputs mo_testDue mo_tests z_mo_noticed z_mo_missed z_mo_leastFrom mo_blameUpper mo_blameLower) 0 0) (F0 m 189 ls []) := by
  have hx := C.1.1
  have hb := C.1.2.1
  have hown := C.1.2.2.2.1
  have hts := C.1.2.2.2.2
  intro n
  induction n with
  | zero => intro x1 x3 x5 x6 mo_value mo_isLaid mo_changes mo_changeNode mo_changeSign mo_differs mo_results mo_own mo_noticed mo_missed mo_leastFrom h; cases h
  | succ n ih =>
    intro x1 x3 x5 x6 mo_value mo_isLaid mo_changes mo_changeNode mo_changeSign mo_differs mo_results mo_own mo_noticed mo_missed mo_leastFrom h H locs ls B hl
    rw [bX12_soon_189] at h
    refine lv_iload_n hx hb dX12_soon_189 rfl (lv_at hl 2 rfl) ?_
    refine lv_iload hx hb dX12_soon_190 (lv_at hl 4 rfl) ?_
    refine lv_ishr hx hb dX12_soon_192 ?_
    refine lv_iconst (v := 1) hx hb dX12_soon_193 (by decide) ?_
    refine lv_iand hx hb dX12_soon_194 ?_
    refine lv_iconst (v := 1) hx hb dX12_soon_195 (by decide) ?_
    refine lv_icmp_eq (tgt := 231) hx hb dX12_soon_196 (by decide) (fun c_1 => ?_) (fun c_1 => ?_)
    · rw [if_pos c_1] at h
      refine lv_iinc (v := (x6 + 1)) (lv' := [(6, .int (x6 + 1)), (0, .ref (b 0)), (1, .int x1), (3, .int x3), (5, .int x5)]) hx hb dX12_soon_231 hl (k := 4) rfl rfl (by decide) rfl (fun ls hl => ?_)
      refine lv_goto (tgt := 189) hx hb dX12_soon_234 (by decide) ?_
      exact ih x1 x3 x5 (x6 + 1) mo_value mo_isLaid mo_changes mo_changeNode mo_changeSign mo_differs mo_results mo_own mo_noticed mo_missed mo_leastFrom h H locs ls B (lv_sub hl [1, 2, 3, 4, 0] rfl)
    · rw [if_neg c_1] at h
      refine lv_aload_n hx hb dX12_soon_199 rfl (lv_at hl 0 rfl) ?_
      refine gfX12_soon_62 C B 0 rfl rfl dX12_soon_200 ?_
      refine lv_iload_n hx hb dX12_soon_203 rfl (lv_at hl 2 rfl) ?_
      refine lv_iconst (v := 1) hx hb dX12_soon_204 (by decide) ?_
      refine lv_iload hx hb dX12_soon_205 (lv_at hl 4 rfl) ?_
      refine lv_ishl hx hb dX12_soon_207 ?_
      refine lv_ior hx hb dX12_soon_208 ?_
      obtain ⟨b_2, h⟩ := bnd_some h
      refine k_iald C B 18 0 rfl rfl b_2 dX12_soon_209 ?_
      refine lv_aload_n hx hb dX12_soon_210 rfl (lv_at hl 0 rfl) ?_
      refine gfX12_soon_65 C B 0 rfl rfl dX12_soon_211 ?_
      refine lv_iload_n hx hb dX12_soon_214 rfl (lv_at hl 2 rfl) ?_
      refine lv_iconst (v := 1) hx hb dX12_soon_215 (by decide) ?_
      refine lv_iload hx hb dX12_soon_216 (lv_at hl 4 rfl) ?_
      refine lv_ishl hx hb dX12_soon_218 ?_
      refine lv_ior hx hb dX12_soon_219 ?_
      refine k_iald C B 19 0 rfl rfl b_2 dX12_soon_220 ?_
      refine lv_iadd hx hb dX12_soon_221 ?_
      refine lv_aload_n hx hb dX12_soon_222 rfl (lv_at hl 0 rfl) ?_
      refine gfX12_soon_65 C B 0 rfl rfl dX12_soon_223 ?_
      refine lv_iload_n hx hb dX12_soon_226 rfl (lv_at hl 2 rfl) ?_
      obtain ⟨b_3, h⟩ := bnd_some h
      refine k_iald C B 19 0 rfl rfl b_3 dX12_soon_227 ?_
      refine lv_icmp_eq (tgt := 237) hx hb dX12_soon_228 (by decide) (fun c_4 => ?_) (fun c_4 => ?_)
      · rw [if_pos c_4] at h
        refine lv_iload hx hb dX12_soon_237 (lv_at hl 4 rfl) ?_
        refine lv_istore (lv' := [(4, .int x6), (0, .ref (b 0)), (1, .int x1), (3, .int x3), (5, .int x5), (6, .int x6)]) hx hb dX12_soon_239 hl (by decide) rfl (fun ls hl => ?_)
        refine lv_iload_n hx hb dX12_soon_241 rfl (lv_at hl 3 rfl) ?_
        refine lv_iconst (v := 1) hx hb dX12_soon_242 (by decide) ?_
        refine lv_iload hx hb dX12_soon_243 (lv_at hl 5 rfl) ?_
        refine lv_ishl hx hb dX12_soon_245 ?_
        refine lv_ior hx hb dX12_soon_246 ?_
        refine lv_istore_n (lv' := [(3, .int (x3 ||| ((1 : Int32) <<< (x6 &&& 31)))), (4, .int x6), (0, .ref (b 0)), (1, .int x1), (5, .int x5), (6, .int x6)]) hx hb dX12_soon_247 rfl hl (by decide) rfl (fun ls hl => ?_)
        refine lv_iinc (v := (x5 + 1)) (lv' := [(5, .int (x5 + 1)), (3, .int (x3 ||| ((1 : Int32) <<< (x6 &&& 31)))), (4, .int x6), (0, .ref (b 0)), (1, .int x1), (6, .int x6)]) hx hb dX12_soon_248 hl (k := 4) rfl rfl (by decide) rfl (fun ls hl => ?_)
        refine lv_goto (tgt := 180) hx hb dX12_soon_251 (by decide) ?_
        exact hk180 x1 (x3 ||| ((1 : Int32) <<< (x6 &&& 31))) x6 (x5 + 1) mo_value mo_isLaid mo_changes mo_changeNode mo_changeSign mo_differs mo_results mo_own mo_noticed mo_missed mo_leastFrom h H locs ls B (lv_sub hl [3, 4, 1, 2, 0] rfl)
      · rw [if_neg c_4] at h
        refine lv_iinc (v := (x6 + 1)) (lv' := [(6, .int (x6 + 1)), (0, .ref (b 0)), (1, .int x1), (3, .int x3), (5, .int x5)]) hx hb dX12_soon_231 hl (k := 4) rfl rfl (by decide) rfl (fun ls hl => ?_)
        refine lv_goto (tgt := 189) hx hb dX12_soon_234 (by decide) ?_
        exact ih x1 x3 x5 (x6 + 1) mo_value mo_isLaid mo_changes mo_changeNode mo_changeSign mo_differs mo_results mo_own mo_noticed mo_missed mo_leastFrom h H locs ls B (lv_sub hl [1, 2, 3, 4, 0] rfl)
set_option maxHeartbeats 4000000 in
set_option maxRecDepth 100000 in
theorem qX12_soon_180 (C : CT p s m args meth c RX12 cX12_soon 7 (some .int) wsX12_soon D A (tyl cI cJ cT) Es) {N : Nat} {mo_signs : Nat → Int32} {mo_signMany : Int32} {mo_nodeSign : Nat → Int32} {mo_nodeOn : Nat → Int32} {mo_nodeSize : Nat → Int32} {mo_nodeMany : Nat → Int32} {mo_due : Nat → Int32} {mo_openNode : Nat → Int32} {mo_kinds : Nat → Int32} {mo_testInputs : Nat → Int32} {mo_testDue : Nat → Int32} {mo_tests : Int32} {mo_blameUpper : Nat → Int32} {mo_blameLower : Nat → Int32} {z_r : Int32} {z_mo_value : Nat → Int32} {z_mo_isLaid : Int32} {z_mo_changes : Int32} {z_mo_changeNode : Nat → Int32} {z_mo_changeSign : Nat → Int32} {z_mo_differs : Nat → Int32} {z_mo_results : Nat → Int32} {z_mo_own : Nat → Int32} {z_mo_noticed : Nat → Int32} {z_mo_missed : Nat → Int32} {z_mo_leastFrom : Nat → Int32} : ∀ (n : Nat) (x1 : Int32) (x3 : Int32) (x4 : Int32) (x5 : Int32) (mo_value : Nat → Int32) (mo_isLaid : Int32) (mo_changes : Int32) (mo_changeNode : Nat → Int32) (mo_changeSign : Nat → Int32) (mo_differs : Nat → Int32) (mo_results : Nat → Int32) (mo_own : Nat → Int32) (mo_noticed : Nat → Int32) (mo_missed : Nat → Int32) (mo_leastFrom : Nat → Int32), bX12_soon_180 N mo_nodeSign mo_nodeSize mo_nodeMany mo_kinds mo_testInputs mo_tests n x1 x3 x4 x5 mo_value mo_isLaid mo_changes mo_changeNode mo_changeSign mo_differs mo_results mo_own mo_noticed mo_missed mo_leastFrom = some (z_r, z_mo_value, z_mo_isLaid, z_mo_changes, z_mo_changeNode, z_mo_changeSign, z_mo_differs, z_mo_results, z_mo_own, z_mo_noticed, z_mo_missed, z_mo_leastFrom) → ∀ (H : Heap) (locs : List Loc) (ls : Array Slot), DB D A (wd_mo a b cI cJ cT mo_signs mo_signMany mo_nodeSign mo_nodeOn mo_nodeSize mo_nodeMany mo_due mo_openNode mo_value mo_isLaid mo_changes mo_changeNode mo_changeSign mo_differs mo_results mo_own mo_kinds mo_testInputs mo_testDue mo_tests mo_noticed mo_missed mo_leastFrom mo_blameUpper mo_blameLower) s H locs → lv_has ls 7 [(0, .ref (b 0)), (1, .int x1), (3, .int x3), (4, .int x4), (5, .int x5)] → W p l e rmX12_soon s m args below meth c H locs 0 0 (ZI below args s D A (tyl cI cJ cT) z_r (wd_mo a b cI cJ cT mo_signs mo_signMany mo_nodeSign mo_nodeOn mo_nodeSize mo_nodeMany mo_due mo_openNode z_mo_value z_mo_isLaid z_mo_changes z_mo_changeNode z_mo_changeSign z_mo_differs z_mo_results z_mo_own mo_kinds mo_testInputs mo_testDue mo_tests z_mo_noticed z_mo_missed z_mo_leastFrom mo_blameUpper mo_blameLower) 0 0) (F0 m 180 ls []) := by
  have hx := C.1.1
  have hb := C.1.2.1
  have hown := C.1.2.2.2.1
  have hts := C.1.2.2.2.2
  intro n
  induction n with
  | zero => intro x1 x3 x4 x5 mo_value mo_isLaid mo_changes mo_changeNode mo_changeSign mo_differs mo_results mo_own mo_noticed mo_missed mo_leastFrom h; cases h
  | succ n ih =>
    intro x1 x3 x4 x5 mo_value mo_isLaid mo_changes mo_changeNode mo_changeSign mo_differs mo_results mo_own mo_noticed mo_missed mo_leastFrom h H locs ls B hl
    rw [bX12_soon_180] at h
    refine lv_iload hx hb dX12_soon_180 (lv_at hl 4 rfl) ?_
    refine lv_iload_n hx hb dX12_soon_182 rfl (lv_at hl 1 rfl) ?_
    refine lv_icmp_gt (tgt := 254) hx hb dX12_soon_183 (by decide) (fun c_1 => ?_) (fun c_1 => ?_)
    · rw [if_pos c_1] at h
      refine lv_iload hx hb dX12_soon_254 (lv_at hl 3 rfl) ?_
      cases h
      exact k_iret C B dX12_soon_256
    · rw [if_neg c_1] at h
      refine lv_iconst (v := 0) hx hb dX12_soon_186 (by decide) ?_
      refine lv_istore (lv' := [(6, .int (0 : Int32)), (0, .ref (b 0)), (1, .int x1), (3, .int x3), (4, .int x4), (5, .int x5)]) hx hb dX12_soon_187 hl (by decide) rfl (fun ls hl => ?_)
      exact qX12_soon_189 C ih N x1 x3 x5 (0 : Int32) mo_value mo_isLaid mo_changes mo_changeNode mo_changeSign mo_differs mo_results mo_own mo_noticed mo_missed mo_leastFrom h H locs ls B (lv_sub hl [1, 2, 3, 5, 0] rfl)
set_option maxHeartbeats 4000000 in
set_option maxRecDepth 100000 in
theorem qX12_soon_135 (C : CT p s m args meth c RX12 cX12_soon 7 (some .int) wsX12_soon D A (tyl cI cJ cT) Es) {N : Nat} {mo_signs : Nat → Int32} {mo_signMany : Int32} {mo_nodeSign : Nat → Int32} {mo_nodeOn : Nat → Int32} {mo_nodeSize : Nat → Int32} {mo_nodeMany : Nat → Int32} {mo_due : Nat → Int32} {mo_openNode : Nat → Int32} {mo_kinds : Nat → Int32} {mo_testInputs : Nat → Int32} {mo_testDue : Nat → Int32} {mo_tests : Int32} {mo_blameUpper : Nat → Int32} {mo_blameLower : Nat → Int32} {z_r : Int32} {z_mo_value : Nat → Int32} {z_mo_isLaid : Int32} {z_mo_changes : Int32} {z_mo_changeNode : Nat → Int32} {z_mo_changeSign : Nat → Int32} {z_mo_differs : Nat → Int32} {z_mo_results : Nat → Int32} {z_mo_own : Nat → Int32} {z_mo_noticed : Nat → Int32} {z_mo_missed : Nat → Int32} {z_mo_leastFrom : Nat → Int32} {k24 : Int32 → Int32 → (Nat → Int32) → (Int32) → (Int32) → (Nat → Int32) → (Nat → Int32) → (Nat → Int32) → (Nat → Int32) → (Nat → Int32) → (Nat → Int32) → (Nat → Int32) → (Nat → Int32) → Option (Int32 × (Nat → Int32) × (Int32) × (Int32) × (Nat → Int32) × (Nat → Int32) × (Nat → Int32) × (Nat → Int32) × (Nat → Int32) × (Nat → Int32) × (Nat → Int32) × (Nat → Int32))} (hk24 : ∀ (x1 : Int32) (x3 : Int32) (mo_value : Nat → Int32) (mo_isLaid : Int32) (mo_changes : Int32) (mo_changeNode : Nat → Int32) (mo_changeSign : Nat → Int32) (mo_differs : Nat → Int32) (mo_results : Nat → Int32) (mo_own : Nat → Int32) (mo_noticed : Nat → Int32) (mo_missed : Nat → Int32) (mo_leastFrom : Nat → Int32), k24 x1 x3 mo_value mo_isLaid mo_changes mo_changeNode mo_changeSign mo_differs mo_results mo_own mo_noticed mo_missed mo_leastFrom = some (z_r, z_mo_value, z_mo_isLaid, z_mo_changes, z_mo_changeNode, z_mo_changeSign, z_mo_differs, z_mo_results, z_mo_own, z_mo_noticed, z_mo_missed, z_mo_leastFrom) → ∀ (H : Heap) (locs : List Loc) (ls : Array Slot), DB D A (wd_mo a b cI cJ cT mo_signs mo_signMany mo_nodeSign mo_nodeOn mo_nodeSize mo_nodeMany mo_due mo_openNode mo_value mo_isLaid mo_changes mo_changeNode mo_changeSign mo_differs mo_results mo_own mo_kinds mo_testInputs mo_testDue mo_tests mo_noticed mo_missed mo_leastFrom mo_blameUpper mo_blameLower) s H locs → lv_has ls 7 [(0, .ref (b 0)), (1, .int x1), (3, .int x3)] → W p l e rmX12_soon s m args below meth c H locs 0 0 (ZI below args s D A (tyl cI cJ cT) z_r (wd_mo a b cI cJ cT mo_signs mo_signMany mo_nodeSign mo_nodeOn mo_nodeSize mo_nodeMany mo_due mo_openNode z_mo_value z_mo_isLaid z_mo_changes z_mo_changeNode z_mo_changeSign z_mo_differs z_mo_results z_mo_own mo_kinds mo_testInputs mo_testDue mo_tests z_mo_noticed z_mo_missed z_mo_leastFrom mo_blameUpper mo_blameLower) 0 0) (F0 m 24 ls [])) {k38 : Int32 → Int32 → Int32 → (Nat → Int32) → (Int32) → (Int32) → (Nat → Int32) → (Nat → Int32) → (Nat → Int32) → (Nat → Int32) → (Nat → Int32) → (Nat → Int32) → (Nat → Int32) → (Nat → Int32) → Option (Int32 × (Nat → Int32) × (Int32) × (Int32) × (Nat → Int32) × (Nat → Int32) × (Nat → Int32) × (Nat → Int32) × (Nat → Int32) × (Nat → Int32) × (Nat → Int32) × (Nat → Int32))} (hk38 : ∀ (x1 : Int32) (x3 : Int32) (x4 : Int32) (mo_value : Nat → Int32) (mo_isLaid : Int32) (mo_changes : Int32) (mo_changeNode : Nat → Int32) (mo_changeSign : Nat → Int32) (mo_differs : Nat → Int32) (mo_results : Nat → Int32) (mo_own : Nat → Int32) (mo_noticed : Nat → Int32) (mo_missed : Nat → Int32) (mo_leastFrom : Nat → Int32), k38 x1 x3 x4 mo_value mo_isLaid mo_changes mo_changeNode mo_changeSign mo_differs mo_results mo_own mo_noticed mo_missed mo_leastFrom = some (z_r, z_mo_value, z_mo_isLaid, z_mo_changes, z_mo_changeNode, z_mo_changeSign, z_mo_differs, z_mo_results, z_mo_own, z_mo_noticed, z_mo_missed, z_mo_leastFrom) → ∀ (H : Heap) (locs : List Loc) (ls : Array Slot), DB D A (wd_mo a b cI cJ cT mo_signs mo_signMany mo_nodeSign mo_nodeOn mo_nodeSize mo_nodeMany mo_due mo_openNode mo_value mo_isLaid mo_changes mo_changeNode mo_changeSign mo_differs mo_results mo_own mo_kinds mo_testInputs mo_testDue mo_tests mo_noticed mo_missed mo_leastFrom mo_blameUpper mo_blameLower) s H locs → lv_has ls 7 [(0, .ref (b 0)), (1, .int x1), (3, .int x3), (4, .int x4)] → W p l e rmX12_soon s m args below meth c H locs 0 0 (ZI below args s D A (tyl cI cJ cT) z_r (wd_mo a b cI cJ cT mo_signs mo_signMany mo_nodeSign mo_nodeOn mo_nodeSize mo_nodeMany mo_due mo_openNode z_mo_value z_mo_isLaid z_mo_changes z_mo_changeNode z_mo_changeSign z_mo_differs z_mo_results z_mo_own mo_kinds mo_testInputs mo_testDue mo_tests z_mo_noticed z_mo_missed z_mo_leastFrom mo_blameUpper mo_blameLower) 0 0) (F0 m 38 ls [])) : ∀ (x1 : Int32) (x3 : Int32) (x4 : Int32) (y1 : Int32) (y2 : Int32) (mo_value : Nat → Int32) (mo_isLaid : Int32) (mo_changes : Int32) (mo_changeNode : Nat → Int32) (mo_changeSign : Nat → Int32) (mo_differs : Nat → Int32) (mo_results : Nat → Int32) (mo_own : Nat → Int32) (mo_noticed : Nat → Int32) (mo_missed : Nat → Int32) (mo_leastFrom : Nat → Int32), bX12_soon_135 N mo_nodeSign mo_nodeSize mo_nodeMany mo_kinds mo_testInputs mo_tests k24 k38 x1 x3 x4 y1 y2 mo_value mo_isLaid mo_changes mo_changeNode mo_changeSign mo_differs mo_results mo_own mo_noticed mo_missed mo_leastFrom = some (z_r, z_mo_value, z_mo_isLaid, z_mo_changes, z_mo_changeNode, z_mo_changeSign, z_mo_differs, z_mo_results, z_mo_own, z_mo_noticed, z_mo_missed, z_mo_leastFrom) → ∀ (H : Heap) (locs : List Loc) (ls : Array Slot), DB D A (wd_mo a b cI cJ cT mo_signs mo_signMany mo_nodeSign mo_nodeOn mo_nodeSize mo_nodeMany mo_due mo_openNode mo_value mo_isLaid mo_changes mo_changeNode mo_changeSign mo_differs mo_results mo_own mo_kinds mo_testInputs mo_testDue mo_tests mo_noticed mo_missed mo_leastFrom mo_blameUpper mo_blameLower) s H locs → lv_has ls 7 [(0, .ref (b 0)), (1, .int x1), (3, .int x3), (4, .int x4)] → W p l e rmX12_soon s m args below meth c H locs 0 0 (ZI below args s D A (tyl cI cJ cT) z_r (wd_mo a b cI cJ cT mo_signs mo_signMany mo_nodeSign mo_nodeOn mo_nodeSize mo_nodeMany mo_due mo_openNode z_mo_value z_mo_isLaid z_mo_changes z_mo_changeNode z_mo_changeSign z_mo_differs z_mo_results z_mo_own mo_kinds mo_testInputs mo_testDue mo_tests z_mo_noticed z_mo_missed z_mo_leastFrom mo_blameUpper mo_blameLower) 0 0) (F0 m 135 ls [.int y2, .int y1, .ref (b 19)]) := by
  have hx := C.1.1
  have hb := C.1.2.1
  have hown := C.1.2.2.2.1
  have hts := C.1.2.2.2.2
  intro x1 x3 x4 y1 y2 mo_value mo_isLaid mo_changes mo_changeNode mo_changeSign mo_differs mo_results mo_own mo_noticed mo_missed mo_leastFrom h H locs ls B hl
  rw [bX12_soon_135] at h
  obtain ⟨b_1, h⟩ := bnd_some h
  refine k_iast C B 19 0 rfl rfl b_1 dX12_soon_135 (fun H locs B => ?_)
  have B : DB D A (wd_mo a b cI cJ cT mo_signs mo_signMany mo_nodeSign mo_nodeOn mo_nodeSize mo_nodeMany mo_due mo_openNode mo_value mo_isLaid mo_changes mo_changeNode mo_changeSign mo_differs mo_results mo_own mo_kinds mo_testInputs mo_testDue mo_tests mo_noticed mo_missed (upd mo_leastFrom (Int32.toNatClampNeg y1) y2) mo_blameUpper mo_blameLower) s H locs := B
  refine lv_iinc (v := (x4 + 1)) (lv' := [(4, .int (x4 + 1)), (0, .ref (b 0)), (1, .int x1), (3, .int x3)]) hx hb dX12_soon_136 hl (k := 3) rfl rfl (by decide) rfl (fun ls hl => ?_)
  refine lv_goto (tgt := 38) hx hb dX12_soon_139 (by decide) ?_
  exact hk38 x1 x3 (x4 + 1) mo_value mo_isLaid mo_changes mo_changeNode mo_changeSign mo_differs mo_results mo_own mo_noticed mo_missed (upd mo_leastFrom (Int32.toNatClampNeg y1) y2) h H locs ls B (lv_sub hl [1, 2, 3, 0] rfl)
set_option maxHeartbeats 4000000 in
set_option maxRecDepth 100000 in
theorem qX12_soon_99 (C : CT p s m args meth c RX12 cX12_soon 7 (some .int) wsX12_soon D A (tyl cI cJ cT) Es) {N : Nat} {mo_signs : Nat → Int32} {mo_signMany : Int32} {mo_nodeSign : Nat → Int32} {mo_nodeOn : Nat → Int32} {mo_nodeSize : Nat → Int32} {mo_nodeMany : Nat → Int32} {mo_due : Nat → Int32} {mo_openNode : Nat → Int32} {mo_kinds : Nat → Int32} {mo_testInputs : Nat → Int32} {mo_testDue : Nat → Int32} {mo_tests : Int32} {mo_blameUpper : Nat → Int32} {mo_blameLower : Nat → Int32} {z_r : Int32} {z_mo_value : Nat → Int32} {z_mo_isLaid : Int32} {z_mo_changes : Int32} {z_mo_changeNode : Nat → Int32} {z_mo_changeSign : Nat → Int32} {z_mo_differs : Nat → Int32} {z_mo_results : Nat → Int32} {z_mo_own : Nat → Int32} {z_mo_noticed : Nat → Int32} {z_mo_missed : Nat → Int32} {z_mo_leastFrom : Nat → Int32} {k24 : Int32 → Int32 → (Nat → Int32) → (Int32) → (Int32) → (Nat → Int32) → (Nat → Int32) → (Nat → Int32) → (Nat → Int32) → (Nat → Int32) → (Nat → Int32) → (Nat → Int32) → (Nat → Int32) → Option (Int32 × (Nat → Int32) × (Int32) × (Int32) × (Nat → Int32) × (Nat → Int32) × (Nat → Int32) × (Nat → Int32) × (Nat → Int32) × (Nat → Int32) × (Nat → Int32) × (Nat → Int32))} (hk24 : ∀ (x1 : Int32) (x3 : Int32) (mo_value : Nat → Int32) (mo_isLaid : Int32) (mo_changes : Int32) (mo_changeNode : Nat → Int32) (mo_changeSign : Nat → Int32) (mo_differs : Nat → Int32) (mo_results : Nat → Int32) (mo_own : Nat → Int32) (mo_noticed : Nat → Int32) (mo_missed : Nat → Int32) (mo_leastFrom : Nat → Int32), k24 x1 x3 mo_value mo_isLaid mo_changes mo_changeNode mo_changeSign mo_differs mo_results mo_own mo_noticed mo_missed mo_leastFrom = some (z_r, z_mo_value, z_mo_isLaid, z_mo_changes, z_mo_changeNode, z_mo_changeSign, z_mo_differs, z_mo_results, z_mo_own, z_mo_noticed, z_mo_missed, z_mo_leastFrom) → ∀ (H : Heap) (locs : List Loc) (ls : Array Slot), DB D A (wd_mo a b cI cJ cT mo_signs mo_signMany mo_nodeSign mo_nodeOn mo_nodeSize mo_nodeMany mo_due mo_openNode mo_value mo_isLaid mo_changes mo_changeNode mo_changeSign mo_differs mo_results mo_own mo_kinds mo_testInputs mo_testDue mo_tests mo_noticed mo_missed mo_leastFrom mo_blameUpper mo_blameLower) s H locs → lv_has ls 7 [(0, .ref (b 0)), (1, .int x1), (3, .int x3)] → W p l e rmX12_soon s m args below meth c H locs 0 0 (ZI below args s D A (tyl cI cJ cT) z_r (wd_mo a b cI cJ cT mo_signs mo_signMany mo_nodeSign mo_nodeOn mo_nodeSize mo_nodeMany mo_due mo_openNode z_mo_value z_mo_isLaid z_mo_changes z_mo_changeNode z_mo_changeSign z_mo_differs z_mo_results z_mo_own mo_kinds mo_testInputs mo_testDue mo_tests z_mo_noticed z_mo_missed z_mo_leastFrom mo_blameUpper mo_blameLower) 0 0) (F0 m 24 ls [])) {k38 : Int32 → Int32 → Int32 → (Nat → Int32) → (Int32) → (Int32) → (Nat → Int32) → (Nat → Int32) → (Nat → Int32) → (Nat → Int32) → (Nat → Int32) → (Nat → Int32) → (Nat → Int32) → (Nat → Int32) → Option (Int32 × (Nat → Int32) × (Int32) × (Int32) × (Nat → Int32) × (Nat → Int32) × (Nat → Int32) × (Nat → Int32) × (Nat → Int32) × (Nat → Int32) × (Nat → Int32) × (Nat → Int32))} (hk38 : ∀ (x1 : Int32) (x3 : Int32) (x4 : Int32) (mo_value : Nat → Int32) (mo_isLaid : Int32) (mo_changes : Int32) (mo_changeNode : Nat → Int32) (mo_changeSign : Nat → Int32) (mo_differs : Nat → Int32) (mo_results : Nat → Int32) (mo_own : Nat → Int32) (mo_noticed : Nat → Int32) (mo_missed : Nat → Int32) (mo_leastFrom : Nat → Int32), k38 x1 x3 x4 mo_value mo_isLaid mo_changes mo_changeNode mo_changeSign mo_differs mo_results mo_own mo_noticed mo_missed mo_leastFrom = some (z_r, z_mo_value, z_mo_isLaid, z_mo_changes, z_mo_changeNode, z_mo_changeSign, z_mo_differs, z_mo_results, z_mo_own, z_mo_noticed, z_mo_missed, z_mo_leastFrom) → ∀ (H : Heap) (locs : List Loc) (ls : Array Slot), DB D A (wd_mo a b cI cJ cT mo_signs mo_signMany mo_nodeSign mo_nodeOn mo_nodeSize mo_nodeMany mo_due mo_openNode mo_value mo_isLaid mo_changes mo_changeNode mo_changeSign mo_differs mo_results mo_own mo_kinds mo_testInputs mo_testDue mo_tests mo_noticed mo_missed mo_leastFrom mo_blameUpper mo_blameLower) s H locs → lv_has ls 7 [(0, .ref (b 0)), (1, .int x1), (3, .int x3), (4, .int x4)] → W p l e rmX12_soon s m args below meth c H locs 0 0 (ZI below args s D A (tyl cI cJ cT) z_r (wd_mo a b cI cJ cT mo_signs mo_signMany mo_nodeSign mo_nodeOn mo_nodeSize mo_nodeMany mo_due mo_openNode z_mo_value z_mo_isLaid z_mo_changes z_mo_changeNode z_mo_changeSign z_mo_differs z_mo_results z_mo_own mo_kinds mo_testInputs mo_testDue mo_tests z_mo_noticed z_mo_missed z_mo_leastFrom mo_blameUpper mo_blameLower) 0 0) (F0 m 38 ls [])) : ∀ (x1 : Int32) (x3 : Int32) (x4 : Int32) (x5 : Int32) (y0 : Int32) (mo_value : Nat → Int32) (mo_isLaid : Int32) (mo_changes : Int32) (mo_changeNode : Nat → Int32) (mo_changeSign : Nat → Int32) (mo_differs : Nat → Int32) (mo_results : Nat → Int32) (mo_own : Nat → Int32) (mo_noticed : Nat → Int32) (mo_missed : Nat → Int32) (mo_leastFrom : Nat → Int32), bX12_soon_99 N mo_nodeSign mo_nodeSize mo_nodeMany mo_kinds mo_testInputs mo_tests k24 k38 x1 x3 x4 x5 y0 mo_value mo_isLaid mo_changes mo_changeNode mo_changeSign mo_differs mo_results mo_own mo_noticed mo_missed mo_leastFrom = some (z_r, z_mo_value, z_mo_isLaid, z_mo_changes, z_mo_changeNode, z_mo_changeSign, z_mo_differs, z_mo_results, z_mo_own, z_mo_noticed, z_mo_missed, z_mo_leastFrom) → ∀ (H : Heap) (locs : List Loc) (ls : Array Slot), DB D A (wd_mo a b cI cJ cT mo_signs mo_signMany mo_nodeSign mo_nodeOn mo_nodeSize mo_nodeMany mo_due mo_openNode mo_value mo_isLaid mo_changes mo_changeNode mo_changeSign mo_differs mo_results mo_own mo_kinds mo_testInputs mo_testDue mo_tests mo_noticed mo_missed mo_leastFrom mo_blameUpper mo_blameLower) s H locs → lv_has ls 7 [(0, .ref (b 0)), (1, .int x1), (3, .int x3), (4, .int x4), (5, .int x5)] → W p l e rmX12_soon s m args below meth c H locs 0 0 (ZI below args s D A (tyl cI cJ cT) z_r (wd_mo a b cI cJ cT mo_signs mo_signMany mo_nodeSign mo_nodeOn mo_nodeSize mo_nodeMany mo_due mo_openNode z_mo_value z_mo_isLaid z_mo_changes z_mo_changeNode z_mo_changeSign z_mo_differs z_mo_results z_mo_own mo_kinds mo_testInputs mo_testDue mo_tests z_mo_noticed z_mo_missed z_mo_leastFrom mo_blameUpper mo_blameLower) 0 0) (F0 m 99 ls [.int y0]) := by
  have hx := C.1.1
  have hb := C.1.2.1
  have hown := C.1.2.2.2.1
  have hts := C.1.2.2.2.2
  intro x1 x3 x4 x5 y0 mo_value mo_isLaid mo_changes mo_changeNode mo_changeSign mo_differs mo_results mo_own mo_noticed mo_missed mo_leastFrom h H locs ls B hl
  rw [bX12_soon_99] at h
  refine lv_istore (lv' := [(6, .int y0), (0, .ref (b 0)), (1, .int x1), (3, .int x3), (4, .int x4), (5, .int x5)]) hx hb dX12_soon_99 hl (by decide) rfl (fun ls hl => ?_)
  refine lv_aload_n hx hb dX12_soon_101 rfl (lv_at hl 1 rfl) ?_
  refine gfX12_soon_65 C B 0 rfl rfl dX12_soon_102 ?_
  refine lv_iload_n hx hb dX12_soon_105 rfl (lv_at hl 3 rfl) ?_
  refine lv_iload hx hb dX12_soon_106 (lv_at hl 0 rfl) ?_
  refine lv_if_eq (tgt := 129) hx hb dX12_soon_108 (by decide) (fun c_1 => ?_) (fun c_1 => ?_)
  · rw [if_pos c_1] at h
    refine lv_aload_n hx hb dX12_soon_129 rfl (lv_at hl 1 rfl) ?_
    refine gfX12_soon_65 C B 0 rfl rfl dX12_soon_130 ?_
    refine lv_iload_n hx hb dX12_soon_133 rfl (lv_at hl 3 rfl) ?_
    obtain ⟨b_2, h⟩ := bnd_some h
    refine k_iald C B 19 0 rfl rfl b_2 dX12_soon_134 ?_
    exact qX12_soon_135 C hk24 hk38 x1 x3 x4 x3 (mo_leastFrom (Int32.toNatClampNeg x3)) mo_value mo_isLaid mo_changes mo_changeNode mo_changeSign mo_differs mo_results mo_own mo_noticed mo_missed mo_leastFrom h H locs ls B (lv_sub hl [1, 2, 3, 4] rfl)
  · rw [if_neg c_1] at h
    refine lv_aload_n hx hb dX12_soon_111 rfl (lv_at hl 1 rfl) ?_
    refine gfX12_soon_62 C B 0 rfl rfl dX12_soon_112 ?_
    refine lv_iload hx hb dX12_soon_115 (lv_at hl 5 rfl) ?_
    obtain ⟨b_3, h⟩ := bnd_some h
    refine k_iald C B 18 0 rfl rfl b_3 dX12_soon_117 ?_
    refine lv_aload_n hx hb dX12_soon_118 rfl (lv_at hl 1 rfl) ?_
    refine gfX12_soon_65 C B 0 rfl rfl dX12_soon_119 ?_
    refine lv_iload hx hb dX12_soon_122 (lv_at hl 5 rfl) ?_
    refine k_iald C B 19 0 rfl rfl b_3 dX12_soon_124 ?_
    refine lv_iadd hx hb dX12_soon_125 ?_
    refine lv_goto (tgt := 135) hx hb dX12_soon_126 (by decide) ?_
    exact qX12_soon_135 C hk24 hk38 x1 x3 x4 x3 ((mo_missed (Int32.toNatClampNeg x5)) + (mo_leastFrom (Int32.toNatClampNeg x5))) mo_value mo_isLaid mo_changes mo_changeNode mo_changeSign mo_differs mo_results mo_own mo_noticed mo_missed mo_leastFrom h H locs ls B (lv_sub hl [1, 2, 3, 4] rfl)
set_option maxHeartbeats 4000000 in
set_option maxRecDepth 100000 in
theorem qX12_soon_98 (C : CT p s m args meth c RX12 cX12_soon 7 (some .int) wsX12_soon D A (tyl cI cJ cT) Es) {N : Nat} {mo_signs : Nat → Int32} {mo_signMany : Int32} {mo_nodeSign : Nat → Int32} {mo_nodeOn : Nat → Int32} {mo_nodeSize : Nat → Int32} {mo_nodeMany : Nat → Int32} {mo_due : Nat → Int32} {mo_openNode : Nat → Int32} {mo_kinds : Nat → Int32} {mo_testInputs : Nat → Int32} {mo_testDue : Nat → Int32} {mo_tests : Int32} {mo_blameUpper : Nat → Int32} {mo_blameLower : Nat → Int32} {z_r : Int32} {z_mo_value : Nat → Int32} {z_mo_isLaid : Int32} {z_mo_changes : Int32} {z_mo_changeNode : Nat → Int32} {z_mo_changeSign : Nat → Int32} {z_mo_differs : Nat → Int32} {z_mo_results : Nat → Int32} {z_mo_own : Nat → Int32} {z_mo_noticed : Nat → Int32} {z_mo_missed : Nat → Int32} {z_mo_leastFrom : Nat → Int32} {k24 : Int32 → Int32 → (Nat → Int32) → (Int32) → (Int32) → (Nat → Int32) → (Nat → Int32) → (Nat → Int32) → (Nat → Int32) → (Nat → Int32) → (Nat → Int32) → (Nat → Int32) → (Nat → Int32) → Option (Int32 × (Nat → Int32) × (Int32) × (Int32) × (Nat → Int32) × (Nat → Int32) × (Nat → Int32) × (Nat → Int32) × (Nat → Int32) × (Nat → Int32) × (Nat → Int32) × (Nat → Int32))} (hk24 : ∀ (x1 : Int32) (x3 : Int32) (mo_value : Nat → Int32) (mo_isLaid : Int32) (mo_changes : Int32) (mo_changeNode : Nat → Int32) (mo_changeSign : Nat → Int32) (mo_differs : Nat → Int32) (mo_results : Nat → Int32) (mo_own : Nat → Int32) (mo_noticed : Nat → Int32) (mo_missed : Nat → Int32) (mo_leastFrom : Nat → Int32), k24 x1 x3 mo_value mo_isLaid mo_changes mo_changeNode mo_changeSign mo_differs mo_results mo_own mo_noticed mo_missed mo_leastFrom = some (z_r, z_mo_value, z_mo_isLaid, z_mo_changes, z_mo_changeNode, z_mo_changeSign, z_mo_differs, z_mo_results, z_mo_own, z_mo_noticed, z_mo_missed, z_mo_leastFrom) → ∀ (H : Heap) (locs : List Loc) (ls : Array Slot), DB D A (wd_mo a b cI cJ cT mo_signs mo_signMany mo_nodeSign mo_nodeOn mo_nodeSize mo_nodeMany mo_due mo_openNode mo_value mo_isLaid mo_changes mo_changeNode mo_changeSign mo_differs mo_results mo_own mo_kinds mo_testInputs mo_testDue mo_tests mo_noticed mo_missed mo_leastFrom mo_blameUpper mo_blameLower) s H locs → lv_has ls 7 [(0, .ref (b 0)), (1, .int x1), (3, .int x3)] → W p l e rmX12_soon s m args below meth c H locs 0 0 (ZI below args s D A (tyl cI cJ cT) z_r (wd_mo a b cI cJ cT mo_signs mo_signMany mo_nodeSign mo_nodeOn mo_nodeSize mo_nodeMany mo_due mo_openNode z_mo_value z_mo_isLaid z_mo_changes z_mo_changeNode z_mo_changeSign z_mo_differs z_mo_results z_mo_own mo_kinds mo_testInputs mo_testDue mo_tests z_mo_noticed z_mo_missed z_mo_leastFrom mo_blameUpper mo_blameLower) 0 0) (F0 m 24 ls [])) {k38 : Int32 → Int32 → Int32 → (Nat → Int32) → (Int32) → (Int32) → (Nat → Int32) → (Nat → Int32) → (Nat → Int32) → (Nat → Int32) → (Nat → Int32) → (Nat → Int32) → (Nat → Int32) → (Nat → Int32) → Option (Int32 × (Nat → Int32) × (Int32) × (Int32) × (Nat → Int32) × (Nat → Int32) × (Nat → Int32) × (Nat → Int32) × (Nat → Int32) × (Nat → Int32) × (Nat → Int32) × (Nat → Int32))} (hk38 : ∀ (x1 : Int32) (x3 : Int32) (x4 : Int32) (mo_value : Nat → Int32) (mo_isLaid : Int32) (mo_changes : Int32) (mo_changeNode : Nat → Int32) (mo_changeSign : Nat → Int32) (mo_differs : Nat → Int32) (mo_results : Nat → Int32) (mo_own : Nat → Int32) (mo_noticed : Nat → Int32) (mo_missed : Nat → Int32) (mo_leastFrom : Nat → Int32), k38 x1 x3 x4 mo_value mo_isLaid mo_changes mo_changeNode mo_changeSign mo_differs mo_results mo_own mo_noticed mo_missed mo_leastFrom = some (z_r, z_mo_value, z_mo_isLaid, z_mo_changes, z_mo_changeNode, z_mo_changeSign, z_mo_differs, z_mo_results, z_mo_own, z_mo_noticed, z_mo_missed, z_mo_leastFrom) → ∀ (H : Heap) (locs : List Loc) (ls : Array Slot), DB D A (wd_mo a b cI cJ cT mo_signs mo_signMany mo_nodeSign mo_nodeOn mo_nodeSize mo_nodeMany mo_due mo_openNode mo_value mo_isLaid mo_changes mo_changeNode mo_changeSign mo_differs mo_results mo_own mo_kinds mo_testInputs mo_testDue mo_tests mo_noticed mo_missed mo_leastFrom mo_blameUpper mo_blameLower) s H locs → lv_has ls 7 [(0, .ref (b 0)), (1, .int x1), (3, .int x3), (4, .int x4)] → W p l e rmX12_soon s m args below meth c H locs 0 0 (ZI below args s D A (tyl cI cJ cT) z_r (wd_mo a b cI cJ cT mo_signs mo_signMany mo_nodeSign mo_nodeOn mo_nodeSize mo_nodeMany mo_due mo_openNode z_mo_value z_mo_isLaid z_mo_changes z_mo_changeNode z_mo_changeSign z_mo_differs z_mo_results z_mo_own mo_kinds mo_testInputs mo_testDue mo_tests z_mo_noticed z_mo_missed z_mo_leastFrom mo_blameUpper mo_blameLower) 0 0) (F0 m 38 ls [])) : ∀ (x1 : Int32) (x3 : Int32) (x4 : Int32) (x5 : Int32) (mo_value : Nat → Int32) (mo_isLaid : Int32) (mo_changes : Int32) (mo_changeNode : Nat → Int32) (mo_changeSign : Nat → Int32) (mo_differs : Nat → Int32) (mo_results : Nat → Int32) (mo_own : Nat → Int32) (mo_noticed : Nat → Int32) (mo_missed : Nat → Int32) (mo_leastFrom : Nat → Int32), bX12_soon_98 N mo_nodeSign mo_nodeSize mo_nodeMany mo_kinds mo_testInputs mo_tests k24 k38 x1 x3 x4 x5 mo_value mo_isLaid mo_changes mo_changeNode mo_changeSign mo_differs mo_results mo_own mo_noticed mo_missed mo_leastFrom = some (z_r, z_mo_value, z_mo_isLaid, z_mo_changes, z_mo_changeNode, z_mo_changeSign, z_mo_differs, z_mo_results, z_mo_own, z_mo_noticed, z_mo_missed, z_mo_leastFrom) → ∀ (H : Heap) (locs : List Loc) (ls : Array Slot), DB D A (wd_mo a b cI cJ cT mo_signs mo_signMany mo_nodeSign mo_nodeOn mo_nodeSize mo_nodeMany mo_due mo_openNode mo_value mo_isLaid mo_changes mo_changeNode mo_changeSign mo_differs mo_results mo_own mo_kinds mo_testInputs mo_testDue mo_tests mo_noticed mo_missed mo_leastFrom mo_blameUpper mo_blameLower) s H locs → lv_has ls 7 [(0, .ref (b 0)), (1, .int x1), (3, .int x3), (4, .int x4), (5, .int x5)] → W p l e rmX12_soon s m args below meth c H locs 0 0 (ZI below args s D A (tyl cI cJ cT) z_r (wd_mo a b cI cJ cT mo_signs mo_signMany mo_nodeSign mo_nodeOn mo_nodeSize mo_nodeMany mo_due mo_openNode z_mo_value z_mo_isLaid z_mo_changes z_mo_changeNode z_mo_changeSign z_mo_differs z_mo_results z_mo_own mo_kinds mo_testInputs mo_testDue mo_tests z_mo_noticed z_mo_missed z_mo_leastFrom mo_blameUpper mo_blameLower) 0 0) (F0 m 98 ls []) := by
  have hx := C.1.1
  have hb := C.1.2.1
  have hown := C.1.2.2.2.1
  have hts := C.1.2.2.2.2
  intro x1 x3 x4 x5 mo_value mo_isLaid mo_changes mo_changeNode mo_changeSign mo_differs mo_results mo_own mo_noticed mo_missed mo_leastFrom h H locs ls B hl
  rw [bX12_soon_98] at h
  refine lv_iconst (v := 0) hx hb dX12_soon_98 (by decide) ?_
  exact qX12_soon_99 C hk24 hk38 x1 x3 x4 x5 (0 : Int32) mo_value mo_isLaid mo_changes mo_changeNode mo_changeSign mo_differs mo_results mo_own mo_noticed mo_missed mo_leastFrom h H locs ls B (lv_sub hl [0, 1, 2, 3, 4] rfl)
set_option maxHeartbeats 4000000 in
set_option maxRecDepth 100000 in
theorem qX12_soon_94 (C : CT p s m args meth c RX12 cX12_soon 7 (some .int) wsX12_soon D A (tyl cI cJ cT) Es) {N : Nat} {mo_signs : Nat → Int32} {mo_signMany : Int32} {mo_nodeSign : Nat → Int32} {mo_nodeOn : Nat → Int32} {mo_nodeSize : Nat → Int32} {mo_nodeMany : Nat → Int32} {mo_due : Nat → Int32} {mo_openNode : Nat → Int32} {mo_kinds : Nat → Int32} {mo_testInputs : Nat → Int32} {mo_testDue : Nat → Int32} {mo_tests : Int32} {mo_blameUpper : Nat → Int32} {mo_blameLower : Nat → Int32} {z_r : Int32} {z_mo_value : Nat → Int32} {z_mo_isLaid : Int32} {z_mo_changes : Int32} {z_mo_changeNode : Nat → Int32} {z_mo_changeSign : Nat → Int32} {z_mo_differs : Nat → Int32} {z_mo_results : Nat → Int32} {z_mo_own : Nat → Int32} {z_mo_noticed : Nat → Int32} {z_mo_missed : Nat → Int32} {z_mo_leastFrom : Nat → Int32} {k24 : Int32 → Int32 → (Nat → Int32) → (Int32) → (Int32) → (Nat → Int32) → (Nat → Int32) → (Nat → Int32) → (Nat → Int32) → (Nat → Int32) → (Nat → Int32) → (Nat → Int32) → (Nat → Int32) → Option (Int32 × (Nat → Int32) × (Int32) × (Int32) × (Nat → Int32) × (Nat → Int32) × (Nat → Int32) × (Nat → Int32) × (Nat → Int32) × (Nat → Int32) × (Nat → Int32) × (Nat → Int32))} (hk24 : ∀ (x1 : Int32) (x3 : Int32) (mo_value : Nat → Int32) (mo_isLaid : Int32) (mo_changes : Int32) (mo_changeNode : Nat → Int32) (mo_changeSign : Nat → Int32) (mo_differs : Nat → Int32) (mo_results : Nat → Int32) (mo_own : Nat → Int32) (mo_noticed : Nat → Int32) (mo_missed : Nat → Int32) (mo_leastFrom : Nat → Int32), k24 x1 x3 mo_value mo_isLaid mo_changes mo_changeNode mo_changeSign mo_differs mo_results mo_own mo_noticed mo_missed mo_leastFrom = some (z_r, z_mo_value, z_mo_isLaid, z_mo_changes, z_mo_changeNode, z_mo_changeSign, z_mo_differs, z_mo_results, z_mo_own, z_mo_noticed, z_mo_missed, z_mo_leastFrom) → ∀ (H : Heap) (locs : List Loc) (ls : Array Slot), DB D A (wd_mo a b cI cJ cT mo_signs mo_signMany mo_nodeSign mo_nodeOn mo_nodeSize mo_nodeMany mo_due mo_openNode mo_value mo_isLaid mo_changes mo_changeNode mo_changeSign mo_differs mo_results mo_own mo_kinds mo_testInputs mo_testDue mo_tests mo_noticed mo_missed mo_leastFrom mo_blameUpper mo_blameLower) s H locs → lv_has ls 7 [(0, .ref (b 0)), (1, .int x1), (3, .int x3)] → W p l e rmX12_soon s m args below meth c H locs 0 0 (ZI below args s D A (tyl cI cJ cT) z_r (wd_mo a b cI cJ cT mo_signs mo_signMany mo_nodeSign mo_nodeOn mo_nodeSize mo_nodeMany mo_due mo_openNode z_mo_value z_mo_isLaid z_mo_changes z_mo_changeNode z_mo_changeSign z_mo_differs z_mo_results z_mo_own mo_kinds mo_testInputs mo_testDue mo_tests z_mo_noticed z_mo_missed z_mo_leastFrom mo_blameUpper mo_blameLower) 0 0) (F0 m 24 ls [])) {k38 : Int32 → Int32 → Int32 → (Nat → Int32) → (Int32) → (Int32) → (Nat → Int32) → (Nat → Int32) → (Nat → Int32) → (Nat → Int32) → (Nat → Int32) → (Nat → Int32) → (Nat → Int32) → (Nat → Int32) → Option (Int32 × (Nat → Int32) × (Int32) × (Int32) × (Nat → Int32) × (Nat → Int32) × (Nat → Int32) × (Nat → Int32) × (Nat → Int32) × (Nat → Int32) × (Nat → Int32) × (Nat → Int32))} (hk38 : ∀ (x1 : Int32) (x3 : Int32) (x4 : Int32) (mo_value : Nat → Int32) (mo_isLaid : Int32) (mo_changes : Int32) (mo_changeNode : Nat → Int32) (mo_changeSign : Nat → Int32) (mo_differs : Nat → Int32) (mo_results : Nat → Int32) (mo_own : Nat → Int32) (mo_noticed : Nat → Int32) (mo_missed : Nat → Int32) (mo_leastFrom : Nat → Int32), k38 x1 x3 x4 mo_value mo_isLaid mo_changes mo_changeNode mo_changeSign mo_differs mo_results mo_own mo_noticed mo_missed mo_leastFrom = some (z_r, z_mo_value, z_mo_isLaid, z_mo_changes, z_mo_changeNode, z_mo_changeSign, z_mo_differs, z_mo_results, z_mo_own, z_mo_noticed, z_mo_missed, z_mo_leastFrom) → ∀ (H : Heap) (locs : List Loc) (ls : Array Slot), DB D A (wd_mo a b cI cJ cT mo_signs mo_signMany mo_nodeSign mo_nodeOn mo_nodeSize mo_nodeMany mo_due mo_openNode mo_value mo_isLaid mo_changes mo_changeNode mo_changeSign mo_differs mo_results mo_own mo_kinds mo_testInputs mo_testDue mo_tests mo_noticed mo_missed mo_leastFrom mo_blameUpper mo_blameLower) s H locs → lv_has ls 7 [(0, .ref (b 0)), (1, .int x1), (3, .int x3), (4, .int x4)] → W p l e rmX12_soon s m args below meth c H locs 0 0 (ZI below args s D A (tyl cI cJ cT) z_r (wd_mo a b cI cJ cT mo_signs mo_signMany mo_nodeSign mo_nodeOn mo_nodeSize mo_nodeMany mo_due mo_openNode z_mo_value z_mo_isLaid z_mo_changes z_mo_changeNode z_mo_changeSign z_mo_differs z_mo_results z_mo_own mo_kinds mo_testInputs mo_testDue mo_tests z_mo_noticed z_mo_missed z_mo_leastFrom mo_blameUpper mo_blameLower) 0 0) (F0 m 38 ls [])) : ∀ (x1 : Int32) (x3 : Int32) (x4 : Int32) (x5 : Int32) (mo_value : Nat → Int32) (mo_isLaid : Int32) (mo_changes : Int32) (mo_changeNode : Nat → Int32) (mo_changeSign : Nat → Int32) (mo_differs : Nat → Int32) (mo_results : Nat → Int32) (mo_own : Nat → Int32) (mo_noticed : Nat → Int32) (mo_missed : Nat → Int32) (mo_leastFrom : Nat → Int32), bX12_soon_94 N mo_nodeSign mo_nodeSize mo_nodeMany mo_kinds mo_testInputs mo_tests k24 k38 x1 x3 x4 x5 mo_value mo_isLaid mo_changes mo_changeNode mo_changeSign mo_differs mo_results mo_own mo_noticed mo_missed mo_leastFrom = some (z_r, z_mo_value, z_mo_isLaid, z_mo_changes, z_mo_changeNode, z_mo_changeSign, z_mo_differs, z_mo_results, z_mo_own, z_mo_noticed, z_mo_missed, z_mo_leastFrom) → ∀ (H : Heap) (locs : List Loc) (ls : Array Slot), DB D A (wd_mo a b cI cJ cT mo_signs mo_signMany mo_nodeSign mo_nodeOn mo_nodeSize mo_nodeMany mo_due mo_openNode mo_value mo_isLaid mo_changes mo_changeNode mo_changeSign mo_differs mo_results mo_own mo_kinds mo_testInputs mo_testDue mo_tests mo_noticed mo_missed mo_leastFrom mo_blameUpper mo_blameLower) s H locs → lv_has ls 7 [(0, .ref (b 0)), (1, .int x1), (3, .int x3), (4, .int x4), (5, .int x5)] → W p l e rmX12_soon s m args below meth c H locs 0 0 (ZI below args s D A (tyl cI cJ cT) z_r (wd_mo a b cI cJ cT mo_signs mo_signMany mo_nodeSign mo_nodeOn mo_nodeSize mo_nodeMany mo_due mo_openNode z_mo_value z_mo_isLaid z_mo_changes z_mo_changeNode z_mo_changeSign z_mo_differs z_mo_results z_mo_own mo_kinds mo_testInputs mo_testDue mo_tests z_mo_noticed z_mo_missed z_mo_leastFrom mo_blameUpper mo_blameLower) 0 0) (F0 m 94 ls []) := by
  have hx := C.1.1
  have hb := C.1.2.1
  have hown := C.1.2.2.2.1
  have hts := C.1.2.2.2.2
  intro x1 x3 x4 x5 mo_value mo_isLaid mo_changes mo_changeNode mo_changeSign mo_differs mo_results mo_own mo_noticed mo_missed mo_leastFrom h H locs ls B hl
  rw [bX12_soon_94] at h
  refine lv_iconst (v := 1) hx hb dX12_soon_94 (by decide) ?_
  refine lv_goto (tgt := 99) hx hb dX12_soon_95 (by decide) ?_
  exact qX12_soon_99 C hk24 hk38 x1 x3 x4 x5 (1 : Int32) mo_value mo_isLaid mo_changes mo_changeNode mo_changeSign mo_differs mo_results mo_own mo_noticed mo_missed mo_leastFrom h H locs ls B (lv_sub hl [0, 1, 2, 3, 4] rfl)
set_option maxHeartbeats 4000000 in
set_option maxRecDepth 100000 in
theorem qX12_soon_38 (C : CT p s m args meth c RX12 cX12_soon 7 (some .int) wsX12_soon D A (tyl cI cJ cT) Es) {N : Nat} {mo_signs : Nat → Int32} {mo_signMany : Int32} {mo_nodeSign : Nat → Int32} {mo_nodeOn : Nat → Int32} {mo_nodeSize : Nat → Int32} {mo_nodeMany : Nat → Int32} {mo_due : Nat → Int32} {mo_openNode : Nat → Int32} {mo_kinds : Nat → Int32} {mo_testInputs : Nat → Int32} {mo_testDue : Nat → Int32} {mo_tests : Int32} {mo_blameUpper : Nat → Int32} {mo_blameLower : Nat → Int32} {z_r : Int32} {z_mo_value : Nat → Int32} {z_mo_isLaid : Int32} {z_mo_changes : Int32} {z_mo_changeNode : Nat → Int32} {z_mo_changeSign : Nat → Int32} {z_mo_differs : Nat → Int32} {z_mo_results : Nat → Int32} {z_mo_own : Nat → Int32} {z_mo_noticed : Nat → Int32} {z_mo_missed : Nat → Int32} {z_mo_leastFrom : Nat → Int32} {k24 : Int32 → Int32 → (Nat → Int32) → (Int32) → (Int32) → (Nat → Int32) → (Nat → Int32) → (Nat → Int32) → (Nat → Int32) → (Nat → Int32) → (Nat → Int32) → (Nat → Int32) → (Nat → Int32) → Option (Int32 × (Nat → Int32) × (Int32) × (Int32) × (Nat → Int32) × (Nat → Int32) × (Nat → Int32) × (Nat → Int32) × (Nat → Int32) × (Nat → Int32) × (Nat → Int32) × (Nat → Int32))} (hk24 : ∀ (x1 : Int32) (x3 : Int32) (mo_value : Nat → Int32) (mo_isLaid : Int32) (mo_changes : Int32) (mo_changeNode : Nat → Int32) (mo_changeSign : Nat → Int32) (mo_differs : Nat → Int32) (mo_results : Nat → Int32) (mo_own : Nat → Int32) (mo_noticed : Nat → Int32) (mo_missed : Nat → Int32) (mo_leastFrom : Nat → Int32), k24 x1 x3 mo_value mo_isLaid mo_changes mo_changeNode mo_changeSign mo_differs mo_results mo_own mo_noticed mo_missed mo_leastFrom = some (z_r, z_mo_value, z_mo_isLaid, z_mo_changes, z_mo_changeNode, z_mo_changeSign, z_mo_differs, z_mo_results, z_mo_own, z_mo_noticed, z_mo_missed, z_mo_leastFrom) → ∀ (H : Heap) (locs : List Loc) (ls : Array Slot), DB D A (wd_mo a b cI cJ cT mo_signs mo_signMany mo_nodeSign mo_nodeOn mo_nodeSize mo_nodeMany mo_due mo_openNode mo_value mo_isLaid mo_changes mo_changeNode mo_changeSign mo_differs mo_results mo_own mo_kinds mo_testInputs mo_testDue mo_tests mo_noticed mo_missed mo_leastFrom mo_blameUpper mo_blameLower) s H locs → lv_has ls 7 [(0, .ref (b 0)), (1, .int x1), (3, .int x3)] → W p l e rmX12_soon s m args below meth c H locs 0 0 (ZI below args s D A (tyl cI cJ cT) z_r (wd_mo a b cI cJ cT mo_signs mo_signMany mo_nodeSign mo_nodeOn mo_nodeSize mo_nodeMany mo_due mo_openNode z_mo_value z_mo_isLaid z_mo_changes z_mo_changeNode z_mo_changeSign z_mo_differs z_mo_results z_mo_own mo_kinds mo_testInputs mo_testDue mo_tests z_mo_noticed z_mo_missed z_mo_leastFrom mo_blameUpper mo_blameLower) 0 0) (F0 m 24 ls [])) : ∀ (n : Nat) (x1 : Int32) (x3 : Int32) (x4 : Int32) (mo_value : Nat → Int32) (mo_isLaid : Int32) (mo_changes : Int32) (mo_changeNode : Nat → Int32) (mo_changeSign : Nat → Int32) (mo_differs : Nat → Int32) (mo_results : Nat → Int32) (mo_own : Nat → Int32) (mo_noticed : Nat → Int32) (mo_missed : Nat → Int32) (mo_leastFrom : Nat → Int32), bX12_soon_38 N mo_nodeSign mo_nodeSize mo_nodeMany mo_kinds mo_testInputs mo_tests k24 n x1 x3 x4 mo_value mo_isLaid mo_changes mo_changeNode mo_changeSign mo_differs mo_results mo_own mo_noticed mo_missed mo_leastFrom = some (z_r, z_mo_value, z_mo_isLaid, z_mo_changes, z_mo_changeNode, z_mo_changeSign, z_mo_differs, z_mo_results, z_mo_own, z_mo_noticed, z_mo_missed, z_mo_leastFrom) → ∀ (H : Heap) (locs : List Loc) (ls : Array Slot), DB D A (wd_mo a b cI cJ cT mo_signs mo_signMany mo_nodeSign mo_nodeOn mo_nodeSize mo_nodeMany mo_due mo_openNode mo_value mo_isLaid mo_changes mo_changeNode mo_changeSign mo_differs mo_results mo_own mo_kinds mo_testInputs mo_testDue mo_tests mo_noticed mo_missed mo_leastFrom mo_blameUpper mo_blameLower) s H locs → lv_has ls 7 [(0, .ref (b 0)), (1, .int x1), (3, .int x3), (4, .int x4)] → W p l e rmX12_soon s m args below meth c H locs 0 0 (ZI below args s D A (tyl cI cJ cT) z_r (wd_mo a b cI cJ cT mo_signs mo_signMany mo_nodeSign mo_nodeOn mo_nodeSize mo_nodeMany mo_due mo_openNode z_mo_value z_mo_isLaid z_mo_changes z_mo_changeNode z_mo_changeSign z_mo_differs z_mo_results z_mo_own mo_kinds mo_testInputs mo_testDue mo_tests z_mo_noticed z_mo_missed z_mo_leastFrom mo_blameUpper mo_blameLower) 0 0) (F0 m 38 ls []) := by
  have hx := C.1.1
  have hb := C.1.2.1
  have hown := C.1.2.2.2.1
  have hts := C.1.2.2.2.2
  intro n
  induction n with
  | zero => intro x1 x3 x4 mo_value mo_isLaid mo_changes mo_changeNode mo_changeSign mo_differs mo_results mo_own mo_noticed mo_missed mo_leastFrom h; cases h
  | succ n ih =>
    intro x1 x3 x4 mo_value mo_isLaid mo_changes mo_changeNode mo_changeSign mo_differs mo_results mo_own mo_noticed mo_missed mo_leastFrom h H locs ls B hl
    rw [bX12_soon_38] at h
    refine lv_iload hx hb dX12_soon_38 (lv_at hl 3 rfl) ?_
    refine lv_aload_n hx hb dX12_soon_40 rfl (lv_at hl 0 rfl) ?_
    refine gfX12_soon_155 C B 0 rfl rfl dX12_soon_41 ?_
    refine lv_icmp_ge (tgt := 142) hx hb dX12_soon_44 (by decide) (fun c_1 => ?_) (fun c_1 => ?_)
    · rw [if_pos c_1] at h
      refine lv_iinc (v := (x3 + (-1))) (lv' := [(3, .int (x3 + (-1))), (0, .ref (b 0)), (1, .int x1), (4, .int x4)]) hx hb dX12_soon_142 hl (k := 2) rfl rfl (by decide) rfl (fun ls hl => ?_)
      refine lv_goto (tgt := 24) hx hb dX12_soon_145 (by decide) ?_
      exact hk24 x1 (x3 + (-1)) mo_value mo_isLaid mo_changes mo_changeNode mo_changeSign mo_differs mo_results mo_own mo_noticed mo_missed mo_leastFrom h H locs ls B (lv_sub hl [1, 2, 0] rfl)
    · rw [if_neg c_1] at h
      refine lv_iload_n hx hb dX12_soon_47 rfl (lv_at hl 2 rfl) ?_
      refine lv_iconst (v := 1) hx hb dX12_soon_48 (by decide) ?_
      refine lv_iload hx hb dX12_soon_49 (lv_at hl 3 rfl) ?_
      refine lv_ishl hx hb dX12_soon_51 ?_
      refine lv_ior hx hb dX12_soon_52 ?_
      refine lv_istore (lv' := [(5, .int (x3 ||| ((1 : Int32) <<< (x4 &&& 31)))), (0, .ref (b 0)), (1, .int x1), (3, .int x3), (4, .int x4)]) hx hb dX12_soon_53 hl (by decide) rfl (fun ls hl => ?_)
      refine lv_iload hx hb dX12_soon_55 (lv_at hl 0 rfl) ?_
      refine lv_iload_n hx hb dX12_soon_57 rfl (lv_at hl 3 rfl) ?_
      refine lv_icmp_eq (tgt := 98) hx hb dX12_soon_58 (by decide) (fun c_2 => ?_) (fun c_2 => ?_)
      · rw [if_pos c_2] at h
        exact qX12_soon_98 C hk24 ih x1 x3 x4 (x3 ||| ((1 : Int32) <<< (x4 &&& 31))) mo_value mo_isLaid mo_changes mo_changeNode mo_changeSign mo_differs mo_results mo_own mo_noticed mo_missed mo_leastFrom h H locs ls B (lv_sub hl [1, 2, 3, 4, 0] rfl)
      · rw [if_neg c_2] at h
        refine lv_aload_n hx hb dX12_soon_61 rfl (lv_at hl 1 rfl) ?_
        refine gfX12_soon_65 C B 0 rfl rfl dX12_soon_62 ?_
        refine lv_iload_n hx hb dX12_soon_65 rfl (lv_at hl 3 rfl) ?_
        obtain ⟨b_3, h⟩ := bnd_some h
        refine k_iald C B 19 0 rfl rfl b_3 dX12_soon_66 ?_
        refine lv_if_lt (tgt := 94) hx hb dX12_soon_67 (by decide) (fun c_4 => ?_) (fun c_4 => ?_)
        · rw [if_pos c_4] at h
          exact qX12_soon_94 C hk24 ih x1 x3 x4 (x3 ||| ((1 : Int32) <<< (x4 &&& 31))) mo_value mo_isLaid mo_changes mo_changeNode mo_changeSign mo_differs mo_results mo_own mo_noticed mo_missed mo_leastFrom h H locs ls B (lv_sub hl [1, 2, 3, 4, 0] rfl)
        · rw [if_neg c_4] at h
          refine lv_aload_n hx hb dX12_soon_70 rfl (lv_at hl 1 rfl) ?_
          refine gfX12_soon_62 C B 0 rfl rfl dX12_soon_71 ?_
          refine lv_iload hx hb dX12_soon_74 (lv_at hl 0 rfl) ?_
          obtain ⟨b_5, h⟩ := bnd_some h
          refine k_iald C B 18 0 rfl rfl b_5 dX12_soon_76 ?_
          refine lv_aload_n hx hb dX12_soon_77 rfl (lv_at hl 1 rfl) ?_
          refine gfX12_soon_65 C B 0 rfl rfl dX12_soon_78 ?_
          refine lv_iload hx hb dX12_soon_81 (lv_at hl 0 rfl) ?_
          refine k_iald C B 19 0 rfl rfl b_5 dX12_soon_83 ?_
          refine lv_iadd hx hb dX12_soon_84 ?_
          refine lv_aload_n hx hb dX12_soon_85 rfl (lv_at hl 1 rfl) ?_
          refine gfX12_soon_65 C B 0 rfl rfl dX12_soon_86 ?_
          refine lv_iload_n hx hb dX12_soon_89 rfl (lv_at hl 3 rfl) ?_
          refine k_iald C B 19 0 rfl rfl b_3 dX12_soon_90 ?_
          refine lv_icmp_ge (tgt := 98) hx hb dX12_soon_91 (by decide) (fun c_6 => ?_) (fun c_6 => ?_)
          · rw [if_pos c_6] at h
            exact qX12_soon_98 C hk24 ih x1 x3 x4 (x3 ||| ((1 : Int32) <<< (x4 &&& 31))) mo_value mo_isLaid mo_changes mo_changeNode mo_changeSign mo_differs mo_results mo_own mo_noticed mo_missed mo_leastFrom h H locs ls B (lv_sub hl [1, 2, 3, 4, 0] rfl)
          · rw [if_neg c_6] at h
            exact qX12_soon_94 C hk24 ih x1 x3 x4 (x3 ||| ((1 : Int32) <<< (x4 &&& 31))) mo_value mo_isLaid mo_changes mo_changeNode mo_changeSign mo_differs mo_results mo_own mo_noticed mo_missed mo_leastFrom h H locs ls B (lv_sub hl [1, 2, 3, 4, 0] rfl)
set_option maxHeartbeats 4000000 in
set_option maxRecDepth 100000 in
theorem qX12_soon_24 (C : CT p s m args meth c RX12 cX12_soon 7 (some .int) wsX12_soon D A (tyl cI cJ cT) Es) {N : Nat} {mo_signs : Nat → Int32} {mo_signMany : Int32} {mo_nodeSign : Nat → Int32} {mo_nodeOn : Nat → Int32} {mo_nodeSize : Nat → Int32} {mo_nodeMany : Nat → Int32} {mo_due : Nat → Int32} {mo_openNode : Nat → Int32} {mo_kinds : Nat → Int32} {mo_testInputs : Nat → Int32} {mo_testDue : Nat → Int32} {mo_tests : Int32} {mo_blameUpper : Nat → Int32} {mo_blameLower : Nat → Int32} {z_r : Int32} {z_mo_value : Nat → Int32} {z_mo_isLaid : Int32} {z_mo_changes : Int32} {z_mo_changeNode : Nat → Int32} {z_mo_changeSign : Nat → Int32} {z_mo_differs : Nat → Int32} {z_mo_results : Nat → Int32} {z_mo_own : Nat → Int32} {z_mo_noticed : Nat → Int32} {z_mo_missed : Nat → Int32} {z_mo_leastFrom : Nat → Int32} : ∀ (n : Nat) (x1 : Int32) (x3 : Int32) (mo_value : Nat → Int32) (mo_isLaid : Int32) (mo_changes : Int32) (mo_changeNode : Nat → Int32) (mo_changeSign : Nat → Int32) (mo_differs : Nat → Int32) (mo_results : Nat → Int32) (mo_own : Nat → Int32) (mo_noticed : Nat → Int32) (mo_missed : Nat → Int32) (mo_leastFrom : Nat → Int32), bX12_soon_24 N mo_nodeSign mo_nodeSize mo_nodeMany mo_kinds mo_testInputs mo_tests n x1 x3 mo_value mo_isLaid mo_changes mo_changeNode mo_changeSign mo_differs mo_results mo_own mo_noticed mo_missed mo_leastFrom = some (z_r, z_mo_value, z_mo_isLaid, z_mo_changes, z_mo_changeNode, z_mo_changeSign, z_mo_differs, z_mo_results, z_mo_own, z_mo_noticed, z_mo_missed, z_mo_leastFrom) → ∀ (H : Heap) (locs : List Loc) (ls : Array Slot), DB D A (wd_mo a b cI cJ cT mo_signs mo_signMany mo_nodeSign mo_nodeOn mo_nodeSize mo_nodeMany mo_due mo_openNode mo_value mo_isLaid mo_changes mo_changeNode mo_changeSign mo_differs mo_results mo_own mo_kinds mo_testInputs mo_testDue mo_tests mo_noticed mo_missed mo_leastFrom mo_blameUpper mo_blameLower) s H locs → lv_has ls 7 [(0, .ref (b 0)), (1, .int x1), (3, .int x3)] → W p l e rmX12_soon s m args below meth c H locs 0 0 (ZI below args s D A (tyl cI cJ cT) z_r (wd_mo a b cI cJ cT mo_signs mo_signMany mo_nodeSign mo_nodeOn mo_nodeSize mo_nodeMany mo_due mo_openNode z_mo_value z_mo_isLaid z_mo_changes z_mo_changeNode z_mo_changeSign z_mo_differs z_mo_results z_mo_own mo_kinds mo_testInputs mo_testDue mo_tests z_mo_noticed z_mo_missed z_mo_leastFrom mo_blameUpper mo_blameLower) 0 0) (F0 m 24 ls []) := by
  have hx := C.1.1
  have hb := C.1.2.1
  have hown := C.1.2.2.2.1
  have hts := C.1.2.2.2.2
  intro n
  induction n with
  | zero => intro x1 x3 mo_value mo_isLaid mo_changes mo_changeNode mo_changeSign mo_differs mo_results mo_own mo_noticed mo_missed mo_leastFrom h; cases h
  | succ n ih =>
    intro x1 x3 mo_value mo_isLaid mo_changes mo_changeNode mo_changeSign mo_differs mo_results mo_own mo_noticed mo_missed mo_leastFrom h H locs ls B hl
    rw [bX12_soon_24] at h
    refine lv_iload_n hx hb dX12_soon_24 rfl (lv_at hl 2 rfl) ?_
    refine lv_if_lt (tgt := 148) hx hb dX12_soon_25 (by decide) (fun c_1 => ?_) (fun c_1 => ?_)
    · rw [if_pos c_1] at h
      refine lv_iload_n hx hb dX12_soon_148 rfl (lv_at hl 1 rfl) ?_
      refine lv_iconst (v := -1) hx hb dX12_soon_149 (by decide) ?_
      refine lv_icmp_ne (tgt := 160) hx hb dX12_soon_150 (by decide) (fun c_2 => ?_) (fun c_2 => ?_)
      · rw [if_neg c_2] at h
        refine lv_aload_n hx hb dX12_soon_160 rfl (lv_at hl 0 rfl) ?_
        refine lv_iload_n hx hb dX12_soon_161 rfl (lv_at hl 1 rfl) ?_
        obtain ⟨r_3, g_5, h⟩ := ob_some h
        try dsimp only at h
        refine kc_VI C B (q0 := 0) (ci := 12) (As := [.int x1]) (rest := []) (w2 := (wd_mo a b cI cJ cT mo_signs mo_signMany mo_nodeSign mo_nodeOn mo_nodeSize mo_nodeMany mo_due mo_openNode mo_value mo_isLaid mo_changes mo_changeNode mo_changeSign mo_differs mo_results mo_own mo_kinds mo_testInputs mo_testDue mo_tests mo_noticed mo_missed mo_leastFrom mo_blameUpper mo_blameLower)) (tX12_isTest (a := a) (b := b) N g_5) gX12_soon_X12_isTest rfl ⟨rfl, rfl⟩ ⟨rfl, hdX12_isTest⟩ ⟨Nat.le_of_ble_eq_true rfl, Nat.le_of_ble_eq_true rfl⟩ rfl rfl [0, 1, 2, 3, 4, 5, 6, 7, 8, 9, 10, 11, 12, 13, 14, 15, 16, 17, 18, 19, 20, 21] [] [0, 1, 2, 3, 4, 5, 6, 7, 8, 9, 10, 11, 12, 13, 14, 15, 16, 17, 18, 19, 20, 21] rfl rfl rfl rfl rfl rfl rfl rfl hl.1 rfl (Nat.le_of_ble_eq_true rfl) ⟨Nat.zero_le _, Nat.zero_le _⟩ dX12_soon_162 (fun H locs B => ?_)
        refine lv_if_ne (tgt := 171) hx hb dX12_soon_165 (by decide) (fun c_4 => ?_) (fun c_4 => ?_)
        · rw [if_neg c_4] at h
          refine lv_iconst (v := 0) hx hb dX12_soon_171 (by decide) ?_
          refine lv_istore_n (lv' := [(3, .int (0 : Int32)), (0, .ref (b 0)), (1, .int x1)]) hx hb dX12_soon_172 rfl hl (by decide) rfl (fun ls hl => ?_)
          refine lv_bipush (v := -6) hx hb dX12_soon_173 (by decide) ?_
          refine lv_istore (lv' := [(4, .int (-6 : Int32)), (3, .int (0 : Int32)), (0, .ref (b 0)), (1, .int x1)]) hx hb dX12_soon_175 hl (by decide) rfl (fun ls hl => ?_)
          refine lv_iconst (v := 0) hx hb dX12_soon_177 (by decide) ?_
          refine lv_istore (lv' := [(5, .int (0 : Int32)), (4, .int (-6 : Int32)), (3, .int (0 : Int32)), (0, .ref (b 0)), (1, .int x1)]) hx hb dX12_soon_178 hl (by decide) rfl (fun ls hl => ?_)
          exact qX12_soon_180 C N x1 (0 : Int32) (-6 : Int32) (0 : Int32) mo_value mo_isLaid mo_changes mo_changeNode mo_changeSign mo_differs mo_results mo_own mo_noticed mo_missed mo_leastFrom h H locs ls B (lv_sub hl [3, 4, 2, 1, 0] rfl)
        · rw [if_pos c_4] at h
          refine lv_bipush (v := -6) hx hb dX12_soon_168 (by decide) ?_
          cases h
          exact k_iret C B dX12_soon_170
      · rw [if_pos c_2] at h
        refine lv_aload_n hx hb dX12_soon_153 rfl (lv_at hl 0 rfl) ?_
        refine gfX12_soon_65 C B 0 rfl rfl dX12_soon_154 ?_
        refine lv_iconst (v := 0) hx hb dX12_soon_157 (by decide) ?_
        refine k_iald C B 19 0 rfl rfl (vp_lit (by decide)) dX12_soon_158 ?_
        cases h
        exact k_iret C B dX12_soon_159
    · rw [if_neg c_1] at h
      refine lv_aload_n hx hb dX12_soon_28 rfl (lv_at hl 0 rfl) ?_
      refine gfX12_soon_65 C B 0 rfl rfl dX12_soon_29 ?_
      refine lv_iload_n hx hb dX12_soon_32 rfl (lv_at hl 2 rfl) ?_
      refine lv_iconst (v := -1) hx hb dX12_soon_33 (by decide) ?_
      obtain ⟨b_7, h⟩ := bnd_some h
      refine k_iast C B 19 0 rfl rfl b_7 dX12_soon_34 (fun H locs B => ?_)
      have B : DB D A (wd_mo a b cI cJ cT mo_signs mo_signMany mo_nodeSign mo_nodeOn mo_nodeSize mo_nodeMany mo_due mo_openNode mo_value mo_isLaid mo_changes mo_changeNode mo_changeSign mo_differs mo_results mo_own mo_kinds mo_testInputs mo_testDue mo_tests mo_noticed mo_missed (upd mo_leastFrom (Int32.toNatClampNeg x3) (-1 : Int32)) mo_blameUpper mo_blameLower) s H locs := B
      refine lv_iconst (v := 0) hx hb dX12_soon_35 (by decide) ?_
      refine lv_istore (lv' := [(4, .int (0 : Int32)), (0, .ref (b 0)), (1, .int x1), (3, .int x3)]) hx hb dX12_soon_36 hl (by decide) rfl (fun ls hl => ?_)
      exact qX12_soon_38 C ih N x1 x3 (0 : Int32) mo_value mo_isLaid mo_changes mo_changeNode mo_changeSign mo_differs mo_results mo_own mo_noticed mo_missed (upd mo_leastFrom (Int32.toNatClampNeg x3) (-1 : Int32)) h H locs ls B (lv_sub hl [1, 2, 3, 0] rfl)
set_option maxHeartbeats 4000000 in
set_option maxRecDepth 100000 in
theorem qX12_soon_13 (C : CT p s m args meth c RX12 cX12_soon 7 (some .int) wsX12_soon D A (tyl cI cJ cT) Es) {N : Nat} {mo_signs : Nat → Int32} {mo_signMany : Int32} {mo_nodeSign : Nat → Int32} {mo_nodeOn : Nat → Int32} {mo_nodeSize : Nat → Int32} {mo_nodeMany : Nat → Int32} {mo_due : Nat → Int32} {mo_openNode : Nat → Int32} {mo_kinds : Nat → Int32} {mo_testInputs : Nat → Int32} {mo_testDue : Nat → Int32} {mo_tests : Int32} {mo_blameUpper : Nat → Int32} {mo_blameLower : Nat → Int32} {z_r : Int32} {z_mo_value : Nat → Int32} {z_mo_isLaid : Int32} {z_mo_changes : Int32} {z_mo_changeNode : Nat → Int32} {z_mo_changeSign : Nat → Int32} {z_mo_differs : Nat → Int32} {z_mo_results : Nat → Int32} {z_mo_own : Nat → Int32} {z_mo_noticed : Nat → Int32} {z_mo_missed : Nat → Int32} {z_mo_leastFrom : Nat → Int32} : ∀ (x1 : Int32) (x2 : Int32) (mo_value : Nat → Int32) (mo_isLaid : Int32) (mo_changes : Int32) (mo_changeNode : Nat → Int32) (mo_changeSign : Nat → Int32) (mo_differs : Nat → Int32) (mo_results : Nat → Int32) (mo_own : Nat → Int32) (mo_noticed : Nat → Int32) (mo_missed : Nat → Int32) (mo_leastFrom : Nat → Int32), bX12_soon_13 N mo_nodeSign mo_nodeSize mo_nodeMany mo_kinds mo_testInputs mo_tests x1 x2 mo_value mo_isLaid mo_changes mo_changeNode mo_changeSign mo_differs mo_results mo_own mo_noticed mo_missed mo_leastFrom = some (z_r, z_mo_value, z_mo_isLaid, z_mo_changes, z_mo_changeNode, z_mo_changeSign, z_mo_differs, z_mo_results, z_mo_own, z_mo_noticed, z_mo_missed, z_mo_leastFrom) → ∀ (H : Heap) (locs : List Loc) (ls : Array Slot), DB D A (wd_mo a b cI cJ cT mo_signs mo_signMany mo_nodeSign mo_nodeOn mo_nodeSize mo_nodeMany mo_due mo_openNode mo_value mo_isLaid mo_changes mo_changeNode mo_changeSign mo_differs mo_results mo_own mo_kinds mo_testInputs mo_testDue mo_tests mo_noticed mo_missed mo_leastFrom mo_blameUpper mo_blameLower) s H locs → lv_has ls 7 [(0, .ref (b 0)), (1, .int x1), (2, .int x2)] → W p l e rmX12_soon s m args below meth c H locs 0 0 (ZI below args s D A (tyl cI cJ cT) z_r (wd_mo a b cI cJ cT mo_signs mo_signMany mo_nodeSign mo_nodeOn mo_nodeSize mo_nodeMany mo_due mo_openNode z_mo_value z_mo_isLaid z_mo_changes z_mo_changeNode z_mo_changeSign z_mo_differs z_mo_results z_mo_own mo_kinds mo_testInputs mo_testDue mo_tests z_mo_noticed z_mo_missed z_mo_leastFrom mo_blameUpper mo_blameLower) 0 0) (F0 m 13 ls []) := by
  have hx := C.1.1
  have hb := C.1.2.1
  have hown := C.1.2.2.2.1
  have hts := C.1.2.2.2.2
  intro x1 x2 mo_value mo_isLaid mo_changes mo_changeNode mo_changeSign mo_differs mo_results mo_own mo_noticed mo_missed mo_leastFrom h H locs ls B hl
  rw [bX12_soon_13] at h
  refine lv_aload_n hx hb dX12_soon_13 rfl (lv_at hl 0 rfl) ?_
  refine gfX12_soon_65 C B 0 rfl rfl dX12_soon_14 ?_
  refine lv_iload_n hx hb dX12_soon_17 rfl (lv_at hl 2 rfl) ?_
  refine lv_iconst (v := 0) hx hb dX12_soon_18 (by decide) ?_
  obtain ⟨b_1, h⟩ := bnd_some h
  refine k_iast C B 19 0 rfl rfl b_1 dX12_soon_19 (fun H locs B => ?_)
  have B : DB D A (wd_mo a b cI cJ cT mo_signs mo_signMany mo_nodeSign mo_nodeOn mo_nodeSize mo_nodeMany mo_due mo_openNode mo_value mo_isLaid mo_changes mo_changeNode mo_changeSign mo_differs mo_results mo_own mo_kinds mo_testInputs mo_testDue mo_tests mo_noticed mo_missed (upd mo_leastFrom (Int32.toNatClampNeg x2) (0 : Int32)) mo_blameUpper mo_blameLower) s H locs := B
  refine lv_iload_n hx hb dX12_soon_20 rfl (lv_at hl 2 rfl) ?_
  refine lv_iconst (v := 1) hx hb dX12_soon_21 (by decide) ?_
  refine lv_isub hx hb dX12_soon_22 ?_
  refine lv_istore_n (lv' := [(3, .int (x2 - (1 : Int32))), (0, .ref (b 0)), (1, .int x1), (2, .int x2)]) hx hb dX12_soon_23 rfl hl (by decide) rfl (fun ls hl => ?_)
  exact qX12_soon_24 C N x1 (x2 - (1 : Int32)) mo_value mo_isLaid mo_changes mo_changeNode mo_changeSign mo_differs mo_results mo_own mo_noticed mo_missed (upd mo_leastFrom (Int32.toNatClampNeg x2) (0 : Int32)) h H locs ls B (lv_sub hl [1, 2, 0] rfl)
set_option maxHeartbeats 4000000 in
set_option maxRecDepth 100000 in
theorem qX12_soon_0 (C : CT p s m args meth c RX12 cX12_soon 7 (some .int) wsX12_soon D A (tyl cI cJ cT) Es) {N : Nat} {mo_signs : Nat → Int32} {mo_signMany : Int32} {mo_nodeSign : Nat → Int32} {mo_nodeOn : Nat → Int32} {mo_nodeSize : Nat → Int32} {mo_nodeMany : Nat → Int32} {mo_due : Nat → Int32} {mo_openNode : Nat → Int32} {mo_kinds : Nat → Int32} {mo_testInputs : Nat → Int32} {mo_testDue : Nat → Int32} {mo_tests : Int32} {mo_blameUpper : Nat → Int32} {mo_blameLower : Nat → Int32} {z_r : Int32} {z_mo_value : Nat → Int32} {z_mo_isLaid : Int32} {z_mo_changes : Int32} {z_mo_changeNode : Nat → Int32} {z_mo_changeSign : Nat → Int32} {z_mo_differs : Nat → Int32} {z_mo_results : Nat → Int32} {z_mo_own : Nat → Int32} {z_mo_noticed : Nat → Int32} {z_mo_missed : Nat → Int32} {z_mo_leastFrom : Nat → Int32} : ∀ (x1 : Int32) (mo_value : Nat → Int32) (mo_isLaid : Int32) (mo_changes : Int32) (mo_changeNode : Nat → Int32) (mo_changeSign : Nat → Int32) (mo_differs : Nat → Int32) (mo_results : Nat → Int32) (mo_own : Nat → Int32) (mo_noticed : Nat → Int32) (mo_missed : Nat → Int32) (mo_leastFrom : Nat → Int32), fX12_soon N mo_nodeSign mo_nodeSize mo_nodeMany mo_kinds mo_testInputs mo_tests x1 mo_value mo_isLaid mo_changes mo_changeNode mo_changeSign mo_differs mo_results mo_own mo_noticed mo_missed mo_leastFrom = some (z_r, z_mo_value, z_mo_isLaid, z_mo_changes, z_mo_changeNode, z_mo_changeSign, z_mo_differs, z_mo_results, z_mo_own, z_mo_noticed, z_mo_missed, z_mo_leastFrom) → ∀ (H : Heap) (locs : List Loc) (ls : Array Slot), DB D A (wd_mo a b cI cJ cT mo_signs mo_signMany mo_nodeSign mo_nodeOn mo_nodeSize mo_nodeMany mo_due mo_openNode mo_value mo_isLaid mo_changes mo_changeNode mo_changeSign mo_differs mo_results mo_own mo_kinds mo_testInputs mo_testDue mo_tests mo_noticed mo_missed mo_leastFrom mo_blameUpper mo_blameLower) s H locs → lv_has ls 7 [(0, .ref (b 0)), (1, .int x1)] → W p l e rmX12_soon s m args below meth c H locs 0 0 (ZI below args s D A (tyl cI cJ cT) z_r (wd_mo a b cI cJ cT mo_signs mo_signMany mo_nodeSign mo_nodeOn mo_nodeSize mo_nodeMany mo_due mo_openNode z_mo_value z_mo_isLaid z_mo_changes z_mo_changeNode z_mo_changeSign z_mo_differs z_mo_results z_mo_own mo_kinds mo_testInputs mo_testDue mo_tests z_mo_noticed z_mo_missed z_mo_leastFrom mo_blameUpper mo_blameLower) 0 0) (F0 m 0 ls []) := by
  have hx := C.1.1
  have hb := C.1.2.1
  have hown := C.1.2.2.2.1
  have hts := C.1.2.2.2.2
  intro x1 mo_value mo_isLaid mo_changes mo_changeNode mo_changeSign mo_differs mo_results mo_own mo_noticed mo_missed mo_leastFrom h H locs ls B hl
  rw [fX12_soon] at h
  refine lv_aload_n hx hb dX12_soon_0 rfl (lv_at hl 0 rfl) ?_
  obtain ⟨⟨mo_value_1, mo_isLaid_2, mo_changes_3, mo_changeNode_4, mo_changeSign_5, mo_differs_6, mo_results_7, mo_own_8, mo_noticed_9, mo_missed_10⟩, g_11, h⟩ := ob_some h
  try dsimp only at h
  refine kc_VV C B (q0 := 0) (ci := 12) (As := []) (rest := []) (w2 := (wd_mo a b cI cJ cT mo_signs mo_signMany mo_nodeSign mo_nodeOn mo_nodeSize mo_nodeMany mo_due mo_openNode mo_value_1 mo_isLaid_2 mo_changes_3 mo_changeNode_4 mo_changeSign_5 mo_differs_6 mo_results_7 mo_own_8 mo_kinds mo_testInputs mo_testDue mo_tests mo_noticed_9 mo_missed_10 mo_leastFrom mo_blameUpper mo_blameLower)) (tX12_findMissed (a := a) (b := b) N g_11) gX12_soon_X12_findMissed rfl ⟨rfl, rfl⟩ ⟨rfl, hdX12_findMissed⟩ ⟨Nat.le_of_ble_eq_true rfl, Nat.le_of_ble_eq_true rfl⟩ rfl rfl [0, 1, 2, 3, 4, 5, 6, 7, 8, 9, 10, 11, 12, 13, 14, 15, 16, 17, 18, 19, 20, 21] [] [0, 1, 2, 3, 4, 5, 6, 7, 8, 9, 10, 11, 12, 13, 14, 15, 16, 17, 18, 19, 20, 21] rfl rfl rfl rfl rfl rfl rfl rfl hl.1 rfl (Nat.le_of_ble_eq_true rfl) ⟨Nat.zero_le _, Nat.zero_le _⟩ dX12_soon_1 (fun H locs B => ?_)
  refine lv_iconst (v := 1) hx hb dX12_soon_4 (by decide) ?_
  refine lv_aload_n hx hb dX12_soon_5 rfl (lv_at hl 0 rfl) ?_
  refine gfX12_soon_155 C B 0 rfl rfl dX12_soon_6 ?_
  refine lv_ishl hx hb dX12_soon_9 ?_
  refine lv_iconst (v := 1) hx hb dX12_soon_10 (by decide) ?_
  refine lv_isub hx hb dX12_soon_11 ?_
  refine lv_istore_n (lv' := [(2, .int (((1 : Int32) <<< (mo_tests &&& 31)) - (1 : Int32))), (0, .ref (b 0)), (1, .int x1)]) hx hb dX12_soon_12 rfl hl (by decide) rfl (fun ls hl => ?_)
  exact qX12_soon_13 C x1 (((1 : Int32) <<< (mo_tests &&& 31)) - (1 : Int32)) mo_value_1 mo_isLaid_2 mo_changes_3 mo_changeNode_4 mo_changeSign_5 mo_differs_6 mo_results_7 mo_own_8 mo_noticed_9 mo_missed_10 mo_leastFrom h H locs ls B (lv_sub hl [1, 2, 0] rfl)
end
theorem tX12_soon {l : Launch} {D : va_G} {Es : (Nat → Nat) × (Nat → Nat)} {a b : Nat → Nat} {cI cJ cT : ClassId} {mo_signs : Nat → Int32} {mo_signMany : Int32} {mo_nodeSign : Nat → Int32} {mo_nodeOn : Nat → Int32} {mo_nodeSize : Nat → Int32} {mo_nodeMany : Nat → Int32} {mo_due : Nat → Int32} {mo_openNode : Nat → Int32} {mo_value : Nat → Int32} {mo_isLaid : Int32} {mo_changes : Int32} {mo_changeNode : Nat → Int32} {mo_changeSign : Nat → Int32} {mo_differs : Nat → Int32} {mo_results : Nat → Int32} {mo_own : Nat → Int32} {mo_kinds : Nat → Int32} {mo_testInputs : Nat → Int32} {mo_testDue : Nat → Int32} {mo_tests : Int32} {mo_noticed : Nat → Int32} {mo_missed : Nat → Int32} {mo_leastFrom : Nat → Int32} {mo_blameUpper : Nat → Int32} {mo_blameLower : Nat → Int32} {x1 : Int32} {z_r : Int32} {z_mo_value : Nat → Int32} {z_mo_isLaid : Int32} {z_mo_changes : Int32} {z_mo_changeNode : Nat → Int32} {z_mo_changeSign : Nat → Int32} {z_mo_differs : Nat → Int32} {z_mo_results : Nat → Int32} {z_mo_own : Nat → Int32} {z_mo_noticed : Nat → Int32} {z_mo_missed : Nat → Int32} {z_mo_leastFrom : Nat → Int32} (N : Nat) (h : fX12_soon N mo_nodeSign mo_nodeSize mo_nodeMany mo_kinds mo_testInputs mo_tests x1 mo_value mo_isLaid mo_changes mo_changeNode mo_changeSign mo_differs mo_results mo_own mo_noticed mo_missed mo_leastFrom = some (z_r, z_mo_value, z_mo_isLaid, z_mo_changes, z_mo_changeNode, z_mo_changeSign, z_mo_differs, z_mo_results, z_mo_own, z_mo_noticed, z_mo_missed, z_mo_leastFrom)) : CtI l yX12_soon wsX12_soon rmX12_soon D (tyl cI cJ cT) Es [.ref (b 0), .int x1] (wd_mo a b cI cJ cT mo_signs mo_signMany mo_nodeSign mo_nodeOn mo_nodeSize mo_nodeMany mo_due mo_openNode mo_value mo_isLaid mo_changes mo_changeNode mo_changeSign mo_differs mo_results mo_own mo_kinds mo_testInputs mo_testDue mo_tests mo_noticed mo_missed mo_leastFrom mo_blameUpper mo_blameLower) z_r (wd_mo a b cI cJ cT mo_signs mo_signMany mo_nodeSign mo_nodeOn mo_nodeSize mo_nodeMany mo_due mo_openNode z_mo_value z_mo_isLaid z_mo_changes z_mo_changeNode z_mo_changeSign z_mo_differs z_mo_results z_mo_own mo_kinds mo_testInputs mo_testDue mo_tests z_mo_noticed z_mo_missed z_mo_leastFrom mo_blameUpper mo_blameLower) :=
  CtI.of (own := RX12) (cc := cX12_soon) (nL := 7) (ret := (some .int)) (by decide +kernel) rfl rfl (Nat.le_of_ble_eq_true rfl) rfl (fun p e s m below meth c A ls C B hl => qX12_soon_0 C (N := N) x1 mo_value mo_isLaid mo_changes mo_changeNode mo_changeSign mo_differs mo_results mo_own mo_noticed mo_missed mo_leastFrom h _ _ _ B hl)

abbrev rmX12_wished : Room := { frames := 6, cells := 0, slots := 0, locals := 140 }
theorem hdX12_wished : yX12_wished.cls ≠ "java/lang/invoke/MethodHandle" ∧ yX12_wished.cls ≠ "java/lang/invoke/VarHandle" ∧ (parseMethodDescriptor yX12_wished.desc).map (fun d => d.parameters.length) = some 1 := by decide +kernel
theorem iX12_wished_X12 : ∀ w ∈ wsX120, w ∈ wsX12_wished := by decide +kernel
theorem gfX12_wished_141 {p : Program} {l : Launch} {e : Env} {R : Room} {s : State} {m : MethodId} {args : Array Value} {below : List Frame} {meth : Method} {c : Code} {H : Heap} {locs : List Loc} {cells slots : Nat} {Q : State → Prop} {D : va_G} {A : Nat → Prop} {tys : List (ClassId × FieldType)} {Es : (Nat → Nat) × (Nat → Nat)} {ws : va_W} {pc : Nat} {ls : Array Slot} {rest : List Value} {a : Nat} (C : CT p s m args meth c RX12 cX12_wished 7 (some .int) wsX12_wished D A tys Es) (B : DB D A ws s H locs) (q0 : Nat) {fs : List Value} {v : Value} (he : ws[q0]? = some (a, .inr (12, fs))) (hv : fs[10]? = some v) (hdg : decode cX12_wished pc = .ok (.getfield 141, 3)) (kk : W p l e R s m args below meth c H locs cells slots Q (F0 m (pc + 3) ls (v :: rest))) : W p l e R s m args below meth c H locs cells slots Q (F0 m pc ls (.ref a :: rest)) :=
  k_get (Cn := RX12) (T := TX12) (N := 25) (index := 141) C B iX12_wished_X12 rfl 10 (by decide) (by decide +kernel) q0 he hv hdg kk
theorem gfX12_wished_59 {p : Program} {l : Launch} {e : Env} {R : Room} {s : State} {m : MethodId} {args : Array Value} {below : List Frame} {meth : Method} {c : Code} {H : Heap} {locs : List Loc} {cells slots : Nat} {Q : State → Prop} {D : va_G} {A : Nat → Prop} {tys : List (ClassId × FieldType)} {Es : (Nat → Nat) × (Nat → Nat)} {ws : va_W} {pc : Nat} {ls : Array Slot} {rest : List Value} {a : Nat} (C : CT p s m args meth c RX12 cX12_wished 7 (some .int) wsX12_wished D A tys Es) (B : DB D A ws s H locs) (q0 : Nat) {fs : List Value} {v : Value} (he : ws[q0]? = some (a, .inr (12, fs))) (hv : fs[20]? = some v) (hdg : decode cX12_wished pc = .ok (.getfield 59, 3)) (kk : W p l e R s m args below meth c H locs cells slots Q (F0 m (pc + 3) ls (v :: rest))) : W p l e R s m args below meth c H locs cells slots Q (F0 m pc ls (.ref a :: rest)) :=
  k_get (Cn := RX12) (T := TX12) (N := 25) (index := 59) C B iX12_wished_X12 rfl 20 (by decide) (by decide +kernel) q0 he hv hdg kk
theorem gfX12_wished_44 {p : Program} {l : Launch} {e : Env} {R : Room} {s : State} {m : MethodId} {args : Array Value} {below : List Frame} {meth : Method} {c : Code} {H : Heap} {locs : List Loc} {cells slots : Nat} {Q : State → Prop} {D : va_G} {A : Nat → Prop} {tys : List (ClassId × FieldType)} {Es : (Nat → Nat) × (Nat → Nat)} {ws : va_W} {pc : Nat} {ls : Array Slot} {rest : List Value} {a : Nat} (C : CT p s m args meth c RX12 cX12_wished 7 (some .int) wsX12_wished D A tys Es) (B : DB D A ws s H locs) (q0 : Nat) {fs : List Value} {v : Value} (he : ws[q0]? = some (a, .inr (12, fs))) (hv : fs[14]? = some v) (hdg : decode cX12_wished pc = .ok (.getfield 44, 3)) (kk : W p l e R s m args below meth c H locs cells slots Q (F0 m (pc + 3) ls (v :: rest))) : W p l e R s m args below meth c H locs cells slots Q (F0 m pc ls (.ref a :: rest)) :=
  k_get (Cn := RX12) (T := TX12) (N := 25) (index := 44) C B iX12_wished_X12 rfl 14 (by decide) (by decide +kernel) q0 he hv hdg kk
theorem gfX12_wished_47 {p : Program} {l : Launch} {e : Env} {R : Room} {s : State} {m : MethodId} {args : Array Value} {below : List Frame} {meth : Method} {c : Code} {H : Heap} {locs : List Loc} {cells slots : Nat} {Q : State → Prop} {D : va_G} {A : Nat → Prop} {tys : List (ClassId × FieldType)} {Es : (Nat → Nat) × (Nat → Nat)} {ws : va_W} {pc : Nat} {ls : Array Slot} {rest : List Value} {a : Nat} (C : CT p s m args meth c RX12 cX12_wished 7 (some .int) wsX12_wished D A tys Es) (B : DB D A ws s H locs) (q0 : Nat) {fs : List Value} {v : Value} (he : ws[q0]? = some (a, .inr (12, fs))) (hv : fs[15]? = some v) (hdg : decode cX12_wished pc = .ok (.getfield 47, 3)) (kk : W p l e R s m args below meth c H locs cells slots Q (F0 m (pc + 3) ls (v :: rest))) : W p l e R s m args below meth c H locs cells slots Q (F0 m pc ls (.ref a :: rest)) :=
  k_get (Cn := RX12) (T := TX12) (N := 25) (index := 47) C B iX12_wished_X12 rfl 15 (by decide) (by decide +kernel) q0 he hv hdg kk
section
variable {p : Program} {l : Launch} {e : Env} {s : State} {m : MethodId} {args : Array Value} {below : List Frame} {meth : Method} {c : Code} {D : va_G} {A : Nat → Prop} {Es : (Nat → Nat) × (Nat → Nat)} {a b : Nat → Nat} {cI cJ cT : ClassId}
set_option maxHeartbeats 4000000 in
set_option maxRecDepth 100000 in
theorem qX12_wished_36 (C : CT p s m args meth c RX12 cX12_wished 7 (some .int) wsX12_wished D A (tyl cI cJ cT) Es) {N : Nat} {mo_signs : Nat → Int32} {mo_signMany : Int32} {mo_nodeSign : Nat → Int32} {mo_nodeOn : Nat → Int32} {mo_nodeSize : Nat → Int32} {mo_nodeMany : Nat → Int32} {mo_due : Nat → Int32} {mo_openNode : Nat → Int32} {mo_kinds : Nat → Int32} {mo_testInputs : Nat → Int32} {mo_testDue : Nat → Int32} {mo_tests : Int32} {mo_missed : Nat → Int32} {mo_leastFrom : Nat → Int32} {mo_blameUpper : Nat → Int32} {mo_blameLower : Nat → Int32} {z_r : Int32} {z_mo_value : Nat → Int32} {z_mo_isLaid : Int32} {z_mo_changes : Int32} {z_mo_changeNode : Nat → Int32} {z_mo_changeSign : Nat → Int32} {z_mo_differs : Nat → Int32} {z_mo_results : Nat → Int32} {z_mo_own : Nat → Int32} {z_mo_noticed : Nat → Int32} {k22 : Int32 → Int32 → Int32 → Int32 → (Nat → Int32) → (Int32) → (Int32) → (Nat → Int32) → (Nat → Int32) → (Nat → Int32) → (Nat → Int32) → (Nat → Int32) → (Nat → Int32) → Option (Int32 × (Nat → Int32) × (Int32) × (Int32) × (Nat → Int32) × (Nat → Int32) × (Nat → Int32) × (Nat → Int32) × (Nat → Int32) × (Nat → Int32))} (hk22 : ∀ (x1 : Int32) (x2 : Int32) (x3 : Int32) (x4 : Int32) (mo_value : Nat → Int32) (mo_isLaid : Int32) (mo_changes : Int32) (mo_changeNode : Nat → Int32) (mo_changeSign : Nat → Int32) (mo_differs : Nat → Int32) (mo_results : Nat → Int32) (mo_own : Nat → Int32) (mo_noticed : Nat → Int32), k22 x1 x2 x3 x4 mo_value mo_isLaid mo_changes mo_changeNode mo_changeSign mo_differs mo_results mo_own mo_noticed = some (z_r, z_mo_value, z_mo_isLaid, z_mo_changes, z_mo_changeNode, z_mo_changeSign, z_mo_differs, z_mo_results, z_mo_own, z_mo_noticed) → ∀ (H : Heap) (locs : List Loc) (ls : Array Slot), DB D A (wd_mo a b cI cJ cT mo_signs mo_signMany mo_nodeSign mo_nodeOn mo_nodeSize mo_nodeMany mo_due mo_openNode mo_value mo_isLaid mo_changes mo_changeNode mo_changeSign mo_differs mo_results mo_own mo_kinds mo_testInputs mo_testDue mo_tests mo_noticed mo_missed mo_leastFrom mo_blameUpper mo_blameLower) s H locs → lv_has ls 7 [(0, .ref (b 0)), (1, .int x1), (2, .int x2), (3, .int x3), (4, .int x4)] → W p l e rmX12_wished s m args below meth c H locs 0 0 (ZI below args s D A (tyl cI cJ cT) z_r (wd_mo a b cI cJ cT mo_signs mo_signMany mo_nodeSign mo_nodeOn mo_nodeSize mo_nodeMany mo_due mo_openNode z_mo_value z_mo_isLaid z_mo_changes z_mo_changeNode z_mo_changeSign z_mo_differs z_mo_results z_mo_own mo_kinds mo_testInputs mo_testDue mo_tests z_mo_noticed mo_missed mo_leastFrom mo_blameUpper mo_blameLower) 0 0) (F0 m 22 ls [])) : ∀ (n : Nat) (x1 : Int32) (x2 : Int32) (x3 : Int32) (x4 : Int32) (x5 : Int32) (x6 : Int32) (mo_value : Nat → Int32) (mo_isLaid : Int32) (mo_changes : Int32) (mo_changeNode : Nat → Int32) (mo_changeSign : Nat → Int32) (mo_differs : Nat → Int32) (mo_results : Nat → Int32) (mo_own : Nat → Int32) (mo_noticed : Nat → Int32), bX12_wished_36 N mo_nodeSign mo_nodeSize mo_nodeMany mo_kinds mo_testInputs mo_tests k22 n x1 x2 x3 x4 x5 x6 mo_value mo_isLaid mo_changes mo_changeNode mo_changeSign mo_differs mo_results mo_own mo_noticed = some (z_r, z_mo_value, z_mo_isLaid, z_mo_changes, z_mo_changeNode, z_mo_changeSign, z_mo_differs, z_mo_results, z_mo_own, z_mo_noticed) → ∀ (H : Heap) (locs : List Loc) (ls : Array Slot), DB D A (wd_mo a b cI cJ cT mo_signs mo_signMany mo_nodeSign mo_nodeOn mo_nodeSize mo_nodeMany mo_due mo_openNode mo_value mo_isLaid mo_changes mo_changeNode mo_changeSign mo_differs mo_results mo_own mo_kinds mo_testInputs mo_testDue mo_tests mo_noticed mo_missed mo_leastFrom mo_blameUpper mo_blameLower) s H locs → lv_has ls 7 [(0, .ref (b 0)), (1, .int x1), (2, .int x2), (3, .int x3), (4, .int x4), (5, .int x5), (6, .int x6)] → W p l e rmX12_wished s m args below meth c H locs 0 0 (ZI below args s D A (tyl cI cJ cT) z_r (wd_mo a b cI cJ cT mo_signs mo_signMany mo_nodeSign mo_nodeOn mo_nodeSize mo_nodeMany mo_due mo_openNode z_mo_value z_mo_isLaid z_mo_changes z_mo_changeNode z_mo_changeSign z_mo_differs z_mo_results z_mo_own mo_kinds mo_testInputs mo_testDue mo_tests z_mo_noticed mo_missed mo_leastFrom mo_blameUpper mo_blameLower) 0 0) (F0 m 36 ls []) := by
  have hx := C.1.1
  have hb := C.1.2.1
  have hown := C.1.2.2.2.1
  have hts := C.1.2.2.2.2
  intro n
  induction n with
  | zero => intro x1 x2 x3 x4 x5 x6 mo_value mo_isLaid mo_changes mo_changeNode mo_changeSign mo_differs mo_results mo_own mo_noticed h; cases h
  | succ n ih =>
    intro x1 x2 x3 x4 x5 x6 mo_value mo_isLaid mo_changes mo_changeNode mo_changeSign mo_differs mo_results mo_own mo_noticed h H locs ls B hl
    rw [bX12_wished_36] at h
    refine lv_iload hx hb dX12_wished_36 (lv_at hl 6 rfl) ?_
    refine lv_aload_n hx hb dX12_wished_38 rfl (lv_at hl 0 rfl) ?_
    refine gfX12_wished_141 C B 0 rfl rfl dX12_wished_39 ?_
    refine lv_icmp_ge (tgt := 95) hx hb dX12_wished_42 (by decide) (fun c_1 => ?_) (fun c_1 => ?_)
    · rw [if_pos c_1] at h
      refine lv_iload hx hb dX12_wished_95 (lv_at hl 5 rfl) ?_
      refine lv_iload_n hx hb dX12_wished_97 rfl (lv_at hl 3 rfl) ?_
      refine lv_icmp_le (tgt := 107) hx hb dX12_wished_98 (by decide) (fun c_2 => ?_) (fun c_2 => ?_)
      · rw [if_pos c_2] at h
        refine lv_iinc (v := (x4 + 1)) (lv' := [(4, .int (x4 + 1)), (0, .ref (b 0)), (1, .int x1), (2, .int x2), (3, .int x3), (5, .int x5), (6, .int x6)]) hx hb dX12_wished_107 hl (k := 4) rfl rfl (by decide) rfl (fun ls hl => ?_)
        refine lv_goto (tgt := 22) hx hb dX12_wished_110 (by decide) ?_
        exact hk22 x1 x2 x3 (x4 + 1) mo_value mo_isLaid mo_changes mo_changeNode mo_changeSign mo_differs mo_results mo_own mo_noticed h H locs ls B (lv_sub hl [1, 2, 3, 4, 0] rfl)
      · rw [if_neg c_2] at h
        refine lv_iload hx hb dX12_wished_101 (lv_at hl 5 rfl) ?_
        refine lv_istore_n (lv' := [(3, .int x5), (0, .ref (b 0)), (1, .int x1), (2, .int x2), (4, .int x4), (5, .int x5), (6, .int x6)]) hx hb dX12_wished_103 rfl hl (by decide) rfl (fun ls hl => ?_)
        refine lv_iload hx hb dX12_wished_104 (lv_at hl 4 rfl) ?_
        refine lv_istore_n (lv' := [(2, .int x4), (3, .int x5), (0, .ref (b 0)), (1, .int x1), (4, .int x4), (5, .int x5), (6, .int x6)]) hx hb dX12_wished_106 rfl hl (by decide) rfl (fun ls hl => ?_)
        refine lv_iinc (v := (x4 + 1)) (lv' := [(4, .int (x4 + 1)), (2, .int x4), (3, .int x5), (0, .ref (b 0)), (1, .int x1), (5, .int x5), (6, .int x6)]) hx hb dX12_wished_107 hl (k := 4) rfl rfl (by decide) rfl (fun ls hl => ?_)
        refine lv_goto (tgt := 22) hx hb dX12_wished_110 (by decide) ?_
        exact hk22 x1 x4 x5 (x4 + 1) mo_value mo_isLaid mo_changes mo_changeNode mo_changeSign mo_differs mo_results mo_own mo_noticed h H locs ls B (lv_sub hl [3, 4, 1, 2, 0] rfl)
    · rw [if_neg c_1] at h
      refine lv_iload hx hb dX12_wished_45 (lv_at hl 5 rfl) ?_
      refine lv_aload_n hx hb dX12_wished_47 rfl (lv_at hl 0 rfl) ?_
      refine gfX12_wished_59 C B 0 rfl rfl dX12_wished_48 ?_
      refine lv_iload hx hb dX12_wished_51 (lv_at hl 6 rfl) ?_
      obtain ⟨b_3, h⟩ := bnd_some h
      refine k_iald C B 17 0 rfl rfl b_3 dX12_wished_53 ?_
      refine lv_if_ne (tgt := 85) hx hb dX12_wished_54 (by decide) (fun c_4 => ?_) (fun c_4 => ?_)
      · rw [if_neg c_4] at h
        refine lv_iconst (v := 0) hx hb dX12_wished_85 (by decide) ?_
        refine lv_iadd hx hb dX12_wished_86 ?_
        refine lv_istore (lv' := [(5, .int (x5 + (0 : Int32))), (0, .ref (b 0)), (1, .int x1), (2, .int x2), (3, .int x3), (4, .int x4), (6, .int x6)]) hx hb dX12_wished_87 hl (by decide) rfl (fun ls hl => ?_)
        refine lv_iinc (v := (x6 + 1)) (lv' := [(6, .int (x6 + 1)), (5, .int (x5 + (0 : Int32))), (0, .ref (b 0)), (1, .int x1), (2, .int x2), (3, .int x3), (4, .int x4)]) hx hb dX12_wished_89 hl (k := 6) rfl rfl (by decide) rfl (fun ls hl => ?_)
        refine lv_goto (tgt := 36) hx hb dX12_wished_92 (by decide) ?_
        exact ih x1 x2 x3 x4 (x5 + (0 : Int32)) (x6 + 1) mo_value mo_isLaid mo_changes mo_changeNode mo_changeSign mo_differs mo_results mo_own mo_noticed h H locs ls B (lv_sub hl [2, 3, 4, 5, 6, 1, 0] rfl)
      · rw [if_pos c_4] at h
        refine lv_aload_n hx hb dX12_wished_57 rfl (lv_at hl 0 rfl) ?_
        refine gfX12_wished_44 C B 0 rfl rfl dX12_wished_58 ?_
        refine lv_sipush (v := 512) hx hb dX12_wished_61 (by decide) ?_
        refine lv_iload hx hb dX12_wished_64 (lv_at hl 6 rfl) ?_
        refine lv_imul hx hb dX12_wished_66 ?_
        refine lv_iload hx hb dX12_wished_67 (lv_at hl 4 rfl) ?_
        refine lv_iadd hx hb dX12_wished_69 ?_
        obtain ⟨b_5, h⟩ := bnd_some h
        refine k_iald C B 12 0 rfl rfl b_5 dX12_wished_70 ?_
        refine lv_aload_n hx hb dX12_wished_71 rfl (lv_at hl 0 rfl) ?_
        refine gfX12_wished_47 C B 0 rfl rfl dX12_wished_72 ?_
        refine lv_iload hx hb dX12_wished_75 (lv_at hl 4 rfl) ?_
        obtain ⟨b_6, h⟩ := bnd_some h
        refine k_iald C B 13 0 rfl rfl b_6 dX12_wished_77 ?_
        refine lv_icmp_eq (tgt := 85) hx hb dX12_wished_78 (by decide) (fun c_7 => ?_) (fun c_7 => ?_)
        · rw [if_pos c_7] at h
          refine lv_iconst (v := 0) hx hb dX12_wished_85 (by decide) ?_
          refine lv_iadd hx hb dX12_wished_86 ?_
          refine lv_istore (lv' := [(5, .int (x5 + (0 : Int32))), (0, .ref (b 0)), (1, .int x1), (2, .int x2), (3, .int x3), (4, .int x4), (6, .int x6)]) hx hb dX12_wished_87 hl (by decide) rfl (fun ls hl => ?_)
          refine lv_iinc (v := (x6 + 1)) (lv' := [(6, .int (x6 + 1)), (5, .int (x5 + (0 : Int32))), (0, .ref (b 0)), (1, .int x1), (2, .int x2), (3, .int x3), (4, .int x4)]) hx hb dX12_wished_89 hl (k := 6) rfl rfl (by decide) rfl (fun ls hl => ?_)
          refine lv_goto (tgt := 36) hx hb dX12_wished_92 (by decide) ?_
          exact ih x1 x2 x3 x4 (x5 + (0 : Int32)) (x6 + 1) mo_value mo_isLaid mo_changes mo_changeNode mo_changeSign mo_differs mo_results mo_own mo_noticed h H locs ls B (lv_sub hl [2, 3, 4, 5, 6, 1, 0] rfl)
        · rw [if_neg c_7] at h
          refine lv_iconst (v := 1) hx hb dX12_wished_81 (by decide) ?_
          refine lv_goto (tgt := 86) hx hb dX12_wished_82 (by decide) ?_
          refine lv_iadd hx hb dX12_wished_86 ?_
          refine lv_istore (lv' := [(5, .int (x5 + (1 : Int32))), (0, .ref (b 0)), (1, .int x1), (2, .int x2), (3, .int x3), (4, .int x4), (6, .int x6)]) hx hb dX12_wished_87 hl (by decide) rfl (fun ls hl => ?_)
          refine lv_iinc (v := (x6 + 1)) (lv' := [(6, .int (x6 + 1)), (5, .int (x5 + (1 : Int32))), (0, .ref (b 0)), (1, .int x1), (2, .int x2), (3, .int x3), (4, .int x4)]) hx hb dX12_wished_89 hl (k := 6) rfl rfl (by decide) rfl (fun ls hl => ?_)
          refine lv_goto (tgt := 36) hx hb dX12_wished_92 (by decide) ?_
          exact ih x1 x2 x3 x4 (x5 + (1 : Int32)) (x6 + 1) mo_value mo_isLaid mo_changes mo_changeNode mo_changeSign mo_differs mo_results mo_own mo_noticed h H locs ls B (lv_sub hl [2, 3, 4, 5, 6, 1, 0] rfl)
set_option maxHeartbeats 4000000 in
set_option maxRecDepth 100000 in
theorem qX12_wished_22 (C : CT p s m args meth c RX12 cX12_wished 7 (some .int) wsX12_wished D A (tyl cI cJ cT) Es) {N : Nat} {mo_signs : Nat → Int32} {mo_signMany : Int32} {mo_nodeSign : Nat → Int32} {mo_nodeOn : Nat → Int32} {mo_nodeSize : Nat → Int32} {mo_nodeMany : Nat → Int32} {mo_due : Nat → Int32} {mo_openNode : Nat → Int32} {mo_kinds : Nat → Int32} {mo_testInputs : Nat → Int32} {mo_testDue : Nat → Int32} {mo_tests : Int32} {mo_missed : Nat → Int32} {mo_leastFrom : Nat → Int32} {mo_blameUpper : Nat → Int32} {mo_blameLower : Nat → Int32} {z_r : Int32} {z_mo_value : Nat → Int32} {z_mo_isLaid : Int32} {z_mo_changes : Int32} {z_mo_changeNode : Nat → Int32} {z_mo_changeSign : Nat → Int32} {z_mo_differs : Nat → Int32} {z_mo_results : Nat → Int32} {z_mo_own : Nat → Int32} {z_mo_noticed : Nat → Int32} : ∀ (n : Nat) (x1 : Int32) (x2 : Int32) (x3 : Int32) (x4 : Int32) (mo_value : Nat → Int32) (mo_isLaid : Int32) (mo_changes : Int32) (mo_changeNode : Nat → Int32) (mo_changeSign : Nat → Int32) (mo_differs : Nat → Int32) (mo_results : Nat → Int32) (mo_own : Nat → Int32) (mo_noticed : Nat → Int32), bX12_wished_22 N mo_nodeSign mo_nodeSize mo_nodeMany mo_kinds mo_testInputs mo_tests n x1 x2 x3 x4 mo_value mo_isLaid mo_changes mo_changeNode mo_changeSign mo_differs mo_results mo_own mo_noticed = some (z_r, z_mo_value, z_mo_isLaid, z_mo_changes, z_mo_changeNode, z_mo_changeSign, z_mo_differs, z_mo_results, z_mo_own, z_mo_noticed) → ∀ (H : Heap) (locs : List Loc) (ls : Array Slot), DB D A (wd_mo a b cI cJ cT mo_signs mo_signMany mo_nodeSign mo_nodeOn mo_nodeSize mo_nodeMany mo_due mo_openNode mo_value mo_isLaid mo_changes mo_changeNode mo_changeSign mo_differs mo_results mo_own mo_kinds mo_testInputs mo_testDue mo_tests mo_noticed mo_missed mo_leastFrom mo_blameUpper mo_blameLower) s H locs → lv_has ls 7 [(0, .ref (b 0)), (1, .int x1), (2, .int x2), (3, .int x3), (4, .int x4)] → W p l e rmX12_wished s m args below meth c H locs 0 0 (ZI below args s D A (tyl cI cJ cT) z_r (wd_mo a b cI cJ cT mo_signs mo_signMany mo_nodeSign mo_nodeOn mo_nodeSize mo_nodeMany mo_due mo_openNode z_mo_value z_mo_isLaid z_mo_changes z_mo_changeNode z_mo_changeSign z_mo_differs z_mo_results z_mo_own mo_kinds mo_testInputs mo_testDue mo_tests z_mo_noticed mo_missed mo_leastFrom mo_blameUpper mo_blameLower) 0 0) (F0 m 22 ls []) := by
  have hx := C.1.1
  have hb := C.1.2.1
  have hown := C.1.2.2.2.1
  have hts := C.1.2.2.2.2
  intro n
  induction n with
  | zero => intro x1 x2 x3 x4 mo_value mo_isLaid mo_changes mo_changeNode mo_changeSign mo_differs mo_results mo_own mo_noticed h; cases h
  | succ n ih =>
    intro x1 x2 x3 x4 mo_value mo_isLaid mo_changes mo_changeNode mo_changeSign mo_differs mo_results mo_own mo_noticed h H locs ls B hl
    rw [bX12_wished_22] at h
    refine lv_iload hx hb dX12_wished_22 (lv_at hl 4 rfl) ?_
    refine lv_sipush (v := 512) hx hb dX12_wished_24 (by decide) ?_
    refine lv_icmp_ge (tgt := 113) hx hb dX12_wished_27 (by decide) (fun c_1 => ?_) (fun c_1 => ?_)
    · rw [if_pos c_1] at h
      refine lv_iload_n hx hb dX12_wished_113 rfl (lv_at hl 1 rfl) ?_
      refine lv_if_ne (tgt := 121) hx hb dX12_wished_114 (by decide) (fun c_2 => ?_) (fun c_2 => ?_)
      · rw [if_neg c_2] at h
        refine lv_iload_n hx hb dX12_wished_121 rfl (lv_at hl 3 rfl) ?_
        cases h
        exact k_iret C B dX12_wished_122
      · rw [if_pos c_2] at h
        refine lv_iload_n hx hb dX12_wished_117 rfl (lv_at hl 2 rfl) ?_
        refine lv_goto (tgt := 122) hx hb dX12_wished_118 (by decide) ?_
        cases h
        exact k_iret C B dX12_wished_122
    · rw [if_neg c_1] at h
      refine lv_iconst (v := 0) hx hb dX12_wished_30 (by decide) ?_
      refine lv_istore (lv' := [(5, .int (0 : Int32)), (0, .ref (b 0)), (1, .int x1), (2, .int x2), (3, .int x3), (4, .int x4)]) hx hb dX12_wished_31 hl (by decide) rfl (fun ls hl => ?_)
      refine lv_iconst (v := 0) hx hb dX12_wished_33 (by decide) ?_
      refine lv_istore (lv' := [(6, .int (0 : Int32)), (5, .int (0 : Int32)), (0, .ref (b 0)), (1, .int x1), (2, .int x2), (3, .int x3), (4, .int x4)]) hx hb dX12_wished_34 hl (by decide) rfl (fun ls hl => ?_)
      exact qX12_wished_36 C ih N x1 x2 x3 x4 (0 : Int32) (0 : Int32) mo_value mo_isLaid mo_changes mo_changeNode mo_changeSign mo_differs mo_results mo_own mo_noticed h H locs ls B (lv_sub hl [2, 3, 4, 5, 6, 1, 0] rfl)
set_option maxHeartbeats 4000000 in
set_option maxRecDepth 100000 in
theorem qX12_wished_0 (C : CT p s m args meth c RX12 cX12_wished 7 (some .int) wsX12_wished D A (tyl cI cJ cT) Es) {N : Nat} {mo_signs : Nat → Int32} {mo_signMany : Int32} {mo_nodeSign : Nat → Int32} {mo_nodeOn : Nat → Int32} {mo_nodeSize : Nat → Int32} {mo_nodeMany : Nat → Int32} {mo_due : Nat → Int32} {mo_openNode : Nat → Int32} {mo_kinds : Nat → Int32} {mo_testInputs : Nat → Int32} {mo_testDue : Nat → Int32} {mo_tests : Int32} {mo_missed : Nat → Int32} {mo_leastFrom : Nat → Int32} {mo_blameUpper : Nat → Int32} {mo_blameLower : Nat → Int32} {z_r : Int32} {z_mo_value : Nat → Int32} {z_mo_isLaid : Int32} {z_mo_changes : Int32} {z_mo_changeNode : Nat → Int32} {z_mo_changeSign : Nat → Int32} {z_mo_differs : Nat → Int32} {z_mo_results : Nat → Int32} {z_mo_own : Nat → Int32} {z_mo_noticed : Nat → Int32} : ∀ (x1 : Int32) (mo_value : Nat → Int32) (mo_isLaid : Int32) (mo_changes : Int32) (mo_changeNode : Nat → Int32) (mo_changeSign : Nat → Int32) (mo_differs : Nat → Int32) (mo_results : Nat → Int32) (mo_own : Nat → Int32) (mo_noticed : Nat → Int32), fX12_wished N mo_nodeSign mo_nodeSize mo_nodeMany mo_kinds mo_testInputs mo_tests x1 mo_value mo_isLaid mo_changes mo_changeNode mo_changeSign mo_differs mo_results mo_own mo_noticed = some (z_r, z_mo_value, z_mo_isLaid, z_mo_changes, z_mo_changeNode, z_mo_changeSign, z_mo_differs, z_mo_results, z_mo_own, z_mo_noticed) → ∀ (H : Heap) (locs : List Loc) (ls : Array Slot), DB D A (wd_mo a b cI cJ cT mo_signs mo_signMany mo_nodeSign mo_nodeOn mo_nodeSize mo_nodeMany mo_due mo_openNode mo_value mo_isLaid mo_changes mo_changeNode mo_changeSign mo_differs mo_results mo_own mo_kinds mo_testInputs mo_testDue mo_tests mo_noticed mo_missed mo_leastFrom mo_blameUpper mo_blameLower) s H locs → lv_has ls 7 [(0, .ref (b 0)), (1, .int x1)] → W p l e rmX12_wished s m args below meth c H locs 0 0 (ZI below args s D A (tyl cI cJ cT) z_r (wd_mo a b cI cJ cT mo_signs mo_signMany mo_nodeSign mo_nodeOn mo_nodeSize mo_nodeMany mo_due mo_openNode z_mo_value z_mo_isLaid z_mo_changes z_mo_changeNode z_mo_changeSign z_mo_differs z_mo_results z_mo_own mo_kinds mo_testInputs mo_testDue mo_tests z_mo_noticed mo_missed mo_leastFrom mo_blameUpper mo_blameLower) 0 0) (F0 m 0 ls []) := by
  have hx := C.1.1
  have hb := C.1.2.1
  have hown := C.1.2.2.2.1
  have hts := C.1.2.2.2.2
  intro x1 mo_value mo_isLaid mo_changes mo_changeNode mo_changeSign mo_differs mo_results mo_own mo_noticed h H locs ls B hl
  rw [fX12_wished] at h
  refine lv_iload_n hx hb dX12_wished_0 rfl (lv_at hl 1 rfl) ?_
  obtain ⟨r_1, g_13, h⟩ := ob_some h
  try dsimp only at h
  refine kc_SI C B (As := [.int x1]) (rest := []) (w2 := (wd_mo a b cI cJ cT mo_signs mo_signMany mo_nodeSign mo_nodeOn mo_nodeSize mo_nodeMany mo_due mo_openNode mo_value mo_isLaid mo_changes mo_changeNode mo_changeSign mo_differs mo_results mo_own mo_kinds mo_testInputs mo_testDue mo_tests mo_noticed mo_missed mo_leastFrom mo_blameUpper mo_blameLower)) (tX12_isPart N g_13) gX12_wished_X12_isPart rfl ⟨rfl, rfl⟩ hdX12_isPart ⟨Nat.le_of_ble_eq_true rfl, Nat.le_of_ble_eq_true rfl⟩ [] [0, 1, 2, 3, 4, 5, 6, 7, 8, 9, 10, 11, 12, 13, 14, 15, 16, 17, 18, 19, 20, 21] [0, 1, 2, 3, 4, 5, 6, 7, 8, 9, 10, 11, 12, 13, 14, 15, 16, 17, 18, 19, 20, 21] rfl rfl rfl rfl rfl rfl rfl rfl hl.1 rfl (Nat.le_of_ble_eq_true rfl) ⟨Nat.zero_le _, Nat.zero_le _⟩ dX12_wished_1 (fun H locs B => ?_)
  refine lv_if_ne (tgt := 10) hx hb dX12_wished_4 (by decide) (fun c_2 => ?_) (fun c_2 => ?_)
  · rw [if_neg c_2] at h
    refine lv_aload_n hx hb dX12_wished_10 rfl (lv_at hl 0 rfl) ?_
    obtain ⟨⟨mo_value_3, mo_isLaid_4, mo_changes_5, mo_changeNode_6, mo_changeSign_7, mo_differs_8, mo_results_9, mo_own_10, mo_noticed_11⟩, g_12, h⟩ := ob_some h
    try dsimp only at h
    refine kc_VV C B (q0 := 0) (ci := 12) (As := []) (rest := []) (w2 := (wd_mo a b cI cJ cT mo_signs mo_signMany mo_nodeSign mo_nodeOn mo_nodeSize mo_nodeMany mo_due mo_openNode mo_value_3 mo_isLaid_4 mo_changes_5 mo_changeNode_6 mo_changeSign_7 mo_differs_8 mo_results_9 mo_own_10 mo_kinds mo_testInputs mo_testDue mo_tests mo_noticed_11 mo_missed mo_leastFrom mo_blameUpper mo_blameLower)) (tX12_findNoticed (a := a) (b := b) N g_12) gX12_wished_X12_findNoticed rfl ⟨rfl, rfl⟩ ⟨rfl, hdX12_findNoticed⟩ ⟨Nat.le_of_ble_eq_true rfl, Nat.le_of_ble_eq_true rfl⟩ rfl rfl [0, 1, 2, 3, 4, 5, 6, 7, 8, 9, 10, 11, 12, 13, 14, 15, 16, 17, 18, 19, 20, 21] [] [0, 1, 2, 3, 4, 5, 6, 7, 8, 9, 10, 11, 12, 13, 14, 15, 16, 17, 18, 19, 20, 21] rfl rfl rfl rfl rfl rfl rfl rfl hl.1 rfl (Nat.le_of_ble_eq_true rfl) ⟨Nat.zero_le _, Nat.zero_le _⟩ dX12_wished_11 (fun H locs B => ?_)
    refine lv_bipush (v := -6) hx hb dX12_wished_14 (by decide) ?_
    refine lv_istore_n (lv' := [(2, .int (-6 : Int32)), (0, .ref (b 0)), (1, .int x1)]) hx hb dX12_wished_16 rfl hl (by decide) rfl (fun ls hl => ?_)
    refine lv_iconst (v := 0) hx hb dX12_wished_17 (by decide) ?_
    refine lv_istore_n (lv' := [(3, .int (0 : Int32)), (2, .int (-6 : Int32)), (0, .ref (b 0)), (1, .int x1)]) hx hb dX12_wished_18 rfl hl (by decide) rfl (fun ls hl => ?_)
    refine lv_iconst (v := 0) hx hb dX12_wished_19 (by decide) ?_
    refine lv_istore (lv' := [(4, .int (0 : Int32)), (3, .int (0 : Int32)), (2, .int (-6 : Int32)), (0, .ref (b 0)), (1, .int x1)]) hx hb dX12_wished_20 hl (by decide) rfl (fun ls hl => ?_)
    exact qX12_wished_22 C N x1 (-6 : Int32) (0 : Int32) (0 : Int32) mo_value_3 mo_isLaid_4 mo_changes_5 mo_changeNode_6 mo_changeSign_7 mo_differs_8 mo_results_9 mo_own_10 mo_noticed_11 h H locs ls B (lv_sub hl [3, 4, 2, 1, 0] rfl)
  · rw [if_pos c_2] at h
    refine lv_bipush (v := -2) hx hb dX12_wished_7 (by decide) ?_
    cases h
    exact k_iret C B dX12_wished_9
end
theorem tX12_wished {l : Launch} {D : va_G} {Es : (Nat → Nat) × (Nat → Nat)} {a b : Nat → Nat} {cI cJ cT : ClassId} {mo_signs : Nat → Int32} {mo_signMany : Int32} {mo_nodeSign : Nat → Int32} {mo_nodeOn : Nat → Int32} {mo_nodeSize : Nat → Int32} {mo_nodeMany : Nat → Int32} {mo_due : Nat → Int32} {mo_openNode : Nat → Int32} {mo_value : Nat → Int32} {mo_isLaid : Int32} {mo_changes : Int32} {mo_changeNode : Nat → Int32} {mo_changeSign : Nat → Int32} {mo_differs : Nat → Int32} {mo_results : Nat → Int32} {mo_own : Nat → Int32} {mo_kinds : Nat → Int32} {mo_testInputs : Nat → Int32} {mo_testDue : Nat → Int32} {mo_tests : Int32} {mo_noticed : Nat → Int32} {mo_missed : Nat → Int32} {mo_leastFrom : Nat → Int32} {mo_blameUpper : Nat → Int32} {mo_blameLower : Nat → Int32} {x1 : Int32} {z_r : Int32} {z_mo_value : Nat → Int32} {z_mo_isLaid : Int32} {z_mo_changes : Int32} {z_mo_changeNode : Nat → Int32} {z_mo_changeSign : Nat → Int32} {z_mo_differs : Nat → Int32} {z_mo_results : Nat → Int32} {z_mo_own : Nat → Int32} {z_mo_noticed : Nat → Int32} (N : Nat) (h : fX12_wished N mo_nodeSign mo_nodeSize mo_nodeMany mo_kinds mo_testInputs mo_tests x1 mo_value mo_isLaid mo_changes mo_changeNode mo_changeSign mo_differs mo_results mo_own mo_noticed = some (z_r, z_mo_value, z_mo_isLaid, z_mo_changes, z_mo_changeNode, z_mo_changeSign, z_mo_differs, z_mo_results, z_mo_own, z_mo_noticed)) : CtI l yX12_wished wsX12_wished rmX12_wished D (tyl cI cJ cT) Es [.ref (b 0), .int x1] (wd_mo a b cI cJ cT mo_signs mo_signMany mo_nodeSign mo_nodeOn mo_nodeSize mo_nodeMany mo_due mo_openNode mo_value mo_isLaid mo_changes mo_changeNode mo_changeSign mo_differs mo_results mo_own mo_kinds mo_testInputs mo_testDue mo_tests mo_noticed mo_missed mo_leastFrom mo_blameUpper mo_blameLower) z_r (wd_mo a b cI cJ cT mo_signs mo_signMany mo_nodeSign mo_nodeOn mo_nodeSize mo_nodeMany mo_due mo_openNode z_mo_value z_mo_isLaid z_mo_changes z_mo_changeNode z_mo_changeSign z_mo_differs z_mo_results z_mo_own mo_kinds mo_testInputs mo_testDue mo_tests z_mo_noticed mo_missed mo_leastFrom mo_blameUpper mo_blameLower) :=
  CtI.of (own := RX12) (cc := cX12_wished) (nL := 7) (ret := (some .int)) (by decide +kernel) rfl rfl (Nat.le_of_ble_eq_true rfl) rfl (fun p e s m below meth c A ls C B hl => qX12_wished_0 C (N := N) x1 mo_value mo_isLaid mo_changes mo_changeNode mo_changeSign mo_differs mo_results mo_own mo_noticed h _ _ _ B hl)

abbrev rmX12_failing : Room := { frames := 5, cells := 0, slots := 0, locals := 118 }
theorem hdX12_failing : yX12_failing.cls ≠ "java/lang/invoke/MethodHandle" ∧ yX12_failing.cls ≠ "java/lang/invoke/VarHandle" ∧ (parseMethodDescriptor yX12_failing.desc).map (fun d => d.parameters.length) = some 0 := by decide +kernel
theorem iX12_failing_X12 : ∀ w ∈ wsX120, w ∈ wsX12_failing := by decide +kernel
theorem gfX12_failing_155 {p : Program} {l : Launch} {e : Env} {R : Room} {s : State} {m : MethodId} {args : Array Value} {below : List Frame} {meth : Method} {c : Code} {H : Heap} {locs : List Loc} {cells slots : Nat} {Q : State → Prop} {D : va_G} {A : Nat → Prop} {tys : List (ClassId × FieldType)} {Es : (Nat → Nat) × (Nat → Nat)} {ws : va_W} {pc : Nat} {ls : Array Slot} {rest : List Value} {a : Nat} (C : CT p s m args meth c RX12 cX12_failing 3 (some .int) wsX12_failing D A tys Es) (B : DB D A ws s H locs) (q0 : Nat) {fs : List Value} {v : Value} (he : ws[q0]? = some (a, .inr (12, fs))) (hv : fs[19]? = some v) (hdg : decode cX12_failing pc = .ok (.getfield 155, 3)) (kk : W p l e R s m args below meth c H locs cells slots Q (F0 m (pc + 3) ls (v :: rest))) : W p l e R s m args below meth c H locs cells slots Q (F0 m pc ls (.ref a :: rest)) :=
  k_get (Cn := RX12) (T := TX12) (N := 25) (index := 155) C B iX12_failing_X12 rfl 19 (by decide) (by decide +kernel) q0 he hv hdg kk
section
variable {p : Program} {l : Launch} {e : Env} {s : State} {m : MethodId} {args : Array Value} {below : List Frame} {meth : Method} {c : Code} {D : va_G} {A : Nat → Prop} {Es : (Nat → Nat) × (Nat → Nat)} {a b : Nat → Nat} {cI cJ cT : ClassId}
set_option maxHeartbeats 4000000 in
set_option maxRecDepth 100000 in
theorem qX12_failing_8 (C : CT p s m args meth c RX12 cX12_failing 3 (some .int) wsX12_failing D A (tyl cI cJ cT) Es) {N : Nat} {mo_signs : Nat → Int32} {mo_signMany : Int32} {mo_nodeSign : Nat → Int32} {mo_nodeOn : Nat → Int32} {mo_nodeSize : Nat → Int32} {mo_nodeMany : Nat → Int32} {mo_due : Nat → Int32} {mo_openNode : Nat → Int32} {mo_kinds : Nat → Int32} {mo_testInputs : Nat → Int32} {mo_testDue : Nat → Int32} {mo_tests : Int32} {mo_noticed : Nat → Int32} {mo_missed : Nat → Int32} {mo_leastFrom : Nat → Int32} {mo_blameUpper : Nat → Int32} {mo_blameLower : Nat → Int32} {z_r : Int32} {z_mo_value : Nat → Int32} {z_mo_isLaid : Int32} {z_mo_changes : Int32} {z_mo_changeNode : Nat → Int32} {z_mo_changeSign : Nat → Int32} {z_mo_differs : Nat → Int32} {z_mo_results : Nat → Int32} {z_mo_own : Nat → Int32} : ∀ (n : Nat) (x1 : Int32) (x2 : Int32) (mo_value : Nat → Int32) (mo_isLaid : Int32) (mo_changes : Int32) (mo_changeNode : Nat → Int32) (mo_changeSign : Nat → Int32) (mo_differs : Nat → Int32) (mo_results : Nat → Int32) (mo_own : Nat → Int32), bX12_failing_8 N mo_nodeSign mo_nodeSize mo_nodeMany mo_kinds mo_testInputs mo_testDue mo_tests n x1 x2 mo_value mo_isLaid mo_changes mo_changeNode mo_changeSign mo_differs mo_results mo_own = some (z_r, z_mo_value, z_mo_isLaid, z_mo_changes, z_mo_changeNode, z_mo_changeSign, z_mo_differs, z_mo_results, z_mo_own) → ∀ (H : Heap) (locs : List Loc) (ls : Array Slot), DB D A (wd_mo a b cI cJ cT mo_signs mo_signMany mo_nodeSign mo_nodeOn mo_nodeSize mo_nodeMany mo_due mo_openNode mo_value mo_isLaid mo_changes mo_changeNode mo_changeSign mo_differs mo_results mo_own mo_kinds mo_testInputs mo_testDue mo_tests mo_noticed mo_missed mo_leastFrom mo_blameUpper mo_blameLower) s H locs → lv_has ls 3 [(0, .ref (b 0)), (1, .int x1), (2, .int x2)] → W p l e rmX12_failing s m args below meth c H locs 0 0 (ZI below args s D A (tyl cI cJ cT) z_r (wd_mo a b cI cJ cT mo_signs mo_signMany mo_nodeSign mo_nodeOn mo_nodeSize mo_nodeMany mo_due mo_openNode z_mo_value z_mo_isLaid z_mo_changes z_mo_changeNode z_mo_changeSign z_mo_differs z_mo_results z_mo_own mo_kinds mo_testInputs mo_testDue mo_tests mo_noticed mo_missed mo_leastFrom mo_blameUpper mo_blameLower) 0 0) (F0 m 8 ls []) := by
  have hx := C.1.1
  have hb := C.1.2.1
  have hown := C.1.2.2.2.1
  have hts := C.1.2.2.2.2
  intro n
  induction n with
  | zero => intro x1 x2 mo_value mo_isLaid mo_changes mo_changeNode mo_changeSign mo_differs mo_results mo_own h; cases h
  | succ n ih =>
    intro x1 x2 mo_value mo_isLaid mo_changes mo_changeNode mo_changeSign mo_differs mo_results mo_own h H locs ls B hl
    rw [bX12_failing_8] at h
    refine lv_iload_n hx hb dX12_failing_8 rfl (lv_at hl 2 rfl) ?_
    refine lv_aload_n hx hb dX12_failing_9 rfl (lv_at hl 0 rfl) ?_
    refine gfX12_failing_155 C B 0 rfl rfl dX12_failing_10 ?_
    refine lv_icmp_ge (tgt := 38) hx hb dX12_failing_13 (by decide) (fun c_1 => ?_) (fun c_1 => ?_)
    · rw [if_pos c_1] at h
      refine lv_iload_n hx hb dX12_failing_38 rfl (lv_at hl 1 rfl) ?_
      cases h
      exact k_iret C B dX12_failing_39
    · rw [if_neg c_1] at h
      refine lv_iload_n hx hb dX12_failing_16 rfl (lv_at hl 1 rfl) ?_
      refine lv_aload_n hx hb dX12_failing_17 rfl (lv_at hl 0 rfl) ?_
      refine lv_iload_n hx hb dX12_failing_18 rfl (lv_at hl 2 rfl) ?_
      obtain ⟨r_2, g_4, h⟩ := ob_some h
      try dsimp only at h
      refine kc_VI C B (q0 := 0) (ci := 12) (As := [.int x2]) (rest := [.int x1]) (w2 := (wd_mo a b cI cJ cT mo_signs mo_signMany mo_nodeSign mo_nodeOn mo_nodeSize mo_nodeMany mo_due mo_openNode mo_value mo_isLaid mo_changes mo_changeNode mo_changeSign mo_differs mo_results mo_own mo_kinds mo_testInputs mo_testDue mo_tests mo_noticed mo_missed mo_leastFrom mo_blameUpper mo_blameLower)) (tX12_doesFail (a := a) (b := b) N g_4) gX12_failing_X12_doesFail rfl ⟨rfl, rfl⟩ ⟨rfl, hdX12_doesFail⟩ ⟨Nat.le_of_ble_eq_true rfl, Nat.le_of_ble_eq_true rfl⟩ rfl rfl [0, 1, 2, 3, 4, 5, 6, 7, 8, 9, 10, 11, 12, 13, 14, 15, 16, 17, 18, 19, 20, 21] [] [0, 1, 2, 3, 4, 5, 6, 7, 8, 9, 10, 11, 12, 13, 14, 15, 16, 17, 18, 19, 20, 21] rfl rfl rfl rfl rfl rfl rfl rfl hl.1 rfl (Nat.le_of_ble_eq_true rfl) ⟨Nat.zero_le _, Nat.zero_le _⟩ dX12_failing_19 (fun H locs B => ?_)
      refine lv_if_eq (tgt := 29) hx hb dX12_failing_22 (by decide) (fun c_3 => ?_) (fun c_3 => ?_)
      · rw [if_pos c_3] at h
        refine lv_iconst (v := 0) hx hb dX12_failing_29 (by decide) ?_
        refine lv_iadd hx hb dX12_failing_30 ?_
        refine lv_istore_n (lv' := [(1, .int (x1 + (0 : Int32))), (0, .ref (b 0)), (2, .int x2)]) hx hb dX12_failing_31 rfl hl (by decide) rfl (fun ls hl => ?_)
        refine lv_iinc (v := (x2 + 1)) (lv' := [(2, .int (x2 + 1)), (1, .int (x1 + (0 : Int32))), (0, .ref (b 0))]) hx hb dX12_failing_32 hl (k := 2) rfl rfl (by decide) rfl (fun ls hl => ?_)
        refine lv_goto (tgt := 8) hx hb dX12_failing_35 (by decide) ?_
        exact ih (x1 + (0 : Int32)) (x2 + 1) mo_value mo_isLaid mo_changes mo_changeNode mo_changeSign mo_differs mo_results mo_own h H locs ls B (lv_sub hl [2, 1, 0] rfl)
      · rw [if_neg c_3] at h
        refine lv_iconst (v := 1) hx hb dX12_failing_25 (by decide) ?_
        refine lv_goto (tgt := 30) hx hb dX12_failing_26 (by decide) ?_
        refine lv_iadd hx hb dX12_failing_30 ?_
        refine lv_istore_n (lv' := [(1, .int (x1 + (1 : Int32))), (0, .ref (b 0)), (2, .int x2)]) hx hb dX12_failing_31 rfl hl (by decide) rfl (fun ls hl => ?_)
        refine lv_iinc (v := (x2 + 1)) (lv' := [(2, .int (x2 + 1)), (1, .int (x1 + (1 : Int32))), (0, .ref (b 0))]) hx hb dX12_failing_32 hl (k := 2) rfl rfl (by decide) rfl (fun ls hl => ?_)
        refine lv_goto (tgt := 8) hx hb dX12_failing_35 (by decide) ?_
        exact ih (x1 + (1 : Int32)) (x2 + 1) mo_value mo_isLaid mo_changes mo_changeNode mo_changeSign mo_differs mo_results mo_own h H locs ls B (lv_sub hl [2, 1, 0] rfl)
set_option maxHeartbeats 4000000 in
set_option maxRecDepth 100000 in
theorem qX12_failing_0 (C : CT p s m args meth c RX12 cX12_failing 3 (some .int) wsX12_failing D A (tyl cI cJ cT) Es) {N : Nat} {mo_signs : Nat → Int32} {mo_signMany : Int32} {mo_nodeSign : Nat → Int32} {mo_nodeOn : Nat → Int32} {mo_nodeSize : Nat → Int32} {mo_nodeMany : Nat → Int32} {mo_due : Nat → Int32} {mo_openNode : Nat → Int32} {mo_kinds : Nat → Int32} {mo_testInputs : Nat → Int32} {mo_testDue : Nat → Int32} {mo_tests : Int32} {mo_noticed : Nat → Int32} {mo_missed : Nat → Int32} {mo_leastFrom : Nat → Int32} {mo_blameUpper : Nat → Int32} {mo_blameLower : Nat → Int32} {z_r : Int32} {z_mo_value : Nat → Int32} {z_mo_isLaid : Int32} {z_mo_changes : Int32} {z_mo_changeNode : Nat → Int32} {z_mo_changeSign : Nat → Int32} {z_mo_differs : Nat → Int32} {z_mo_results : Nat → Int32} {z_mo_own : Nat → Int32} : ∀ (mo_value : Nat → Int32) (mo_isLaid : Int32) (mo_changes : Int32) (mo_changeNode : Nat → Int32) (mo_changeSign : Nat → Int32) (mo_differs : Nat → Int32) (mo_results : Nat → Int32) (mo_own : Nat → Int32), fX12_failing N mo_nodeSign mo_nodeSize mo_nodeMany mo_kinds mo_testInputs mo_testDue mo_tests mo_value mo_isLaid mo_changes mo_changeNode mo_changeSign mo_differs mo_results mo_own = some (z_r, z_mo_value, z_mo_isLaid, z_mo_changes, z_mo_changeNode, z_mo_changeSign, z_mo_differs, z_mo_results, z_mo_own) → ∀ (H : Heap) (locs : List Loc) (ls : Array Slot), DB D A (wd_mo a b cI cJ cT mo_signs mo_signMany mo_nodeSign mo_nodeOn mo_nodeSize mo_nodeMany mo_due mo_openNode mo_value mo_isLaid mo_changes mo_changeNode mo_changeSign mo_differs mo_results mo_own mo_kinds mo_testInputs mo_testDue mo_tests mo_noticed mo_missed mo_leastFrom mo_blameUpper mo_blameLower) s H locs → lv_has ls 3 [(0, .ref (b 0))] → W p l e rmX12_failing s m args below meth c H locs 0 0 (ZI below args s D A (tyl cI cJ cT) z_r (wd_mo a b cI cJ cT mo_signs mo_signMany mo_nodeSign mo_nodeOn mo_nodeSize mo_nodeMany mo_due mo_openNode z_mo_value z_mo_isLaid z_mo_changes z_mo_changeNode z_mo_changeSign z_mo_differs z_mo_results z_mo_own mo_kinds mo_testInputs mo_testDue mo_tests mo_noticed mo_missed mo_leastFrom mo_blameUpper mo_blameLower) 0 0) (F0 m 0 ls []) := by
  have hx := C.1.1
  have hb := C.1.2.1
  have hown := C.1.2.2.2.1
  have hts := C.1.2.2.2.2
  intro mo_value mo_isLaid mo_changes mo_changeNode mo_changeSign mo_differs mo_results mo_own h H locs ls B hl
  rw [fX12_failing] at h
  refine lv_aload_n hx hb dX12_failing_0 rfl (lv_at hl 0 rfl) ?_
  obtain ⟨⟨mo_value_1, mo_isLaid_2, mo_changes_3, mo_changeNode_4, mo_changeSign_5, mo_differs_6, mo_results_7, mo_own_8⟩, g_9, h⟩ := ob_some h
  try dsimp only at h
  refine kc_VV C B (q0 := 0) (ci := 12) (As := []) (rest := []) (w2 := (wd_mo a b cI cJ cT mo_signs mo_signMany mo_nodeSign mo_nodeOn mo_nodeSize mo_nodeMany mo_due mo_openNode mo_value_1 mo_isLaid_2 mo_changes_3 mo_changeNode_4 mo_changeSign_5 mo_differs_6 mo_results_7 mo_own_8 mo_kinds mo_testInputs mo_testDue mo_tests mo_noticed mo_missed mo_leastFrom mo_blameUpper mo_blameLower)) (tX12_layChanges (a := a) (b := b) N g_9) gX12_failing_X12_layChanges rfl ⟨rfl, rfl⟩ ⟨rfl, hdX12_layChanges⟩ ⟨Nat.le_of_ble_eq_true rfl, Nat.le_of_ble_eq_true rfl⟩ rfl rfl [0, 1, 2, 3, 4, 5, 6, 7, 8, 9, 10, 11, 12, 13, 14, 15, 16, 17, 18, 19, 20, 21] [] [0, 1, 2, 3, 4, 5, 6, 7, 8, 9, 10, 11, 12, 13, 14, 15, 16, 17, 18, 19, 20, 21] rfl rfl rfl rfl rfl rfl rfl rfl hl.1 rfl (Nat.le_of_ble_eq_true rfl) ⟨Nat.zero_le _, Nat.zero_le _⟩ dX12_failing_1 (fun H locs B => ?_)
  refine lv_iconst (v := 0) hx hb dX12_failing_4 (by decide) ?_
  refine lv_istore_n (lv' := [(1, .int (0 : Int32)), (0, .ref (b 0))]) hx hb dX12_failing_5 rfl hl (by decide) rfl (fun ls hl => ?_)
  refine lv_iconst (v := 0) hx hb dX12_failing_6 (by decide) ?_
  refine lv_istore_n (lv' := [(2, .int (0 : Int32)), (1, .int (0 : Int32)), (0, .ref (b 0))]) hx hb dX12_failing_7 rfl hl (by decide) rfl (fun ls hl => ?_)
  exact qX12_failing_8 C N (0 : Int32) (0 : Int32) mo_value_1 mo_isLaid_2 mo_changes_3 mo_changeNode_4 mo_changeSign_5 mo_differs_6 mo_results_7 mo_own_8 h H locs ls B (lv_sub hl [2, 1, 0] rfl)
end
theorem tX12_failing {l : Launch} {D : va_G} {Es : (Nat → Nat) × (Nat → Nat)} {a b : Nat → Nat} {cI cJ cT : ClassId} {mo_signs : Nat → Int32} {mo_signMany : Int32} {mo_nodeSign : Nat → Int32} {mo_nodeOn : Nat → Int32} {mo_nodeSize : Nat → Int32} {mo_nodeMany : Nat → Int32} {mo_due : Nat → Int32} {mo_openNode : Nat → Int32} {mo_value : Nat → Int32} {mo_isLaid : Int32} {mo_changes : Int32} {mo_changeNode : Nat → Int32} {mo_changeSign : Nat → Int32} {mo_differs : Nat → Int32} {mo_results : Nat → Int32} {mo_own : Nat → Int32} {mo_kinds : Nat → Int32} {mo_testInputs : Nat → Int32} {mo_testDue : Nat → Int32} {mo_tests : Int32} {mo_noticed : Nat → Int32} {mo_missed : Nat → Int32} {mo_leastFrom : Nat → Int32} {mo_blameUpper : Nat → Int32} {mo_blameLower : Nat → Int32} {z_r : Int32} {z_mo_value : Nat → Int32} {z_mo_isLaid : Int32} {z_mo_changes : Int32} {z_mo_changeNode : Nat → Int32} {z_mo_changeSign : Nat → Int32} {z_mo_differs : Nat → Int32} {z_mo_results : Nat → Int32} {z_mo_own : Nat → Int32} (N : Nat) (h : fX12_failing N mo_nodeSign mo_nodeSize mo_nodeMany mo_kinds mo_testInputs mo_testDue mo_tests mo_value mo_isLaid mo_changes mo_changeNode mo_changeSign mo_differs mo_results mo_own = some (z_r, z_mo_value, z_mo_isLaid, z_mo_changes, z_mo_changeNode, z_mo_changeSign, z_mo_differs, z_mo_results, z_mo_own)) : CtI l yX12_failing wsX12_failing rmX12_failing D (tyl cI cJ cT) Es [.ref (b 0)] (wd_mo a b cI cJ cT mo_signs mo_signMany mo_nodeSign mo_nodeOn mo_nodeSize mo_nodeMany mo_due mo_openNode mo_value mo_isLaid mo_changes mo_changeNode mo_changeSign mo_differs mo_results mo_own mo_kinds mo_testInputs mo_testDue mo_tests mo_noticed mo_missed mo_leastFrom mo_blameUpper mo_blameLower) z_r (wd_mo a b cI cJ cT mo_signs mo_signMany mo_nodeSign mo_nodeOn mo_nodeSize mo_nodeMany mo_due mo_openNode z_mo_value z_mo_isLaid z_mo_changes z_mo_changeNode z_mo_changeSign z_mo_differs z_mo_results z_mo_own mo_kinds mo_testInputs mo_testDue mo_tests mo_noticed mo_missed mo_leastFrom mo_blameUpper mo_blameLower) :=
  CtI.of (own := RX12) (cc := cX12_failing) (nL := 3) (ret := (some .int)) (by decide +kernel) rfl rfl (Nat.le_of_ble_eq_true rfl) rfl (fun p e s m below meth c A ls C B hl => qX12_failing_0 C (N := N) mo_value mo_isLaid mo_changes mo_changeNode mo_changeSign mo_differs mo_results mo_own h _ _ _ B hl)

abbrev rmX12_findBlame : Room := { frames := 6, cells := 0, slots := 0, locals := 140 }
theorem hdX12_findBlame : yX12_findBlame.cls ≠ "java/lang/invoke/MethodHandle" ∧ yX12_findBlame.cls ≠ "java/lang/invoke/VarHandle" ∧ (parseMethodDescriptor yX12_findBlame.desc).map (fun d => d.parameters.length) = some 0 := by decide +kernel
theorem iX12_findBlame_X12 : ∀ w ∈ wsX120, w ∈ wsX12_findBlame := by decide +kernel
theorem gfX12_findBlame_68 {p : Program} {l : Launch} {e : Env} {R : Room} {s : State} {m : MethodId} {args : Array Value} {below : List Frame} {meth : Method} {c : Code} {H : Heap} {locs : List Loc} {cells slots : Nat} {Q : State → Prop} {D : va_G} {A : Nat → Prop} {tys : List (ClassId × FieldType)} {Es : (Nat → Nat) × (Nat → Nat)} {ws : va_W} {pc : Nat} {ls : Array Slot} {rest : List Value} {a : Nat} (C : CT p s m args meth c RX12 cX12_findBlame 7 none wsX12_findBlame D A tys Es) (B : DB D A ws s H locs) (q0 : Nat) {fs : List Value} {v : Value} (he : ws[q0]? = some (a, .inr (12, fs))) (hv : fs[23]? = some v) (hdg : decode cX12_findBlame pc = .ok (.getfield 68, 3)) (kk : W p l e R s m args below meth c H locs cells slots Q (F0 m (pc + 3) ls (v :: rest))) : W p l e R s m args below meth c H locs cells slots Q (F0 m pc ls (.ref a :: rest)) :=
  k_get (Cn := RX12) (T := TX12) (N := 25) (index := 68) C B iX12_findBlame_X12 rfl 23 (by decide) (by decide +kernel) q0 he hv hdg kk
theorem gfX12_findBlame_71 {p : Program} {l : Launch} {e : Env} {R : Room} {s : State} {m : MethodId} {args : Array Value} {below : List Frame} {meth : Method} {c : Code} {H : Heap} {locs : List Loc} {cells slots : Nat} {Q : State → Prop} {D : va_G} {A : Nat → Prop} {tys : List (ClassId × FieldType)} {Es : (Nat → Nat) × (Nat → Nat)} {ws : va_W} {pc : Nat} {ls : Array Slot} {rest : List Value} {a : Nat} (C : CT p s m args meth c RX12 cX12_findBlame 7 none wsX12_findBlame D A tys Es) (B : DB D A ws s H locs) (q0 : Nat) {fs : List Value} {v : Value} (he : ws[q0]? = some (a, .inr (12, fs))) (hv : fs[24]? = some v) (hdg : decode cX12_findBlame pc = .ok (.getfield 71, 3)) (kk : W p l e R s m args below meth c H locs cells slots Q (F0 m (pc + 3) ls (v :: rest))) : W p l e R s m args below meth c H locs cells slots Q (F0 m pc ls (.ref a :: rest)) :=
  k_get (Cn := RX12) (T := TX12) (N := 25) (index := 71) C B iX12_findBlame_X12 rfl 24 (by decide) (by decide +kernel) q0 he hv hdg kk
theorem gfX12_findBlame_22 {p : Program} {l : Launch} {e : Env} {R : Room} {s : State} {m : MethodId} {args : Array Value} {below : List Frame} {meth : Method} {c : Code} {H : Heap} {locs : List Loc} {cells slots : Nat} {Q : State → Prop} {D : va_G} {A : Nat → Prop} {tys : List (ClassId × FieldType)} {Es : (Nat → Nat) × (Nat → Nat)} {ws : va_W} {pc : Nat} {ls : Array Slot} {rest : List Value} {a : Nat} (C : CT p s m args meth c RX12 cX12_findBlame 7 none wsX12_findBlame D A tys Es) (B : DB D A ws s H locs) (q0 : Nat) {fs : List Value} {v : Value} (he : ws[q0]? = some (a, .inr (12, fs))) (hv : fs[5]? = some v) (hdg : decode cX12_findBlame pc = .ok (.getfield 22, 3)) (kk : W p l e R s m args below meth c H locs cells slots Q (F0 m (pc + 3) ls (v :: rest))) : W p l e R s m args below meth c H locs cells slots Q (F0 m pc ls (.ref a :: rest)) :=
  k_get (Cn := RX12) (T := TX12) (N := 25) (index := 22) C B iX12_findBlame_X12 rfl 5 (by decide) (by decide +kernel) q0 he hv hdg kk
theorem gfX12_findBlame_155 {p : Program} {l : Launch} {e : Env} {R : Room} {s : State} {m : MethodId} {args : Array Value} {below : List Frame} {meth : Method} {c : Code} {H : Heap} {locs : List Loc} {cells slots : Nat} {Q : State → Prop} {D : va_G} {A : Nat → Prop} {tys : List (ClassId × FieldType)} {Es : (Nat → Nat) × (Nat → Nat)} {ws : va_W} {pc : Nat} {ls : Array Slot} {rest : List Value} {a : Nat} (C : CT p s m args meth c RX12 cX12_findBlame 7 none wsX12_findBlame D A tys Es) (B : DB D A ws s H locs) (q0 : Nat) {fs : List Value} {v : Value} (he : ws[q0]? = some (a, .inr (12, fs))) (hv : fs[19]? = some v) (hdg : decode cX12_findBlame pc = .ok (.getfield 155, 3)) (kk : W p l e R s m args below meth c H locs cells slots Q (F0 m (pc + 3) ls (v :: rest))) : W p l e R s m args below meth c H locs cells slots Q (F0 m pc ls (.ref a :: rest)) :=
  k_get (Cn := RX12) (T := TX12) (N := 25) (index := 155) C B iX12_findBlame_X12 rfl 19 (by decide) (by decide +kernel) q0 he hv hdg kk
theorem gfX12_findBlame_53 {p : Program} {l : Launch} {e : Env} {R : Room} {s : State} {m : MethodId} {args : Array Value} {below : List Frame} {meth : Method} {c : Code} {H : Heap} {locs : List Loc} {cells slots : Nat} {Q : State → Prop} {D : va_G} {A : Nat → Prop} {tys : List (ClassId × FieldType)} {Es : (Nat → Nat) × (Nat → Nat)} {ws : va_W} {pc : Nat} {ls : Array Slot} {rest : List Value} {a : Nat} (C : CT p s m args meth c RX12 cX12_findBlame 7 none wsX12_findBlame D A tys Es) (B : DB D A ws s H locs) (q0 : Nat) {fs : List Value} {v : Value} (he : ws[q0]? = some (a, .inr (12, fs))) (hv : fs[17]? = some v) (hdg : decode cX12_findBlame pc = .ok (.getfield 53, 3)) (kk : W p l e R s m args below meth c H locs cells slots Q (F0 m (pc + 3) ls (v :: rest))) : W p l e R s m args below meth c H locs cells slots Q (F0 m pc ls (.ref a :: rest)) :=
  k_get (Cn := RX12) (T := TX12) (N := 25) (index := 53) C B iX12_findBlame_X12 rfl 17 (by decide) (by decide +kernel) q0 he hv hdg kk
section
variable {p : Program} {l : Launch} {e : Env} {s : State} {m : MethodId} {args : Array Value} {below : List Frame} {meth : Method} {c : Code} {D : va_G} {A : Nat → Prop} {Es : (Nat → Nat) × (Nat → Nat)} {a b : Nat → Nat} {cI cJ cT : ClassId}
set_option maxHeartbeats 4000000 in
set_option maxRecDepth 100000 in
theorem qX12_findBlame_257 (C : CT p s m args meth c RX12 cX12_findBlame 7 none wsX12_findBlame D A (tyl cI cJ cT) Es) {N : Nat} {mo_signs : Nat → Int32} {mo_signMany : Int32} {mo_nodeSign : Nat → Int32} {mo_nodeOn : Nat → Int32} {mo_nodeSize : Nat → Int32} {mo_nodeMany : Nat → Int32} {mo_due : Nat → Int32} {mo_openNode : Nat → Int32} {mo_kinds : Nat → Int32} {mo_testInputs : Nat → Int32} {mo_testDue : Nat → Int32} {mo_tests : Int32} {mo_noticed : Nat → Int32} {mo_missed : Nat → Int32} {mo_leastFrom : Nat → Int32} {z_mo_value : Nat → Int32} {z_mo_isLaid : Int32} {z_mo_changes : Int32} {z_mo_changeNode : Nat → Int32} {z_mo_changeSign : Nat → Int32} {z_mo_differs : Nat → Int32} {z_mo_results : Nat → Int32} {z_mo_own : Nat → Int32} {z_mo_blameUpper : Nat → Int32} {z_mo_blameLower : Nat → Int32} {k163 : Int32 → Int32 → Int32 → (Nat → Int32) → (Int32) → (Int32) → (Nat → Int32) → (Nat → Int32) → (Nat → Int32) → (Nat → Int32) → (Nat → Int32) → (Nat → Int32) → (Nat → Int32) → Option ((Nat → Int32) × (Int32) × (Int32) × (Nat → Int32) × (Nat → Int32) × (Nat → Int32) × (Nat → Int32) × (Nat → Int32) × (Nat → Int32) × (Nat → Int32))} (hk163 : ∀ (x1 : Int32) (x2 : Int32) (x3 : Int32) (mo_value : Nat → Int32) (mo_isLaid : Int32) (mo_changes : Int32) (mo_changeNode : Nat → Int32) (mo_changeSign : Nat → Int32) (mo_differs : Nat → Int32) (mo_results : Nat → Int32) (mo_own : Nat → Int32) (mo_blameUpper : Nat → Int32) (mo_blameLower : Nat → Int32), k163 x1 x2 x3 mo_value mo_isLaid mo_changes mo_changeNode mo_changeSign mo_differs mo_results mo_own mo_blameUpper mo_blameLower = some (z_mo_value, z_mo_isLaid, z_mo_changes, z_mo_changeNode, z_mo_changeSign, z_mo_differs, z_mo_results, z_mo_own, z_mo_blameUpper, z_mo_blameLower) → ∀ (H : Heap) (locs : List Loc) (ls : Array Slot), DB D A (wd_mo a b cI cJ cT mo_signs mo_signMany mo_nodeSign mo_nodeOn mo_nodeSize mo_nodeMany mo_due mo_openNode mo_value mo_isLaid mo_changes mo_changeNode mo_changeSign mo_differs mo_results mo_own mo_kinds mo_testInputs mo_testDue mo_tests mo_noticed mo_missed mo_leastFrom mo_blameUpper mo_blameLower) s H locs → lv_has ls 7 [(0, .ref (b 0)), (1, .int x1), (2, .int x2), (3, .int x3)] → W p l e rmX12_findBlame s m args below meth c H locs 0 0 (ZV below args s D A (tyl cI cJ cT) (wd_mo a b cI cJ cT mo_signs mo_signMany mo_nodeSign mo_nodeOn mo_nodeSize mo_nodeMany mo_due mo_openNode z_mo_value z_mo_isLaid z_mo_changes z_mo_changeNode z_mo_changeSign z_mo_differs z_mo_results z_mo_own mo_kinds mo_testInputs mo_testDue mo_tests mo_noticed mo_missed mo_leastFrom z_mo_blameUpper z_mo_blameLower) 0 0) (F0 m 163 ls [])) : ∀ (x1 : Int32) (x2 : Int32) (x3 : Int32) (mo_value : Nat → Int32) (mo_isLaid : Int32) (mo_changes : Int32) (mo_changeNode : Nat → Int32) (mo_changeSign : Nat → Int32) (mo_differs : Nat → Int32) (mo_results : Nat → Int32) (mo_own : Nat → Int32) (mo_blameUpper : Nat → Int32) (mo_blameLower : Nat → Int32), bX12_findBlame_257 N mo_nodeSign mo_nodeSize mo_nodeMany mo_kinds mo_testInputs mo_testDue mo_tests k163 x1 x2 x3 mo_value mo_isLaid mo_changes mo_changeNode mo_changeSign mo_differs mo_results mo_own mo_blameUpper mo_blameLower = some (z_mo_value, z_mo_isLaid, z_mo_changes, z_mo_changeNode, z_mo_changeSign, z_mo_differs, z_mo_results, z_mo_own, z_mo_blameUpper, z_mo_blameLower) → ∀ (H : Heap) (locs : List Loc) (ls : Array Slot), DB D A (wd_mo a b cI cJ cT mo_signs mo_signMany mo_nodeSign mo_nodeOn mo_nodeSize mo_nodeMany mo_due mo_openNode mo_value mo_isLaid mo_changes mo_changeNode mo_changeSign mo_differs mo_results mo_own mo_kinds mo_testInputs mo_testDue mo_tests mo_noticed mo_missed mo_leastFrom mo_blameUpper mo_blameLower) s H locs → lv_has ls 7 [(0, .ref (b 0)), (1, .int x1), (2, .int x2), (3, .int x3)] → W p l e rmX12_findBlame s m args below meth c H locs 0 0 (ZV below args s D A (tyl cI cJ cT) (wd_mo a b cI cJ cT mo_signs mo_signMany mo_nodeSign mo_nodeOn mo_nodeSize mo_nodeMany mo_due mo_openNode z_mo_value z_mo_isLaid z_mo_changes z_mo_changeNode z_mo_changeSign z_mo_differs z_mo_results z_mo_own mo_kinds mo_testInputs mo_testDue mo_tests mo_noticed mo_missed mo_leastFrom z_mo_blameUpper z_mo_blameLower) 0 0) (F0 m 257 ls []) := by
  have hx := C.1.1
  have hb := C.1.2.1
  have hown := C.1.2.2.2.1
  have hts := C.1.2.2.2.2
  intro x1 x2 x3 mo_value mo_isLaid mo_changes mo_changeNode mo_changeSign mo_differs mo_results mo_own mo_blameUpper mo_blameLower h H locs ls B hl
  rw [bX12_findBlame_257] at h
  refine lv_aload_n hx hb dX12_findBlame_257 rfl (lv_at hl 0 rfl) ?_
  refine gfX12_findBlame_68 C B 0 rfl rfl dX12_findBlame_258 ?_
  refine lv_iload_n hx hb dX12_findBlame_261 rfl (lv_at hl 3 rfl) ?_
  refine lv_iconst (v := 0) hx hb dX12_findBlame_262 (by decide) ?_
  obtain ⟨b_1, h⟩ := bnd_some h
  refine k_iast C B 20 0 rfl rfl b_1 dX12_findBlame_263 (fun H locs B => ?_)
  have B : DB D A (wd_mo a b cI cJ cT mo_signs mo_signMany mo_nodeSign mo_nodeOn mo_nodeSize mo_nodeMany mo_due mo_openNode mo_value mo_isLaid mo_changes mo_changeNode mo_changeSign mo_differs mo_results mo_own mo_kinds mo_testInputs mo_testDue mo_tests mo_noticed mo_missed mo_leastFrom (upd mo_blameUpper (Int32.toNatClampNeg x3) (0 : Int32)) mo_blameLower) s H locs := B
  refine lv_aload_n hx hb dX12_findBlame_264 rfl (lv_at hl 0 rfl) ?_
  refine gfX12_findBlame_71 C B 0 rfl rfl dX12_findBlame_265 ?_
  refine lv_iload_n hx hb dX12_findBlame_268 rfl (lv_at hl 3 rfl) ?_
  refine lv_iconst (v := 1) hx hb dX12_findBlame_269 (by decide) ?_
  refine k_iast C B 21 0 rfl rfl b_1 dX12_findBlame_270 (fun H locs B => ?_)
  have B : DB D A (wd_mo a b cI cJ cT mo_signs mo_signMany mo_nodeSign mo_nodeOn mo_nodeSize mo_nodeMany mo_due mo_openNode mo_value mo_isLaid mo_changes mo_changeNode mo_changeSign mo_differs mo_results mo_own mo_kinds mo_testInputs mo_testDue mo_tests mo_noticed mo_missed mo_leastFrom (upd mo_blameUpper (Int32.toNatClampNeg x3) (0 : Int32)) (upd mo_blameLower (Int32.toNatClampNeg x3) (1 : Int32))) s H locs := B
  refine lv_iinc (v := (x3 + 1)) (lv' := [(3, .int (x3 + 1)), (0, .ref (b 0)), (1, .int x1), (2, .int x2)]) hx hb dX12_findBlame_271 hl (k := 3) rfl rfl (by decide) rfl (fun ls hl => ?_)
  refine lv_goto (tgt := 163) hx hb dX12_findBlame_274 (by decide) ?_
  exact hk163 x1 x2 (x3 + 1) mo_value mo_isLaid mo_changes mo_changeNode mo_changeSign mo_differs mo_results mo_own (upd mo_blameUpper (Int32.toNatClampNeg x3) (0 : Int32)) (upd mo_blameLower (Int32.toNatClampNeg x3) (1 : Int32)) h H locs ls B (lv_sub hl [1, 2, 3, 0] rfl)
set_option maxHeartbeats 4000000 in
set_option maxRecDepth 100000 in
theorem qX12_findBlame_243 (C : CT p s m args meth c RX12 cX12_findBlame 7 none wsX12_findBlame D A (tyl cI cJ cT) Es) {N : Nat} {mo_signs : Nat → Int32} {mo_signMany : Int32} {mo_nodeSign : Nat → Int32} {mo_nodeOn : Nat → Int32} {mo_nodeSize : Nat → Int32} {mo_nodeMany : Nat → Int32} {mo_due : Nat → Int32} {mo_openNode : Nat → Int32} {mo_kinds : Nat → Int32} {mo_testInputs : Nat → Int32} {mo_testDue : Nat → Int32} {mo_tests : Int32} {mo_noticed : Nat → Int32} {mo_missed : Nat → Int32} {mo_leastFrom : Nat → Int32} {z_mo_value : Nat → Int32} {z_mo_isLaid : Int32} {z_mo_changes : Int32} {z_mo_changeNode : Nat → Int32} {z_mo_changeSign : Nat → Int32} {z_mo_differs : Nat → Int32} {z_mo_results : Nat → Int32} {z_mo_own : Nat → Int32} {z_mo_blameUpper : Nat → Int32} {z_mo_blameLower : Nat → Int32} {k163 : Int32 → Int32 → Int32 → (Nat → Int32) → (Int32) → (Int32) → (Nat → Int32) → (Nat → Int32) → (Nat → Int32) → (Nat → Int32) → (Nat → Int32) → (Nat → Int32) → (Nat → Int32) → Option ((Nat → Int32) × (Int32) × (Int32) × (Nat → Int32) × (Nat → Int32) × (Nat → Int32) × (Nat → Int32) × (Nat → Int32) × (Nat → Int32) × (Nat → Int32))} (hk163 : ∀ (x1 : Int32) (x2 : Int32) (x3 : Int32) (mo_value : Nat → Int32) (mo_isLaid : Int32) (mo_changes : Int32) (mo_changeNode : Nat → Int32) (mo_changeSign : Nat → Int32) (mo_differs : Nat → Int32) (mo_results : Nat → Int32) (mo_own : Nat → Int32) (mo_blameUpper : Nat → Int32) (mo_blameLower : Nat → Int32), k163 x1 x2 x3 mo_value mo_isLaid mo_changes mo_changeNode mo_changeSign mo_differs mo_results mo_own mo_blameUpper mo_blameLower = some (z_mo_value, z_mo_isLaid, z_mo_changes, z_mo_changeNode, z_mo_changeSign, z_mo_differs, z_mo_results, z_mo_own, z_mo_blameUpper, z_mo_blameLower) → ∀ (H : Heap) (locs : List Loc) (ls : Array Slot), DB D A (wd_mo a b cI cJ cT mo_signs mo_signMany mo_nodeSign mo_nodeOn mo_nodeSize mo_nodeMany mo_due mo_openNode mo_value mo_isLaid mo_changes mo_changeNode mo_changeSign mo_differs mo_results mo_own mo_kinds mo_testInputs mo_testDue mo_tests mo_noticed mo_missed mo_leastFrom mo_blameUpper mo_blameLower) s H locs → lv_has ls 7 [(0, .ref (b 0)), (1, .int x1), (2, .int x2), (3, .int x3)] → W p l e rmX12_findBlame s m args below meth c H locs 0 0 (ZV below args s D A (tyl cI cJ cT) (wd_mo a b cI cJ cT mo_signs mo_signMany mo_nodeSign mo_nodeOn mo_nodeSize mo_nodeMany mo_due mo_openNode z_mo_value z_mo_isLaid z_mo_changes z_mo_changeNode z_mo_changeSign z_mo_differs z_mo_results z_mo_own mo_kinds mo_testInputs mo_testDue mo_tests mo_noticed mo_missed mo_leastFrom z_mo_blameUpper z_mo_blameLower) 0 0) (F0 m 163 ls [])) : ∀ (x1 : Int32) (x2 : Int32) (x3 : Int32) (y1 : Int32) (y2 : Int32) (mo_value : Nat → Int32) (mo_isLaid : Int32) (mo_changes : Int32) (mo_changeNode : Nat → Int32) (mo_changeSign : Nat → Int32) (mo_differs : Nat → Int32) (mo_results : Nat → Int32) (mo_own : Nat → Int32) (mo_blameUpper : Nat → Int32) (mo_blameLower : Nat → Int32), bX12_findBlame_243 N mo_nodeSign mo_nodeSize mo_nodeMany mo_kinds mo_testInputs mo_testDue mo_tests k163 x1 x2 x3 y1 y2 mo_value mo_isLaid mo_changes mo_changeNode mo_changeSign mo_differs mo_results mo_own mo_blameUpper mo_blameLower = some (z_mo_value, z_mo_isLaid, z_mo_changes, z_mo_changeNode, z_mo_changeSign, z_mo_differs, z_mo_results, z_mo_own, z_mo_blameUpper, z_mo_blameLower) → ∀ (H : Heap) (locs : List Loc) (ls : Array Slot), DB D A (wd_mo a b cI cJ cT mo_signs mo_signMany mo_nodeSign mo_nodeOn mo_nodeSize mo_nodeMany mo_due mo_openNode mo_value mo_isLaid mo_changes mo_changeNode mo_changeSign mo_differs mo_results mo_own mo_kinds mo_testInputs mo_testDue mo_tests mo_noticed mo_missed mo_leastFrom mo_blameUpper mo_blameLower) s H locs → lv_has ls 7 [(0, .ref (b 0)), (1, .int x1), (2, .int x2), (3, .int x3)] → W p l e rmX12_findBlame s m args below meth c H locs 0 0 (ZV below args s D A (tyl cI cJ cT) (wd_mo a b cI cJ cT mo_signs mo_signMany mo_nodeSign mo_nodeOn mo_nodeSize mo_nodeMany mo_due mo_openNode z_mo_value z_mo_isLaid z_mo_changes z_mo_changeNode z_mo_changeSign z_mo_differs z_mo_results z_mo_own mo_kinds mo_testInputs mo_testDue mo_tests mo_noticed mo_missed mo_leastFrom z_mo_blameUpper z_mo_blameLower) 0 0) (F0 m 243 ls [.int y2, .int y1, .ref (b 21)]) := by
  have hx := C.1.1
  have hb := C.1.2.1
  have hown := C.1.2.2.2.1
  have hts := C.1.2.2.2.2
  intro x1 x2 x3 y1 y2 mo_value mo_isLaid mo_changes mo_changeNode mo_changeSign mo_differs mo_results mo_own mo_blameUpper mo_blameLower h H locs ls B hl
  rw [bX12_findBlame_243] at h
  obtain ⟨b_1, h⟩ := bnd_some h
  refine k_iast C B 21 0 rfl rfl b_1 dX12_findBlame_243 (fun H locs B => ?_)
  have B : DB D A (wd_mo a b cI cJ cT mo_signs mo_signMany mo_nodeSign mo_nodeOn mo_nodeSize mo_nodeMany mo_due mo_openNode mo_value mo_isLaid mo_changes mo_changeNode mo_changeSign mo_differs mo_results mo_own mo_kinds mo_testInputs mo_testDue mo_tests mo_noticed mo_missed mo_leastFrom mo_blameUpper (upd mo_blameLower (Int32.toNatClampNeg y1) y2)) s H locs := B
  refine lv_iload_n hx hb dX12_findBlame_244 rfl (lv_at hl 1 rfl) ?_
  refine lv_if_eq (tgt := 257) hx hb dX12_findBlame_245 (by decide) (fun c_2 => ?_) (fun c_2 => ?_)
  · rw [if_pos c_2] at h
    exact qX12_findBlame_257 C hk163 x1 x2 x3 mo_value mo_isLaid mo_changes mo_changeNode mo_changeSign mo_differs mo_results mo_own mo_blameUpper (upd mo_blameLower (Int32.toNatClampNeg y1) y2) h H locs ls B (lv_sub hl [0, 1, 2, 3] rfl)
  · rw [if_neg c_2] at h
    refine lv_aload_n hx hb dX12_findBlame_248 rfl (lv_at hl 0 rfl) ?_
    refine gfX12_findBlame_71 C B 0 rfl rfl dX12_findBlame_249 ?_
    refine lv_iload_n hx hb dX12_findBlame_252 rfl (lv_at hl 3 rfl) ?_
    obtain ⟨b_3, h⟩ := bnd_some h
    refine k_iald C B 21 0 rfl rfl b_3 dX12_findBlame_253 ?_
    refine lv_if_ne (tgt := 271) hx hb dX12_findBlame_254 (by decide) (fun c_4 => ?_) (fun c_4 => ?_)
    · rw [if_neg c_4] at h
      refine lv_iinc (v := (x3 + 1)) (lv' := [(3, .int (x3 + 1)), (0, .ref (b 0)), (1, .int x1), (2, .int x2)]) hx hb dX12_findBlame_271 hl (k := 3) rfl rfl (by decide) rfl (fun ls hl => ?_)
      refine lv_goto (tgt := 163) hx hb dX12_findBlame_274 (by decide) ?_
      exact hk163 x1 x2 (x3 + 1) mo_value mo_isLaid mo_changes mo_changeNode mo_changeSign mo_differs mo_results mo_own mo_blameUpper (upd mo_blameLower (Int32.toNatClampNeg y1) y2) h H locs ls B (lv_sub hl [1, 2, 3, 0] rfl)
    · rw [if_pos c_4] at h
      exact qX12_findBlame_257 C hk163 x1 x2 x3 mo_value mo_isLaid mo_changes mo_changeNode mo_changeSign mo_differs mo_results mo_own mo_blameUpper (upd mo_blameLower (Int32.toNatClampNeg y1) y2) h H locs ls B (lv_sub hl [0, 1, 2, 3] rfl)
set_option maxHeartbeats 4000000 in
set_option maxRecDepth 100000 in
theorem qX12_findBlame_219 (C : CT p s m args meth c RX12 cX12_findBlame 7 none wsX12_findBlame D A (tyl cI cJ cT) Es) {N : Nat} {mo_signs : Nat → Int32} {mo_signMany : Int32} {mo_nodeSign : Nat → Int32} {mo_nodeOn : Nat → Int32} {mo_nodeSize : Nat → Int32} {mo_nodeMany : Nat → Int32} {mo_due : Nat → Int32} {mo_openNode : Nat → Int32} {mo_kinds : Nat → Int32} {mo_testInputs : Nat → Int32} {mo_testDue : Nat → Int32} {mo_tests : Int32} {mo_noticed : Nat → Int32} {mo_missed : Nat → Int32} {mo_leastFrom : Nat → Int32} {z_mo_value : Nat → Int32} {z_mo_isLaid : Int32} {z_mo_changes : Int32} {z_mo_changeNode : Nat → Int32} {z_mo_changeSign : Nat → Int32} {z_mo_differs : Nat → Int32} {z_mo_results : Nat → Int32} {z_mo_own : Nat → Int32} {z_mo_blameUpper : Nat → Int32} {z_mo_blameLower : Nat → Int32} {k163 : Int32 → Int32 → Int32 → (Nat → Int32) → (Int32) → (Int32) → (Nat → Int32) → (Nat → Int32) → (Nat → Int32) → (Nat → Int32) → (Nat → Int32) → (Nat → Int32) → (Nat → Int32) → Option ((Nat → Int32) × (Int32) × (Int32) × (Nat → Int32) × (Nat → Int32) × (Nat → Int32) × (Nat → Int32) × (Nat → Int32) × (Nat → Int32) × (Nat → Int32))} (hk163 : ∀ (x1 : Int32) (x2 : Int32) (x3 : Int32) (mo_value : Nat → Int32) (mo_isLaid : Int32) (mo_changes : Int32) (mo_changeNode : Nat → Int32) (mo_changeSign : Nat → Int32) (mo_differs : Nat → Int32) (mo_results : Nat → Int32) (mo_own : Nat → Int32) (mo_blameUpper : Nat → Int32) (mo_blameLower : Nat → Int32), k163 x1 x2 x3 mo_value mo_isLaid mo_changes mo_changeNode mo_changeSign mo_differs mo_results mo_own mo_blameUpper mo_blameLower = some (z_mo_value, z_mo_isLaid, z_mo_changes, z_mo_changeNode, z_mo_changeSign, z_mo_differs, z_mo_results, z_mo_own, z_mo_blameUpper, z_mo_blameLower) → ∀ (H : Heap) (locs : List Loc) (ls : Array Slot), DB D A (wd_mo a b cI cJ cT mo_signs mo_signMany mo_nodeSign mo_nodeOn mo_nodeSize mo_nodeMany mo_due mo_openNode mo_value mo_isLaid mo_changes mo_changeNode mo_changeSign mo_differs mo_results mo_own mo_kinds mo_testInputs mo_testDue mo_tests mo_noticed mo_missed mo_leastFrom mo_blameUpper mo_blameLower) s H locs → lv_has ls 7 [(0, .ref (b 0)), (1, .int x1), (2, .int x2), (3, .int x3)] → W p l e rmX12_findBlame s m args below meth c H locs 0 0 (ZV below args s D A (tyl cI cJ cT) (wd_mo a b cI cJ cT mo_signs mo_signMany mo_nodeSign mo_nodeOn mo_nodeSize mo_nodeMany mo_due mo_openNode z_mo_value z_mo_isLaid z_mo_changes z_mo_changeNode z_mo_changeSign z_mo_differs z_mo_results z_mo_own mo_kinds mo_testInputs mo_testDue mo_tests mo_noticed mo_missed mo_leastFrom z_mo_blameUpper z_mo_blameLower) 0 0) (F0 m 163 ls [])) : ∀ (x1 : Int32) (x2 : Int32) (x3 : Int32) (x4 : Int32) (x5 : Int32) (x6 : Int32) (y1 : Int32) (y2 : Int32) (mo_value : Nat → Int32) (mo_isLaid : Int32) (mo_changes : Int32) (mo_changeNode : Nat → Int32) (mo_changeSign : Nat → Int32) (mo_differs : Nat → Int32) (mo_results : Nat → Int32) (mo_own : Nat → Int32) (mo_blameUpper : Nat → Int32) (mo_blameLower : Nat → Int32), bX12_findBlame_219 N mo_nodeSign mo_nodeSize mo_nodeMany mo_kinds mo_testInputs mo_testDue mo_tests k163 x1 x2 x3 x4 x5 x6 y1 y2 mo_value mo_isLaid mo_changes mo_changeNode mo_changeSign mo_differs mo_results mo_own mo_blameUpper mo_blameLower = some (z_mo_value, z_mo_isLaid, z_mo_changes, z_mo_changeNode, z_mo_changeSign, z_mo_differs, z_mo_results, z_mo_own, z_mo_blameUpper, z_mo_blameLower) → ∀ (H : Heap) (locs : List Loc) (ls : Array Slot), DB D A (wd_mo a b cI cJ cT mo_signs mo_signMany mo_nodeSign mo_nodeOn mo_nodeSize mo_nodeMany mo_due mo_openNode mo_value mo_isLaid mo_changes mo_changeNode mo_changeSign mo_differs mo_results mo_own mo_kinds mo_testInputs mo_testDue mo_tests mo_noticed mo_missed mo_leastFrom mo_blameUpper mo_blameLower) s H locs → lv_has ls 7 [(0, .ref (b 0)), (1, .int x1), (2, .int x2), (3, .int x3), (4, .int x4), (5, .int x5), (6, .int x6)] → W p l e rmX12_findBlame s m args below meth c H locs 0 0 (ZV below args s D A (tyl cI cJ cT) (wd_mo a b cI cJ cT mo_signs mo_signMany mo_nodeSign mo_nodeOn mo_nodeSize mo_nodeMany mo_due mo_openNode z_mo_value z_mo_isLaid z_mo_changes z_mo_changeNode z_mo_changeSign z_mo_differs z_mo_results z_mo_own mo_kinds mo_testInputs mo_testDue mo_tests mo_noticed mo_missed mo_leastFrom z_mo_blameUpper z_mo_blameLower) 0 0) (F0 m 219 ls [.int y2, .int y1, .ref (b 20)]) := by
  have hx := C.1.1
  have hb := C.1.2.1
  have hown := C.1.2.2.2.1
  have hts := C.1.2.2.2.2
  intro x1 x2 x3 x4 x5 x6 y1 y2 mo_value mo_isLaid mo_changes mo_changeNode mo_changeSign mo_differs mo_results mo_own mo_blameUpper mo_blameLower h H locs ls B hl
  rw [bX12_findBlame_219] at h
  obtain ⟨b_1, h⟩ := bnd_some h
  refine k_iast C B 20 0 rfl rfl b_1 dX12_findBlame_219 (fun H locs B => ?_)
  have B : DB D A (wd_mo a b cI cJ cT mo_signs mo_signMany mo_nodeSign mo_nodeOn mo_nodeSize mo_nodeMany mo_due mo_openNode mo_value mo_isLaid mo_changes mo_changeNode mo_changeSign mo_differs mo_results mo_own mo_kinds mo_testInputs mo_testDue mo_tests mo_noticed mo_missed mo_leastFrom (upd mo_blameUpper (Int32.toNatClampNeg y1) y2) mo_blameLower) s H locs := B
  refine lv_aload_n hx hb dX12_findBlame_220 rfl (lv_at hl 0 rfl) ?_
  refine gfX12_findBlame_71 C B 0 rfl rfl dX12_findBlame_221 ?_
  refine lv_iload_n hx hb dX12_findBlame_224 rfl (lv_at hl 3 rfl) ?_
  refine lv_iload hx hb dX12_findBlame_225 (lv_at hl 6 rfl) ?_
  refine lv_if_eq (tgt := 234) hx hb dX12_findBlame_227 (by decide) (fun c_2 => ?_) (fun c_2 => ?_)
  · rw [if_pos c_2] at h
    refine lv_iload hx hb dX12_findBlame_234 (lv_at hl 4 rfl) ?_
    refine lv_iload_n hx hb dX12_findBlame_236 rfl (lv_at hl 2 rfl) ?_
    refine lv_imul hx hb dX12_findBlame_237 ?_
    refine lv_iload hx hb dX12_findBlame_238 (lv_at hl 5 rfl) ?_
    refine lv_iload_n hx hb dX12_findBlame_240 rfl (lv_at hl 1 rfl) ?_
    refine lv_imul hx hb dX12_findBlame_241 ?_
    refine lv_iadd hx hb dX12_findBlame_242 ?_
    exact qX12_findBlame_243 C hk163 x1 x2 x3 x3 ((x4 * x2) + (x5 * x1)) mo_value mo_isLaid mo_changes mo_changeNode mo_changeSign mo_differs mo_results mo_own (upd mo_blameUpper (Int32.toNatClampNeg y1) y2) mo_blameLower h H locs ls B (lv_sub hl [0, 1, 2, 3] rfl)
  · rw [if_neg c_2] at h
    refine lv_iload_n hx hb dX12_findBlame_230 rfl (lv_at hl 1 rfl) ?_
    refine lv_goto (tgt := 243) hx hb dX12_findBlame_231 (by decide) ?_
    exact qX12_findBlame_243 C hk163 x1 x2 x3 x3 x1 mo_value mo_isLaid mo_changes mo_changeNode mo_changeSign mo_differs mo_results mo_own (upd mo_blameUpper (Int32.toNatClampNeg y1) y2) mo_blameLower h H locs ls B (lv_sub hl [0, 1, 2, 3] rfl)
set_option maxHeartbeats 4000000 in
set_option maxRecDepth 100000 in
theorem qX12_findBlame_198 (C : CT p s m args meth c RX12 cX12_findBlame 7 none wsX12_findBlame D A (tyl cI cJ cT) Es) {N : Nat} {mo_signs : Nat → Int32} {mo_signMany : Int32} {mo_nodeSign : Nat → Int32} {mo_nodeOn : Nat → Int32} {mo_nodeSize : Nat → Int32} {mo_nodeMany : Nat → Int32} {mo_due : Nat → Int32} {mo_openNode : Nat → Int32} {mo_kinds : Nat → Int32} {mo_testInputs : Nat → Int32} {mo_testDue : Nat → Int32} {mo_tests : Int32} {mo_noticed : Nat → Int32} {mo_missed : Nat → Int32} {mo_leastFrom : Nat → Int32} {z_mo_value : Nat → Int32} {z_mo_isLaid : Int32} {z_mo_changes : Int32} {z_mo_changeNode : Nat → Int32} {z_mo_changeSign : Nat → Int32} {z_mo_differs : Nat → Int32} {z_mo_results : Nat → Int32} {z_mo_own : Nat → Int32} {z_mo_blameUpper : Nat → Int32} {z_mo_blameLower : Nat → Int32} {k163 : Int32 → Int32 → Int32 → (Nat → Int32) → (Int32) → (Int32) → (Nat → Int32) → (Nat → Int32) → (Nat → Int32) → (Nat → Int32) → (Nat → Int32) → (Nat → Int32) → (Nat → Int32) → Option ((Nat → Int32) × (Int32) × (Int32) × (Nat → Int32) × (Nat → Int32) × (Nat → Int32) × (Nat → Int32) × (Nat → Int32) × (Nat → Int32) × (Nat → Int32))} (hk163 : ∀ (x1 : Int32) (x2 : Int32) (x3 : Int32) (mo_value : Nat → Int32) (mo_isLaid : Int32) (mo_changes : Int32) (mo_changeNode : Nat → Int32) (mo_changeSign : Nat → Int32) (mo_differs : Nat → Int32) (mo_results : Nat → Int32) (mo_own : Nat → Int32) (mo_blameUpper : Nat → Int32) (mo_blameLower : Nat → Int32), k163 x1 x2 x3 mo_value mo_isLaid mo_changes mo_changeNode mo_changeSign mo_differs mo_results mo_own mo_blameUpper mo_blameLower = some (z_mo_value, z_mo_isLaid, z_mo_changes, z_mo_changeNode, z_mo_changeSign, z_mo_differs, z_mo_results, z_mo_own, z_mo_blameUpper, z_mo_blameLower) → ∀ (H : Heap) (locs : List Loc) (ls : Array Slot), DB D A (wd_mo a b cI cJ cT mo_signs mo_signMany mo_nodeSign mo_nodeOn mo_nodeSize mo_nodeMany mo_due mo_openNode mo_value mo_isLaid mo_changes mo_changeNode mo_changeSign mo_differs mo_results mo_own mo_kinds mo_testInputs mo_testDue mo_tests mo_noticed mo_missed mo_leastFrom mo_blameUpper mo_blameLower) s H locs → lv_has ls 7 [(0, .ref (b 0)), (1, .int x1), (2, .int x2), (3, .int x3)] → W p l e rmX12_findBlame s m args below meth c H locs 0 0 (ZV below args s D A (tyl cI cJ cT) (wd_mo a b cI cJ cT mo_signs mo_signMany mo_nodeSign mo_nodeOn mo_nodeSize mo_nodeMany mo_due mo_openNode z_mo_value z_mo_isLaid z_mo_changes z_mo_changeNode z_mo_changeSign z_mo_differs z_mo_results z_mo_own mo_kinds mo_testInputs mo_testDue mo_tests mo_noticed mo_missed mo_leastFrom z_mo_blameUpper z_mo_blameLower) 0 0) (F0 m 163 ls [])) : ∀ (x1 : Int32) (x2 : Int32) (x3 : Int32) (x4 : Int32) (x5 : Int32) (y0 : Int32) (mo_value : Nat → Int32) (mo_isLaid : Int32) (mo_changes : Int32) (mo_changeNode : Nat → Int32) (mo_changeSign : Nat → Int32) (mo_differs : Nat → Int32) (mo_results : Nat → Int32) (mo_own : Nat → Int32) (mo_blameUpper : Nat → Int32) (mo_blameLower : Nat → Int32), bX12_findBlame_198 N mo_nodeSign mo_nodeSize mo_nodeMany mo_kinds mo_testInputs mo_testDue mo_tests k163 x1 x2 x3 x4 x5 y0 mo_value mo_isLaid mo_changes mo_changeNode mo_changeSign mo_differs mo_results mo_own mo_blameUpper mo_blameLower = some (z_mo_value, z_mo_isLaid, z_mo_changes, z_mo_changeNode, z_mo_changeSign, z_mo_differs, z_mo_results, z_mo_own, z_mo_blameUpper, z_mo_blameLower) → ∀ (H : Heap) (locs : List Loc) (ls : Array Slot), DB D A (wd_mo a b cI cJ cT mo_signs mo_signMany mo_nodeSign mo_nodeOn mo_nodeSize mo_nodeMany mo_due mo_openNode mo_value mo_isLaid mo_changes mo_changeNode mo_changeSign mo_differs mo_results mo_own mo_kinds mo_testInputs mo_testDue mo_tests mo_noticed mo_missed mo_leastFrom mo_blameUpper mo_blameLower) s H locs → lv_has ls 7 [(0, .ref (b 0)), (1, .int x1), (2, .int x2), (3, .int x3), (4, .int x4), (5, .int x5)] → W p l e rmX12_findBlame s m args below meth c H locs 0 0 (ZV below args s D A (tyl cI cJ cT) (wd_mo a b cI cJ cT mo_signs mo_signMany mo_nodeSign mo_nodeOn mo_nodeSize mo_nodeMany mo_due mo_openNode z_mo_value z_mo_isLaid z_mo_changes z_mo_changeNode z_mo_changeSign z_mo_differs z_mo_results z_mo_own mo_kinds mo_testInputs mo_testDue mo_tests mo_noticed mo_missed mo_leastFrom z_mo_blameUpper z_mo_blameLower) 0 0) (F0 m 198 ls [.int y0]) := by
  have hx := C.1.1
  have hb := C.1.2.1
  have hown := C.1.2.2.2.1
  have hts := C.1.2.2.2.2
  intro x1 x2 x3 x4 x5 y0 mo_value mo_isLaid mo_changes mo_changeNode mo_changeSign mo_differs mo_results mo_own mo_blameUpper mo_blameLower h H locs ls B hl
  rw [bX12_findBlame_198] at h
  refine lv_istore (lv' := [(6, .int y0), (0, .ref (b 0)), (1, .int x1), (2, .int x2), (3, .int x3), (4, .int x4), (5, .int x5)]) hx hb dX12_findBlame_198 hl (by decide) rfl (fun ls hl => ?_)
  refine lv_aload_n hx hb dX12_findBlame_200 rfl (lv_at hl 1 rfl) ?_
  refine gfX12_findBlame_68 C B 0 rfl rfl dX12_findBlame_201 ?_
  refine lv_iload_n hx hb dX12_findBlame_204 rfl (lv_at hl 4 rfl) ?_
  refine lv_iload hx hb dX12_findBlame_205 (lv_at hl 0 rfl) ?_
  refine lv_if_eq (tgt := 215) hx hb dX12_findBlame_207 (by decide) (fun c_1 => ?_) (fun c_1 => ?_)
  · rw [if_pos c_1] at h
    refine lv_iload hx hb dX12_findBlame_215 (lv_at hl 5 rfl) ?_
    refine lv_iload_n hx hb dX12_findBlame_217 rfl (lv_at hl 3 rfl) ?_
    refine lv_imul hx hb dX12_findBlame_218 ?_
    exact qX12_findBlame_219 C hk163 x1 x2 x3 x4 x5 y0 x3 (x4 * x2) mo_value mo_isLaid mo_changes mo_changeNode mo_changeSign mo_differs mo_results mo_own mo_blameUpper mo_blameLower h H locs ls B (lv_sub hl [1, 2, 3, 4, 5, 6, 0] rfl)
  · rw [if_neg c_1] at h
    refine lv_iload hx hb dX12_findBlame_210 (lv_at hl 5 rfl) ?_
    refine lv_goto (tgt := 219) hx hb dX12_findBlame_212 (by decide) ?_
    exact qX12_findBlame_219 C hk163 x1 x2 x3 x4 x5 y0 x3 x4 mo_value mo_isLaid mo_changes mo_changeNode mo_changeSign mo_differs mo_results mo_own mo_blameUpper mo_blameLower h H locs ls B (lv_sub hl [1, 2, 3, 4, 5, 6, 0] rfl)
set_option maxHeartbeats 4000000 in
set_option maxRecDepth 100000 in
theorem qX12_findBlame_163 (C : CT p s m args meth c RX12 cX12_findBlame 7 none wsX12_findBlame D A (tyl cI cJ cT) Es) {N : Nat} {mo_signs : Nat → Int32} {mo_signMany : Int32} {mo_nodeSign : Nat → Int32} {mo_nodeOn : Nat → Int32} {mo_nodeSize : Nat → Int32} {mo_nodeMany : Nat → Int32} {mo_due : Nat → Int32} {mo_openNode : Nat → Int32} {mo_kinds : Nat → Int32} {mo_testInputs : Nat → Int32} {mo_testDue : Nat → Int32} {mo_tests : Int32} {mo_noticed : Nat → Int32} {mo_missed : Nat → Int32} {mo_leastFrom : Nat → Int32} {z_mo_value : Nat → Int32} {z_mo_isLaid : Int32} {z_mo_changes : Int32} {z_mo_changeNode : Nat → Int32} {z_mo_changeSign : Nat → Int32} {z_mo_differs : Nat → Int32} {z_mo_results : Nat → Int32} {z_mo_own : Nat → Int32} {z_mo_blameUpper : Nat → Int32} {z_mo_blameLower : Nat → Int32} : ∀ (n : Nat) (x1 : Int32) (x2 : Int32) (x3 : Int32) (mo_value : Nat → Int32) (mo_isLaid : Int32) (mo_changes : Int32) (mo_changeNode : Nat → Int32) (mo_changeSign : Nat → Int32) (mo_differs : Nat → Int32) (mo_results : Nat → Int32) (mo_own : Nat → Int32) (mo_blameUpper : Nat → Int32) (mo_blameLower : Nat → Int32), bX12_findBlame_163 N mo_nodeSign mo_nodeSize mo_nodeMany mo_kinds mo_testInputs mo_testDue mo_tests n x1 x2 x3 mo_value mo_isLaid mo_changes mo_changeNode mo_changeSign mo_differs mo_results mo_own mo_blameUpper mo_blameLower = some (z_mo_value, z_mo_isLaid, z_mo_changes, z_mo_changeNode, z_mo_changeSign, z_mo_differs, z_mo_results, z_mo_own, z_mo_blameUpper, z_mo_blameLower) → ∀ (H : Heap) (locs : List Loc) (ls : Array Slot), DB D A (wd_mo a b cI cJ cT mo_signs mo_signMany mo_nodeSign mo_nodeOn mo_nodeSize mo_nodeMany mo_due mo_openNode mo_value mo_isLaid mo_changes mo_changeNode mo_changeSign mo_differs mo_results mo_own mo_kinds mo_testInputs mo_testDue mo_tests mo_noticed mo_missed mo_leastFrom mo_blameUpper mo_blameLower) s H locs → lv_has ls 7 [(0, .ref (b 0)), (1, .int x1), (2, .int x2), (3, .int x3)] → W p l e rmX12_findBlame s m args below meth c H locs 0 0 (ZV below args s D A (tyl cI cJ cT) (wd_mo a b cI cJ cT mo_signs mo_signMany mo_nodeSign mo_nodeOn mo_nodeSize mo_nodeMany mo_due mo_openNode z_mo_value z_mo_isLaid z_mo_changes z_mo_changeNode z_mo_changeSign z_mo_differs z_mo_results z_mo_own mo_kinds mo_testInputs mo_testDue mo_tests mo_noticed mo_missed mo_leastFrom z_mo_blameUpper z_mo_blameLower) 0 0) (F0 m 163 ls []) := by
  have hx := C.1.1
  have hb := C.1.2.1
  have hown := C.1.2.2.2.1
  have hts := C.1.2.2.2.2
  intro n
  induction n with
  | zero => intro x1 x2 x3 mo_value mo_isLaid mo_changes mo_changeNode mo_changeSign mo_differs mo_results mo_own mo_blameUpper mo_blameLower h; cases h
  | succ n ih =>
    intro x1 x2 x3 mo_value mo_isLaid mo_changes mo_changeNode mo_changeSign mo_differs mo_results mo_own mo_blameUpper mo_blameLower h H locs ls B hl
    rw [bX12_findBlame_163] at h
    refine lv_iload_n hx hb dX12_findBlame_163 rfl (lv_at hl 3 rfl) ?_
    refine lv_aload_n hx hb dX12_findBlame_164 rfl (lv_at hl 0 rfl) ?_
    refine gfX12_findBlame_22 C B 0 rfl rfl dX12_findBlame_165 ?_
    refine lv_iconst (v := 0) hx hb dX12_findBlame_168 (by decide) ?_
    refine k_iald C B 5 0 rfl rfl (vp_lit (by decide)) dX12_findBlame_169 ?_
    refine lv_icmp_ge (tgt := 277) hx hb dX12_findBlame_170 (by decide) (fun c_2 => ?_) (fun c_2 => ?_)
    · rw [if_pos c_2] at h
      cases h
      exact k_vret C B dX12_findBlame_277
    · rw [if_neg c_2] at h
      refine lv_aload_n hx hb dX12_findBlame_173 rfl (lv_at hl 0 rfl) ?_
      refine gfX12_findBlame_68 C B 0 rfl rfl dX12_findBlame_174 ?_
      refine lv_iload_n hx hb dX12_findBlame_177 rfl (lv_at hl 3 rfl) ?_
      obtain ⟨b_3, h⟩ := bnd_some h
      refine k_iald C B 20 0 rfl rfl b_3 dX12_findBlame_178 ?_
      refine lv_istore (lv' := [(4, .int (mo_blameUpper (Int32.toNatClampNeg x3))), (0, .ref (b 0)), (1, .int x1), (2, .int x2), (3, .int x3)]) hx hb dX12_findBlame_179 hl (by decide) rfl (fun ls hl => ?_)
      refine lv_aload_n hx hb dX12_findBlame_181 rfl (lv_at hl 1 rfl) ?_
      refine gfX12_findBlame_71 C B 0 rfl rfl dX12_findBlame_182 ?_
      refine lv_iload_n hx hb dX12_findBlame_185 rfl (lv_at hl 4 rfl) ?_
      refine k_iald C B 21 0 rfl rfl b_3 dX12_findBlame_186 ?_
      refine lv_istore (lv' := [(5, .int (mo_blameLower (Int32.toNatClampNeg x3))), (4, .int (mo_blameUpper (Int32.toNatClampNeg x3))), (0, .ref (b 0)), (1, .int x1), (2, .int x2), (3, .int x3)]) hx hb dX12_findBlame_187 hl (by decide) rfl (fun ls hl => ?_)
      refine lv_iload_n hx hb dX12_findBlame_189 rfl (lv_at hl 4 rfl) ?_
      refine lv_if_ne (tgt := 197) hx hb dX12_findBlame_190 (by decide) (fun c_4 => ?_) (fun c_4 => ?_)
      · rw [if_neg c_4] at h
        refine lv_iconst (v := 0) hx hb dX12_findBlame_197 (by decide) ?_
        exact qX12_findBlame_198 C ih x1 x2 x3 (mo_blameUpper (Int32.toNatClampNeg x3)) (mo_blameLower (Int32.toNatClampNeg x3)) (0 : Int32) mo_value mo_isLaid mo_changes mo_changeNode mo_changeSign mo_differs mo_results mo_own mo_blameUpper mo_blameLower h H locs ls B (lv_sub hl [2, 3, 4, 5, 1, 0] rfl)
      · rw [if_pos c_4] at h
        refine lv_iconst (v := 1) hx hb dX12_findBlame_193 (by decide) ?_
        refine lv_goto (tgt := 198) hx hb dX12_findBlame_194 (by decide) ?_
        exact qX12_findBlame_198 C ih x1 x2 x3 (mo_blameUpper (Int32.toNatClampNeg x3)) (mo_blameLower (Int32.toNatClampNeg x3)) (1 : Int32) mo_value mo_isLaid mo_changes mo_changeNode mo_changeSign mo_differs mo_results mo_own mo_blameUpper mo_blameLower h H locs ls B (lv_sub hl [2, 3, 4, 5, 1, 0] rfl)
set_option maxHeartbeats 4000000 in
set_option maxRecDepth 100000 in
theorem qX12_findBlame_147 (C : CT p s m args meth c RX12 cX12_findBlame 7 none wsX12_findBlame D A (tyl cI cJ cT) Es) {N : Nat} {mo_signs : Nat → Int32} {mo_signMany : Int32} {mo_nodeSign : Nat → Int32} {mo_nodeOn : Nat → Int32} {mo_nodeSize : Nat → Int32} {mo_nodeMany : Nat → Int32} {mo_due : Nat → Int32} {mo_openNode : Nat → Int32} {mo_kinds : Nat → Int32} {mo_testInputs : Nat → Int32} {mo_testDue : Nat → Int32} {mo_tests : Int32} {mo_noticed : Nat → Int32} {mo_missed : Nat → Int32} {mo_leastFrom : Nat → Int32} {z_mo_value : Nat → Int32} {z_mo_isLaid : Int32} {z_mo_changes : Int32} {z_mo_changeNode : Nat → Int32} {z_mo_changeSign : Nat → Int32} {z_mo_differs : Nat → Int32} {z_mo_results : Nat → Int32} {z_mo_own : Nat → Int32} {z_mo_blameUpper : Nat → Int32} {z_mo_blameLower : Nat → Int32} {k46 : Int32 → Int32 → Int32 → (Nat → Int32) → (Int32) → (Int32) → (Nat → Int32) → (Nat → Int32) → (Nat → Int32) → (Nat → Int32) → (Nat → Int32) → (Nat → Int32) → (Nat → Int32) → Option ((Nat → Int32) × (Int32) × (Int32) × (Nat → Int32) × (Nat → Int32) × (Nat → Int32) × (Nat → Int32) × (Nat → Int32) × (Nat → Int32) × (Nat → Int32))} (hk46 : ∀ (x1 : Int32) (x2 : Int32) (x3 : Int32) (mo_value : Nat → Int32) (mo_isLaid : Int32) (mo_changes : Int32) (mo_changeNode : Nat → Int32) (mo_changeSign : Nat → Int32) (mo_differs : Nat → Int32) (mo_results : Nat → Int32) (mo_own : Nat → Int32) (mo_blameUpper : Nat → Int32) (mo_blameLower : Nat → Int32), k46 x1 x2 x3 mo_value mo_isLaid mo_changes mo_changeNode mo_changeSign mo_differs mo_results mo_own mo_blameUpper mo_blameLower = some (z_mo_value, z_mo_isLaid, z_mo_changes, z_mo_changeNode, z_mo_changeSign, z_mo_differs, z_mo_results, z_mo_own, z_mo_blameUpper, z_mo_blameLower) → ∀ (H : Heap) (locs : List Loc) (ls : Array Slot), DB D A (wd_mo a b cI cJ cT mo_signs mo_signMany mo_nodeSign mo_nodeOn mo_nodeSize mo_nodeMany mo_due mo_openNode mo_value mo_isLaid mo_changes mo_changeNode mo_changeSign mo_differs mo_results mo_own mo_kinds mo_testInputs mo_testDue mo_tests mo_noticed mo_missed mo_leastFrom mo_blameUpper mo_blameLower) s H locs → lv_has ls 7 [(0, .ref (b 0)), (1, .int x1), (2, .int x2), (3, .int x3)] → W p l e rmX12_findBlame s m args below meth c H locs 0 0 (ZV below args s D A (tyl cI cJ cT) (wd_mo a b cI cJ cT mo_signs mo_signMany mo_nodeSign mo_nodeOn mo_nodeSize mo_nodeMany mo_due mo_openNode z_mo_value z_mo_isLaid z_mo_changes z_mo_changeNode z_mo_changeSign z_mo_differs z_mo_results z_mo_own mo_kinds mo_testInputs mo_testDue mo_tests mo_noticed mo_missed mo_leastFrom z_mo_blameUpper z_mo_blameLower) 0 0) (F0 m 46 ls [])) {k70 : Int32 → Int32 → Int32 → Int32 → Int32 → (Nat → Int32) → (Int32) → (Int32) → (Nat → Int32) → (Nat → Int32) → (Nat → Int32) → (Nat → Int32) → (Nat → Int32) → (Nat → Int32) → (Nat → Int32) → Option ((Nat → Int32) × (Int32) × (Int32) × (Nat → Int32) × (Nat → Int32) × (Nat → Int32) × (Nat → Int32) × (Nat → Int32) × (Nat → Int32) × (Nat → Int32))} (hk70 : ∀ (x1 : Int32) (x2 : Int32) (x3 : Int32) (x4 : Int32) (x5 : Int32) (mo_value : Nat → Int32) (mo_isLaid : Int32) (mo_changes : Int32) (mo_changeNode : Nat → Int32) (mo_changeSign : Nat → Int32) (mo_differs : Nat → Int32) (mo_results : Nat → Int32) (mo_own : Nat → Int32) (mo_blameUpper : Nat → Int32) (mo_blameLower : Nat → Int32), k70 x1 x2 x3 x4 x5 mo_value mo_isLaid mo_changes mo_changeNode mo_changeSign mo_differs mo_results mo_own mo_blameUpper mo_blameLower = some (z_mo_value, z_mo_isLaid, z_mo_changes, z_mo_changeNode, z_mo_changeSign, z_mo_differs, z_mo_results, z_mo_own, z_mo_blameUpper, z_mo_blameLower) → ∀ (H : Heap) (locs : List Loc) (ls : Array Slot), DB D A (wd_mo a b cI cJ cT mo_signs mo_signMany mo_nodeSign mo_nodeOn mo_nodeSize mo_nodeMany mo_due mo_openNode mo_value mo_isLaid mo_changes mo_changeNode mo_changeSign mo_differs mo_results mo_own mo_kinds mo_testInputs mo_testDue mo_tests mo_noticed mo_missed mo_leastFrom mo_blameUpper mo_blameLower) s H locs → lv_has ls 7 [(0, .ref (b 0)), (1, .int x1), (2, .int x2), (3, .int x3), (4, .int x4), (5, .int x5)] → W p l e rmX12_findBlame s m args below meth c H locs 0 0 (ZV below args s D A (tyl cI cJ cT) (wd_mo a b cI cJ cT mo_signs mo_signMany mo_nodeSign mo_nodeOn mo_nodeSize mo_nodeMany mo_due mo_openNode z_mo_value z_mo_isLaid z_mo_changes z_mo_changeNode z_mo_changeSign z_mo_differs z_mo_results z_mo_own mo_kinds mo_testInputs mo_testDue mo_tests mo_noticed mo_missed mo_leastFrom z_mo_blameUpper z_mo_blameLower) 0 0) (F0 m 70 ls [])) : ∀ (x1 : Int32) (x2 : Int32) (x3 : Int32) (x4 : Int32) (x5 : Int32) (y1 : Int32) (y2 : Int32) (y3 : Int32) (mo_value : Nat → Int32) (mo_isLaid : Int32) (mo_changes : Int32) (mo_changeNode : Nat → Int32) (mo_changeSign : Nat → Int32) (mo_differs : Nat → Int32) (mo_results : Nat → Int32) (mo_own : Nat → Int32) (mo_blameUpper : Nat → Int32) (mo_blameLower : Nat → Int32), bX12_findBlame_147 N mo_nodeSign mo_nodeSize mo_nodeMany mo_kinds mo_testInputs mo_testDue mo_tests k46 k70 x1 x2 x3 x4 x5 y1 y2 y3 mo_value mo_isLaid mo_changes mo_changeNode mo_changeSign mo_differs mo_results mo_own mo_blameUpper mo_blameLower = some (z_mo_value, z_mo_isLaid, z_mo_changes, z_mo_changeNode, z_mo_changeSign, z_mo_differs, z_mo_results, z_mo_own, z_mo_blameUpper, z_mo_blameLower) → ∀ (H : Heap) (locs : List Loc) (ls : Array Slot), DB D A (wd_mo a b cI cJ cT mo_signs mo_signMany mo_nodeSign mo_nodeOn mo_nodeSize mo_nodeMany mo_due mo_openNode mo_value mo_isLaid mo_changes mo_changeNode mo_changeSign mo_differs mo_results mo_own mo_kinds mo_testInputs mo_testDue mo_tests mo_noticed mo_missed mo_leastFrom mo_blameUpper mo_blameLower) s H locs → lv_has ls 7 [(0, .ref (b 0)), (1, .int x1), (2, .int x2), (3, .int x3), (4, .int x4), (5, .int x5)] → W p l e rmX12_findBlame s m args below meth c H locs 0 0 (ZV below args s D A (tyl cI cJ cT) (wd_mo a b cI cJ cT mo_signs mo_signMany mo_nodeSign mo_nodeOn mo_nodeSize mo_nodeMany mo_due mo_openNode z_mo_value z_mo_isLaid z_mo_changes z_mo_changeNode z_mo_changeSign z_mo_differs z_mo_results z_mo_own mo_kinds mo_testInputs mo_testDue mo_tests mo_noticed mo_missed mo_leastFrom z_mo_blameUpper z_mo_blameLower) 0 0) (F0 m 147 ls [.int y3, .int y2, .int y1, .ref (b 21)]) := by
  have hx := C.1.1
  have hb := C.1.2.1
  have hown := C.1.2.2.2.1
  have hts := C.1.2.2.2.2
  intro x1 x2 x3 x4 x5 y1 y2 y3 mo_value mo_isLaid mo_changes mo_changeNode mo_changeSign mo_differs mo_results mo_own mo_blameUpper mo_blameLower h H locs ls B hl
  rw [bX12_findBlame_147] at h
  refine lv_iadd hx hb dX12_findBlame_147 ?_
  obtain ⟨b_1, h⟩ := bnd_some h
  refine k_iast C B 21 0 rfl rfl b_1 dX12_findBlame_148 (fun H locs B => ?_)
  have B : DB D A (wd_mo a b cI cJ cT mo_signs mo_signMany mo_nodeSign mo_nodeOn mo_nodeSize mo_nodeMany mo_due mo_openNode mo_value mo_isLaid mo_changes mo_changeNode mo_changeSign mo_differs mo_results mo_own mo_kinds mo_testInputs mo_testDue mo_tests mo_noticed mo_missed mo_leastFrom mo_blameUpper (upd mo_blameLower (Int32.toNatClampNeg y1) (y2 + y3))) s H locs := B
  refine lv_iinc (v := (x5 + 1)) (lv' := [(5, .int (x5 + 1)), (0, .ref (b 0)), (1, .int x1), (2, .int x2), (3, .int x3), (4, .int x4)]) hx hb dX12_findBlame_149 hl (k := 5) rfl rfl (by decide) rfl (fun ls hl => ?_)
  refine lv_goto (tgt := 70) hx hb dX12_findBlame_152 (by decide) ?_
  exact hk70 x1 x2 x3 x4 (x5 + 1) mo_value mo_isLaid mo_changes mo_changeNode mo_changeSign mo_differs mo_results mo_own mo_blameUpper (upd mo_blameLower (Int32.toNatClampNeg y1) (y2 + y3)) h H locs ls B (lv_sub hl [1, 2, 3, 4, 5, 0] rfl)
set_option maxHeartbeats 4000000 in
set_option maxRecDepth 100000 in
theorem qX12_findBlame_146 (C : CT p s m args meth c RX12 cX12_findBlame 7 none wsX12_findBlame D A (tyl cI cJ cT) Es) {N : Nat} {mo_signs : Nat → Int32} {mo_signMany : Int32} {mo_nodeSign : Nat → Int32} {mo_nodeOn : Nat → Int32} {mo_nodeSize : Nat → Int32} {mo_nodeMany : Nat → Int32} {mo_due : Nat → Int32} {mo_openNode : Nat → Int32} {mo_kinds : Nat → Int32} {mo_testInputs : Nat → Int32} {mo_testDue : Nat → Int32} {mo_tests : Int32} {mo_noticed : Nat → Int32} {mo_missed : Nat → Int32} {mo_leastFrom : Nat → Int32} {z_mo_value : Nat → Int32} {z_mo_isLaid : Int32} {z_mo_changes : Int32} {z_mo_changeNode : Nat → Int32} {z_mo_changeSign : Nat → Int32} {z_mo_differs : Nat → Int32} {z_mo_results : Nat → Int32} {z_mo_own : Nat → Int32} {z_mo_blameUpper : Nat → Int32} {z_mo_blameLower : Nat → Int32} {k46 : Int32 → Int32 → Int32 → (Nat → Int32) → (Int32) → (Int32) → (Nat → Int32) → (Nat → Int32) → (Nat → Int32) → (Nat → Int32) → (Nat → Int32) → (Nat → Int32) → (Nat → Int32) → Option ((Nat → Int32) × (Int32) × (Int32) × (Nat → Int32) × (Nat → Int32) × (Nat → Int32) × (Nat → Int32) × (Nat → Int32) × (Nat → Int32) × (Nat → Int32))} (hk46 : ∀ (x1 : Int32) (x2 : Int32) (x3 : Int32) (mo_value : Nat → Int32) (mo_isLaid : Int32) (mo_changes : Int32) (mo_changeNode : Nat → Int32) (mo_changeSign : Nat → Int32) (mo_differs : Nat → Int32) (mo_results : Nat → Int32) (mo_own : Nat → Int32) (mo_blameUpper : Nat → Int32) (mo_blameLower : Nat → Int32), k46 x1 x2 x3 mo_value mo_isLaid mo_changes mo_changeNode mo_changeSign mo_differs mo_results mo_own mo_blameUpper mo_blameLower = some (z_mo_value, z_mo_isLaid, z_mo_changes, z_mo_changeNode, z_mo_changeSign, z_mo_differs, z_mo_results, z_mo_own, z_mo_blameUpper, z_mo_blameLower) → ∀ (H : Heap) (locs : List Loc) (ls : Array Slot), DB D A (wd_mo a b cI cJ cT mo_signs mo_signMany mo_nodeSign mo_nodeOn mo_nodeSize mo_nodeMany mo_due mo_openNode mo_value mo_isLaid mo_changes mo_changeNode mo_changeSign mo_differs mo_results mo_own mo_kinds mo_testInputs mo_testDue mo_tests mo_noticed mo_missed mo_leastFrom mo_blameUpper mo_blameLower) s H locs → lv_has ls 7 [(0, .ref (b 0)), (1, .int x1), (2, .int x2), (3, .int x3)] → W p l e rmX12_findBlame s m args below meth c H locs 0 0 (ZV below args s D A (tyl cI cJ cT) (wd_mo a b cI cJ cT mo_signs mo_signMany mo_nodeSign mo_nodeOn mo_nodeSize mo_nodeMany mo_due mo_openNode z_mo_value z_mo_isLaid z_mo_changes z_mo_changeNode z_mo_changeSign z_mo_differs z_mo_results z_mo_own mo_kinds mo_testInputs mo_testDue mo_tests mo_noticed mo_missed mo_leastFrom z_mo_blameUpper z_mo_blameLower) 0 0) (F0 m 46 ls [])) {k70 : Int32 → Int32 → Int32 → Int32 → Int32 → (Nat → Int32) → (Int32) → (Int32) → (Nat → Int32) → (Nat → Int32) → (Nat → Int32) → (Nat → Int32) → (Nat → Int32) → (Nat → Int32) → (Nat → Int32) → Option ((Nat → Int32) × (Int32) × (Int32) × (Nat → Int32) × (Nat → Int32) × (Nat → Int32) × (Nat → Int32) × (Nat → Int32) × (Nat → Int32) × (Nat → Int32))} (hk70 : ∀ (x1 : Int32) (x2 : Int32) (x3 : Int32) (x4 : Int32) (x5 : Int32) (mo_value : Nat → Int32) (mo_isLaid : Int32) (mo_changes : Int32) (mo_changeNode : Nat → Int32) (mo_changeSign : Nat → Int32) (mo_differs : Nat → Int32) (mo_results : Nat → Int32) (mo_own : Nat → Int32) (mo_blameUpper : Nat → Int32) (mo_blameLower : Nat → Int32), k70 x1 x2 x3 x4 x5 mo_value mo_isLaid mo_changes mo_changeNode mo_changeSign mo_differs mo_results mo_own mo_blameUpper mo_blameLower = some (z_mo_value, z_mo_isLaid, z_mo_changes, z_mo_changeNode, z_mo_changeSign, z_mo_differs, z_mo_results, z_mo_own, z_mo_blameUpper, z_mo_blameLower) → ∀ (H : Heap) (locs : List Loc) (ls : Array Slot), DB D A (wd_mo a b cI cJ cT mo_signs mo_signMany mo_nodeSign mo_nodeOn mo_nodeSize mo_nodeMany mo_due mo_openNode mo_value mo_isLaid mo_changes mo_changeNode mo_changeSign mo_differs mo_results mo_own mo_kinds mo_testInputs mo_testDue mo_tests mo_noticed mo_missed mo_leastFrom mo_blameUpper mo_blameLower) s H locs → lv_has ls 7 [(0, .ref (b 0)), (1, .int x1), (2, .int x2), (3, .int x3), (4, .int x4), (5, .int x5)] → W p l e rmX12_findBlame s m args below meth c H locs 0 0 (ZV below args s D A (tyl cI cJ cT) (wd_mo a b cI cJ cT mo_signs mo_signMany mo_nodeSign mo_nodeOn mo_nodeSize mo_nodeMany mo_due mo_openNode z_mo_value z_mo_isLaid z_mo_changes z_mo_changeNode z_mo_changeSign z_mo_differs z_mo_results z_mo_own mo_kinds mo_testInputs mo_testDue mo_tests mo_noticed mo_missed mo_leastFrom z_mo_blameUpper z_mo_blameLower) 0 0) (F0 m 70 ls [])) : ∀ (x1 : Int32) (x2 : Int32) (x3 : Int32) (x4 : Int32) (x5 : Int32) (y1 : Int32) (y2 : Int32) (mo_value : Nat → Int32) (mo_isLaid : Int32) (mo_changes : Int32) (mo_changeNode : Nat → Int32) (mo_changeSign : Nat → Int32) (mo_differs : Nat → Int32) (mo_results : Nat → Int32) (mo_own : Nat → Int32) (mo_blameUpper : Nat → Int32) (mo_blameLower : Nat → Int32), bX12_findBlame_146 N mo_nodeSign mo_nodeSize mo_nodeMany mo_kinds mo_testInputs mo_testDue mo_tests k46 k70 x1 x2 x3 x4 x5 y1 y2 mo_value mo_isLaid mo_changes mo_changeNode mo_changeSign mo_differs mo_results mo_own mo_blameUpper mo_blameLower = some (z_mo_value, z_mo_isLaid, z_mo_changes, z_mo_changeNode, z_mo_changeSign, z_mo_differs, z_mo_results, z_mo_own, z_mo_blameUpper, z_mo_blameLower) → ∀ (H : Heap) (locs : List Loc) (ls : Array Slot), DB D A (wd_mo a b cI cJ cT mo_signs mo_signMany mo_nodeSign mo_nodeOn mo_nodeSize mo_nodeMany mo_due mo_openNode mo_value mo_isLaid mo_changes mo_changeNode mo_changeSign mo_differs mo_results mo_own mo_kinds mo_testInputs mo_testDue mo_tests mo_noticed mo_missed mo_leastFrom mo_blameUpper mo_blameLower) s H locs → lv_has ls 7 [(0, .ref (b 0)), (1, .int x1), (2, .int x2), (3, .int x3), (4, .int x4), (5, .int x5)] → W p l e rmX12_findBlame s m args below meth c H locs 0 0 (ZV below args s D A (tyl cI cJ cT) (wd_mo a b cI cJ cT mo_signs mo_signMany mo_nodeSign mo_nodeOn mo_nodeSize mo_nodeMany mo_due mo_openNode z_mo_value z_mo_isLaid z_mo_changes z_mo_changeNode z_mo_changeSign z_mo_differs z_mo_results z_mo_own mo_kinds mo_testInputs mo_testDue mo_tests mo_noticed mo_missed mo_leastFrom z_mo_blameUpper z_mo_blameLower) 0 0) (F0 m 146 ls [.int y2, .int y1, .ref (b 21)]) := by
  have hx := C.1.1
  have hb := C.1.2.1
  have hown := C.1.2.2.2.1
  have hts := C.1.2.2.2.2
  intro x1 x2 x3 x4 x5 y1 y2 mo_value mo_isLaid mo_changes mo_changeNode mo_changeSign mo_differs mo_results mo_own mo_blameUpper mo_blameLower h H locs ls B hl
  rw [bX12_findBlame_146] at h
  refine lv_iconst (v := 0) hx hb dX12_findBlame_146 (by decide) ?_
  exact qX12_findBlame_147 C hk46 hk70 x1 x2 x3 x4 x5 y1 y2 (0 : Int32) mo_value mo_isLaid mo_changes mo_changeNode mo_changeSign mo_differs mo_results mo_own mo_blameUpper mo_blameLower h H locs ls B (lv_sub hl [0, 1, 2, 3, 4, 5] rfl)
set_option maxHeartbeats 4000000 in
set_option maxRecDepth 100000 in
theorem qX12_findBlame_113 (C : CT p s m args meth c RX12 cX12_findBlame 7 none wsX12_findBlame D A (tyl cI cJ cT) Es) {N : Nat} {mo_signs : Nat → Int32} {mo_signMany : Int32} {mo_nodeSign : Nat → Int32} {mo_nodeOn : Nat → Int32} {mo_nodeSize : Nat → Int32} {mo_nodeMany : Nat → Int32} {mo_due : Nat → Int32} {mo_openNode : Nat → Int32} {mo_kinds : Nat → Int32} {mo_testInputs : Nat → Int32} {mo_testDue : Nat → Int32} {mo_tests : Int32} {mo_noticed : Nat → Int32} {mo_missed : Nat → Int32} {mo_leastFrom : Nat → Int32} {z_mo_value : Nat → Int32} {z_mo_isLaid : Int32} {z_mo_changes : Int32} {z_mo_changeNode : Nat → Int32} {z_mo_changeSign : Nat → Int32} {z_mo_differs : Nat → Int32} {z_mo_results : Nat → Int32} {z_mo_own : Nat → Int32} {z_mo_blameUpper : Nat → Int32} {z_mo_blameLower : Nat → Int32} {k46 : Int32 → Int32 → Int32 → (Nat → Int32) → (Int32) → (Int32) → (Nat → Int32) → (Nat → Int32) → (Nat → Int32) → (Nat → Int32) → (Nat → Int32) → (Nat → Int32) → (Nat → Int32) → Option ((Nat → Int32) × (Int32) × (Int32) × (Nat → Int32) × (Nat → Int32) × (Nat → Int32) × (Nat → Int32) × (Nat → Int32) × (Nat → Int32) × (Nat → Int32))} (hk46 : ∀ (x1 : Int32) (x2 : Int32) (x3 : Int32) (mo_value : Nat → Int32) (mo_isLaid : Int32) (mo_changes : Int32) (mo_changeNode : Nat → Int32) (mo_changeSign : Nat → Int32) (mo_differs : Nat → Int32) (mo_results : Nat → Int32) (mo_own : Nat → Int32) (mo_blameUpper : Nat → Int32) (mo_blameLower : Nat → Int32), k46 x1 x2 x3 mo_value mo_isLaid mo_changes mo_changeNode mo_changeSign mo_differs mo_results mo_own mo_blameUpper mo_blameLower = some (z_mo_value, z_mo_isLaid, z_mo_changes, z_mo_changeNode, z_mo_changeSign, z_mo_differs, z_mo_results, z_mo_own, z_mo_blameUpper, z_mo_blameLower) → ∀ (H : Heap) (locs : List Loc) (ls : Array Slot), DB D A (wd_mo a b cI cJ cT mo_signs mo_signMany mo_nodeSign mo_nodeOn mo_nodeSize mo_nodeMany mo_due mo_openNode mo_value mo_isLaid mo_changes mo_changeNode mo_changeSign mo_differs mo_results mo_own mo_kinds mo_testInputs mo_testDue mo_tests mo_noticed mo_missed mo_leastFrom mo_blameUpper mo_blameLower) s H locs → lv_has ls 7 [(0, .ref (b 0)), (1, .int x1), (2, .int x2), (3, .int x3)] → W p l e rmX12_findBlame s m args below meth c H locs 0 0 (ZV below args s D A (tyl cI cJ cT) (wd_mo a b cI cJ cT mo_signs mo_signMany mo_nodeSign mo_nodeOn mo_nodeSize mo_nodeMany mo_due mo_openNode z_mo_value z_mo_isLaid z_mo_changes z_mo_changeNode z_mo_changeSign z_mo_differs z_mo_results z_mo_own mo_kinds mo_testInputs mo_testDue mo_tests mo_noticed mo_missed mo_leastFrom z_mo_blameUpper z_mo_blameLower) 0 0) (F0 m 46 ls [])) {k70 : Int32 → Int32 → Int32 → Int32 → Int32 → (Nat → Int32) → (Int32) → (Int32) → (Nat → Int32) → (Nat → Int32) → (Nat → Int32) → (Nat → Int32) → (Nat → Int32) → (Nat → Int32) → (Nat → Int32) → Option ((Nat → Int32) × (Int32) × (Int32) × (Nat → Int32) × (Nat → Int32) × (Nat → Int32) × (Nat → Int32) × (Nat → Int32) × (Nat → Int32) × (Nat → Int32))} (hk70 : ∀ (x1 : Int32) (x2 : Int32) (x3 : Int32) (x4 : Int32) (x5 : Int32) (mo_value : Nat → Int32) (mo_isLaid : Int32) (mo_changes : Int32) (mo_changeNode : Nat → Int32) (mo_changeSign : Nat → Int32) (mo_differs : Nat → Int32) (mo_results : Nat → Int32) (mo_own : Nat → Int32) (mo_blameUpper : Nat → Int32) (mo_blameLower : Nat → Int32), k70 x1 x2 x3 x4 x5 mo_value mo_isLaid mo_changes mo_changeNode mo_changeSign mo_differs mo_results mo_own mo_blameUpper mo_blameLower = some (z_mo_value, z_mo_isLaid, z_mo_changes, z_mo_changeNode, z_mo_changeSign, z_mo_differs, z_mo_results, z_mo_own, z_mo_blameUpper, z_mo_blameLower) → ∀ (H : Heap) (locs : List Loc) (ls : Array Slot), DB D A (wd_mo a b cI cJ cT mo_signs mo_signMany mo_nodeSign mo_nodeOn mo_nodeSize mo_nodeMany mo_due mo_openNode mo_value mo_isLaid mo_changes mo_changeNode mo_changeSign mo_differs mo_results mo_own mo_kinds mo_testInputs mo_testDue mo_tests mo_noticed mo_missed mo_leastFrom mo_blameUpper mo_blameLower) s H locs → lv_has ls 7 [(0, .ref (b 0)), (1, .int x1), (2, .int x2), (3, .int x3), (4, .int x4), (5, .int x5)] → W p l e rmX12_findBlame s m args below meth c H locs 0 0 (ZV below args s D A (tyl cI cJ cT) (wd_mo a b cI cJ cT mo_signs mo_signMany mo_nodeSign mo_nodeOn mo_nodeSize mo_nodeMany mo_due mo_openNode z_mo_value z_mo_isLaid z_mo_changes z_mo_changeNode z_mo_changeSign z_mo_differs z_mo_results z_mo_own mo_kinds mo_testInputs mo_testDue mo_tests mo_noticed mo_missed mo_leastFrom z_mo_blameUpper z_mo_blameLower) 0 0) (F0 m 70 ls [])) : ∀ (x1 : Int32) (x2 : Int32) (x3 : Int32) (x4 : Int32) (x5 : Int32) (y1 : Int32) (y2 : Int32) (y3 : Int32) (mo_value : Nat → Int32) (mo_isLaid : Int32) (mo_changes : Int32) (mo_changeNode : Nat → Int32) (mo_changeSign : Nat → Int32) (mo_differs : Nat → Int32) (mo_results : Nat → Int32) (mo_own : Nat → Int32) (mo_blameUpper : Nat → Int32) (mo_blameLower : Nat → Int32), bX12_findBlame_113 N mo_nodeSign mo_nodeSize mo_nodeMany mo_kinds mo_testInputs mo_testDue mo_tests k46 k70 x1 x2 x3 x4 x5 y1 y2 y3 mo_value mo_isLaid mo_changes mo_changeNode mo_changeSign mo_differs mo_results mo_own mo_blameUpper mo_blameLower = some (z_mo_value, z_mo_isLaid, z_mo_changes, z_mo_changeNode, z_mo_changeSign, z_mo_differs, z_mo_results, z_mo_own, z_mo_blameUpper, z_mo_blameLower) → ∀ (H : Heap) (locs : List Loc) (ls : Array Slot), DB D A (wd_mo a b cI cJ cT mo_signs mo_signMany mo_nodeSign mo_nodeOn mo_nodeSize mo_nodeMany mo_due mo_openNode mo_value mo_isLaid mo_changes mo_changeNode mo_changeSign mo_differs mo_results mo_own mo_kinds mo_testInputs mo_testDue mo_tests mo_noticed mo_missed mo_leastFrom mo_blameUpper mo_blameLower) s H locs → lv_has ls 7 [(0, .ref (b 0)), (1, .int x1), (2, .int x2), (3, .int x3), (4, .int x4), (5, .int x5)] → W p l e rmX12_findBlame s m args below meth c H locs 0 0 (ZV below args s D A (tyl cI cJ cT) (wd_mo a b cI cJ cT mo_signs mo_signMany mo_nodeSign mo_nodeOn mo_nodeSize mo_nodeMany mo_due mo_openNode z_mo_value z_mo_isLaid z_mo_changes z_mo_changeNode z_mo_changeSign z_mo_differs z_mo_results z_mo_own mo_kinds mo_testInputs mo_testDue mo_tests mo_noticed mo_missed mo_leastFrom z_mo_blameUpper z_mo_blameLower) 0 0) (F0 m 113 ls [.int y3, .int y2, .int y1, .ref (b 20)]) := by
  have hx := C.1.1
  have hb := C.1.2.1
  have hown := C.1.2.2.2.1
  have hts := C.1.2.2.2.2
  intro x1 x2 x3 x4 x5 y1 y2 y3 mo_value mo_isLaid mo_changes mo_changeNode mo_changeSign mo_differs mo_results mo_own mo_blameUpper mo_blameLower h H locs ls B hl
  rw [bX12_findBlame_113] at h
  refine lv_iadd hx hb dX12_findBlame_113 ?_
  obtain ⟨b_1, h⟩ := bnd_some h
  refine k_iast C B 20 0 rfl rfl b_1 dX12_findBlame_114 (fun H locs B => ?_)
  have B : DB D A (wd_mo a b cI cJ cT mo_signs mo_signMany mo_nodeSign mo_nodeOn mo_nodeSize mo_nodeMany mo_due mo_openNode mo_value mo_isLaid mo_changes mo_changeNode mo_changeSign mo_differs mo_results mo_own mo_kinds mo_testInputs mo_testDue mo_tests mo_noticed mo_missed mo_leastFrom (upd mo_blameUpper (Int32.toNatClampNeg y1) (y2 + y3)) mo_blameLower) s H locs := B
  refine lv_aload_n hx hb dX12_findBlame_115 rfl (lv_at hl 0 rfl) ?_
  refine gfX12_findBlame_71 C B 0 rfl rfl dX12_findBlame_116 ?_
  refine lv_iload hx hb dX12_findBlame_119 (lv_at hl 5 rfl) ?_
  refine lv_dup2_11 hx hb dX12_findBlame_121 rfl rfl ?_
  obtain ⟨b_2, h⟩ := bnd_some h
  refine k_iald C B 21 0 rfl rfl b_2 dX12_findBlame_122 ?_
  refine lv_iload hx hb dX12_findBlame_123 (lv_at hl 4 rfl) ?_
  refine lv_iload hx hb dX12_findBlame_125 (lv_at hl 5 rfl) ?_
  refine lv_ishr hx hb dX12_findBlame_127 ?_
  refine lv_iconst (v := 1) hx hb dX12_findBlame_128 (by decide) ?_
  refine lv_iand hx hb dX12_findBlame_129 ?_
  refine lv_iconst (v := 1) hx hb dX12_findBlame_130 (by decide) ?_
  refine lv_icmp_ne (tgt := 146) hx hb dX12_findBlame_131 (by decide) (fun c_3 => ?_) (fun c_3 => ?_)
  · rw [if_neg c_3] at h
    exact qX12_findBlame_146 C hk46 hk70 x1 x2 x3 x4 x5 x5 (mo_blameLower (Int32.toNatClampNeg x5)) mo_value mo_isLaid mo_changes mo_changeNode mo_changeSign mo_differs mo_results mo_own (upd mo_blameUpper (Int32.toNatClampNeg y1) (y2 + y3)) mo_blameLower h H locs ls B (lv_sub hl [0, 1, 2, 3, 4, 5] rfl)
  · rw [if_pos c_3] at h
    refine lv_aload_n hx hb dX12_findBlame_134 rfl (lv_at hl 0 rfl) ?_
    refine lv_iload_n hx hb dX12_findBlame_135 rfl (lv_at hl 3 rfl) ?_
    obtain ⟨r_4, g_6, h⟩ := ob_some h
    try dsimp only at h
    refine kc_VI C B (q0 := 0) (ci := 12) (As := [.int x3]) (rest := [.int (mo_blameLower (Int32.toNatClampNeg x5)), .int x5, .ref (b 21)]) (w2 := (wd_mo a b cI cJ cT mo_signs mo_signMany mo_nodeSign mo_nodeOn mo_nodeSize mo_nodeMany mo_due mo_openNode mo_value mo_isLaid mo_changes mo_changeNode mo_changeSign mo_differs mo_results mo_own mo_kinds mo_testInputs mo_testDue mo_tests mo_noticed mo_missed mo_leastFrom (upd mo_blameUpper (Int32.toNatClampNeg y1) (y2 + y3)) mo_blameLower)) (tX12_doesFail (a := a) (b := b) N g_6) gX12_findBlame_X12_doesFail rfl ⟨rfl, rfl⟩ ⟨rfl, hdX12_doesFail⟩ ⟨Nat.le_of_ble_eq_true rfl, Nat.le_of_ble_eq_true rfl⟩ rfl rfl [0, 1, 2, 3, 4, 5, 6, 7, 8, 9, 10, 11, 12, 13, 14, 15, 16, 17, 18, 19, 20, 21] [] [0, 1, 2, 3, 4, 5, 6, 7, 8, 9, 10, 11, 12, 13, 14, 15, 16, 17, 18, 19, 20, 21] rfl rfl rfl rfl rfl rfl rfl rfl hl.1 rfl (Nat.le_of_ble_eq_true rfl) ⟨Nat.zero_le _, Nat.zero_le _⟩ dX12_findBlame_136 (fun H locs B => ?_)
    refine lv_if_ne (tgt := 146) hx hb dX12_findBlame_139 (by decide) (fun c_5 => ?_) (fun c_5 => ?_)
    · rw [if_neg c_5] at h
      exact qX12_findBlame_146 C hk46 hk70 x1 x2 x3 x4 x5 x5 (mo_blameLower (Int32.toNatClampNeg x5)) mo_value mo_isLaid mo_changes mo_changeNode mo_changeSign mo_differs mo_results mo_own (upd mo_blameUpper (Int32.toNatClampNeg y1) (y2 + y3)) mo_blameLower h H locs ls B (lv_sub hl [0, 1, 2, 3, 4, 5] rfl)
    · rw [if_pos c_5] at h
      refine lv_iconst (v := 1) hx hb dX12_findBlame_142 (by decide) ?_
      refine lv_goto (tgt := 147) hx hb dX12_findBlame_143 (by decide) ?_
      exact qX12_findBlame_147 C hk46 hk70 x1 x2 x3 x4 x5 x5 (mo_blameLower (Int32.toNatClampNeg x5)) (1 : Int32) mo_value mo_isLaid mo_changes mo_changeNode mo_changeSign mo_differs mo_results mo_own (upd mo_blameUpper (Int32.toNatClampNeg y1) (y2 + y3)) mo_blameLower h H locs ls B (lv_sub hl [0, 1, 2, 3, 4, 5] rfl)
set_option maxHeartbeats 4000000 in
set_option maxRecDepth 100000 in
theorem qX12_findBlame_112 (C : CT p s m args meth c RX12 cX12_findBlame 7 none wsX12_findBlame D A (tyl cI cJ cT) Es) {N : Nat} {mo_signs : Nat → Int32} {mo_signMany : Int32} {mo_nodeSign : Nat → Int32} {mo_nodeOn : Nat → Int32} {mo_nodeSize : Nat → Int32} {mo_nodeMany : Nat → Int32} {mo_due : Nat → Int32} {mo_openNode : Nat → Int32} {mo_kinds : Nat → Int32} {mo_testInputs : Nat → Int32} {mo_testDue : Nat → Int32} {mo_tests : Int32} {mo_noticed : Nat → Int32} {mo_missed : Nat → Int32} {mo_leastFrom : Nat → Int32} {z_mo_value : Nat → Int32} {z_mo_isLaid : Int32} {z_mo_changes : Int32} {z_mo_changeNode : Nat → Int32} {z_mo_changeSign : Nat → Int32} {z_mo_differs : Nat → Int32} {z_mo_results : Nat → Int32} {z_mo_own : Nat → Int32} {z_mo_blameUpper : Nat → Int32} {z_mo_blameLower : Nat → Int32} {k46 : Int32 → Int32 → Int32 → (Nat → Int32) → (Int32) → (Int32) → (Nat → Int32) → (Nat → Int32) → (Nat → Int32) → (Nat → Int32) → (Nat → Int32) → (Nat → Int32) → (Nat → Int32) → Option ((Nat → Int32) × (Int32) × (Int32) × (Nat → Int32) × (Nat → Int32) × (Nat → Int32) × (Nat → Int32) × (Nat → Int32) × (Nat → Int32) × (Nat → Int32))} (hk46 : ∀ (x1 : Int32) (x2 : Int32) (x3 : Int32) (mo_value : Nat → Int32) (mo_isLaid : Int32) (mo_changes : Int32) (mo_changeNode : Nat → Int32) (mo_changeSign : Nat → Int32) (mo_differs : Nat → Int32) (mo_results : Nat → Int32) (mo_own : Nat → Int32) (mo_blameUpper : Nat → Int32) (mo_blameLower : Nat → Int32), k46 x1 x2 x3 mo_value mo_isLaid mo_changes mo_changeNode mo_changeSign mo_differs mo_results mo_own mo_blameUpper mo_blameLower = some (z_mo_value, z_mo_isLaid, z_mo_changes, z_mo_changeNode, z_mo_changeSign, z_mo_differs, z_mo_results, z_mo_own, z_mo_blameUpper, z_mo_blameLower) → ∀ (H : Heap) (locs : List Loc) (ls : Array Slot), DB D A (wd_mo a b cI cJ cT mo_signs mo_signMany mo_nodeSign mo_nodeOn mo_nodeSize mo_nodeMany mo_due mo_openNode mo_value mo_isLaid mo_changes mo_changeNode mo_changeSign mo_differs mo_results mo_own mo_kinds mo_testInputs mo_testDue mo_tests mo_noticed mo_missed mo_leastFrom mo_blameUpper mo_blameLower) s H locs → lv_has ls 7 [(0, .ref (b 0)), (1, .int x1), (2, .int x2), (3, .int x3)] → W p l e rmX12_findBlame s m args below meth c H locs 0 0 (ZV below args s D A (tyl cI cJ cT) (wd_mo a b cI cJ cT mo_signs mo_signMany mo_nodeSign mo_nodeOn mo_nodeSize mo_nodeMany mo_due mo_openNode z_mo_value z_mo_isLaid z_mo_changes z_mo_changeNode z_mo_changeSign z_mo_differs z_mo_results z_mo_own mo_kinds mo_testInputs mo_testDue mo_tests mo_noticed mo_missed mo_leastFrom z_mo_blameUpper z_mo_blameLower) 0 0) (F0 m 46 ls [])) {k70 : Int32 → Int32 → Int32 → Int32 → Int32 → (Nat → Int32) → (Int32) → (Int32) → (Nat → Int32) → (Nat → Int32) → (Nat → Int32) → (Nat → Int32) → (Nat → Int32) → (Nat → Int32) → (Nat → Int32) → Option ((Nat → Int32) × (Int32) × (Int32) × (Nat → Int32) × (Nat → Int32) × (Nat → Int32) × (Nat → Int32) × (Nat → Int32) × (Nat → Int32) × (Nat → Int32))} (hk70 : ∀ (x1 : Int32) (x2 : Int32) (x3 : Int32) (x4 : Int32) (x5 : Int32) (mo_value : Nat → Int32) (mo_isLaid : Int32) (mo_changes : Int32) (mo_changeNode : Nat → Int32) (mo_changeSign : Nat → Int32) (mo_differs : Nat → Int32) (mo_results : Nat → Int32) (mo_own : Nat → Int32) (mo_blameUpper : Nat → Int32) (mo_blameLower : Nat → Int32), k70 x1 x2 x3 x4 x5 mo_value mo_isLaid mo_changes mo_changeNode mo_changeSign mo_differs mo_results mo_own mo_blameUpper mo_blameLower = some (z_mo_value, z_mo_isLaid, z_mo_changes, z_mo_changeNode, z_mo_changeSign, z_mo_differs, z_mo_results, z_mo_own, z_mo_blameUpper, z_mo_blameLower) → ∀ (H : Heap) (locs : List Loc) (ls : Array Slot), DB D A (wd_mo a b cI cJ cT mo_signs mo_signMany mo_nodeSign mo_nodeOn mo_nodeSize mo_nodeMany mo_due mo_openNode mo_value mo_isLaid mo_changes mo_changeNode mo_changeSign mo_differs mo_results mo_own mo_kinds mo_testInputs mo_testDue mo_tests mo_noticed mo_missed mo_leastFrom mo_blameUpper mo_blameLower) s H locs → lv_has ls 7 [(0, .ref (b 0)), (1, .int x1), (2, .int x2), (3, .int x3), (4, .int x4), (5, .int x5)] → W p l e rmX12_findBlame s m args below meth c H locs 0 0 (ZV below args s D A (tyl cI cJ cT) (wd_mo a b cI cJ cT mo_signs mo_signMany mo_nodeSign mo_nodeOn mo_nodeSize mo_nodeMany mo_due mo_openNode z_mo_value z_mo_isLaid z_mo_changes z_mo_changeNode z_mo_changeSign z_mo_differs z_mo_results z_mo_own mo_kinds mo_testInputs mo_testDue mo_tests mo_noticed mo_missed mo_leastFrom z_mo_blameUpper z_mo_blameLower) 0 0) (F0 m 70 ls [])) : ∀ (x1 : Int32) (x2 : Int32) (x3 : Int32) (x4 : Int32) (x5 : Int32) (y1 : Int32) (y2 : Int32) (mo_value : Nat → Int32) (mo_isLaid : Int32) (mo_changes : Int32) (mo_changeNode : Nat → Int32) (mo_changeSign : Nat → Int32) (mo_differs : Nat → Int32) (mo_results : Nat → Int32) (mo_own : Nat → Int32) (mo_blameUpper : Nat → Int32) (mo_blameLower : Nat → Int32), bX12_findBlame_112 N mo_nodeSign mo_nodeSize mo_nodeMany mo_kinds mo_testInputs mo_testDue mo_tests k46 k70 x1 x2 x3 x4 x5 y1 y2 mo_value mo_isLaid mo_changes mo_changeNode mo_changeSign mo_differs mo_results mo_own mo_blameUpper mo_blameLower = some (z_mo_value, z_mo_isLaid, z_mo_changes, z_mo_changeNode, z_mo_changeSign, z_mo_differs, z_mo_results, z_mo_own, z_mo_blameUpper, z_mo_blameLower) → ∀ (H : Heap) (locs : List Loc) (ls : Array Slot), DB D A (wd_mo a b cI cJ cT mo_signs mo_signMany mo_nodeSign mo_nodeOn mo_nodeSize mo_nodeMany mo_due mo_openNode mo_value mo_isLaid mo_changes mo_changeNode mo_changeSign mo_differs mo_results mo_own mo_kinds mo_testInputs mo_testDue mo_tests mo_noticed mo_missed mo_leastFrom mo_blameUpper mo_blameLower) s H locs → lv_has ls 7 [(0, .ref (b 0)), (1, .int x1), (2, .int x2), (3, .int x3), (4, .int x4), (5, .int x5)] → W p l e rmX12_findBlame s m args below meth c H locs 0 0 (ZV below args s D A (tyl cI cJ cT) (wd_mo a b cI cJ cT mo_signs mo_signMany mo_nodeSign mo_nodeOn mo_nodeSize mo_nodeMany mo_due mo_openNode z_mo_value z_mo_isLaid z_mo_changes z_mo_changeNode z_mo_changeSign z_mo_differs z_mo_results z_mo_own mo_kinds mo_testInputs mo_testDue mo_tests mo_noticed mo_missed mo_leastFrom z_mo_blameUpper z_mo_blameLower) 0 0) (F0 m 112 ls [.int y2, .int y1, .ref (b 20)]) := by
  have hx := C.1.1
  have hb := C.1.2.1
  have hown := C.1.2.2.2.1
  have hts := C.1.2.2.2.2
  intro x1 x2 x3 x4 x5 y1 y2 mo_value mo_isLaid mo_changes mo_changeNode mo_changeSign mo_differs mo_results mo_own mo_blameUpper mo_blameLower h H locs ls B hl
  rw [bX12_findBlame_112] at h
  refine lv_iconst (v := 0) hx hb dX12_findBlame_112 (by decide) ?_
  exact qX12_findBlame_113 C hk46 hk70 x1 x2 x3 x4 x5 y1 y2 (0 : Int32) mo_value mo_isLaid mo_changes mo_changeNode mo_changeSign mo_differs mo_results mo_own mo_blameUpper mo_blameLower h H locs ls B (lv_sub hl [0, 1, 2, 3, 4, 5] rfl)
set_option maxHeartbeats 4000000 in
set_option maxRecDepth 100000 in
theorem qX12_findBlame_70 (C : CT p s m args meth c RX12 cX12_findBlame 7 none wsX12_findBlame D A (tyl cI cJ cT) Es) {N : Nat} {mo_signs : Nat → Int32} {mo_signMany : Int32} {mo_nodeSign : Nat → Int32} {mo_nodeOn : Nat → Int32} {mo_nodeSize : Nat → Int32} {mo_nodeMany : Nat → Int32} {mo_due : Nat → Int32} {mo_openNode : Nat → Int32} {mo_kinds : Nat → Int32} {mo_testInputs : Nat → Int32} {mo_testDue : Nat → Int32} {mo_tests : Int32} {mo_noticed : Nat → Int32} {mo_missed : Nat → Int32} {mo_leastFrom : Nat → Int32} {z_mo_value : Nat → Int32} {z_mo_isLaid : Int32} {z_mo_changes : Int32} {z_mo_changeNode : Nat → Int32} {z_mo_changeSign : Nat → Int32} {z_mo_differs : Nat → Int32} {z_mo_results : Nat → Int32} {z_mo_own : Nat → Int32} {z_mo_blameUpper : Nat → Int32} {z_mo_blameLower : Nat → Int32} {k46 : Int32 → Int32 → Int32 → (Nat → Int32) → (Int32) → (Int32) → (Nat → Int32) → (Nat → Int32) → (Nat → Int32) → (Nat → Int32) → (Nat → Int32) → (Nat → Int32) → (Nat → Int32) → Option ((Nat → Int32) × (Int32) × (Int32) × (Nat → Int32) × (Nat → Int32) × (Nat → Int32) × (Nat → Int32) × (Nat → Int32) × (Nat → Int32) × (Nat → Int32))} (hk46 : ∀ (x1 : Int32) (x2 : Int32) (x3 : Int32) (mo_value : Nat → Int32) (mo_isLaid : Int32) (mo_changes : Int32) (mo_changeNode : Nat → Int32) (mo_changeSign : Nat → Int32) (mo_differs : Nat → Int32) (mo_results : Nat → Int32) (mo_own : Nat → Int32) (mo_blameUpper : Nat → Int32) (mo_blameLower : Nat → Int32), k46 x1 x2 x3 mo_value mo_isLaid mo_changes mo_changeNode mo_changeSign mo_differs mo_results mo_own mo_blameUpper mo_blameLower = some (z_mo_value, z_mo_isLaid, z_mo_changes, z_mo_changeNode, z_mo_changeSign, z_mo_differs, z_mo_results, z_mo_own, z_mo_blameUpper, z_mo_blameLower) → ∀ (H : Heap) (locs : List Loc) (ls : Array Slot), DB D A (wd_mo a b cI cJ cT mo_signs mo_signMany mo_nodeSign mo_nodeOn mo_nodeSize mo_nodeMany mo_due mo_openNode mo_value mo_isLaid mo_changes mo_changeNode mo_changeSign mo_differs mo_results mo_own mo_kinds mo_testInputs mo_testDue mo_tests mo_noticed mo_missed mo_leastFrom mo_blameUpper mo_blameLower) s H locs → lv_has ls 7 [(0, .ref (b 0)), (1, .int x1), (2, .int x2), (3, .int x3)] → W p l e rmX12_findBlame s m args below meth c H locs 0 0 (ZV below args s D A (tyl cI cJ cT) (wd_mo a b cI cJ cT mo_signs mo_signMany mo_nodeSign mo_nodeOn mo_nodeSize mo_nodeMany mo_due mo_openNode z_mo_value z_mo_isLaid z_mo_changes z_mo_changeNode z_mo_changeSign z_mo_differs z_mo_results z_mo_own mo_kinds mo_testInputs mo_testDue mo_tests mo_noticed mo_missed mo_leastFrom z_mo_blameUpper z_mo_blameLower) 0 0) (F0 m 46 ls [])) : ∀ (n : Nat) (x1 : Int32) (x2 : Int32) (x3 : Int32) (x4 : Int32) (x5 : Int32) (mo_value : Nat → Int32) (mo_isLaid : Int32) (mo_changes : Int32) (mo_changeNode : Nat → Int32) (mo_changeSign : Nat → Int32) (mo_differs : Nat → Int32) (mo_results : Nat → Int32) (mo_own : Nat → Int32) (mo_blameUpper : Nat → Int32) (mo_blameLower : Nat → Int32), bX12_findBlame_70 N mo_nodeSign mo_nodeSize mo_nodeMany mo_kinds mo_testInputs mo_testDue mo_tests k46 n x1 x2 x3 x4 x5 mo_value mo_isLaid mo_changes mo_changeNode mo_changeSign mo_differs mo_results mo_own mo_blameUpper mo_blameLower = some (z_mo_value, z_mo_isLaid, z_mo_changes, z_mo_changeNode, z_mo_changeSign, z_mo_differs, z_mo_results, z_mo_own, z_mo_blameUpper, z_mo_blameLower) → ∀ (H : Heap) (locs : List Loc) (ls : Array Slot), DB D A (wd_mo a b cI cJ cT mo_signs mo_signMany mo_nodeSign mo_nodeOn mo_nodeSize mo_nodeMany mo_due mo_openNode mo_value mo_isLaid mo_changes mo_changeNode mo_changeSign mo_differs mo_results mo_own mo_kinds mo_testInputs mo_testDue mo_tests mo_noticed mo_missed mo_leastFrom mo_blameUpper mo_blameLower) s H locs → lv_has ls 7 [(0, .ref (b 0)), (1, .int x1), (2, .int x2), (3, .int x3), (4, .int x4), (5, .int x5)] → W p l e rmX12_findBlame s m args below meth c H locs 0 0 (ZV below args s D A (tyl cI cJ cT) (wd_mo a b cI cJ cT mo_signs mo_signMany mo_nodeSign mo_nodeOn mo_nodeSize mo_nodeMany mo_due mo_openNode z_mo_value z_mo_isLaid z_mo_changes z_mo_changeNode z_mo_changeSign z_mo_differs z_mo_results z_mo_own mo_kinds mo_testInputs mo_testDue mo_tests mo_noticed mo_missed mo_leastFrom z_mo_blameUpper z_mo_blameLower) 0 0) (F0 m 70 ls []) := by
  have hx := C.1.1
  have hb := C.1.2.1
  have hown := C.1.2.2.2.1
  have hts := C.1.2.2.2.2
  intro n
  induction n with
  | zero => intro x1 x2 x3 x4 x5 mo_value mo_isLaid mo_changes mo_changeNode mo_changeSign mo_differs mo_results mo_own mo_blameUpper mo_blameLower h; cases h
  | succ n ih =>
    intro x1 x2 x3 x4 x5 mo_value mo_isLaid mo_changes mo_changeNode mo_changeSign mo_differs mo_results mo_own mo_blameUpper mo_blameLower h H locs ls B hl
    rw [bX12_findBlame_70] at h
    refine lv_iload hx hb dX12_findBlame_70 (lv_at hl 5 rfl) ?_
    refine lv_aload_n hx hb dX12_findBlame_72 rfl (lv_at hl 0 rfl) ?_
    refine gfX12_findBlame_22 C B 0 rfl rfl dX12_findBlame_73 ?_
    refine lv_iconst (v := 0) hx hb dX12_findBlame_76 (by decide) ?_
    refine k_iald C B 5 0 rfl rfl (vp_lit (by decide)) dX12_findBlame_77 ?_
    refine lv_icmp_ge (tgt := 155) hx hb dX12_findBlame_78 (by decide) (fun c_2 => ?_) (fun c_2 => ?_)
    · rw [if_pos c_2] at h
      refine lv_iinc (v := (x3 + 1)) (lv' := [(3, .int (x3 + 1)), (0, .ref (b 0)), (1, .int x1), (2, .int x2), (4, .int x4), (5, .int x5)]) hx hb dX12_findBlame_155 hl (k := 3) rfl rfl (by decide) rfl (fun ls hl => ?_)
      refine lv_goto (tgt := 46) hx hb dX12_findBlame_158 (by decide) ?_
      exact hk46 x1 x2 (x3 + 1) mo_value mo_isLaid mo_changes mo_changeNode mo_changeSign mo_differs mo_results mo_own mo_blameUpper mo_blameLower h H locs ls B (lv_sub hl [1, 2, 3, 0] rfl)
    · rw [if_neg c_2] at h
      refine lv_aload_n hx hb dX12_findBlame_81 rfl (lv_at hl 0 rfl) ?_
      refine gfX12_findBlame_68 C B 0 rfl rfl dX12_findBlame_82 ?_
      refine lv_iload hx hb dX12_findBlame_85 (lv_at hl 5 rfl) ?_
      refine lv_dup2_11 hx hb dX12_findBlame_87 rfl rfl ?_
      obtain ⟨b_3, h⟩ := bnd_some h
      refine k_iald C B 20 0 rfl rfl b_3 dX12_findBlame_88 ?_
      refine lv_iload hx hb dX12_findBlame_89 (lv_at hl 4 rfl) ?_
      refine lv_iload hx hb dX12_findBlame_91 (lv_at hl 5 rfl) ?_
      refine lv_ishr hx hb dX12_findBlame_93 ?_
      refine lv_iconst (v := 1) hx hb dX12_findBlame_94 (by decide) ?_
      refine lv_iand hx hb dX12_findBlame_95 ?_
      refine lv_iconst (v := 1) hx hb dX12_findBlame_96 (by decide) ?_
      refine lv_icmp_ne (tgt := 112) hx hb dX12_findBlame_97 (by decide) (fun c_4 => ?_) (fun c_4 => ?_)
      · rw [if_neg c_4] at h
        exact qX12_findBlame_112 C hk46 ih x1 x2 x3 x4 x5 x5 (mo_blameUpper (Int32.toNatClampNeg x5)) mo_value mo_isLaid mo_changes mo_changeNode mo_changeSign mo_differs mo_results mo_own mo_blameUpper mo_blameLower h H locs ls B (lv_sub hl [0, 1, 2, 3, 4, 5] rfl)
      · rw [if_pos c_4] at h
        refine lv_aload_n hx hb dX12_findBlame_100 rfl (lv_at hl 0 rfl) ?_
        refine lv_iload_n hx hb dX12_findBlame_101 rfl (lv_at hl 3 rfl) ?_
        obtain ⟨r_5, g_7, h⟩ := ob_some h
        try dsimp only at h
        refine kc_VI C B (q0 := 0) (ci := 12) (As := [.int x3]) (rest := [.int (mo_blameUpper (Int32.toNatClampNeg x5)), .int x5, .ref (b 20)]) (w2 := (wd_mo a b cI cJ cT mo_signs mo_signMany mo_nodeSign mo_nodeOn mo_nodeSize mo_nodeMany mo_due mo_openNode mo_value mo_isLaid mo_changes mo_changeNode mo_changeSign mo_differs mo_results mo_own mo_kinds mo_testInputs mo_testDue mo_tests mo_noticed mo_missed mo_leastFrom mo_blameUpper mo_blameLower)) (tX12_doesFail (a := a) (b := b) N g_7) gX12_findBlame_X12_doesFail rfl ⟨rfl, rfl⟩ ⟨rfl, hdX12_doesFail⟩ ⟨Nat.le_of_ble_eq_true rfl, Nat.le_of_ble_eq_true rfl⟩ rfl rfl [0, 1, 2, 3, 4, 5, 6, 7, 8, 9, 10, 11, 12, 13, 14, 15, 16, 17, 18, 19, 20, 21] [] [0, 1, 2, 3, 4, 5, 6, 7, 8, 9, 10, 11, 12, 13, 14, 15, 16, 17, 18, 19, 20, 21] rfl rfl rfl rfl rfl rfl rfl rfl hl.1 rfl (Nat.le_of_ble_eq_true rfl) ⟨Nat.zero_le _, Nat.zero_le _⟩ dX12_findBlame_102 (fun H locs B => ?_)
        refine lv_if_eq (tgt := 112) hx hb dX12_findBlame_105 (by decide) (fun c_6 => ?_) (fun c_6 => ?_)
        · rw [if_pos c_6] at h
          exact qX12_findBlame_112 C hk46 ih x1 x2 x3 x4 x5 x5 (mo_blameUpper (Int32.toNatClampNeg x5)) mo_value mo_isLaid mo_changes mo_changeNode mo_changeSign mo_differs mo_results mo_own mo_blameUpper mo_blameLower h H locs ls B (lv_sub hl [0, 1, 2, 3, 4, 5] rfl)
        · rw [if_neg c_6] at h
          refine lv_iconst (v := 1) hx hb dX12_findBlame_108 (by decide) ?_
          refine lv_goto (tgt := 113) hx hb dX12_findBlame_109 (by decide) ?_
          exact qX12_findBlame_113 C hk46 ih x1 x2 x3 x4 x5 x5 (mo_blameUpper (Int32.toNatClampNeg x5)) (1 : Int32) mo_value mo_isLaid mo_changes mo_changeNode mo_changeSign mo_differs mo_results mo_own mo_blameUpper mo_blameLower h H locs ls B (lv_sub hl [0, 1, 2, 3, 4, 5] rfl)
set_option maxHeartbeats 4000000 in
set_option maxRecDepth 100000 in
theorem qX12_findBlame_46 (C : CT p s m args meth c RX12 cX12_findBlame 7 none wsX12_findBlame D A (tyl cI cJ cT) Es) {N : Nat} {mo_signs : Nat → Int32} {mo_signMany : Int32} {mo_nodeSign : Nat → Int32} {mo_nodeOn : Nat → Int32} {mo_nodeSize : Nat → Int32} {mo_nodeMany : Nat → Int32} {mo_due : Nat → Int32} {mo_openNode : Nat → Int32} {mo_kinds : Nat → Int32} {mo_testInputs : Nat → Int32} {mo_testDue : Nat → Int32} {mo_tests : Int32} {mo_noticed : Nat → Int32} {mo_missed : Nat → Int32} {mo_leastFrom : Nat → Int32} {z_mo_value : Nat → Int32} {z_mo_isLaid : Int32} {z_mo_changes : Int32} {z_mo_changeNode : Nat → Int32} {z_mo_changeSign : Nat → Int32} {z_mo_differs : Nat → Int32} {z_mo_results : Nat → Int32} {z_mo_own : Nat → Int32} {z_mo_blameUpper : Nat → Int32} {z_mo_blameLower : Nat → Int32} : ∀ (n : Nat) (x1 : Int32) (x2 : Int32) (x3 : Int32) (mo_value : Nat → Int32) (mo_isLaid : Int32) (mo_changes : Int32) (mo_changeNode : Nat → Int32) (mo_changeSign : Nat → Int32) (mo_differs : Nat → Int32) (mo_results : Nat → Int32) (mo_own : Nat → Int32) (mo_blameUpper : Nat → Int32) (mo_blameLower : Nat → Int32), bX12_findBlame_46 N mo_nodeSign mo_nodeSize mo_nodeMany mo_kinds mo_testInputs mo_testDue mo_tests n x1 x2 x3 mo_value mo_isLaid mo_changes mo_changeNode mo_changeSign mo_differs mo_results mo_own mo_blameUpper mo_blameLower = some (z_mo_value, z_mo_isLaid, z_mo_changes, z_mo_changeNode, z_mo_changeSign, z_mo_differs, z_mo_results, z_mo_own, z_mo_blameUpper, z_mo_blameLower) → ∀ (H : Heap) (locs : List Loc) (ls : Array Slot), DB D A (wd_mo a b cI cJ cT mo_signs mo_signMany mo_nodeSign mo_nodeOn mo_nodeSize mo_nodeMany mo_due mo_openNode mo_value mo_isLaid mo_changes mo_changeNode mo_changeSign mo_differs mo_results mo_own mo_kinds mo_testInputs mo_testDue mo_tests mo_noticed mo_missed mo_leastFrom mo_blameUpper mo_blameLower) s H locs → lv_has ls 7 [(0, .ref (b 0)), (1, .int x1), (2, .int x2), (3, .int x3)] → W p l e rmX12_findBlame s m args below meth c H locs 0 0 (ZV below args s D A (tyl cI cJ cT) (wd_mo a b cI cJ cT mo_signs mo_signMany mo_nodeSign mo_nodeOn mo_nodeSize mo_nodeMany mo_due mo_openNode z_mo_value z_mo_isLaid z_mo_changes z_mo_changeNode z_mo_changeSign z_mo_differs z_mo_results z_mo_own mo_kinds mo_testInputs mo_testDue mo_tests mo_noticed mo_missed mo_leastFrom z_mo_blameUpper z_mo_blameLower) 0 0) (F0 m 46 ls []) := by
  have hx := C.1.1
  have hb := C.1.2.1
  have hown := C.1.2.2.2.1
  have hts := C.1.2.2.2.2
  intro n
  induction n with
  | zero => intro x1 x2 x3 mo_value mo_isLaid mo_changes mo_changeNode mo_changeSign mo_differs mo_results mo_own mo_blameUpper mo_blameLower h; cases h
  | succ n ih =>
    intro x1 x2 x3 mo_value mo_isLaid mo_changes mo_changeNode mo_changeSign mo_differs mo_results mo_own mo_blameUpper mo_blameLower h H locs ls B hl
    rw [bX12_findBlame_46] at h
    refine lv_iload_n hx hb dX12_findBlame_46 rfl (lv_at hl 3 rfl) ?_
    refine lv_aload_n hx hb dX12_findBlame_47 rfl (lv_at hl 0 rfl) ?_
    refine gfX12_findBlame_155 C B 0 rfl rfl dX12_findBlame_48 ?_
    refine lv_icmp_ge (tgt := 161) hx hb dX12_findBlame_51 (by decide) (fun c_1 => ?_) (fun c_1 => ?_)
    · rw [if_pos c_1] at h
      refine lv_iconst (v := 0) hx hb dX12_findBlame_161 (by decide) ?_
      refine lv_istore_n (lv' := [(3, .int (0 : Int32)), (0, .ref (b 0)), (1, .int x1), (2, .int x2)]) hx hb dX12_findBlame_162 rfl hl (by decide) rfl (fun ls hl => ?_)
      exact qX12_findBlame_163 C N x1 x2 (0 : Int32) mo_value mo_isLaid mo_changes mo_changeNode mo_changeSign mo_differs mo_results mo_own mo_blameUpper mo_blameLower h H locs ls B (lv_sub hl [1, 2, 3, 0] rfl)
    · rw [if_neg c_1] at h
      refine lv_aload_n hx hb dX12_findBlame_54 rfl (lv_at hl 0 rfl) ?_
      refine lv_iconst (v := 0) hx hb dX12_findBlame_55 (by decide) ?_
      refine lv_aload_n hx hb dX12_findBlame_56 rfl (lv_at hl 0 rfl) ?_
      refine gfX12_findBlame_53 C B 0 rfl rfl dX12_findBlame_57 ?_
      refine lv_iload_n hx hb dX12_findBlame_60 rfl (lv_at hl 3 rfl) ?_
      obtain ⟨b_2, h⟩ := bnd_some h
      refine k_iald C B 15 0 rfl rfl b_2 dX12_findBlame_61 ?_
      obtain ⟨⟨r_3, mo_value_4⟩, g_5, h⟩ := ob_some h
      try dsimp only at h
      refine kc_VI C B (q0 := 0) (ci := 12) (As := [.int (0 : Int32), .int (mo_testInputs (Int32.toNatClampNeg x3))]) (rest := []) (w2 := (wd_mo a b cI cJ cT mo_signs mo_signMany mo_nodeSign mo_nodeOn mo_nodeSize mo_nodeMany mo_due mo_openNode mo_value_4 mo_isLaid mo_changes mo_changeNode mo_changeSign mo_differs mo_results mo_own mo_kinds mo_testInputs mo_testDue mo_tests mo_noticed mo_missed mo_leastFrom mo_blameUpper mo_blameLower)) (tX12_runsOf (a := a) (b := b) N g_5) gX12_findBlame_X12_runsOf rfl ⟨rfl, rfl⟩ ⟨rfl, hdX12_runsOf⟩ ⟨Nat.le_of_ble_eq_true rfl, Nat.le_of_ble_eq_true rfl⟩ rfl rfl [0, 1, 2, 3, 4, 5, 6, 7, 8, 9, 10, 11, 12, 13, 14, 15, 16, 17, 18, 19, 20, 21] [] [0, 1, 2, 3, 4, 5, 6, 7, 8, 9, 10, 11, 12, 13, 14, 15, 16, 17, 18, 19, 20, 21] rfl rfl rfl rfl rfl rfl rfl rfl hl.1 rfl (Nat.le_of_ble_eq_true rfl) ⟨Nat.zero_le _, Nat.zero_le _⟩ dX12_findBlame_62 (fun H locs B => ?_)
      refine lv_istore (lv' := [(4, .int r_3), (0, .ref (b 0)), (1, .int x1), (2, .int x2), (3, .int x3)]) hx hb dX12_findBlame_65 hl (by decide) rfl (fun ls hl => ?_)
      refine lv_iconst (v := 0) hx hb dX12_findBlame_67 (by decide) ?_
      refine lv_istore (lv' := [(5, .int (0 : Int32)), (4, .int r_3), (0, .ref (b 0)), (1, .int x1), (2, .int x2), (3, .int x3)]) hx hb dX12_findBlame_68 hl (by decide) rfl (fun ls hl => ?_)
      exact qX12_findBlame_70 C ih N x1 x2 x3 r_3 (0 : Int32) mo_value_4 mo_isLaid mo_changes mo_changeNode mo_changeSign mo_differs mo_results mo_own mo_blameUpper mo_blameLower h H locs ls B (lv_sub hl [2, 3, 4, 5, 1, 0] rfl)
set_option maxHeartbeats 4000000 in
set_option maxRecDepth 100000 in
theorem qX12_findBlame_14 (C : CT p s m args meth c RX12 cX12_findBlame 7 none wsX12_findBlame D A (tyl cI cJ cT) Es) {N : Nat} {mo_signs : Nat → Int32} {mo_signMany : Int32} {mo_nodeSign : Nat → Int32} {mo_nodeOn : Nat → Int32} {mo_nodeSize : Nat → Int32} {mo_nodeMany : Nat → Int32} {mo_due : Nat → Int32} {mo_openNode : Nat → Int32} {mo_kinds : Nat → Int32} {mo_testInputs : Nat → Int32} {mo_testDue : Nat → Int32} {mo_tests : Int32} {mo_noticed : Nat → Int32} {mo_missed : Nat → Int32} {mo_leastFrom : Nat → Int32} {z_mo_value : Nat → Int32} {z_mo_isLaid : Int32} {z_mo_changes : Int32} {z_mo_changeNode : Nat → Int32} {z_mo_changeSign : Nat → Int32} {z_mo_differs : Nat → Int32} {z_mo_results : Nat → Int32} {z_mo_own : Nat → Int32} {z_mo_blameUpper : Nat → Int32} {z_mo_blameLower : Nat → Int32} : ∀ (n : Nat) (x1 : Int32) (x2 : Int32) (x3 : Int32) (mo_value : Nat → Int32) (mo_isLaid : Int32) (mo_changes : Int32) (mo_changeNode : Nat → Int32) (mo_changeSign : Nat → Int32) (mo_differs : Nat → Int32) (mo_results : Nat → Int32) (mo_own : Nat → Int32) (mo_blameUpper : Nat → Int32) (mo_blameLower : Nat → Int32), bX12_findBlame_14 N mo_nodeSign mo_nodeSize mo_nodeMany mo_kinds mo_testInputs mo_testDue mo_tests n x1 x2 x3 mo_value mo_isLaid mo_changes mo_changeNode mo_changeSign mo_differs mo_results mo_own mo_blameUpper mo_blameLower = some (z_mo_value, z_mo_isLaid, z_mo_changes, z_mo_changeNode, z_mo_changeSign, z_mo_differs, z_mo_results, z_mo_own, z_mo_blameUpper, z_mo_blameLower) → ∀ (H : Heap) (locs : List Loc) (ls : Array Slot), DB D A (wd_mo a b cI cJ cT mo_signs mo_signMany mo_nodeSign mo_nodeOn mo_nodeSize mo_nodeMany mo_due mo_openNode mo_value mo_isLaid mo_changes mo_changeNode mo_changeSign mo_differs mo_results mo_own mo_kinds mo_testInputs mo_testDue mo_tests mo_noticed mo_missed mo_leastFrom mo_blameUpper mo_blameLower) s H locs → lv_has ls 7 [(0, .ref (b 0)), (1, .int x1), (2, .int x2), (3, .int x3)] → W p l e rmX12_findBlame s m args below meth c H locs 0 0 (ZV below args s D A (tyl cI cJ cT) (wd_mo a b cI cJ cT mo_signs mo_signMany mo_nodeSign mo_nodeOn mo_nodeSize mo_nodeMany mo_due mo_openNode z_mo_value z_mo_isLaid z_mo_changes z_mo_changeNode z_mo_changeSign z_mo_differs z_mo_results z_mo_own mo_kinds mo_testInputs mo_testDue mo_tests mo_noticed mo_missed mo_leastFrom z_mo_blameUpper z_mo_blameLower) 0 0) (F0 m 14 ls []) := by
  have hx := C.1.1
  have hb := C.1.2.1
  have hown := C.1.2.2.2.1
  have hts := C.1.2.2.2.2
  intro n
  induction n with
  | zero => intro x1 x2 x3 mo_value mo_isLaid mo_changes mo_changeNode mo_changeSign mo_differs mo_results mo_own mo_blameUpper mo_blameLower h; cases h
  | succ n ih =>
    intro x1 x2 x3 mo_value mo_isLaid mo_changes mo_changeNode mo_changeSign mo_differs mo_results mo_own mo_blameUpper mo_blameLower h H locs ls B hl
    rw [bX12_findBlame_14] at h
    refine lv_iload_n hx hb dX12_findBlame_14 rfl (lv_at hl 3 rfl) ?_
    refine lv_aload_n hx hb dX12_findBlame_15 rfl (lv_at hl 0 rfl) ?_
    refine gfX12_findBlame_22 C B 0 rfl rfl dX12_findBlame_16 ?_
    refine lv_iconst (v := 0) hx hb dX12_findBlame_19 (by decide) ?_
    refine k_iald C B 5 0 rfl rfl (vp_lit (by decide)) dX12_findBlame_20 ?_
    refine lv_icmp_ge (tgt := 44) hx hb dX12_findBlame_21 (by decide) (fun c_2 => ?_) (fun c_2 => ?_)
    · rw [if_pos c_2] at h
      refine lv_iconst (v := 0) hx hb dX12_findBlame_44 (by decide) ?_
      refine lv_istore_n (lv' := [(3, .int (0 : Int32)), (0, .ref (b 0)), (1, .int x1), (2, .int x2)]) hx hb dX12_findBlame_45 rfl hl (by decide) rfl (fun ls hl => ?_)
      exact qX12_findBlame_46 C N x1 x2 (0 : Int32) mo_value mo_isLaid mo_changes mo_changeNode mo_changeSign mo_differs mo_results mo_own mo_blameUpper mo_blameLower h H locs ls B (lv_sub hl [1, 2, 3, 0] rfl)
    · rw [if_neg c_2] at h
      refine lv_aload_n hx hb dX12_findBlame_24 rfl (lv_at hl 0 rfl) ?_
      refine gfX12_findBlame_68 C B 0 rfl rfl dX12_findBlame_25 ?_
      refine lv_iload_n hx hb dX12_findBlame_28 rfl (lv_at hl 3 rfl) ?_
      refine lv_iconst (v := 0) hx hb dX12_findBlame_29 (by decide) ?_
      obtain ⟨b_3, h⟩ := bnd_some h
      refine k_iast C B 20 0 rfl rfl b_3 dX12_findBlame_30 (fun H locs B => ?_)
      have B : DB D A (wd_mo a b cI cJ cT mo_signs mo_signMany mo_nodeSign mo_nodeOn mo_nodeSize mo_nodeMany mo_due mo_openNode mo_value mo_isLaid mo_changes mo_changeNode mo_changeSign mo_differs mo_results mo_own mo_kinds mo_testInputs mo_testDue mo_tests mo_noticed mo_missed mo_leastFrom (upd mo_blameUpper (Int32.toNatClampNeg x3) (0 : Int32)) mo_blameLower) s H locs := B
      refine lv_aload_n hx hb dX12_findBlame_31 rfl (lv_at hl 0 rfl) ?_
      refine gfX12_findBlame_71 C B 0 rfl rfl dX12_findBlame_32 ?_
      refine lv_iload_n hx hb dX12_findBlame_35 rfl (lv_at hl 3 rfl) ?_
      refine lv_iconst (v := 0) hx hb dX12_findBlame_36 (by decide) ?_
      refine k_iast C B 21 0 rfl rfl b_3 dX12_findBlame_37 (fun H locs B => ?_)
      have B : DB D A (wd_mo a b cI cJ cT mo_signs mo_signMany mo_nodeSign mo_nodeOn mo_nodeSize mo_nodeMany mo_due mo_openNode mo_value mo_isLaid mo_changes mo_changeNode mo_changeSign mo_differs mo_results mo_own mo_kinds mo_testInputs mo_testDue mo_tests mo_noticed mo_missed mo_leastFrom (upd mo_blameUpper (Int32.toNatClampNeg x3) (0 : Int32)) (upd mo_blameLower (Int32.toNatClampNeg x3) (0 : Int32))) s H locs := B
      refine lv_iinc (v := (x3 + 1)) (lv' := [(3, .int (x3 + 1)), (0, .ref (b 0)), (1, .int x1), (2, .int x2)]) hx hb dX12_findBlame_38 hl (k := 3) rfl rfl (by decide) rfl (fun ls hl => ?_)
      refine lv_goto (tgt := 14) hx hb dX12_findBlame_41 (by decide) ?_
      exact ih x1 x2 (x3 + 1) mo_value mo_isLaid mo_changes mo_changeNode mo_changeSign mo_differs mo_results mo_own (upd mo_blameUpper (Int32.toNatClampNeg x3) (0 : Int32)) (upd mo_blameLower (Int32.toNatClampNeg x3) (0 : Int32)) h H locs ls B (lv_sub hl [1, 2, 3, 0] rfl)
set_option maxHeartbeats 4000000 in
set_option maxRecDepth 100000 in
theorem qX12_findBlame_0 (C : CT p s m args meth c RX12 cX12_findBlame 7 none wsX12_findBlame D A (tyl cI cJ cT) Es) {N : Nat} {mo_signs : Nat → Int32} {mo_signMany : Int32} {mo_nodeSign : Nat → Int32} {mo_nodeOn : Nat → Int32} {mo_nodeSize : Nat → Int32} {mo_nodeMany : Nat → Int32} {mo_due : Nat → Int32} {mo_openNode : Nat → Int32} {mo_kinds : Nat → Int32} {mo_testInputs : Nat → Int32} {mo_testDue : Nat → Int32} {mo_tests : Int32} {mo_noticed : Nat → Int32} {mo_missed : Nat → Int32} {mo_leastFrom : Nat → Int32} {z_mo_value : Nat → Int32} {z_mo_isLaid : Int32} {z_mo_changes : Int32} {z_mo_changeNode : Nat → Int32} {z_mo_changeSign : Nat → Int32} {z_mo_differs : Nat → Int32} {z_mo_results : Nat → Int32} {z_mo_own : Nat → Int32} {z_mo_blameUpper : Nat → Int32} {z_mo_blameLower : Nat → Int32} : ∀ (mo_value : Nat → Int32) (mo_isLaid : Int32) (mo_changes : Int32) (mo_changeNode : Nat → Int32) (mo_changeSign : Nat → Int32) (mo_differs : Nat → Int32) (mo_results : Nat → Int32) (mo_own : Nat → Int32) (mo_blameUpper : Nat → Int32) (mo_blameLower : Nat → Int32), fX12_findBlame N mo_nodeSign mo_nodeSize mo_nodeMany mo_kinds mo_testInputs mo_testDue mo_tests mo_value mo_isLaid mo_changes mo_changeNode mo_changeSign mo_differs mo_results mo_own mo_blameUpper mo_blameLower = some (z_mo_value, z_mo_isLaid, z_mo_changes, z_mo_changeNode, z_mo_changeSign, z_mo_differs, z_mo_results, z_mo_own, z_mo_blameUpper, z_mo_blameLower) → ∀ (H : Heap) (locs : List Loc) (ls : Array Slot), DB D A (wd_mo a b cI cJ cT mo_signs mo_signMany mo_nodeSign mo_nodeOn mo_nodeSize mo_nodeMany mo_due mo_openNode mo_value mo_isLaid mo_changes mo_changeNode mo_changeSign mo_differs mo_results mo_own mo_kinds mo_testInputs mo_testDue mo_tests mo_noticed mo_missed mo_leastFrom mo_blameUpper mo_blameLower) s H locs → lv_has ls 7 [(0, .ref (b 0))] → W p l e rmX12_findBlame s m args below meth c H locs 0 0 (ZV below args s D A (tyl cI cJ cT) (wd_mo a b cI cJ cT mo_signs mo_signMany mo_nodeSign mo_nodeOn mo_nodeSize mo_nodeMany mo_due mo_openNode z_mo_value z_mo_isLaid z_mo_changes z_mo_changeNode z_mo_changeSign z_mo_differs z_mo_results z_mo_own mo_kinds mo_testInputs mo_testDue mo_tests mo_noticed mo_missed mo_leastFrom z_mo_blameUpper z_mo_blameLower) 0 0) (F0 m 0 ls []) := by
  have hx := C.1.1
  have hb := C.1.2.1
  have hown := C.1.2.2.2.1
  have hts := C.1.2.2.2.2
  intro mo_value mo_isLaid mo_changes mo_changeNode mo_changeSign mo_differs mo_results mo_own mo_blameUpper mo_blameLower h H locs ls B hl
  rw [fX12_findBlame] at h
  refine lv_aload_n hx hb dX12_findBlame_0 rfl (lv_at hl 0 rfl) ?_
  obtain ⟨⟨r_1, mo_value_2, mo_isLaid_3, mo_changes_4, mo_changeNode_5, mo_changeSign_6, mo_differs_7, mo_results_8, mo_own_9⟩, g_10, h⟩ := ob_some h
  try dsimp only at h
  refine kc_VI C B (q0 := 0) (ci := 12) (As := []) (rest := []) (w2 := (wd_mo a b cI cJ cT mo_signs mo_signMany mo_nodeSign mo_nodeOn mo_nodeSize mo_nodeMany mo_due mo_openNode mo_value_2 mo_isLaid_3 mo_changes_4 mo_changeNode_5 mo_changeSign_6 mo_differs_7 mo_results_8 mo_own_9 mo_kinds mo_testInputs mo_testDue mo_tests mo_noticed mo_missed mo_leastFrom mo_blameUpper mo_blameLower)) (tX12_failing (a := a) (b := b) N g_10) gX12_findBlame_X12_failing rfl ⟨rfl, rfl⟩ ⟨rfl, hdX12_failing⟩ ⟨Nat.le_of_ble_eq_true rfl, Nat.le_of_ble_eq_true rfl⟩ rfl rfl [0, 1, 2, 3, 4, 5, 6, 7, 8, 9, 10, 11, 12, 13, 14, 15, 16, 17, 18, 19, 20, 21] [] [0, 1, 2, 3, 4, 5, 6, 7, 8, 9, 10, 11, 12, 13, 14, 15, 16, 17, 18, 19, 20, 21] rfl rfl rfl rfl rfl rfl rfl rfl hl.1 rfl (Nat.le_of_ble_eq_true rfl) ⟨Nat.zero_le _, Nat.zero_le _⟩ dX12_findBlame_1 (fun H locs B => ?_)
  refine lv_istore_n (lv' := [(1, .int r_1), (0, .ref (b 0))]) hx hb dX12_findBlame_4 rfl hl (by decide) rfl (fun ls hl => ?_)
  refine lv_aload_n hx hb dX12_findBlame_5 rfl (lv_at hl 1 rfl) ?_
  refine gfX12_findBlame_155 C B 0 rfl rfl dX12_findBlame_6 ?_
  refine lv_iload_n hx hb dX12_findBlame_9 rfl (lv_at hl 0 rfl) ?_
  refine lv_isub hx hb dX12_findBlame_10 ?_
  refine lv_istore_n (lv' := [(2, .int (mo_tests - r_1)), (1, .int r_1), (0, .ref (b 0))]) hx hb dX12_findBlame_11 rfl hl (by decide) rfl (fun ls hl => ?_)
  refine lv_iconst (v := 0) hx hb dX12_findBlame_12 (by decide) ?_
  refine lv_istore_n (lv' := [(3, .int (0 : Int32)), (2, .int (mo_tests - r_1)), (1, .int r_1), (0, .ref (b 0))]) hx hb dX12_findBlame_13 rfl hl (by decide) rfl (fun ls hl => ?_)
  exact qX12_findBlame_14 C N r_1 (mo_tests - r_1) (0 : Int32) mo_value_2 mo_isLaid_3 mo_changes_4 mo_changeNode_5 mo_changeSign_6 mo_differs_7 mo_results_8 mo_own_9 mo_blameUpper mo_blameLower h H locs ls B (lv_sub hl [3, 2, 1, 0] rfl)
end
theorem tX12_findBlame {l : Launch} {D : va_G} {Es : (Nat → Nat) × (Nat → Nat)} {a b : Nat → Nat} {cI cJ cT : ClassId} {mo_signs : Nat → Int32} {mo_signMany : Int32} {mo_nodeSign : Nat → Int32} {mo_nodeOn : Nat → Int32} {mo_nodeSize : Nat → Int32} {mo_nodeMany : Nat → Int32} {mo_due : Nat → Int32} {mo_openNode : Nat → Int32} {mo_value : Nat → Int32} {mo_isLaid : Int32} {mo_changes : Int32} {mo_changeNode : Nat → Int32} {mo_changeSign : Nat → Int32} {mo_differs : Nat → Int32} {mo_results : Nat → Int32} {mo_own : Nat → Int32} {mo_kinds : Nat → Int32} {mo_testInputs : Nat → Int32} {mo_testDue : Nat → Int32} {mo_tests : Int32} {mo_noticed : Nat → Int32} {mo_missed : Nat → Int32} {mo_leastFrom : Nat → Int32} {mo_blameUpper : Nat → Int32} {mo_blameLower : Nat → Int32} {z_mo_value : Nat → Int32} {z_mo_isLaid : Int32} {z_mo_changes : Int32} {z_mo_changeNode : Nat → Int32} {z_mo_changeSign : Nat → Int32} {z_mo_differs : Nat → Int32} {z_mo_results : Nat → Int32} {z_mo_own : Nat → Int32} {z_mo_blameUpper : Nat → Int32} {z_mo_blameLower : Nat → Int32} (N : Nat) (h : fX12_findBlame N mo_nodeSign mo_nodeSize mo_nodeMany mo_kinds mo_testInputs mo_testDue mo_tests mo_value mo_isLaid mo_changes mo_changeNode mo_changeSign mo_differs mo_results mo_own mo_blameUpper mo_blameLower = some (z_mo_value, z_mo_isLaid, z_mo_changes, z_mo_changeNode, z_mo_changeSign, z_mo_differs, z_mo_results, z_mo_own, z_mo_blameUpper, z_mo_blameLower)) : CtV l yX12_findBlame wsX12_findBlame rmX12_findBlame D (tyl cI cJ cT) Es [.ref (b 0)] (wd_mo a b cI cJ cT mo_signs mo_signMany mo_nodeSign mo_nodeOn mo_nodeSize mo_nodeMany mo_due mo_openNode mo_value mo_isLaid mo_changes mo_changeNode mo_changeSign mo_differs mo_results mo_own mo_kinds mo_testInputs mo_testDue mo_tests mo_noticed mo_missed mo_leastFrom mo_blameUpper mo_blameLower) (wd_mo a b cI cJ cT mo_signs mo_signMany mo_nodeSign mo_nodeOn mo_nodeSize mo_nodeMany mo_due mo_openNode z_mo_value z_mo_isLaid z_mo_changes z_mo_changeNode z_mo_changeSign z_mo_differs z_mo_results z_mo_own mo_kinds mo_testInputs mo_testDue mo_tests mo_noticed mo_missed mo_leastFrom z_mo_blameUpper z_mo_blameLower) :=
  CtV.of (own := RX12) (cc := cX12_findBlame) (nL := 7) (ret := none) (by decide +kernel) rfl rfl (Nat.le_of_ble_eq_true rfl) rfl (fun p e s m below meth c A ls C B hl => qX12_findBlame_0 C (N := N) mo_value mo_isLaid mo_changes mo_changeNode mo_changeSign mo_differs mo_results mo_own mo_blameUpper mo_blameLower h _ _ _ B hl)

abbrev rmX12_blame : Room := { frames := 7, cells := 0, slots := 0, locals := 166 }
theorem hdX12_blame : yX12_blame.cls ≠ "java/lang/invoke/MethodHandle" ∧ yX12_blame.cls ≠ "java/lang/invoke/VarHandle" ∧ (parseMethodDescriptor yX12_blame.desc).map (fun d => d.parameters.length) = some 2 := by decide +kernel
theorem iX12_blame_X12 : ∀ w ∈ wsX120, w ∈ wsX12_blame := by decide +kernel
theorem gfX12_blame_68 {p : Program} {l : Launch} {e : Env} {R : Room} {s : State} {m : MethodId} {args : Array Value} {below : List Frame} {meth : Method} {c : Code} {H : Heap} {locs : List Loc} {cells slots : Nat} {Q : State → Prop} {D : va_G} {A : Nat → Prop} {tys : List (ClassId × FieldType)} {Es : (Nat → Nat) × (Nat → Nat)} {ws : va_W} {pc : Nat} {ls : Array Slot} {rest : List Value} {a : Nat} (C : CT p s m args meth c RX12 cX12_blame 3 (some .int) wsX12_blame D A tys Es) (B : DB D A ws s H locs) (q0 : Nat) {fs : List Value} {v : Value} (he : ws[q0]? = some (a, .inr (12, fs))) (hv : fs[23]? = some v) (hdg : decode cX12_blame pc = .ok (.getfield 68, 3)) (kk : W p l e R s m args below meth c H locs cells slots Q (F0 m (pc + 3) ls (v :: rest))) : W p l e R s m args below meth c H locs cells slots Q (F0 m pc ls (.ref a :: rest)) :=
  k_get (Cn := RX12) (T := TX12) (N := 25) (index := 68) C B iX12_blame_X12 rfl 23 (by decide) (by decide +kernel) q0 he hv hdg kk
theorem gfX12_blame_71 {p : Program} {l : Launch} {e : Env} {R : Room} {s : State} {m : MethodId} {args : Array Value} {below : List Frame} {meth : Method} {c : Code} {H : Heap} {locs : List Loc} {cells slots : Nat} {Q : State → Prop} {D : va_G} {A : Nat → Prop} {tys : List (ClassId × FieldType)} {Es : (Nat → Nat) × (Nat → Nat)} {ws : va_W} {pc : Nat} {ls : Array Slot} {rest : List Value} {a : Nat} (C : CT p s m args meth c RX12 cX12_blame 3 (some .int) wsX12_blame D A tys Es) (B : DB D A ws s H locs) (q0 : Nat) {fs : List Value} {v : Value} (he : ws[q0]? = some (a, .inr (12, fs))) (hv : fs[24]? = some v) (hdg : decode cX12_blame pc = .ok (.getfield 71, 3)) (kk : W p l e R s m args below meth c H locs cells slots Q (F0 m (pc + 3) ls (v :: rest))) : W p l e R s m args below meth c H locs cells slots Q (F0 m pc ls (.ref a :: rest)) :=
  k_get (Cn := RX12) (T := TX12) (N := 25) (index := 71) C B iX12_blame_X12 rfl 24 (by decide) (by decide +kernel) q0 he hv hdg kk
section
variable {p : Program} {l : Launch} {e : Env} {s : State} {m : MethodId} {args : Array Value} {below : List Frame} {meth : Method} {c : Code} {D : va_G} {A : Nat → Prop} {Es : (Nat → Nat) × (Nat → Nat)} {a b : Nat → Nat} {cI cJ cT : ClassId}
set_option maxHeartbeats 4000000 in
set_option maxRecDepth 100000 in
theorem qX12_blame_0 (C : CT p s m args meth c RX12 cX12_blame 3 (some .int) wsX12_blame D A (tyl cI cJ cT) Es) {N : Nat} {mo_signs : Nat → Int32} {mo_signMany : Int32} {mo_nodeSign : Nat → Int32} {mo_nodeOn : Nat → Int32} {mo_nodeSize : Nat → Int32} {mo_nodeMany : Nat → Int32} {mo_due : Nat → Int32} {mo_openNode : Nat → Int32} {mo_kinds : Nat → Int32} {mo_testInputs : Nat → Int32} {mo_testDue : Nat → Int32} {mo_tests : Int32} {mo_noticed : Nat → Int32} {mo_missed : Nat → Int32} {mo_leastFrom : Nat → Int32} {z_r : Int32} {z_mo_value : Nat → Int32} {z_mo_isLaid : Int32} {z_mo_changes : Int32} {z_mo_changeNode : Nat → Int32} {z_mo_changeSign : Nat → Int32} {z_mo_differs : Nat → Int32} {z_mo_results : Nat → Int32} {z_mo_own : Nat → Int32} {z_mo_blameUpper : Nat → Int32} {z_mo_blameLower : Nat → Int32} : ∀ (x1 : Int32) (x2 : Int32) (mo_value : Nat → Int32) (mo_isLaid : Int32) (mo_changes : Int32) (mo_changeNode : Nat → Int32) (mo_changeSign : Nat → Int32) (mo_differs : Nat → Int32) (mo_results : Nat → Int32) (mo_own : Nat → Int32) (mo_blameUpper : Nat → Int32) (mo_blameLower : Nat → Int32), fX12_blame N mo_nodeSign mo_nodeSize mo_nodeMany mo_kinds mo_testInputs mo_testDue mo_tests x1 x2 mo_value mo_isLaid mo_changes mo_changeNode mo_changeSign mo_differs mo_results mo_own mo_blameUpper mo_blameLower = some (z_r, z_mo_value, z_mo_isLaid, z_mo_changes, z_mo_changeNode, z_mo_changeSign, z_mo_differs, z_mo_results, z_mo_own, z_mo_blameUpper, z_mo_blameLower) → ∀ (H : Heap) (locs : List Loc) (ls : Array Slot), DB D A (wd_mo a b cI cJ cT mo_signs mo_signMany mo_nodeSign mo_nodeOn mo_nodeSize mo_nodeMany mo_due mo_openNode mo_value mo_isLaid mo_changes mo_changeNode mo_changeSign mo_differs mo_results mo_own mo_kinds mo_testInputs mo_testDue mo_tests mo_noticed mo_missed mo_leastFrom mo_blameUpper mo_blameLower) s H locs → lv_has ls 3 [(0, .ref (b 0)), (1, .int x1), (2, .int x2)] → W p l e rmX12_blame s m args below meth c H locs 0 0 (ZI below args s D A (tyl cI cJ cT) z_r (wd_mo a b cI cJ cT mo_signs mo_signMany mo_nodeSign mo_nodeOn mo_nodeSize mo_nodeMany mo_due mo_openNode z_mo_value z_mo_isLaid z_mo_changes z_mo_changeNode z_mo_changeSign z_mo_differs z_mo_results z_mo_own mo_kinds mo_testInputs mo_testDue mo_tests mo_noticed mo_missed mo_leastFrom z_mo_blameUpper z_mo_blameLower) 0 0) (F0 m 0 ls []) := by
  have hx := C.1.1
  have hb := C.1.2.1
  have hown := C.1.2.2.2.1
  have hts := C.1.2.2.2.2
  intro x1 x2 mo_value mo_isLaid mo_changes mo_changeNode mo_changeSign mo_differs mo_results mo_own mo_blameUpper mo_blameLower h H locs ls B hl
  rw [fX12_blame] at h
  refine lv_aload_n hx hb dX12_blame_0 rfl (lv_at hl 0 rfl) ?_
  refine lv_iconst (v := 0) hx hb dX12_blame_1 (by decide) ?_
  refine lv_iload_n hx hb dX12_blame_2 rfl (lv_at hl 1 rfl) ?_
  obtain ⟨r_1, g_20, h⟩ := ob_some h
  try dsimp only at h
  refine kc_VI C B (q0 := 0) (ci := 12) (As := [.int (0 : Int32), .int x1]) (rest := []) (w2 := (wd_mo a b cI cJ cT mo_signs mo_signMany mo_nodeSign mo_nodeOn mo_nodeSize mo_nodeMany mo_due mo_openNode mo_value mo_isLaid mo_changes mo_changeNode mo_changeSign mo_differs mo_results mo_own mo_kinds mo_testInputs mo_testDue mo_tests mo_noticed mo_missed mo_leastFrom mo_blameUpper mo_blameLower)) (tX12_isNode (a := a) (b := b) N g_20) gX12_blame_X12_isNode rfl ⟨rfl, rfl⟩ ⟨rfl, hdX12_isNode⟩ ⟨Nat.le_of_ble_eq_true rfl, Nat.le_of_ble_eq_true rfl⟩ rfl rfl [0, 1, 2, 3, 4, 5, 6, 7, 8, 9, 10, 11, 12, 13, 14, 15, 16, 17, 18, 19, 20, 21] [] [0, 1, 2, 3, 4, 5, 6, 7, 8, 9, 10, 11, 12, 13, 14, 15, 16, 17, 18, 19, 20, 21] rfl rfl rfl rfl rfl rfl rfl rfl hl.1 rfl (Nat.le_of_ble_eq_true rfl) ⟨Nat.zero_le _, Nat.zero_le _⟩ dX12_blame_3 (fun H locs B => ?_)
  refine lv_if_ne (tgt := 11) hx hb dX12_blame_6 (by decide) (fun c_2 => ?_) (fun c_2 => ?_)
  · rw [if_neg c_2] at h
    refine lv_iload_n hx hb dX12_blame_11 rfl (lv_at hl 2 rfl) ?_
    obtain ⟨r_3, g_19, h⟩ := ob_some h
    try dsimp only at h
    refine kc_SI C B (As := [.int x2]) (rest := []) (w2 := (wd_mo a b cI cJ cT mo_signs mo_signMany mo_nodeSign mo_nodeOn mo_nodeSize mo_nodeMany mo_due mo_openNode mo_value mo_isLaid mo_changes mo_changeNode mo_changeSign mo_differs mo_results mo_own mo_kinds mo_testInputs mo_testDue mo_tests mo_noticed mo_missed mo_leastFrom mo_blameUpper mo_blameLower)) (tX12_isPart N g_19) gX12_blame_X12_isPart rfl ⟨rfl, rfl⟩ hdX12_isPart ⟨Nat.le_of_ble_eq_true rfl, Nat.le_of_ble_eq_true rfl⟩ [] [0, 1, 2, 3, 4, 5, 6, 7, 8, 9, 10, 11, 12, 13, 14, 15, 16, 17, 18, 19, 20, 21] [0, 1, 2, 3, 4, 5, 6, 7, 8, 9, 10, 11, 12, 13, 14, 15, 16, 17, 18, 19, 20, 21] rfl rfl rfl rfl rfl rfl rfl rfl hl.1 rfl (Nat.le_of_ble_eq_true rfl) ⟨Nat.zero_le _, Nat.zero_le _⟩ dX12_blame_12 (fun H locs B => ?_)
    refine lv_if_ne (tgt := 21) hx hb dX12_blame_15 (by decide) (fun c_4 => ?_) (fun c_4 => ?_)
    · rw [if_neg c_4] at h
      refine lv_aload_n hx hb dX12_blame_21 rfl (lv_at hl 0 rfl) ?_
      obtain ⟨⟨mo_value_5, mo_isLaid_6, mo_changes_7, mo_changeNode_8, mo_changeSign_9, mo_differs_10, mo_results_11, mo_own_12, mo_blameUpper_13, mo_blameLower_14⟩, g_18, h⟩ := ob_some h
      try dsimp only at h
      refine kc_VV C B (q0 := 0) (ci := 12) (As := []) (rest := []) (w2 := (wd_mo a b cI cJ cT mo_signs mo_signMany mo_nodeSign mo_nodeOn mo_nodeSize mo_nodeMany mo_due mo_openNode mo_value_5 mo_isLaid_6 mo_changes_7 mo_changeNode_8 mo_changeSign_9 mo_differs_10 mo_results_11 mo_own_12 mo_kinds mo_testInputs mo_testDue mo_tests mo_noticed mo_missed mo_leastFrom mo_blameUpper_13 mo_blameLower_14)) (tX12_findBlame (a := a) (b := b) N g_18) gX12_blame_X12_findBlame rfl ⟨rfl, rfl⟩ ⟨rfl, hdX12_findBlame⟩ ⟨Nat.le_of_ble_eq_true rfl, Nat.le_of_ble_eq_true rfl⟩ rfl rfl [0, 1, 2, 3, 4, 5, 6, 7, 8, 9, 10, 11, 12, 13, 14, 15, 16, 17, 18, 19, 20, 21] [] [0, 1, 2, 3, 4, 5, 6, 7, 8, 9, 10, 11, 12, 13, 14, 15, 16, 17, 18, 19, 20, 21] rfl rfl rfl rfl rfl rfl rfl rfl hl.1 rfl (Nat.le_of_ble_eq_true rfl) ⟨Nat.zero_le _, Nat.zero_le _⟩ dX12_blame_22 (fun H locs B => ?_)
      refine lv_aload_n hx hb dX12_blame_25 rfl (lv_at hl 0 rfl) ?_
      refine gfX12_blame_68 C B 0 rfl rfl dX12_blame_26 ?_
      refine lv_iload_n hx hb dX12_blame_29 rfl (lv_at hl 1 rfl) ?_
      obtain ⟨b_15, h⟩ := bnd_some h
      refine k_iald C B 20 0 rfl rfl b_15 dX12_blame_30 ?_
      refine lv_aload_n hx hb dX12_blame_31 rfl (lv_at hl 0 rfl) ?_
      refine gfX12_blame_71 C B 0 rfl rfl dX12_blame_32 ?_
      refine lv_iload_n hx hb dX12_blame_35 rfl (lv_at hl 1 rfl) ?_
      refine k_iald C B 21 0 rfl rfl b_15 dX12_blame_36 ?_
      refine lv_iload_n hx hb dX12_blame_37 rfl (lv_at hl 2 rfl) ?_
      obtain ⟨r_16, g_17, h⟩ := ob_some h
      try dsimp only at h
      refine kc_SI C B (As := [.int (mo_blameUpper_13 (Int32.toNatClampNeg x1)), .int (mo_blameLower_14 (Int32.toNatClampNeg x1)), .int x2]) (rest := []) (w2 := (wd_mo a b cI cJ cT mo_signs mo_signMany mo_nodeSign mo_nodeOn mo_nodeSize mo_nodeMany mo_due mo_openNode mo_value_5 mo_isLaid_6 mo_changes_7 mo_changeNode_8 mo_changeSign_9 mo_differs_10 mo_results_11 mo_own_12 mo_kinds mo_testInputs mo_testDue mo_tests mo_noticed mo_missed mo_leastFrom mo_blameUpper_13 mo_blameLower_14)) (tX12_lowest N g_17) gX12_blame_X12_lowest rfl ⟨rfl, rfl⟩ hdX12_lowest ⟨Nat.le_of_ble_eq_true rfl, Nat.le_of_ble_eq_true rfl⟩ [] [0, 1, 2, 3, 4, 5, 6, 7, 8, 9, 10, 11, 12, 13, 14, 15, 16, 17, 18, 19, 20, 21] [0, 1, 2, 3, 4, 5, 6, 7, 8, 9, 10, 11, 12, 13, 14, 15, 16, 17, 18, 19, 20, 21] rfl rfl rfl rfl rfl rfl rfl rfl hl.1 rfl (Nat.le_of_ble_eq_true rfl) ⟨Nat.zero_le _, Nat.zero_le _⟩ dX12_blame_38 (fun H locs B => ?_)
      cases h
      exact k_iret C B dX12_blame_41
    · rw [if_pos c_4] at h
      refine lv_bipush (v := -2) hx hb dX12_blame_18 (by decide) ?_
      cases h
      exact k_iret C B dX12_blame_20
  · rw [if_pos c_2] at h
    refine lv_iconst (v := -1) hx hb dX12_blame_9 (by decide) ?_
    cases h
    exact k_iret C B dX12_blame_10
end
theorem tX12_blame {l : Launch} {D : va_G} {Es : (Nat → Nat) × (Nat → Nat)} {a b : Nat → Nat} {cI cJ cT : ClassId} {mo_signs : Nat → Int32} {mo_signMany : Int32} {mo_nodeSign : Nat → Int32} {mo_nodeOn : Nat → Int32} {mo_nodeSize : Nat → Int32} {mo_nodeMany : Nat → Int32} {mo_due : Nat → Int32} {mo_openNode : Nat → Int32} {mo_value : Nat → Int32} {mo_isLaid : Int32} {mo_changes : Int32} {mo_changeNode : Nat → Int32} {mo_changeSign : Nat → Int32} {mo_differs : Nat → Int32} {mo_results : Nat → Int32} {mo_own : Nat → Int32} {mo_kinds : Nat → Int32} {mo_testInputs : Nat → Int32} {mo_testDue : Nat → Int32} {mo_tests : Int32} {mo_noticed : Nat → Int32} {mo_missed : Nat → Int32} {mo_leastFrom : Nat → Int32} {mo_blameUpper : Nat → Int32} {mo_blameLower : Nat → Int32} {x1 : Int32} {x2 : Int32} {z_r : Int32} {z_mo_value : Nat → Int32} {z_mo_isLaid : Int32} {z_mo_changes : Int32} {z_mo_changeNode : Nat → Int32} {z_mo_changeSign : Nat → Int32} {z_mo_differs : Nat → Int32} {z_mo_results : Nat → Int32} {z_mo_own : Nat → Int32} {z_mo_blameUpper : Nat → Int32} {z_mo_blameLower : Nat → Int32} (N : Nat) (h : fX12_blame N mo_nodeSign mo_nodeSize mo_nodeMany mo_kinds mo_testInputs mo_testDue mo_tests x1 x2 mo_value mo_isLaid mo_changes mo_changeNode mo_changeSign mo_differs mo_results mo_own mo_blameUpper mo_blameLower = some (z_r, z_mo_value, z_mo_isLaid, z_mo_changes, z_mo_changeNode, z_mo_changeSign, z_mo_differs, z_mo_results, z_mo_own, z_mo_blameUpper, z_mo_blameLower)) : CtI l yX12_blame wsX12_blame rmX12_blame D (tyl cI cJ cT) Es [.ref (b 0), .int x1, .int x2] (wd_mo a b cI cJ cT mo_signs mo_signMany mo_nodeSign mo_nodeOn mo_nodeSize mo_nodeMany mo_due mo_openNode mo_value mo_isLaid mo_changes mo_changeNode mo_changeSign mo_differs mo_results mo_own mo_kinds mo_testInputs mo_testDue mo_tests mo_noticed mo_missed mo_leastFrom mo_blameUpper mo_blameLower) z_r (wd_mo a b cI cJ cT mo_signs mo_signMany mo_nodeSign mo_nodeOn mo_nodeSize mo_nodeMany mo_due mo_openNode z_mo_value z_mo_isLaid z_mo_changes z_mo_changeNode z_mo_changeSign z_mo_differs z_mo_results z_mo_own mo_kinds mo_testInputs mo_testDue mo_tests mo_noticed mo_missed mo_leastFrom z_mo_blameUpper z_mo_blameLower) :=
  CtI.of (own := RX12) (cc := cX12_blame) (nL := 3) (ret := (some .int)) (by decide +kernel) rfl rfl (Nat.le_of_ble_eq_true rfl) rfl (fun p e s m below meth c A ls C B hl => qX12_blame_0 C (N := N) x1 x2 mo_value mo_isLaid mo_changes mo_changeNode mo_changeSign mo_differs mo_results mo_own mo_blameUpper mo_blameLower h _ _ _ B hl)

abbrev rmX12_rank : Room := { frames := 7, cells := 0, slots := 0, locals := 166 }
theorem hdX12_rank : yX12_rank.cls ≠ "java/lang/invoke/MethodHandle" ∧ yX12_rank.cls ≠ "java/lang/invoke/VarHandle" ∧ (parseMethodDescriptor yX12_rank.desc).map (fun d => d.parameters.length) = some 1 := by decide +kernel
theorem iX12_rank_X12 : ∀ w ∈ wsX120, w ∈ wsX12_rank := by decide +kernel
theorem gfX12_rank_22 {p : Program} {l : Launch} {e : Env} {R : Room} {s : State} {m : MethodId} {args : Array Value} {below : List Frame} {meth : Method} {c : Code} {H : Heap} {locs : List Loc} {cells slots : Nat} {Q : State → Prop} {D : va_G} {A : Nat → Prop} {tys : List (ClassId × FieldType)} {Es : (Nat → Nat) × (Nat → Nat)} {ws : va_W} {pc : Nat} {ls : Array Slot} {rest : List Value} {a : Nat} (C : CT p s m args meth c RX12 cX12_rank 6 (some .int) wsX12_rank D A tys Es) (B : DB D A ws s H locs) (q0 : Nat) {fs : List Value} {v : Value} (he : ws[q0]? = some (a, .inr (12, fs))) (hv : fs[5]? = some v) (hdg : decode cX12_rank pc = .ok (.getfield 22, 3)) (kk : W p l e R s m args below meth c H locs cells slots Q (F0 m (pc + 3) ls (v :: rest))) : W p l e R s m args below meth c H locs cells slots Q (F0 m pc ls (.ref a :: rest)) :=
  k_get (Cn := RX12) (T := TX12) (N := 25) (index := 22) C B iX12_rank_X12 rfl 5 (by decide) (by decide +kernel) q0 he hv hdg kk
theorem gfX12_rank_68 {p : Program} {l : Launch} {e : Env} {R : Room} {s : State} {m : MethodId} {args : Array Value} {below : List Frame} {meth : Method} {c : Code} {H : Heap} {locs : List Loc} {cells slots : Nat} {Q : State → Prop} {D : va_G} {A : Nat → Prop} {tys : List (ClassId × FieldType)} {Es : (Nat → Nat) × (Nat → Nat)} {ws : va_W} {pc : Nat} {ls : Array Slot} {rest : List Value} {a : Nat} (C : CT p s m args meth c RX12 cX12_rank 6 (some .int) wsX12_rank D A tys Es) (B : DB D A ws s H locs) (q0 : Nat) {fs : List Value} {v : Value} (he : ws[q0]? = some (a, .inr (12, fs))) (hv : fs[23]? = some v) (hdg : decode cX12_rank pc = .ok (.getfield 68, 3)) (kk : W p l e R s m args below meth c H locs cells slots Q (F0 m (pc + 3) ls (v :: rest))) : W p l e R s m args below meth c H locs cells slots Q (F0 m pc ls (.ref a :: rest)) :=
  k_get (Cn := RX12) (T := TX12) (N := 25) (index := 68) C B iX12_rank_X12 rfl 23 (by decide) (by decide +kernel) q0 he hv hdg kk
theorem gfX12_rank_71 {p : Program} {l : Launch} {e : Env} {R : Room} {s : State} {m : MethodId} {args : Array Value} {below : List Frame} {meth : Method} {c : Code} {H : Heap} {locs : List Loc} {cells slots : Nat} {Q : State → Prop} {D : va_G} {A : Nat → Prop} {tys : List (ClassId × FieldType)} {Es : (Nat → Nat) × (Nat → Nat)} {ws : va_W} {pc : Nat} {ls : Array Slot} {rest : List Value} {a : Nat} (C : CT p s m args meth c RX12 cX12_rank 6 (some .int) wsX12_rank D A tys Es) (B : DB D A ws s H locs) (q0 : Nat) {fs : List Value} {v : Value} (he : ws[q0]? = some (a, .inr (12, fs))) (hv : fs[24]? = some v) (hdg : decode cX12_rank pc = .ok (.getfield 71, 3)) (kk : W p l e R s m args below meth c H locs cells slots Q (F0 m (pc + 3) ls (v :: rest))) : W p l e R s m args below meth c H locs cells slots Q (F0 m pc ls (.ref a :: rest)) :=
  k_get (Cn := RX12) (T := TX12) (N := 25) (index := 71) C B iX12_rank_X12 rfl 24 (by decide) (by decide +kernel) q0 he hv hdg kk
section
variable {p : Program} {l : Launch} {e : Env} {s : State} {m : MethodId} {args : Array Value} {below : List Frame} {meth : Method} {c : Code} {D : va_G} {A : Nat → Prop} {Es : (Nat → Nat) × (Nat → Nat)} {a b : Nat → Nat} {cI cJ cT : ClassId}
set_option maxHeartbeats 4000000 in
set_option maxRecDepth 100000 in
theorem qX12_rank_63 (C : CT p s m args meth c RX12 cX12_rank 6 (some .int) wsX12_rank D A (tyl cI cJ cT) Es) {N : Nat} {mo_signs : Nat → Int32} {mo_signMany : Int32} {mo_nodeSign : Nat → Int32} {mo_nodeOn : Nat → Int32} {mo_nodeSize : Nat → Int32} {mo_nodeMany : Nat → Int32} {mo_due : Nat → Int32} {mo_openNode : Nat → Int32} {mo_kinds : Nat → Int32} {mo_testInputs : Nat → Int32} {mo_testDue : Nat → Int32} {mo_tests : Int32} {mo_noticed : Nat → Int32} {mo_missed : Nat → Int32} {mo_leastFrom : Nat → Int32} {z_r : Int32} {z_mo_value : Nat → Int32} {z_mo_isLaid : Int32} {z_mo_changes : Int32} {z_mo_changeNode : Nat → Int32} {z_mo_changeSign : Nat → Int32} {z_mo_differs : Nat → Int32} {z_mo_results : Nat → Int32} {z_mo_own : Nat → Int32} {z_mo_blameUpper : Nat → Int32} {z_mo_blameLower : Nat → Int32} {k6 : Int32 → Int32 → (Nat → Int32) → (Int32) → (Int32) → (Nat → Int32) → (Nat → Int32) → (Nat → Int32) → (Nat → Int32) → (Nat → Int32) → (Nat → Int32) → (Nat → Int32) → Option (Int32 × (Nat → Int32) × (Int32) × (Int32) × (Nat → Int32) × (Nat → Int32) × (Nat → Int32) × (Nat → Int32) × (Nat → Int32) × (Nat → Int32) × (Nat → Int32))} (hk6 : ∀ (x1 : Int32) (x2 : Int32) (mo_value : Nat → Int32) (mo_isLaid : Int32) (mo_changes : Int32) (mo_changeNode : Nat → Int32) (mo_changeSign : Nat → Int32) (mo_differs : Nat → Int32) (mo_results : Nat → Int32) (mo_own : Nat → Int32) (mo_blameUpper : Nat → Int32) (mo_blameLower : Nat → Int32), k6 x1 x2 mo_value mo_isLaid mo_changes mo_changeNode mo_changeSign mo_differs mo_results mo_own mo_blameUpper mo_blameLower = some (z_r, z_mo_value, z_mo_isLaid, z_mo_changes, z_mo_changeNode, z_mo_changeSign, z_mo_differs, z_mo_results, z_mo_own, z_mo_blameUpper, z_mo_blameLower) → ∀ (H : Heap) (locs : List Loc) (ls : Array Slot), DB D A (wd_mo a b cI cJ cT mo_signs mo_signMany mo_nodeSign mo_nodeOn mo_nodeSize mo_nodeMany mo_due mo_openNode mo_value mo_isLaid mo_changes mo_changeNode mo_changeSign mo_differs mo_results mo_own mo_kinds mo_testInputs mo_testDue mo_tests mo_noticed mo_missed mo_leastFrom mo_blameUpper mo_blameLower) s H locs → lv_has ls 6 [(0, .ref (b 0)), (1, .int x1), (2, .int x2)] → W p l e rmX12_rank s m args below meth c H locs 0 0 (ZI below args s D A (tyl cI cJ cT) z_r (wd_mo a b cI cJ cT mo_signs mo_signMany mo_nodeSign mo_nodeOn mo_nodeSize mo_nodeMany mo_due mo_openNode z_mo_value z_mo_isLaid z_mo_changes z_mo_changeNode z_mo_changeSign z_mo_differs z_mo_results z_mo_own mo_kinds mo_testInputs mo_testDue mo_tests mo_noticed mo_missed mo_leastFrom z_mo_blameUpper z_mo_blameLower) 0 0) (F0 m 6 ls [])) {k21 : Int32 → Int32 → Int32 → Int32 → (Nat → Int32) → (Int32) → (Int32) → (Nat → Int32) → (Nat → Int32) → (Nat → Int32) → (Nat → Int32) → (Nat → Int32) → (Nat → Int32) → (Nat → Int32) → Option (Int32 × (Nat → Int32) × (Int32) × (Int32) × (Nat → Int32) × (Nat → Int32) × (Nat → Int32) × (Nat → Int32) × (Nat → Int32) × (Nat → Int32) × (Nat → Int32))} (hk21 : ∀ (x1 : Int32) (x2 : Int32) (x3 : Int32) (x4 : Int32) (mo_value : Nat → Int32) (mo_isLaid : Int32) (mo_changes : Int32) (mo_changeNode : Nat → Int32) (mo_changeSign : Nat → Int32) (mo_differs : Nat → Int32) (mo_results : Nat → Int32) (mo_own : Nat → Int32) (mo_blameUpper : Nat → Int32) (mo_blameLower : Nat → Int32), k21 x1 x2 x3 x4 mo_value mo_isLaid mo_changes mo_changeNode mo_changeSign mo_differs mo_results mo_own mo_blameUpper mo_blameLower = some (z_r, z_mo_value, z_mo_isLaid, z_mo_changes, z_mo_changeNode, z_mo_changeSign, z_mo_differs, z_mo_results, z_mo_own, z_mo_blameUpper, z_mo_blameLower) → ∀ (H : Heap) (locs : List Loc) (ls : Array Slot), DB D A (wd_mo a b cI cJ cT mo_signs mo_signMany mo_nodeSign mo_nodeOn mo_nodeSize mo_nodeMany mo_due mo_openNode mo_value mo_isLaid mo_changes mo_changeNode mo_changeSign mo_differs mo_results mo_own mo_kinds mo_testInputs mo_testDue mo_tests mo_noticed mo_missed mo_leastFrom mo_blameUpper mo_blameLower) s H locs → lv_has ls 6 [(0, .ref (b 0)), (1, .int x1), (2, .int x2), (3, .int x3), (4, .int x4)] → W p l e rmX12_rank s m args below meth c H locs 0 0 (ZI below args s D A (tyl cI cJ cT) z_r (wd_mo a b cI cJ cT mo_signs mo_signMany mo_nodeSign mo_nodeOn mo_nodeSize mo_nodeMany mo_due mo_openNode z_mo_value z_mo_isLaid z_mo_changes z_mo_changeNode z_mo_changeSign z_mo_differs z_mo_results z_mo_own mo_kinds mo_testInputs mo_testDue mo_tests mo_noticed mo_missed mo_leastFrom z_mo_blameUpper z_mo_blameLower) 0 0) (F0 m 21 ls [])) : ∀ (x1 : Int32) (x2 : Int32) (x3 : Int32) (x4 : Int32) (x5 : Int32) (mo_value : Nat → Int32) (mo_isLaid : Int32) (mo_changes : Int32) (mo_changeNode : Nat → Int32) (mo_changeSign : Nat → Int32) (mo_differs : Nat → Int32) (mo_results : Nat → Int32) (mo_own : Nat → Int32) (mo_blameUpper : Nat → Int32) (mo_blameLower : Nat → Int32), bX12_rank_63 N mo_nodeSign mo_nodeSize mo_nodeMany mo_kinds mo_testInputs mo_testDue mo_tests k6 k21 x1 x2 x3 x4 x5 mo_value mo_isLaid mo_changes mo_changeNode mo_changeSign mo_differs mo_results mo_own mo_blameUpper mo_blameLower = some (z_r, z_mo_value, z_mo_isLaid, z_mo_changes, z_mo_changeNode, z_mo_changeSign, z_mo_differs, z_mo_results, z_mo_own, z_mo_blameUpper, z_mo_blameLower) → ∀ (H : Heap) (locs : List Loc) (ls : Array Slot), DB D A (wd_mo a b cI cJ cT mo_signs mo_signMany mo_nodeSign mo_nodeOn mo_nodeSize mo_nodeMany mo_due mo_openNode mo_value mo_isLaid mo_changes mo_changeNode mo_changeSign mo_differs mo_results mo_own mo_kinds mo_testInputs mo_testDue mo_tests mo_noticed mo_missed mo_leastFrom mo_blameUpper mo_blameLower) s H locs → lv_has ls 6 [(0, .ref (b 0)), (1, .int x1), (2, .int x2), (3, .int x3), (4, .int x4), (5, .int x5)] → W p l e rmX12_rank s m args below meth c H locs 0 0 (ZI below args s D A (tyl cI cJ cT) z_r (wd_mo a b cI cJ cT mo_signs mo_signMany mo_nodeSign mo_nodeOn mo_nodeSize mo_nodeMany mo_due mo_openNode z_mo_value z_mo_isLaid z_mo_changes z_mo_changeNode z_mo_changeSign z_mo_differs z_mo_results z_mo_own mo_kinds mo_testInputs mo_testDue mo_tests mo_noticed mo_missed mo_leastFrom z_mo_blameUpper z_mo_blameLower) 0 0) (F0 m 63 ls []) := by
  have hx := C.1.1
  have hb := C.1.2.1
  have hown := C.1.2.2.2.1
  have hts := C.1.2.2.2.2
  intro x1 x2 x3 x4 x5 mo_value mo_isLaid mo_changes mo_changeNode mo_changeSign mo_differs mo_results mo_own mo_blameUpper mo_blameLower h H locs ls B hl
  rw [bX12_rank_63] at h
  refine lv_iload_n hx hb dX12_rank_63 rfl (lv_at hl 3 rfl) ?_
  refine lv_iload hx hb dX12_rank_64 (lv_at hl 5 rfl) ?_
  refine lv_if_gt (tgt := 80) hx hb dX12_rank_66 (by decide) (fun c_1 => ?_) (fun c_1 => ?_)
  · rw [if_pos c_1] at h
    refine lv_iconst (v := 1) hx hb dX12_rank_80 (by decide) ?_
    refine lv_goto (tgt := 85) hx hb dX12_rank_81 (by decide) ?_
    refine lv_iadd hx hb dX12_rank_85 ?_
    refine lv_istore_n (lv' := [(3, .int (x3 + (1 : Int32))), (0, .ref (b 0)), (1, .int x1), (2, .int x2), (4, .int x4), (5, .int x5)]) hx hb dX12_rank_86 rfl hl (by decide) rfl (fun ls hl => ?_)
    refine lv_iinc (v := (x4 + 1)) (lv' := [(4, .int (x4 + 1)), (3, .int (x3 + (1 : Int32))), (0, .ref (b 0)), (1, .int x1), (2, .int x2), (5, .int x5)]) hx hb dX12_rank_87 hl (k := 4) rfl rfl (by decide) rfl (fun ls hl => ?_)
    refine lv_goto (tgt := 21) hx hb dX12_rank_90 (by decide) ?_
    exact hk21 x1 x2 (x3 + (1 : Int32)) (x4 + 1) mo_value mo_isLaid mo_changes mo_changeNode mo_changeSign mo_differs mo_results mo_own mo_blameUpper mo_blameLower h H locs ls B (lv_sub hl [2, 3, 4, 1, 0] rfl)
  · rw [if_neg c_1] at h
    refine lv_iload hx hb dX12_rank_69 (lv_at hl 5 rfl) ?_
    refine lv_if_ne (tgt := 84) hx hb dX12_rank_71 (by decide) (fun c_2 => ?_) (fun c_2 => ?_)
    · rw [if_neg c_2] at h
      refine lv_iconst (v := 0) hx hb dX12_rank_84 (by decide) ?_
      refine lv_iadd hx hb dX12_rank_85 ?_
      refine lv_istore_n (lv' := [(3, .int (x3 + (0 : Int32))), (0, .ref (b 0)), (1, .int x1), (2, .int x2), (4, .int x4), (5, .int x5)]) hx hb dX12_rank_86 rfl hl (by decide) rfl (fun ls hl => ?_)
      refine lv_iinc (v := (x4 + 1)) (lv' := [(4, .int (x4 + 1)), (3, .int (x3 + (0 : Int32))), (0, .ref (b 0)), (1, .int x1), (2, .int x2), (5, .int x5)]) hx hb dX12_rank_87 hl (k := 4) rfl rfl (by decide) rfl (fun ls hl => ?_)
      refine lv_goto (tgt := 21) hx hb dX12_rank_90 (by decide) ?_
      exact hk21 x1 x2 (x3 + (0 : Int32)) (x4 + 1) mo_value mo_isLaid mo_changes mo_changeNode mo_changeSign mo_differs mo_results mo_own mo_blameUpper mo_blameLower h H locs ls B (lv_sub hl [2, 3, 4, 1, 0] rfl)
    · rw [if_pos c_2] at h
      refine lv_iload hx hb dX12_rank_74 (lv_at hl 4 rfl) ?_
      refine lv_iload_n hx hb dX12_rank_76 rfl (lv_at hl 2 rfl) ?_
      refine lv_icmp_ge (tgt := 84) hx hb dX12_rank_77 (by decide) (fun c_3 => ?_) (fun c_3 => ?_)
      · rw [if_pos c_3] at h
        refine lv_iconst (v := 0) hx hb dX12_rank_84 (by decide) ?_
        refine lv_iadd hx hb dX12_rank_85 ?_
        refine lv_istore_n (lv' := [(3, .int (x3 + (0 : Int32))), (0, .ref (b 0)), (1, .int x1), (2, .int x2), (4, .int x4), (5, .int x5)]) hx hb dX12_rank_86 rfl hl (by decide) rfl (fun ls hl => ?_)
        refine lv_iinc (v := (x4 + 1)) (lv' := [(4, .int (x4 + 1)), (3, .int (x3 + (0 : Int32))), (0, .ref (b 0)), (1, .int x1), (2, .int x2), (5, .int x5)]) hx hb dX12_rank_87 hl (k := 4) rfl rfl (by decide) rfl (fun ls hl => ?_)
        refine lv_goto (tgt := 21) hx hb dX12_rank_90 (by decide) ?_
        exact hk21 x1 x2 (x3 + (0 : Int32)) (x4 + 1) mo_value mo_isLaid mo_changes mo_changeNode mo_changeSign mo_differs mo_results mo_own mo_blameUpper mo_blameLower h H locs ls B (lv_sub hl [2, 3, 4, 1, 0] rfl)
      · rw [if_neg c_3] at h
        refine lv_iconst (v := 1) hx hb dX12_rank_80 (by decide) ?_
        refine lv_goto (tgt := 85) hx hb dX12_rank_81 (by decide) ?_
        refine lv_iadd hx hb dX12_rank_85 ?_
        refine lv_istore_n (lv' := [(3, .int (x3 + (1 : Int32))), (0, .ref (b 0)), (1, .int x1), (2, .int x2), (4, .int x4), (5, .int x5)]) hx hb dX12_rank_86 rfl hl (by decide) rfl (fun ls hl => ?_)
        refine lv_iinc (v := (x4 + 1)) (lv' := [(4, .int (x4 + 1)), (3, .int (x3 + (1 : Int32))), (0, .ref (b 0)), (1, .int x1), (2, .int x2), (5, .int x5)]) hx hb dX12_rank_87 hl (k := 4) rfl rfl (by decide) rfl (fun ls hl => ?_)
        refine lv_goto (tgt := 21) hx hb dX12_rank_90 (by decide) ?_
        exact hk21 x1 x2 (x3 + (1 : Int32)) (x4 + 1) mo_value mo_isLaid mo_changes mo_changeNode mo_changeSign mo_differs mo_results mo_own mo_blameUpper mo_blameLower h H locs ls B (lv_sub hl [2, 3, 4, 1, 0] rfl)
set_option maxHeartbeats 4000000 in
set_option maxRecDepth 100000 in
theorem qX12_rank_21 (C : CT p s m args meth c RX12 cX12_rank 6 (some .int) wsX12_rank D A (tyl cI cJ cT) Es) {N : Nat} {mo_signs : Nat → Int32} {mo_signMany : Int32} {mo_nodeSign : Nat → Int32} {mo_nodeOn : Nat → Int32} {mo_nodeSize : Nat → Int32} {mo_nodeMany : Nat → Int32} {mo_due : Nat → Int32} {mo_openNode : Nat → Int32} {mo_kinds : Nat → Int32} {mo_testInputs : Nat → Int32} {mo_testDue : Nat → Int32} {mo_tests : Int32} {mo_noticed : Nat → Int32} {mo_missed : Nat → Int32} {mo_leastFrom : Nat → Int32} {z_r : Int32} {z_mo_value : Nat → Int32} {z_mo_isLaid : Int32} {z_mo_changes : Int32} {z_mo_changeNode : Nat → Int32} {z_mo_changeSign : Nat → Int32} {z_mo_differs : Nat → Int32} {z_mo_results : Nat → Int32} {z_mo_own : Nat → Int32} {z_mo_blameUpper : Nat → Int32} {z_mo_blameLower : Nat → Int32} {k6 : Int32 → Int32 → (Nat → Int32) → (Int32) → (Int32) → (Nat → Int32) → (Nat → Int32) → (Nat → Int32) → (Nat → Int32) → (Nat → Int32) → (Nat → Int32) → (Nat → Int32) → Option (Int32 × (Nat → Int32) × (Int32) × (Int32) × (Nat → Int32) × (Nat → Int32) × (Nat → Int32) × (Nat → Int32) × (Nat → Int32) × (Nat → Int32) × (Nat → Int32))} (hk6 : ∀ (x1 : Int32) (x2 : Int32) (mo_value : Nat → Int32) (mo_isLaid : Int32) (mo_changes : Int32) (mo_changeNode : Nat → Int32) (mo_changeSign : Nat → Int32) (mo_differs : Nat → Int32) (mo_results : Nat → Int32) (mo_own : Nat → Int32) (mo_blameUpper : Nat → Int32) (mo_blameLower : Nat → Int32), k6 x1 x2 mo_value mo_isLaid mo_changes mo_changeNode mo_changeSign mo_differs mo_results mo_own mo_blameUpper mo_blameLower = some (z_r, z_mo_value, z_mo_isLaid, z_mo_changes, z_mo_changeNode, z_mo_changeSign, z_mo_differs, z_mo_results, z_mo_own, z_mo_blameUpper, z_mo_blameLower) → ∀ (H : Heap) (locs : List Loc) (ls : Array Slot), DB D A (wd_mo a b cI cJ cT mo_signs mo_signMany mo_nodeSign mo_nodeOn mo_nodeSize mo_nodeMany mo_due mo_openNode mo_value mo_isLaid mo_changes mo_changeNode mo_changeSign mo_differs mo_results mo_own mo_kinds mo_testInputs mo_testDue mo_tests mo_noticed mo_missed mo_leastFrom mo_blameUpper mo_blameLower) s H locs → lv_has ls 6 [(0, .ref (b 0)), (1, .int x1), (2, .int x2)] → W p l e rmX12_rank s m args below meth c H locs 0 0 (ZI below args s D A (tyl cI cJ cT) z_r (wd_mo a b cI cJ cT mo_signs mo_signMany mo_nodeSign mo_nodeOn mo_nodeSize mo_nodeMany mo_due mo_openNode z_mo_value z_mo_isLaid z_mo_changes z_mo_changeNode z_mo_changeSign z_mo_differs z_mo_results z_mo_own mo_kinds mo_testInputs mo_testDue mo_tests mo_noticed mo_missed mo_leastFrom z_mo_blameUpper z_mo_blameLower) 0 0) (F0 m 6 ls [])) : ∀ (n : Nat) (x1 : Int32) (x2 : Int32) (x3 : Int32) (x4 : Int32) (mo_value : Nat → Int32) (mo_isLaid : Int32) (mo_changes : Int32) (mo_changeNode : Nat → Int32) (mo_changeSign : Nat → Int32) (mo_differs : Nat → Int32) (mo_results : Nat → Int32) (mo_own : Nat → Int32) (mo_blameUpper : Nat → Int32) (mo_blameLower : Nat → Int32), bX12_rank_21 N mo_nodeSign mo_nodeSize mo_nodeMany mo_kinds mo_testInputs mo_testDue mo_tests k6 n x1 x2 x3 x4 mo_value mo_isLaid mo_changes mo_changeNode mo_changeSign mo_differs mo_results mo_own mo_blameUpper mo_blameLower = some (z_r, z_mo_value, z_mo_isLaid, z_mo_changes, z_mo_changeNode, z_mo_changeSign, z_mo_differs, z_mo_results, z_mo_own, z_mo_blameUpper, z_mo_blameLower) → ∀ (H : Heap) (locs : List Loc) (ls : Array Slot), DB D A (wd_mo a b cI cJ cT mo_signs mo_signMany mo_nodeSign mo_nodeOn mo_nodeSize mo_nodeMany mo_due mo_openNode mo_value mo_isLaid mo_changes mo_changeNode mo_changeSign mo_differs mo_results mo_own mo_kinds mo_testInputs mo_testDue mo_tests mo_noticed mo_missed mo_leastFrom mo_blameUpper mo_blameLower) s H locs → lv_has ls 6 [(0, .ref (b 0)), (1, .int x1), (2, .int x2), (3, .int x3), (4, .int x4)] → W p l e rmX12_rank s m args below meth c H locs 0 0 (ZI below args s D A (tyl cI cJ cT) z_r (wd_mo a b cI cJ cT mo_signs mo_signMany mo_nodeSign mo_nodeOn mo_nodeSize mo_nodeMany mo_due mo_openNode z_mo_value z_mo_isLaid z_mo_changes z_mo_changeNode z_mo_changeSign z_mo_differs z_mo_results z_mo_own mo_kinds mo_testInputs mo_testDue mo_tests mo_noticed mo_missed mo_leastFrom z_mo_blameUpper z_mo_blameLower) 0 0) (F0 m 21 ls []) := by
  have hx := C.1.1
  have hb := C.1.2.1
  have hown := C.1.2.2.2.1
  have hts := C.1.2.2.2.2
  intro n
  induction n with
  | zero => intro x1 x2 x3 x4 mo_value mo_isLaid mo_changes mo_changeNode mo_changeSign mo_differs mo_results mo_own mo_blameUpper mo_blameLower h; cases h
  | succ n ih =>
    intro x1 x2 x3 x4 mo_value mo_isLaid mo_changes mo_changeNode mo_changeSign mo_differs mo_results mo_own mo_blameUpper mo_blameLower h H locs ls B hl
    rw [bX12_rank_21] at h
    refine lv_iload hx hb dX12_rank_21 (lv_at hl 4 rfl) ?_
    refine lv_aload_n hx hb dX12_rank_23 rfl (lv_at hl 0 rfl) ?_
    refine gfX12_rank_22 C B 0 rfl rfl dX12_rank_24 ?_
    refine lv_iconst (v := 0) hx hb dX12_rank_27 (by decide) ?_
    refine k_iald C B 5 0 rfl rfl (vp_lit (by decide)) dX12_rank_28 ?_
    refine lv_icmp_ge (tgt := 93) hx hb dX12_rank_29 (by decide) (fun c_2 => ?_) (fun c_2 => ?_)
    · rw [if_pos c_2] at h
      refine lv_iload_n hx hb dX12_rank_93 rfl (lv_at hl 3 rfl) ?_
      refine lv_iload_n hx hb dX12_rank_94 rfl (lv_at hl 1 rfl) ?_
      refine lv_icmp_ne (tgt := 100) hx hb dX12_rank_95 (by decide) (fun c_3 => ?_) (fun c_3 => ?_)
      · rw [if_neg c_3] at h
        refine lv_iinc (v := (x2 + 1)) (lv' := [(2, .int (x2 + 1)), (0, .ref (b 0)), (1, .int x1), (3, .int x3), (4, .int x4)]) hx hb dX12_rank_100 hl (k := 2) rfl rfl (by decide) rfl (fun ls hl => ?_)
        refine lv_goto (tgt := 6) hx hb dX12_rank_103 (by decide) ?_
        exact hk6 x1 (x2 + 1) mo_value mo_isLaid mo_changes mo_changeNode mo_changeSign mo_differs mo_results mo_own mo_blameUpper mo_blameLower h H locs ls B (lv_sub hl [1, 2, 0] rfl)
      · rw [if_pos c_3] at h
        refine lv_iload_n hx hb dX12_rank_98 rfl (lv_at hl 2 rfl) ?_
        cases h
        exact k_iret C B dX12_rank_99
    · rw [if_neg c_2] at h
      refine lv_aload_n hx hb dX12_rank_32 rfl (lv_at hl 0 rfl) ?_
      refine gfX12_rank_68 C B 0 rfl rfl dX12_rank_33 ?_
      refine lv_iload hx hb dX12_rank_36 (lv_at hl 4 rfl) ?_
      obtain ⟨b_4, h⟩ := bnd_some h
      refine k_iald C B 20 0 rfl rfl b_4 dX12_rank_38 ?_
      refine lv_aload_n hx hb dX12_rank_39 rfl (lv_at hl 0 rfl) ?_
      refine gfX12_rank_71 C B 0 rfl rfl dX12_rank_40 ?_
      refine lv_iload_n hx hb dX12_rank_43 rfl (lv_at hl 2 rfl) ?_
      obtain ⟨b_5, h⟩ := bnd_some h
      refine k_iald C B 21 0 rfl rfl b_5 dX12_rank_44 ?_
      refine lv_imul hx hb dX12_rank_45 ?_
      refine lv_aload_n hx hb dX12_rank_46 rfl (lv_at hl 0 rfl) ?_
      refine gfX12_rank_68 C B 0 rfl rfl dX12_rank_47 ?_
      refine lv_iload_n hx hb dX12_rank_50 rfl (lv_at hl 2 rfl) ?_
      refine k_iald C B 20 0 rfl rfl b_5 dX12_rank_51 ?_
      refine lv_aload_n hx hb dX12_rank_52 rfl (lv_at hl 0 rfl) ?_
      refine gfX12_rank_71 C B 0 rfl rfl dX12_rank_53 ?_
      refine lv_iload hx hb dX12_rank_56 (lv_at hl 4 rfl) ?_
      refine k_iald C B 21 0 rfl rfl b_4 dX12_rank_58 ?_
      refine lv_imul hx hb dX12_rank_59 ?_
      refine lv_isub hx hb dX12_rank_60 ?_
      refine lv_istore (lv' := [(5, .int (((mo_blameUpper (Int32.toNatClampNeg x4)) * (mo_blameLower (Int32.toNatClampNeg x2))) - ((mo_blameUpper (Int32.toNatClampNeg x2)) * (mo_blameLower (Int32.toNatClampNeg x4))))), (0, .ref (b 0)), (1, .int x1), (2, .int x2), (3, .int x3), (4, .int x4)]) hx hb dX12_rank_61 hl (by decide) rfl (fun ls hl => ?_)
      exact qX12_rank_63 C hk6 ih x1 x2 x3 x4 (((mo_blameUpper (Int32.toNatClampNeg x4)) * (mo_blameLower (Int32.toNatClampNeg x2))) - ((mo_blameUpper (Int32.toNatClampNeg x2)) * (mo_blameLower (Int32.toNatClampNeg x4)))) mo_value mo_isLaid mo_changes mo_changeNode mo_changeSign mo_differs mo_results mo_own mo_blameUpper mo_blameLower h H locs ls B (lv_sub hl [1, 2, 3, 4, 5, 0] rfl)
set_option maxHeartbeats 4000000 in
set_option maxRecDepth 100000 in
theorem qX12_rank_6 (C : CT p s m args meth c RX12 cX12_rank 6 (some .int) wsX12_rank D A (tyl cI cJ cT) Es) {N : Nat} {mo_signs : Nat → Int32} {mo_signMany : Int32} {mo_nodeSign : Nat → Int32} {mo_nodeOn : Nat → Int32} {mo_nodeSize : Nat → Int32} {mo_nodeMany : Nat → Int32} {mo_due : Nat → Int32} {mo_openNode : Nat → Int32} {mo_kinds : Nat → Int32} {mo_testInputs : Nat → Int32} {mo_testDue : Nat → Int32} {mo_tests : Int32} {mo_noticed : Nat → Int32} {mo_missed : Nat → Int32} {mo_leastFrom : Nat → Int32} {z_r : Int32} {z_mo_value : Nat → Int32} {z_mo_isLaid : Int32} {z_mo_changes : Int32} {z_mo_changeNode : Nat → Int32} {z_mo_changeSign : Nat → Int32} {z_mo_differs : Nat → Int32} {z_mo_results : Nat → Int32} {z_mo_own : Nat → Int32} {z_mo_blameUpper : Nat → Int32} {z_mo_blameLower : Nat → Int32} : ∀ (n : Nat) (x1 : Int32) (x2 : Int32) (mo_value : Nat → Int32) (mo_isLaid : Int32) (mo_changes : Int32) (mo_changeNode : Nat → Int32) (mo_changeSign : Nat → Int32) (mo_differs : Nat → Int32) (mo_results : Nat → Int32) (mo_own : Nat → Int32) (mo_blameUpper : Nat → Int32) (mo_blameLower : Nat → Int32), bX12_rank_6 N mo_nodeSign mo_nodeSize mo_nodeMany mo_kinds mo_testInputs mo_testDue mo_tests n x1 x2 mo_value mo_isLaid mo_changes mo_changeNode mo_changeSign mo_differs mo_results mo_own mo_blameUpper mo_blameLower = some (z_r, z_mo_value, z_mo_isLaid, z_mo_changes, z_mo_changeNode, z_mo_changeSign, z_mo_differs, z_mo_results, z_mo_own, z_mo_blameUpper, z_mo_blameLower) → ∀ (H : Heap) (locs : List Loc) (ls : Array Slot), DB D A (wd_mo a b cI cJ cT mo_signs mo_signMany mo_nodeSign mo_nodeOn mo_nodeSize mo_nodeMany mo_due mo_openNode mo_value mo_isLaid mo_changes mo_changeNode mo_changeSign mo_differs mo_results mo_own mo_kinds mo_testInputs mo_testDue mo_tests mo_noticed mo_missed mo_leastFrom mo_blameUpper mo_blameLower) s H locs → lv_has ls 6 [(0, .ref (b 0)), (1, .int x1), (2, .int x2)] → W p l e rmX12_rank s m args below meth c H locs 0 0 (ZI below args s D A (tyl cI cJ cT) z_r (wd_mo a b cI cJ cT mo_signs mo_signMany mo_nodeSign mo_nodeOn mo_nodeSize mo_nodeMany mo_due mo_openNode z_mo_value z_mo_isLaid z_mo_changes z_mo_changeNode z_mo_changeSign z_mo_differs z_mo_results z_mo_own mo_kinds mo_testInputs mo_testDue mo_tests mo_noticed mo_missed mo_leastFrom z_mo_blameUpper z_mo_blameLower) 0 0) (F0 m 6 ls []) := by
  have hx := C.1.1
  have hb := C.1.2.1
  have hown := C.1.2.2.2.1
  have hts := C.1.2.2.2.2
  intro n
  induction n with
  | zero => intro x1 x2 mo_value mo_isLaid mo_changes mo_changeNode mo_changeSign mo_differs mo_results mo_own mo_blameUpper mo_blameLower h; cases h
  | succ n ih =>
    intro x1 x2 mo_value mo_isLaid mo_changes mo_changeNode mo_changeSign mo_differs mo_results mo_own mo_blameUpper mo_blameLower h H locs ls B hl
    rw [bX12_rank_6] at h
    refine lv_iload_n hx hb dX12_rank_6 rfl (lv_at hl 2 rfl) ?_
    refine lv_aload_n hx hb dX12_rank_7 rfl (lv_at hl 0 rfl) ?_
    refine gfX12_rank_22 C B 0 rfl rfl dX12_rank_8 ?_
    refine lv_iconst (v := 0) hx hb dX12_rank_11 (by decide) ?_
    refine k_iald C B 5 0 rfl rfl (vp_lit (by decide)) dX12_rank_12 ?_
    refine lv_icmp_ge (tgt := 106) hx hb dX12_rank_13 (by decide) (fun c_2 => ?_) (fun c_2 => ?_)
    · rw [if_pos c_2] at h
      refine lv_bipush (v := -6) hx hb dX12_rank_106 (by decide) ?_
      cases h
      exact k_iret C B dX12_rank_108
    · rw [if_neg c_2] at h
      refine lv_iconst (v := 0) hx hb dX12_rank_16 (by decide) ?_
      refine lv_istore_n (lv' := [(3, .int (0 : Int32)), (0, .ref (b 0)), (1, .int x1), (2, .int x2)]) hx hb dX12_rank_17 rfl hl (by decide) rfl (fun ls hl => ?_)
      refine lv_iconst (v := 0) hx hb dX12_rank_18 (by decide) ?_
      refine lv_istore (lv' := [(4, .int (0 : Int32)), (3, .int (0 : Int32)), (0, .ref (b 0)), (1, .int x1), (2, .int x2)]) hx hb dX12_rank_19 hl (by decide) rfl (fun ls hl => ?_)
      exact qX12_rank_21 C ih N x1 x2 (0 : Int32) (0 : Int32) mo_value mo_isLaid mo_changes mo_changeNode mo_changeSign mo_differs mo_results mo_own mo_blameUpper mo_blameLower h H locs ls B (lv_sub hl [2, 3, 4, 1, 0] rfl)
set_option maxHeartbeats 4000000 in
set_option maxRecDepth 100000 in
theorem qX12_rank_0 (C : CT p s m args meth c RX12 cX12_rank 6 (some .int) wsX12_rank D A (tyl cI cJ cT) Es) {N : Nat} {mo_signs : Nat → Int32} {mo_signMany : Int32} {mo_nodeSign : Nat → Int32} {mo_nodeOn : Nat → Int32} {mo_nodeSize : Nat → Int32} {mo_nodeMany : Nat → Int32} {mo_due : Nat → Int32} {mo_openNode : Nat → Int32} {mo_kinds : Nat → Int32} {mo_testInputs : Nat → Int32} {mo_testDue : Nat → Int32} {mo_tests : Int32} {mo_noticed : Nat → Int32} {mo_missed : Nat → Int32} {mo_leastFrom : Nat → Int32} {z_r : Int32} {z_mo_value : Nat → Int32} {z_mo_isLaid : Int32} {z_mo_changes : Int32} {z_mo_changeNode : Nat → Int32} {z_mo_changeSign : Nat → Int32} {z_mo_differs : Nat → Int32} {z_mo_results : Nat → Int32} {z_mo_own : Nat → Int32} {z_mo_blameUpper : Nat → Int32} {z_mo_blameLower : Nat → Int32} : ∀ (x1 : Int32) (mo_value : Nat → Int32) (mo_isLaid : Int32) (mo_changes : Int32) (mo_changeNode : Nat → Int32) (mo_changeSign : Nat → Int32) (mo_differs : Nat → Int32) (mo_results : Nat → Int32) (mo_own : Nat → Int32) (mo_blameUpper : Nat → Int32) (mo_blameLower : Nat → Int32), fX12_rank N mo_nodeSign mo_nodeSize mo_nodeMany mo_kinds mo_testInputs mo_testDue mo_tests x1 mo_value mo_isLaid mo_changes mo_changeNode mo_changeSign mo_differs mo_results mo_own mo_blameUpper mo_blameLower = some (z_r, z_mo_value, z_mo_isLaid, z_mo_changes, z_mo_changeNode, z_mo_changeSign, z_mo_differs, z_mo_results, z_mo_own, z_mo_blameUpper, z_mo_blameLower) → ∀ (H : Heap) (locs : List Loc) (ls : Array Slot), DB D A (wd_mo a b cI cJ cT mo_signs mo_signMany mo_nodeSign mo_nodeOn mo_nodeSize mo_nodeMany mo_due mo_openNode mo_value mo_isLaid mo_changes mo_changeNode mo_changeSign mo_differs mo_results mo_own mo_kinds mo_testInputs mo_testDue mo_tests mo_noticed mo_missed mo_leastFrom mo_blameUpper mo_blameLower) s H locs → lv_has ls 6 [(0, .ref (b 0)), (1, .int x1)] → W p l e rmX12_rank s m args below meth c H locs 0 0 (ZI below args s D A (tyl cI cJ cT) z_r (wd_mo a b cI cJ cT mo_signs mo_signMany mo_nodeSign mo_nodeOn mo_nodeSize mo_nodeMany mo_due mo_openNode z_mo_value z_mo_isLaid z_mo_changes z_mo_changeNode z_mo_changeSign z_mo_differs z_mo_results z_mo_own mo_kinds mo_testInputs mo_testDue mo_tests mo_noticed mo_missed mo_leastFrom z_mo_blameUpper z_mo_blameLower) 0 0) (F0 m 0 ls []) := by
  have hx := C.1.1
  have hb := C.1.2.1
  have hown := C.1.2.2.2.1
  have hts := C.1.2.2.2.2
  intro x1 mo_value mo_isLaid mo_changes mo_changeNode mo_changeSign mo_differs mo_results mo_own mo_blameUpper mo_blameLower h H locs ls B hl
  rw [fX12_rank] at h
  refine lv_aload_n hx hb dX12_rank_0 rfl (lv_at hl 0 rfl) ?_
  obtain ⟨⟨mo_value_1, mo_isLaid_2, mo_changes_3, mo_changeNode_4, mo_changeSign_5, mo_differs_6, mo_results_7, mo_own_8, mo_blameUpper_9, mo_blameLower_10⟩, g_11, h⟩ := ob_some h
  try dsimp only at h
  refine kc_VV C B (q0 := 0) (ci := 12) (As := []) (rest := []) (w2 := (wd_mo a b cI cJ cT mo_signs mo_signMany mo_nodeSign mo_nodeOn mo_nodeSize mo_nodeMany mo_due mo_openNode mo_value_1 mo_isLaid_2 mo_changes_3 mo_changeNode_4 mo_changeSign_5 mo_differs_6 mo_results_7 mo_own_8 mo_kinds mo_testInputs mo_testDue mo_tests mo_noticed mo_missed mo_leastFrom mo_blameUpper_9 mo_blameLower_10)) (tX12_findBlame (a := a) (b := b) N g_11) gX12_rank_X12_findBlame rfl ⟨rfl, rfl⟩ ⟨rfl, hdX12_findBlame⟩ ⟨Nat.le_of_ble_eq_true rfl, Nat.le_of_ble_eq_true rfl⟩ rfl rfl [0, 1, 2, 3, 4, 5, 6, 7, 8, 9, 10, 11, 12, 13, 14, 15, 16, 17, 18, 19, 20, 21] [] [0, 1, 2, 3, 4, 5, 6, 7, 8, 9, 10, 11, 12, 13, 14, 15, 16, 17, 18, 19, 20, 21] rfl rfl rfl rfl rfl rfl rfl rfl hl.1 rfl (Nat.le_of_ble_eq_true rfl) ⟨Nat.zero_le _, Nat.zero_le _⟩ dX12_rank_1 (fun H locs B => ?_)
  refine lv_iconst (v := 0) hx hb dX12_rank_4 (by decide) ?_
  refine lv_istore_n (lv' := [(2, .int (0 : Int32)), (0, .ref (b 0)), (1, .int x1)]) hx hb dX12_rank_5 rfl hl (by decide) rfl (fun ls hl => ?_)
  exact qX12_rank_6 C N x1 (0 : Int32) mo_value_1 mo_isLaid_2 mo_changes_3 mo_changeNode_4 mo_changeSign_5 mo_differs_6 mo_results_7 mo_own_8 mo_blameUpper_9 mo_blameLower_10 h H locs ls B (lv_sub hl [1, 2, 0] rfl)
end
theorem tX12_rank {l : Launch} {D : va_G} {Es : (Nat → Nat) × (Nat → Nat)} {a b : Nat → Nat} {cI cJ cT : ClassId} {mo_signs : Nat → Int32} {mo_signMany : Int32} {mo_nodeSign : Nat → Int32} {mo_nodeOn : Nat → Int32} {mo_nodeSize : Nat → Int32} {mo_nodeMany : Nat → Int32} {mo_due : Nat → Int32} {mo_openNode : Nat → Int32} {mo_value : Nat → Int32} {mo_isLaid : Int32} {mo_changes : Int32} {mo_changeNode : Nat → Int32} {mo_changeSign : Nat → Int32} {mo_differs : Nat → Int32} {mo_results : Nat → Int32} {mo_own : Nat → Int32} {mo_kinds : Nat → Int32} {mo_testInputs : Nat → Int32} {mo_testDue : Nat → Int32} {mo_tests : Int32} {mo_noticed : Nat → Int32} {mo_missed : Nat → Int32} {mo_leastFrom : Nat → Int32} {mo_blameUpper : Nat → Int32} {mo_blameLower : Nat → Int32} {x1 : Int32} {z_r : Int32} {z_mo_value : Nat → Int32} {z_mo_isLaid : Int32} {z_mo_changes : Int32} {z_mo_changeNode : Nat → Int32} {z_mo_changeSign : Nat → Int32} {z_mo_differs : Nat → Int32} {z_mo_results : Nat → Int32} {z_mo_own : Nat → Int32} {z_mo_blameUpper : Nat → Int32} {z_mo_blameLower : Nat → Int32} (N : Nat) (h : fX12_rank N mo_nodeSign mo_nodeSize mo_nodeMany mo_kinds mo_testInputs mo_testDue mo_tests x1 mo_value mo_isLaid mo_changes mo_changeNode mo_changeSign mo_differs mo_results mo_own mo_blameUpper mo_blameLower = some (z_r, z_mo_value, z_mo_isLaid, z_mo_changes, z_mo_changeNode, z_mo_changeSign, z_mo_differs, z_mo_results, z_mo_own, z_mo_blameUpper, z_mo_blameLower)) : CtI l yX12_rank wsX12_rank rmX12_rank D (tyl cI cJ cT) Es [.ref (b 0), .int x1] (wd_mo a b cI cJ cT mo_signs mo_signMany mo_nodeSign mo_nodeOn mo_nodeSize mo_nodeMany mo_due mo_openNode mo_value mo_isLaid mo_changes mo_changeNode mo_changeSign mo_differs mo_results mo_own mo_kinds mo_testInputs mo_testDue mo_tests mo_noticed mo_missed mo_leastFrom mo_blameUpper mo_blameLower) z_r (wd_mo a b cI cJ cT mo_signs mo_signMany mo_nodeSign mo_nodeOn mo_nodeSize mo_nodeMany mo_due mo_openNode z_mo_value z_mo_isLaid z_mo_changes z_mo_changeNode z_mo_changeSign z_mo_differs z_mo_results z_mo_own mo_kinds mo_testInputs mo_testDue mo_tests mo_noticed mo_missed mo_leastFrom z_mo_blameUpper z_mo_blameLower) :=
  CtI.of (own := RX12) (cc := cX12_rank) (nL := 6) (ret := (some .int)) (by decide +kernel) rfl rfl (Nat.le_of_ble_eq_true rfl) rfl (fun p e s m below meth c A ls C B hl => qX12_rank_0 C (N := N) x1 mo_value mo_isLaid mo_changes mo_changeNode mo_changeSign mo_differs mo_results mo_own mo_blameUpper mo_blameLower h _ _ _ B hl)

abbrev rmX12_doesMend : Room := { frames := 0, cells := 0, slots := 0, locals := 0 }
theorem hdX12_doesMend : yX12_doesMend.cls ≠ "java/lang/invoke/MethodHandle" ∧ yX12_doesMend.cls ≠ "java/lang/invoke/VarHandle" ∧ (parseMethodDescriptor yX12_doesMend.desc).map (fun d => d.parameters.length) = some 1 := by decide +kernel
theorem iX12_doesMend_X12 : ∀ w ∈ wsX120, w ∈ wsX12_doesMend := by decide +kernel
theorem gfX12_doesMend_155 {p : Program} {l : Launch} {e : Env} {R : Room} {s : State} {m : MethodId} {args : Array Value} {below : List Frame} {meth : Method} {c : Code} {H : Heap} {locs : List Loc} {cells slots : Nat} {Q : State → Prop} {D : va_G} {A : Nat → Prop} {tys : List (ClassId × FieldType)} {Es : (Nat → Nat) × (Nat → Nat)} {ws : va_W} {pc : Nat} {ls : Array Slot} {rest : List Value} {a : Nat} (C : CT p s m args meth c RX12 cX12_doesMend 4 (some .boolean) wsX12_doesMend D A tys Es) (B : DB D A ws s H locs) (q0 : Nat) {fs : List Value} {v : Value} (he : ws[q0]? = some (a, .inr (12, fs))) (hv : fs[19]? = some v) (hdg : decode cX12_doesMend pc = .ok (.getfield 155, 3)) (kk : W p l e R s m args below meth c H locs cells slots Q (F0 m (pc + 3) ls (v :: rest))) : W p l e R s m args below meth c H locs cells slots Q (F0 m pc ls (.ref a :: rest)) :=
  k_get (Cn := RX12) (T := TX12) (N := 25) (index := 155) C B iX12_doesMend_X12 rfl 19 (by decide) (by decide +kernel) q0 he hv hdg kk
theorem gfX12_doesMend_44 {p : Program} {l : Launch} {e : Env} {R : Room} {s : State} {m : MethodId} {args : Array Value} {below : List Frame} {meth : Method} {c : Code} {H : Heap} {locs : List Loc} {cells slots : Nat} {Q : State → Prop} {D : va_G} {A : Nat → Prop} {tys : List (ClassId × FieldType)} {Es : (Nat → Nat) × (Nat → Nat)} {ws : va_W} {pc : Nat} {ls : Array Slot} {rest : List Value} {a : Nat} (C : CT p s m args meth c RX12 cX12_doesMend 4 (some .boolean) wsX12_doesMend D A tys Es) (B : DB D A ws s H locs) (q0 : Nat) {fs : List Value} {v : Value} (he : ws[q0]? = some (a, .inr (12, fs))) (hv : fs[14]? = some v) (hdg : decode cX12_doesMend pc = .ok (.getfield 44, 3)) (kk : W p l e R s m args below meth c H locs cells slots Q (F0 m (pc + 3) ls (v :: rest))) : W p l e R s m args below meth c H locs cells slots Q (F0 m pc ls (.ref a :: rest)) :=
  k_get (Cn := RX12) (T := TX12) (N := 25) (index := 44) C B iX12_doesMend_X12 rfl 14 (by decide) (by decide +kernel) q0 he hv hdg kk
theorem gfX12_doesMend_53 {p : Program} {l : Launch} {e : Env} {R : Room} {s : State} {m : MethodId} {args : Array Value} {below : List Frame} {meth : Method} {c : Code} {H : Heap} {locs : List Loc} {cells slots : Nat} {Q : State → Prop} {D : va_G} {A : Nat → Prop} {tys : List (ClassId × FieldType)} {Es : (Nat → Nat) × (Nat → Nat)} {ws : va_W} {pc : Nat} {ls : Array Slot} {rest : List Value} {a : Nat} (C : CT p s m args meth c RX12 cX12_doesMend 4 (some .boolean) wsX12_doesMend D A tys Es) (B : DB D A ws s H locs) (q0 : Nat) {fs : List Value} {v : Value} (he : ws[q0]? = some (a, .inr (12, fs))) (hv : fs[17]? = some v) (hdg : decode cX12_doesMend pc = .ok (.getfield 53, 3)) (kk : W p l e R s m args below meth c H locs cells slots Q (F0 m (pc + 3) ls (v :: rest))) : W p l e R s m args below meth c H locs cells slots Q (F0 m pc ls (.ref a :: rest)) :=
  k_get (Cn := RX12) (T := TX12) (N := 25) (index := 53) C B iX12_doesMend_X12 rfl 17 (by decide) (by decide +kernel) q0 he hv hdg kk
theorem gfX12_doesMend_56 {p : Program} {l : Launch} {e : Env} {R : Room} {s : State} {m : MethodId} {args : Array Value} {below : List Frame} {meth : Method} {c : Code} {H : Heap} {locs : List Loc} {cells slots : Nat} {Q : State → Prop} {D : va_G} {A : Nat → Prop} {tys : List (ClassId × FieldType)} {Es : (Nat → Nat) × (Nat → Nat)} {ws : va_W} {pc : Nat} {ls : Array Slot} {rest : List Value} {a : Nat} (C : CT p s m args meth c RX12 cX12_doesMend 4 (some .boolean) wsX12_doesMend D A tys Es) (B : DB D A ws s H locs) (q0 : Nat) {fs : List Value} {v : Value} (he : ws[q0]? = some (a, .inr (12, fs))) (hv : fs[18]? = some v) (hdg : decode cX12_doesMend pc = .ok (.getfield 56, 3)) (kk : W p l e R s m args below meth c H locs cells slots Q (F0 m (pc + 3) ls (v :: rest))) : W p l e R s m args below meth c H locs cells slots Q (F0 m pc ls (.ref a :: rest)) :=
  k_get (Cn := RX12) (T := TX12) (N := 25) (index := 56) C B iX12_doesMend_X12 rfl 18 (by decide) (by decide +kernel) q0 he hv hdg kk
section
variable {p : Program} {l : Launch} {e : Env} {s : State} {m : MethodId} {args : Array Value} {below : List Frame} {meth : Method} {c : Code} {D : va_G} {A : Nat → Prop} {Es : (Nat → Nat) × (Nat → Nat)} {a b : Nat → Nat} {cI cJ cT : ClassId}
set_option maxHeartbeats 4000000 in
set_option maxRecDepth 100000 in
theorem qX12_doesMend_4 (C : CT p s m args meth c RX12 cX12_doesMend 4 (some .boolean) wsX12_doesMend D A (tyl cI cJ cT) Es) {N : Nat} {mo_signs : Nat → Int32} {mo_signMany : Int32} {mo_nodeSign : Nat → Int32} {mo_nodeOn : Nat → Int32} {mo_nodeSize : Nat → Int32} {mo_nodeMany : Nat → Int32} {mo_due : Nat → Int32} {mo_openNode : Nat → Int32} {mo_value : Nat → Int32} {mo_isLaid : Int32} {mo_changes : Int32} {mo_changeNode : Nat → Int32} {mo_changeSign : Nat → Int32} {mo_differs : Nat → Int32} {mo_results : Nat → Int32} {mo_own : Nat → Int32} {mo_kinds : Nat → Int32} {mo_testInputs : Nat → Int32} {mo_testDue : Nat → Int32} {mo_tests : Int32} {mo_noticed : Nat → Int32} {mo_missed : Nat → Int32} {mo_leastFrom : Nat → Int32} {mo_blameUpper : Nat → Int32} {mo_blameLower : Nat → Int32} {z_r : Int32} : ∀ (n : Nat) (x1 : Int32) (x2 : Int32) (x3 : Int32), bX12_doesMend_4 N mo_results mo_testInputs mo_testDue mo_tests n x1 x2 x3 = some z_r → ∀ (H : Heap) (locs : List Loc) (ls : Array Slot), DB D A (wd_mo a b cI cJ cT mo_signs mo_signMany mo_nodeSign mo_nodeOn mo_nodeSize mo_nodeMany mo_due mo_openNode mo_value mo_isLaid mo_changes mo_changeNode mo_changeSign mo_differs mo_results mo_own mo_kinds mo_testInputs mo_testDue mo_tests mo_noticed mo_missed mo_leastFrom mo_blameUpper mo_blameLower) s H locs → lv_has ls 4 [(0, .ref (b 0)), (1, .int x1), (2, .int x2), (3, .int x3)] → W p l e rmX12_doesMend s m args below meth c H locs 0 0 (ZI below args s D A (tyl cI cJ cT) z_r (wd_mo a b cI cJ cT mo_signs mo_signMany mo_nodeSign mo_nodeOn mo_nodeSize mo_nodeMany mo_due mo_openNode mo_value mo_isLaid mo_changes mo_changeNode mo_changeSign mo_differs mo_results mo_own mo_kinds mo_testInputs mo_testDue mo_tests mo_noticed mo_missed mo_leastFrom mo_blameUpper mo_blameLower) 0 0) (F0 m 4 ls []) := by
  have hx := C.1.1
  have hb := C.1.2.1
  have hown := C.1.2.2.2.1
  have hts := C.1.2.2.2.2
  intro n
  induction n with
  | zero => intro x1 x2 x3 h; cases h
  | succ n ih =>
    intro x1 x2 x3 h H locs ls B hl
    rw [bX12_doesMend_4] at h
    refine lv_iload_n hx hb dX12_doesMend_4 rfl (lv_at hl 3 rfl) ?_
    refine lv_aload_n hx hb dX12_doesMend_5 rfl (lv_at hl 0 rfl) ?_
    refine gfX12_doesMend_155 C B 0 rfl rfl dX12_doesMend_6 ?_
    refine lv_icmp_ge (tgt := 54) hx hb dX12_doesMend_9 (by decide) (fun c_1 => ?_) (fun c_1 => ?_)
    · rw [if_pos c_1] at h
      refine lv_iload_n hx hb dX12_doesMend_54 rfl (lv_at hl 2 rfl) ?_
      obtain ⟨z_2, h⟩ := bo_some h
      cases h
      exact k_zret C B z_2 dX12_doesMend_55
    · rw [if_neg c_1] at h
      refine lv_iload_n hx hb dX12_doesMend_12 rfl (lv_at hl 2 rfl) ?_
      refine lv_if_eq (tgt := 46) hx hb dX12_doesMend_13 (by decide) (fun c_3 => ?_) (fun c_3 => ?_)
      · rw [if_pos c_3] at h
        refine lv_iconst (v := 0) hx hb dX12_doesMend_46 (by decide) ?_
        refine lv_istore_n (lv' := [(2, .int (0 : Int32)), (0, .ref (b 0)), (1, .int x1), (3, .int x3)]) hx hb dX12_doesMend_47 rfl hl (by decide) rfl (fun ls hl => ?_)
        refine lv_iinc (v := (x3 + 1)) (lv' := [(3, .int (x3 + 1)), (2, .int (0 : Int32)), (0, .ref (b 0)), (1, .int x1)]) hx hb dX12_doesMend_48 hl (k := 3) rfl rfl (by decide) rfl (fun ls hl => ?_)
        refine lv_goto (tgt := 4) hx hb dX12_doesMend_51 (by decide) ?_
        exact ih x1 (0 : Int32) (x3 + 1) h H locs ls B (lv_sub hl [2, 3, 1, 0] rfl)
      · rw [if_neg c_3] at h
        refine lv_aload_n hx hb dX12_doesMend_16 rfl (lv_at hl 0 rfl) ?_
        refine gfX12_doesMend_44 C B 0 rfl rfl dX12_doesMend_17 ?_
        refine lv_sipush (v := 512) hx hb dX12_doesMend_20 (by decide) ?_
        refine lv_iload_n hx hb dX12_doesMend_23 rfl (lv_at hl 1 rfl) ?_
        refine lv_imul hx hb dX12_doesMend_24 ?_
        refine lv_aload_n hx hb dX12_doesMend_25 rfl (lv_at hl 0 rfl) ?_
        refine gfX12_doesMend_53 C B 0 rfl rfl dX12_doesMend_26 ?_
        refine lv_iload_n hx hb dX12_doesMend_29 rfl (lv_at hl 3 rfl) ?_
        obtain ⟨b_4, h⟩ := bnd_some h
        refine k_iald C B 15 0 rfl rfl b_4 dX12_doesMend_30 ?_
        refine lv_iadd hx hb dX12_doesMend_31 ?_
        obtain ⟨b_5, h⟩ := bnd_some h
        refine k_iald C B 12 0 rfl rfl b_5 dX12_doesMend_32 ?_
        refine lv_aload_n hx hb dX12_doesMend_33 rfl (lv_at hl 0 rfl) ?_
        refine gfX12_doesMend_56 C B 0 rfl rfl dX12_doesMend_34 ?_
        refine lv_iload_n hx hb dX12_doesMend_37 rfl (lv_at hl 3 rfl) ?_
        refine k_iald C B 16 0 rfl rfl b_4 dX12_doesMend_38 ?_
        refine lv_icmp_ne (tgt := 46) hx hb dX12_doesMend_39 (by decide) (fun c_6 => ?_) (fun c_6 => ?_)
        · rw [if_neg c_6] at h
          refine lv_iconst (v := 0) hx hb dX12_doesMend_46 (by decide) ?_
          refine lv_istore_n (lv' := [(2, .int (0 : Int32)), (0, .ref (b 0)), (1, .int x1), (3, .int x3)]) hx hb dX12_doesMend_47 rfl hl (by decide) rfl (fun ls hl => ?_)
          refine lv_iinc (v := (x3 + 1)) (lv' := [(3, .int (x3 + 1)), (2, .int (0 : Int32)), (0, .ref (b 0)), (1, .int x1)]) hx hb dX12_doesMend_48 hl (k := 3) rfl rfl (by decide) rfl (fun ls hl => ?_)
          refine lv_goto (tgt := 4) hx hb dX12_doesMend_51 (by decide) ?_
          exact ih x1 (0 : Int32) (x3 + 1) h H locs ls B (lv_sub hl [2, 3, 1, 0] rfl)
        · rw [if_pos c_6] at h
          refine lv_iconst (v := 1) hx hb dX12_doesMend_42 (by decide) ?_
          refine lv_goto (tgt := 47) hx hb dX12_doesMend_43 (by decide) ?_
          refine lv_istore_n (lv' := [(2, .int (1 : Int32)), (0, .ref (b 0)), (1, .int x1), (3, .int x3)]) hx hb dX12_doesMend_47 rfl hl (by decide) rfl (fun ls hl => ?_)
          refine lv_iinc (v := (x3 + 1)) (lv' := [(3, .int (x3 + 1)), (2, .int (1 : Int32)), (0, .ref (b 0)), (1, .int x1)]) hx hb dX12_doesMend_48 hl (k := 3) rfl rfl (by decide) rfl (fun ls hl => ?_)
          refine lv_goto (tgt := 4) hx hb dX12_doesMend_51 (by decide) ?_
          exact ih x1 (1 : Int32) (x3 + 1) h H locs ls B (lv_sub hl [2, 3, 1, 0] rfl)
set_option maxHeartbeats 4000000 in
set_option maxRecDepth 100000 in
theorem qX12_doesMend_0 (C : CT p s m args meth c RX12 cX12_doesMend 4 (some .boolean) wsX12_doesMend D A (tyl cI cJ cT) Es) {N : Nat} {mo_signs : Nat → Int32} {mo_signMany : Int32} {mo_nodeSign : Nat → Int32} {mo_nodeOn : Nat → Int32} {mo_nodeSize : Nat → Int32} {mo_nodeMany : Nat → Int32} {mo_due : Nat → Int32} {mo_openNode : Nat → Int32} {mo_value : Nat → Int32} {mo_isLaid : Int32} {mo_changes : Int32} {mo_changeNode : Nat → Int32} {mo_changeSign : Nat → Int32} {mo_differs : Nat → Int32} {mo_results : Nat → Int32} {mo_own : Nat → Int32} {mo_kinds : Nat → Int32} {mo_testInputs : Nat → Int32} {mo_testDue : Nat → Int32} {mo_tests : Int32} {mo_noticed : Nat → Int32} {mo_missed : Nat → Int32} {mo_leastFrom : Nat → Int32} {mo_blameUpper : Nat → Int32} {mo_blameLower : Nat → Int32} {z_r : Int32} : ∀ (x1 : Int32), fX12_doesMend N mo_results mo_testInputs mo_testDue mo_tests x1 = some z_r → ∀ (H : Heap) (locs : List Loc) (ls : Array Slot), DB D A (wd_mo a b cI cJ cT mo_signs mo_signMany mo_nodeSign mo_nodeOn mo_nodeSize mo_nodeMany mo_due mo_openNode mo_value mo_isLaid mo_changes mo_changeNode mo_changeSign mo_differs mo_results mo_own mo_kinds mo_testInputs mo_testDue mo_tests mo_noticed mo_missed mo_leastFrom mo_blameUpper mo_blameLower) s H locs → lv_has ls 4 [(0, .ref (b 0)), (1, .int x1)] → W p l e rmX12_doesMend s m args below meth c H locs 0 0 (ZI below args s D A (tyl cI cJ cT) z_r (wd_mo a b cI cJ cT mo_signs mo_signMany mo_nodeSign mo_nodeOn mo_nodeSize mo_nodeMany mo_due mo_openNode mo_value mo_isLaid mo_changes mo_changeNode mo_changeSign mo_differs mo_results mo_own mo_kinds mo_testInputs mo_testDue mo_tests mo_noticed mo_missed mo_leastFrom mo_blameUpper mo_blameLower) 0 0) (F0 m 0 ls []) := by
  have hx := C.1.1
  have hb := C.1.2.1
  have hown := C.1.2.2.2.1
  have hts := C.1.2.2.2.2
  intro x1 h H locs ls B hl
  rw [fX12_doesMend] at h
  refine lv_iconst (v := 1) hx hb dX12_doesMend_0 (by decide) ?_
  refine lv_istore_n (lv' := [(2, .int (1 : Int32)), (0, .ref (b 0)), (1, .int x1)]) hx hb dX12_doesMend_1 rfl hl (by decide) rfl (fun ls hl => ?_)
  refine lv_iconst (v := 0) hx hb dX12_doesMend_2 (by decide) ?_
  refine lv_istore_n (lv' := [(3, .int (0 : Int32)), (2, .int (1 : Int32)), (0, .ref (b 0)), (1, .int x1)]) hx hb dX12_doesMend_3 rfl hl (by decide) rfl (fun ls hl => ?_)
  exact qX12_doesMend_4 C N x1 (1 : Int32) (0 : Int32) h H locs ls B (lv_sub hl [2, 3, 1, 0] rfl)
end
theorem tX12_doesMend {l : Launch} {D : va_G} {Es : (Nat → Nat) × (Nat → Nat)} {a b : Nat → Nat} {cI cJ cT : ClassId} {mo_signs : Nat → Int32} {mo_signMany : Int32} {mo_nodeSign : Nat → Int32} {mo_nodeOn : Nat → Int32} {mo_nodeSize : Nat → Int32} {mo_nodeMany : Nat → Int32} {mo_due : Nat → Int32} {mo_openNode : Nat → Int32} {mo_value : Nat → Int32} {mo_isLaid : Int32} {mo_changes : Int32} {mo_changeNode : Nat → Int32} {mo_changeSign : Nat → Int32} {mo_differs : Nat → Int32} {mo_results : Nat → Int32} {mo_own : Nat → Int32} {mo_kinds : Nat → Int32} {mo_testInputs : Nat → Int32} {mo_testDue : Nat → Int32} {mo_tests : Int32} {mo_noticed : Nat → Int32} {mo_missed : Nat → Int32} {mo_leastFrom : Nat → Int32} {mo_blameUpper : Nat → Int32} {mo_blameLower : Nat → Int32} {x1 : Int32} {z_r : Int32} (N : Nat) (h : fX12_doesMend N mo_results mo_testInputs mo_testDue mo_tests x1 = some z_r) : CtI l yX12_doesMend wsX12_doesMend rmX12_doesMend D (tyl cI cJ cT) Es [.ref (b 0), .int x1] (wd_mo a b cI cJ cT mo_signs mo_signMany mo_nodeSign mo_nodeOn mo_nodeSize mo_nodeMany mo_due mo_openNode mo_value mo_isLaid mo_changes mo_changeNode mo_changeSign mo_differs mo_results mo_own mo_kinds mo_testInputs mo_testDue mo_tests mo_noticed mo_missed mo_leastFrom mo_blameUpper mo_blameLower) z_r (wd_mo a b cI cJ cT mo_signs mo_signMany mo_nodeSign mo_nodeOn mo_nodeSize mo_nodeMany mo_due mo_openNode mo_value mo_isLaid mo_changes mo_changeNode mo_changeSign mo_differs mo_results mo_own mo_kinds mo_testInputs mo_testDue mo_tests mo_noticed mo_missed mo_leastFrom mo_blameUpper mo_blameLower) :=
  CtI.of (own := RX12) (cc := cX12_doesMend) (nL := 4) (ret := (some .boolean)) (by decide +kernel) rfl rfl (Nat.le_of_ble_eq_true rfl) rfl (fun p e s m below meth c A ls C B hl => qX12_doesMend_0 C (N := N) x1 h _ _ _ B hl)

abbrev rmX12_areAlike : Room := { frames := 0, cells := 0, slots := 0, locals := 0 }
theorem hdX12_areAlike : yX12_areAlike.cls ≠ "java/lang/invoke/MethodHandle" ∧ yX12_areAlike.cls ≠ "java/lang/invoke/VarHandle" ∧ (parseMethodDescriptor yX12_areAlike.desc).map (fun d => d.parameters.length) = some 2 := by decide +kernel
theorem iX12_areAlike_X12 : ∀ w ∈ wsX120, w ∈ wsX12_areAlike := by decide +kernel
theorem gfX12_areAlike_44 {p : Program} {l : Launch} {e : Env} {R : Room} {s : State} {m : MethodId} {args : Array Value} {below : List Frame} {meth : Method} {c : Code} {H : Heap} {locs : List Loc} {cells slots : Nat} {Q : State → Prop} {D : va_G} {A : Nat → Prop} {tys : List (ClassId × FieldType)} {Es : (Nat → Nat) × (Nat → Nat)} {ws : va_W} {pc : Nat} {ls : Array Slot} {rest : List Value} {a : Nat} (C : CT p s m args meth c RX12 cX12_areAlike 5 (some .boolean) wsX12_areAlike D A tys Es) (B : DB D A ws s H locs) (q0 : Nat) {fs : List Value} {v : Value} (he : ws[q0]? = some (a, .inr (12, fs))) (hv : fs[14]? = some v) (hdg : decode cX12_areAlike pc = .ok (.getfield 44, 3)) (kk : W p l e R s m args below meth c H locs cells slots Q (F0 m (pc + 3) ls (v :: rest))) : W p l e R s m args below meth c H locs cells slots Q (F0 m pc ls (.ref a :: rest)) :=
  k_get (Cn := RX12) (T := TX12) (N := 25) (index := 44) C B iX12_areAlike_X12 rfl 14 (by decide) (by decide +kernel) q0 he hv hdg kk
section
variable {p : Program} {l : Launch} {e : Env} {s : State} {m : MethodId} {args : Array Value} {below : List Frame} {meth : Method} {c : Code} {D : va_G} {A : Nat → Prop} {Es : (Nat → Nat) × (Nat → Nat)} {a b : Nat → Nat} {cI cJ cT : ClassId}
set_option maxHeartbeats 4000000 in
set_option maxRecDepth 100000 in
theorem qX12_areAlike_5 (C : CT p s m args meth c RX12 cX12_areAlike 5 (some .boolean) wsX12_areAlike D A (tyl cI cJ cT) Es) {N : Nat} {mo_signs : Nat → Int32} {mo_signMany : Int32} {mo_nodeSign : Nat → Int32} {mo_nodeOn : Nat → Int32} {mo_nodeSize : Nat → Int32} {mo_nodeMany : Nat → Int32} {mo_due : Nat → Int32} {mo_openNode : Nat → Int32} {mo_value : Nat → Int32} {mo_isLaid : Int32} {mo_changes : Int32} {mo_changeNode : Nat → Int32} {mo_changeSign : Nat → Int32} {mo_differs : Nat → Int32} {mo_results : Nat → Int32} {mo_own : Nat → Int32} {mo_kinds : Nat → Int32} {mo_testInputs : Nat → Int32} {mo_testDue : Nat → Int32} {mo_tests : Int32} {mo_noticed : Nat → Int32} {mo_missed : Nat → Int32} {mo_leastFrom : Nat → Int32} {mo_blameUpper : Nat → Int32} {mo_blameLower : Nat → Int32} {z_r : Int32} : ∀ (n : Nat) (x1 : Int32) (x2 : Int32) (x3 : Int32) (x4 : Int32), bX12_areAlike_5 N mo_results n x1 x2 x3 x4 = some z_r → ∀ (H : Heap) (locs : List Loc) (ls : Array Slot), DB D A (wd_mo a b cI cJ cT mo_signs mo_signMany mo_nodeSign mo_nodeOn mo_nodeSize mo_nodeMany mo_due mo_openNode mo_value mo_isLaid mo_changes mo_changeNode mo_changeSign mo_differs mo_results mo_own mo_kinds mo_testInputs mo_testDue mo_tests mo_noticed mo_missed mo_leastFrom mo_blameUpper mo_blameLower) s H locs → lv_has ls 5 [(0, .ref (b 0)), (1, .int x1), (2, .int x2), (3, .int x3), (4, .int x4)] → W p l e rmX12_areAlike s m args below meth c H locs 0 0 (ZI below args s D A (tyl cI cJ cT) z_r (wd_mo a b cI cJ cT mo_signs mo_signMany mo_nodeSign mo_nodeOn mo_nodeSize mo_nodeMany mo_due mo_openNode mo_value mo_isLaid mo_changes mo_changeNode mo_changeSign mo_differs mo_results mo_own mo_kinds mo_testInputs mo_testDue mo_tests mo_noticed mo_missed mo_leastFrom mo_blameUpper mo_blameLower) 0 0) (F0 m 5 ls []) := by
  have hx := C.1.1
  have hb := C.1.2.1
  have hown := C.1.2.2.2.1
  have hts := C.1.2.2.2.2
  intro n
  induction n with
  | zero => intro x1 x2 x3 x4 h; cases h
  | succ n ih =>
    intro x1 x2 x3 x4 h H locs ls B hl
    rw [bX12_areAlike_5] at h
    refine lv_iload hx hb dX12_areAlike_5 (lv_at hl 4 rfl) ?_
    refine lv_sipush (v := 512) hx hb dX12_areAlike_7 (by decide) ?_
    refine lv_icmp_ge (tgt := 58) hx hb dX12_areAlike_10 (by decide) (fun c_1 => ?_) (fun c_1 => ?_)
    · rw [if_pos c_1] at h
      refine lv_iload_n hx hb dX12_areAlike_58 rfl (lv_at hl 3 rfl) ?_
      obtain ⟨z_2, h⟩ := bo_some h
      cases h
      exact k_zret C B z_2 dX12_areAlike_59
    · rw [if_neg c_1] at h
      refine lv_iload_n hx hb dX12_areAlike_13 rfl (lv_at hl 3 rfl) ?_
      refine lv_if_eq (tgt := 58) hx hb dX12_areAlike_14 (by decide) (fun c_3 => ?_) (fun c_3 => ?_)
      · rw [if_pos c_3] at h
        refine lv_iload_n hx hb dX12_areAlike_58 rfl (lv_at hl 3 rfl) ?_
        obtain ⟨z_4, h⟩ := bo_some h
        cases h
        exact k_zret C B z_4 dX12_areAlike_59
      · rw [if_neg c_3] at h
        refine lv_aload_n hx hb dX12_areAlike_17 rfl (lv_at hl 0 rfl) ?_
        refine gfX12_areAlike_44 C B 0 rfl rfl dX12_areAlike_18 ?_
        refine lv_sipush (v := 512) hx hb dX12_areAlike_21 (by decide) ?_
        refine lv_iload_n hx hb dX12_areAlike_24 rfl (lv_at hl 1 rfl) ?_
        refine lv_imul hx hb dX12_areAlike_25 ?_
        refine lv_iload hx hb dX12_areAlike_26 (lv_at hl 4 rfl) ?_
        refine lv_iadd hx hb dX12_areAlike_28 ?_
        obtain ⟨b_5, h⟩ := bnd_some h
        refine k_iald C B 12 0 rfl rfl b_5 dX12_areAlike_29 ?_
        refine lv_aload_n hx hb dX12_areAlike_30 rfl (lv_at hl 0 rfl) ?_
        refine gfX12_areAlike_44 C B 0 rfl rfl dX12_areAlike_31 ?_
        refine lv_sipush (v := 512) hx hb dX12_areAlike_34 (by decide) ?_
        refine lv_iload_n hx hb dX12_areAlike_37 rfl (lv_at hl 2 rfl) ?_
        refine lv_imul hx hb dX12_areAlike_38 ?_
        refine lv_iload hx hb dX12_areAlike_39 (lv_at hl 4 rfl) ?_
        refine lv_iadd hx hb dX12_areAlike_41 ?_
        obtain ⟨b_6, h⟩ := bnd_some h
        refine k_iald C B 12 0 rfl rfl b_6 dX12_areAlike_42 ?_
        refine lv_icmp_ne (tgt := 50) hx hb dX12_areAlike_43 (by decide) (fun c_7 => ?_) (fun c_7 => ?_)
        · rw [if_neg c_7] at h
          refine lv_iconst (v := 0) hx hb dX12_areAlike_50 (by decide) ?_
          refine lv_istore_n (lv' := [(3, .int (0 : Int32)), (0, .ref (b 0)), (1, .int x1), (2, .int x2), (4, .int x4)]) hx hb dX12_areAlike_51 rfl hl (by decide) rfl (fun ls hl => ?_)
          refine lv_iinc (v := (x4 + 1)) (lv' := [(4, .int (x4 + 1)), (3, .int (0 : Int32)), (0, .ref (b 0)), (1, .int x1), (2, .int x2)]) hx hb dX12_areAlike_52 hl (k := 4) rfl rfl (by decide) rfl (fun ls hl => ?_)
          refine lv_goto (tgt := 5) hx hb dX12_areAlike_55 (by decide) ?_
          exact ih x1 x2 (0 : Int32) (x4 + 1) h H locs ls B (lv_sub hl [2, 3, 4, 1, 0] rfl)
        · rw [if_pos c_7] at h
          refine lv_iconst (v := 1) hx hb dX12_areAlike_46 (by decide) ?_
          refine lv_goto (tgt := 51) hx hb dX12_areAlike_47 (by decide) ?_
          refine lv_istore_n (lv' := [(3, .int (1 : Int32)), (0, .ref (b 0)), (1, .int x1), (2, .int x2), (4, .int x4)]) hx hb dX12_areAlike_51 rfl hl (by decide) rfl (fun ls hl => ?_)
          refine lv_iinc (v := (x4 + 1)) (lv' := [(4, .int (x4 + 1)), (3, .int (1 : Int32)), (0, .ref (b 0)), (1, .int x1), (2, .int x2)]) hx hb dX12_areAlike_52 hl (k := 4) rfl rfl (by decide) rfl (fun ls hl => ?_)
          refine lv_goto (tgt := 5) hx hb dX12_areAlike_55 (by decide) ?_
          exact ih x1 x2 (1 : Int32) (x4 + 1) h H locs ls B (lv_sub hl [2, 3, 4, 1, 0] rfl)
set_option maxHeartbeats 4000000 in
set_option maxRecDepth 100000 in
theorem qX12_areAlike_0 (C : CT p s m args meth c RX12 cX12_areAlike 5 (some .boolean) wsX12_areAlike D A (tyl cI cJ cT) Es) {N : Nat} {mo_signs : Nat → Int32} {mo_signMany : Int32} {mo_nodeSign : Nat → Int32} {mo_nodeOn : Nat → Int32} {mo_nodeSize : Nat → Int32} {mo_nodeMany : Nat → Int32} {mo_due : Nat → Int32} {mo_openNode : Nat → Int32} {mo_value : Nat → Int32} {mo_isLaid : Int32} {mo_changes : Int32} {mo_changeNode : Nat → Int32} {mo_changeSign : Nat → Int32} {mo_differs : Nat → Int32} {mo_results : Nat → Int32} {mo_own : Nat → Int32} {mo_kinds : Nat → Int32} {mo_testInputs : Nat → Int32} {mo_testDue : Nat → Int32} {mo_tests : Int32} {mo_noticed : Nat → Int32} {mo_missed : Nat → Int32} {mo_leastFrom : Nat → Int32} {mo_blameUpper : Nat → Int32} {mo_blameLower : Nat → Int32} {z_r : Int32} : ∀ (x1 : Int32) (x2 : Int32), fX12_areAlike N mo_results x1 x2 = some z_r → ∀ (H : Heap) (locs : List Loc) (ls : Array Slot), DB D A (wd_mo a b cI cJ cT mo_signs mo_signMany mo_nodeSign mo_nodeOn mo_nodeSize mo_nodeMany mo_due mo_openNode mo_value mo_isLaid mo_changes mo_changeNode mo_changeSign mo_differs mo_results mo_own mo_kinds mo_testInputs mo_testDue mo_tests mo_noticed mo_missed mo_leastFrom mo_blameUpper mo_blameLower) s H locs → lv_has ls 5 [(0, .ref (b 0)), (1, .int x1), (2, .int x2)] → W p l e rmX12_areAlike s m args below meth c H locs 0 0 (ZI below args s D A (tyl cI cJ cT) z_r (wd_mo a b cI cJ cT mo_signs mo_signMany mo_nodeSign mo_nodeOn mo_nodeSize mo_nodeMany mo_due mo_openNode mo_value mo_isLaid mo_changes mo_changeNode mo_changeSign mo_differs mo_results mo_own mo_kinds mo_testInputs mo_testDue mo_tests mo_noticed mo_missed mo_leastFrom mo_blameUpper mo_blameLower) 0 0) (F0 m 0 ls []) := by
  have hx := C.1.1
  have hb := C.1.2.1
  have hown := C.1.2.2.2.1
  have hts := C.1.2.2.2.2
  intro x1 x2 h H locs ls B hl
  rw [fX12_areAlike] at h
  refine lv_iconst (v := 1) hx hb dX12_areAlike_0 (by decide) ?_
  refine lv_istore_n (lv' := [(3, .int (1 : Int32)), (0, .ref (b 0)), (1, .int x1), (2, .int x2)]) hx hb dX12_areAlike_1 rfl hl (by decide) rfl (fun ls hl => ?_)
  refine lv_iconst (v := 0) hx hb dX12_areAlike_2 (by decide) ?_
  refine lv_istore (lv' := [(4, .int (0 : Int32)), (3, .int (1 : Int32)), (0, .ref (b 0)), (1, .int x1), (2, .int x2)]) hx hb dX12_areAlike_3 hl (by decide) rfl (fun ls hl => ?_)
  exact qX12_areAlike_5 C N x1 x2 (1 : Int32) (0 : Int32) h H locs ls B (lv_sub hl [2, 3, 4, 1, 0] rfl)
end
theorem tX12_areAlike {l : Launch} {D : va_G} {Es : (Nat → Nat) × (Nat → Nat)} {a b : Nat → Nat} {cI cJ cT : ClassId} {mo_signs : Nat → Int32} {mo_signMany : Int32} {mo_nodeSign : Nat → Int32} {mo_nodeOn : Nat → Int32} {mo_nodeSize : Nat → Int32} {mo_nodeMany : Nat → Int32} {mo_due : Nat → Int32} {mo_openNode : Nat → Int32} {mo_value : Nat → Int32} {mo_isLaid : Int32} {mo_changes : Int32} {mo_changeNode : Nat → Int32} {mo_changeSign : Nat → Int32} {mo_differs : Nat → Int32} {mo_results : Nat → Int32} {mo_own : Nat → Int32} {mo_kinds : Nat → Int32} {mo_testInputs : Nat → Int32} {mo_testDue : Nat → Int32} {mo_tests : Int32} {mo_noticed : Nat → Int32} {mo_missed : Nat → Int32} {mo_leastFrom : Nat → Int32} {mo_blameUpper : Nat → Int32} {mo_blameLower : Nat → Int32} {x1 : Int32} {x2 : Int32} {z_r : Int32} (N : Nat) (h : fX12_areAlike N mo_results x1 x2 = some z_r) : CtI l yX12_areAlike wsX12_areAlike rmX12_areAlike D (tyl cI cJ cT) Es [.ref (b 0), .int x1, .int x2] (wd_mo a b cI cJ cT mo_signs mo_signMany mo_nodeSign mo_nodeOn mo_nodeSize mo_nodeMany mo_due mo_openNode mo_value mo_isLaid mo_changes mo_changeNode mo_changeSign mo_differs mo_results mo_own mo_kinds mo_testInputs mo_testDue mo_tests mo_noticed mo_missed mo_leastFrom mo_blameUpper mo_blameLower) z_r (wd_mo a b cI cJ cT mo_signs mo_signMany mo_nodeSign mo_nodeOn mo_nodeSize mo_nodeMany mo_due mo_openNode mo_value mo_isLaid mo_changes mo_changeNode mo_changeSign mo_differs mo_results mo_own mo_kinds mo_testInputs mo_testDue mo_tests mo_noticed mo_missed mo_leastFrom mo_blameUpper mo_blameLower) :=
  CtI.of (own := RX12) (cc := cX12_areAlike) (nL := 5) (ret := (some .boolean)) (by decide +kernel) rfl rfl (Nat.le_of_ble_eq_true rfl) rfl (fun p e s m below meth c A ls C B hl => qX12_areAlike_0 C (N := N) x1 x2 h _ _ _ B hl)

abbrev rmX12_isFirstKind : Room := { frames := 1, cells := 0, slots := 0, locals := 24 }
theorem hdX12_isFirstKind : yX12_isFirstKind.cls ≠ "java/lang/invoke/MethodHandle" ∧ yX12_isFirstKind.cls ≠ "java/lang/invoke/VarHandle" ∧ (parseMethodDescriptor yX12_isFirstKind.desc).map (fun d => d.parameters.length) = some 1 := by decide +kernel
section
variable {p : Program} {l : Launch} {e : Env} {s : State} {m : MethodId} {args : Array Value} {below : List Frame} {meth : Method} {c : Code} {D : va_G} {A : Nat → Prop} {Es : (Nat → Nat) × (Nat → Nat)} {a b : Nat → Nat} {cI cJ cT : ClassId}
set_option maxHeartbeats 4000000 in
set_option maxRecDepth 100000 in
theorem qX12_isFirstKind_4 (C : CT p s m args meth c RX12 cX12_isFirstKind 4 (some .boolean) wsX12_isFirstKind D A (tyl cI cJ cT) Es) {N : Nat} {mo_signs : Nat → Int32} {mo_signMany : Int32} {mo_nodeSign : Nat → Int32} {mo_nodeOn : Nat → Int32} {mo_nodeSize : Nat → Int32} {mo_nodeMany : Nat → Int32} {mo_due : Nat → Int32} {mo_openNode : Nat → Int32} {mo_value : Nat → Int32} {mo_isLaid : Int32} {mo_changes : Int32} {mo_changeNode : Nat → Int32} {mo_changeSign : Nat → Int32} {mo_differs : Nat → Int32} {mo_results : Nat → Int32} {mo_own : Nat → Int32} {mo_kinds : Nat → Int32} {mo_testInputs : Nat → Int32} {mo_testDue : Nat → Int32} {mo_tests : Int32} {mo_noticed : Nat → Int32} {mo_missed : Nat → Int32} {mo_leastFrom : Nat → Int32} {mo_blameUpper : Nat → Int32} {mo_blameLower : Nat → Int32} {z_r : Int32} : ∀ (n : Nat) (x1 : Int32) (x2 : Int32) (x3 : Int32), bX12_isFirstKind_4 N mo_results mo_testInputs mo_testDue mo_tests n x1 x2 x3 = some z_r → ∀ (H : Heap) (locs : List Loc) (ls : Array Slot), DB D A (wd_mo a b cI cJ cT mo_signs mo_signMany mo_nodeSign mo_nodeOn mo_nodeSize mo_nodeMany mo_due mo_openNode mo_value mo_isLaid mo_changes mo_changeNode mo_changeSign mo_differs mo_results mo_own mo_kinds mo_testInputs mo_testDue mo_tests mo_noticed mo_missed mo_leastFrom mo_blameUpper mo_blameLower) s H locs → lv_has ls 4 [(0, .ref (b 0)), (1, .int x1), (2, .int x2), (3, .int x3)] → W p l e rmX12_isFirstKind s m args below meth c H locs 0 0 (ZI below args s D A (tyl cI cJ cT) z_r (wd_mo a b cI cJ cT mo_signs mo_signMany mo_nodeSign mo_nodeOn mo_nodeSize mo_nodeMany mo_due mo_openNode mo_value mo_isLaid mo_changes mo_changeNode mo_changeSign mo_differs mo_results mo_own mo_kinds mo_testInputs mo_testDue mo_tests mo_noticed mo_missed mo_leastFrom mo_blameUpper mo_blameLower) 0 0) (F0 m 4 ls []) := by
  have hx := C.1.1
  have hb := C.1.2.1
  have hown := C.1.2.2.2.1
  have hts := C.1.2.2.2.2
  intro n
  induction n with
  | zero => intro x1 x2 x3 h; cases h
  | succ n ih =>
    intro x1 x2 x3 h H locs ls B hl
    rw [bX12_isFirstKind_4] at h
    refine lv_iload_n hx hb dX12_isFirstKind_4 rfl (lv_at hl 3 rfl) ?_
    refine lv_iload_n hx hb dX12_isFirstKind_5 rfl (lv_at hl 1 rfl) ?_
    refine lv_icmp_ge (tgt := 42) hx hb dX12_isFirstKind_6 (by decide) (fun c_1 => ?_) (fun c_1 => ?_)
    · rw [if_pos c_1] at h
      refine lv_iload_n hx hb dX12_isFirstKind_42 rfl (lv_at hl 2 rfl) ?_
      obtain ⟨z_2, h⟩ := bo_some h
      cases h
      exact k_zret C B z_2 dX12_isFirstKind_43
    · rw [if_neg c_1] at h
      refine lv_iload_n hx hb dX12_isFirstKind_9 rfl (lv_at hl 2 rfl) ?_
      refine lv_if_eq (tgt := 42) hx hb dX12_isFirstKind_10 (by decide) (fun c_3 => ?_) (fun c_3 => ?_)
      · rw [if_pos c_3] at h
        refine lv_iload_n hx hb dX12_isFirstKind_42 rfl (lv_at hl 2 rfl) ?_
        obtain ⟨z_4, h⟩ := bo_some h
        cases h
        exact k_zret C B z_4 dX12_isFirstKind_43
      · rw [if_neg c_3] at h
        refine lv_aload_n hx hb dX12_isFirstKind_13 rfl (lv_at hl 0 rfl) ?_
        refine lv_iload_n hx hb dX12_isFirstKind_14 rfl (lv_at hl 3 rfl) ?_
        obtain ⟨r_5, g_10, h⟩ := ob_some h
        try dsimp only at h
        refine kc_VI C B (q0 := 0) (ci := 12) (As := [.int x3]) (rest := []) (w2 := (wd_mo a b cI cJ cT mo_signs mo_signMany mo_nodeSign mo_nodeOn mo_nodeSize mo_nodeMany mo_due mo_openNode mo_value mo_isLaid mo_changes mo_changeNode mo_changeSign mo_differs mo_results mo_own mo_kinds mo_testInputs mo_testDue mo_tests mo_noticed mo_missed mo_leastFrom mo_blameUpper mo_blameLower)) (tX12_doesMend (a := a) (b := b) N g_10) gX12_isFirstKind_X12_doesMend rfl ⟨rfl, rfl⟩ ⟨rfl, hdX12_doesMend⟩ ⟨Nat.le_of_ble_eq_true rfl, Nat.le_of_ble_eq_true rfl⟩ rfl rfl [0, 1, 2, 3, 4, 5, 6, 7, 8, 9, 10, 11, 12, 13, 14, 15, 16, 17, 18, 19, 20, 21] [] [0, 1, 2, 3, 4, 5, 6, 7, 8, 9, 10, 11, 12, 13, 14, 15, 16, 17, 18, 19, 20, 21] rfl rfl rfl rfl rfl rfl rfl rfl hl.1 rfl (Nat.le_of_ble_eq_true rfl) ⟨Nat.zero_le _, Nat.zero_le _⟩ dX12_isFirstKind_15 (fun H locs B => ?_)
        refine lv_if_eq (tgt := 30) hx hb dX12_isFirstKind_18 (by decide) (fun c_6 => ?_) (fun c_6 => ?_)
        · rw [if_pos c_6] at h
          refine lv_iconst (v := 1) hx hb dX12_isFirstKind_30 (by decide) ?_
          refine lv_goto (tgt := 35) hx hb dX12_isFirstKind_31 (by decide) ?_
          refine lv_istore_n (lv' := [(2, .int (1 : Int32)), (0, .ref (b 0)), (1, .int x1), (3, .int x3)]) hx hb dX12_isFirstKind_35 rfl hl (by decide) rfl (fun ls hl => ?_)
          refine lv_iinc (v := (x3 + 1)) (lv' := [(3, .int (x3 + 1)), (2, .int (1 : Int32)), (0, .ref (b 0)), (1, .int x1)]) hx hb dX12_isFirstKind_36 hl (k := 3) rfl rfl (by decide) rfl (fun ls hl => ?_)
          refine lv_goto (tgt := 4) hx hb dX12_isFirstKind_39 (by decide) ?_
          exact ih x1 (1 : Int32) (x3 + 1) h H locs ls B (lv_sub hl [2, 3, 1, 0] rfl)
        · rw [if_neg c_6] at h
          refine lv_aload_n hx hb dX12_isFirstKind_21 rfl (lv_at hl 0 rfl) ?_
          refine lv_iload_n hx hb dX12_isFirstKind_22 rfl (lv_at hl 1 rfl) ?_
          refine lv_iload_n hx hb dX12_isFirstKind_23 rfl (lv_at hl 3 rfl) ?_
          obtain ⟨r_7, g_9, h⟩ := ob_some h
          try dsimp only at h
          refine kc_VI C B (q0 := 0) (ci := 12) (As := [.int x1, .int x3]) (rest := []) (w2 := (wd_mo a b cI cJ cT mo_signs mo_signMany mo_nodeSign mo_nodeOn mo_nodeSize mo_nodeMany mo_due mo_openNode mo_value mo_isLaid mo_changes mo_changeNode mo_changeSign mo_differs mo_results mo_own mo_kinds mo_testInputs mo_testDue mo_tests mo_noticed mo_missed mo_leastFrom mo_blameUpper mo_blameLower)) (tX12_areAlike (a := a) (b := b) N g_9) gX12_isFirstKind_X12_areAlike rfl ⟨rfl, rfl⟩ ⟨rfl, hdX12_areAlike⟩ ⟨Nat.le_of_ble_eq_true rfl, Nat.le_of_ble_eq_true rfl⟩ rfl rfl [0, 1, 2, 3, 4, 5, 6, 7, 8, 9, 10, 11, 12, 13, 14, 15, 16, 17, 18, 19, 20, 21] [] [0, 1, 2, 3, 4, 5, 6, 7, 8, 9, 10, 11, 12, 13, 14, 15, 16, 17, 18, 19, 20, 21] rfl rfl rfl rfl rfl rfl rfl rfl hl.1 rfl (Nat.le_of_ble_eq_true rfl) ⟨Nat.zero_le _, Nat.zero_le _⟩ dX12_isFirstKind_24 (fun H locs B => ?_)
          refine lv_if_ne (tgt := 34) hx hb dX12_isFirstKind_27 (by decide) (fun c_8 => ?_) (fun c_8 => ?_)
          · rw [if_neg c_8] at h
            refine lv_iconst (v := 0) hx hb dX12_isFirstKind_34 (by decide) ?_
            refine lv_istore_n (lv' := [(2, .int (0 : Int32)), (0, .ref (b 0)), (1, .int x1), (3, .int x3)]) hx hb dX12_isFirstKind_35 rfl hl (by decide) rfl (fun ls hl => ?_)
            refine lv_iinc (v := (x3 + 1)) (lv' := [(3, .int (x3 + 1)), (2, .int (0 : Int32)), (0, .ref (b 0)), (1, .int x1)]) hx hb dX12_isFirstKind_36 hl (k := 3) rfl rfl (by decide) rfl (fun ls hl => ?_)
            refine lv_goto (tgt := 4) hx hb dX12_isFirstKind_39 (by decide) ?_
            exact ih x1 (0 : Int32) (x3 + 1) h H locs ls B (lv_sub hl [2, 3, 1, 0] rfl)
          · rw [if_pos c_8] at h
            refine lv_iconst (v := 1) hx hb dX12_isFirstKind_30 (by decide) ?_
            refine lv_goto (tgt := 35) hx hb dX12_isFirstKind_31 (by decide) ?_
            refine lv_istore_n (lv' := [(2, .int (1 : Int32)), (0, .ref (b 0)), (1, .int x1), (3, .int x3)]) hx hb dX12_isFirstKind_35 rfl hl (by decide) rfl (fun ls hl => ?_)
            refine lv_iinc (v := (x3 + 1)) (lv' := [(3, .int (x3 + 1)), (2, .int (1 : Int32)), (0, .ref (b 0)), (1, .int x1)]) hx hb dX12_isFirstKind_36 hl (k := 3) rfl rfl (by decide) rfl (fun ls hl => ?_)
            refine lv_goto (tgt := 4) hx hb dX12_isFirstKind_39 (by decide) ?_
            exact ih x1 (1 : Int32) (x3 + 1) h H locs ls B (lv_sub hl [2, 3, 1, 0] rfl)
set_option maxHeartbeats 4000000 in
set_option maxRecDepth 100000 in
theorem qX12_isFirstKind_0 (C : CT p s m args meth c RX12 cX12_isFirstKind 4 (some .boolean) wsX12_isFirstKind D A (tyl cI cJ cT) Es) {N : Nat} {mo_signs : Nat → Int32} {mo_signMany : Int32} {mo_nodeSign : Nat → Int32} {mo_nodeOn : Nat → Int32} {mo_nodeSize : Nat → Int32} {mo_nodeMany : Nat → Int32} {mo_due : Nat → Int32} {mo_openNode : Nat → Int32} {mo_value : Nat → Int32} {mo_isLaid : Int32} {mo_changes : Int32} {mo_changeNode : Nat → Int32} {mo_changeSign : Nat → Int32} {mo_differs : Nat → Int32} {mo_results : Nat → Int32} {mo_own : Nat → Int32} {mo_kinds : Nat → Int32} {mo_testInputs : Nat → Int32} {mo_testDue : Nat → Int32} {mo_tests : Int32} {mo_noticed : Nat → Int32} {mo_missed : Nat → Int32} {mo_leastFrom : Nat → Int32} {mo_blameUpper : Nat → Int32} {mo_blameLower : Nat → Int32} {z_r : Int32} : ∀ (x1 : Int32), fX12_isFirstKind N mo_results mo_testInputs mo_testDue mo_tests x1 = some z_r → ∀ (H : Heap) (locs : List Loc) (ls : Array Slot), DB D A (wd_mo a b cI cJ cT mo_signs mo_signMany mo_nodeSign mo_nodeOn mo_nodeSize mo_nodeMany mo_due mo_openNode mo_value mo_isLaid mo_changes mo_changeNode mo_changeSign mo_differs mo_results mo_own mo_kinds mo_testInputs mo_testDue mo_tests mo_noticed mo_missed mo_leastFrom mo_blameUpper mo_blameLower) s H locs → lv_has ls 4 [(0, .ref (b 0)), (1, .int x1)] → W p l e rmX12_isFirstKind s m args below meth c H locs 0 0 (ZI below args s D A (tyl cI cJ cT) z_r (wd_mo a b cI cJ cT mo_signs mo_signMany mo_nodeSign mo_nodeOn mo_nodeSize mo_nodeMany mo_due mo_openNode mo_value mo_isLaid mo_changes mo_changeNode mo_changeSign mo_differs mo_results mo_own mo_kinds mo_testInputs mo_testDue mo_tests mo_noticed mo_missed mo_leastFrom mo_blameUpper mo_blameLower) 0 0) (F0 m 0 ls []) := by
  have hx := C.1.1
  have hb := C.1.2.1
  have hown := C.1.2.2.2.1
  have hts := C.1.2.2.2.2
  intro x1 h H locs ls B hl
  rw [fX12_isFirstKind] at h
  refine lv_iconst (v := 1) hx hb dX12_isFirstKind_0 (by decide) ?_
  refine lv_istore_n (lv' := [(2, .int (1 : Int32)), (0, .ref (b 0)), (1, .int x1)]) hx hb dX12_isFirstKind_1 rfl hl (by decide) rfl (fun ls hl => ?_)
  refine lv_iconst (v := 0) hx hb dX12_isFirstKind_2 (by decide) ?_
  refine lv_istore_n (lv' := [(3, .int (0 : Int32)), (2, .int (1 : Int32)), (0, .ref (b 0)), (1, .int x1)]) hx hb dX12_isFirstKind_3 rfl hl (by decide) rfl (fun ls hl => ?_)
  exact qX12_isFirstKind_4 C N x1 (1 : Int32) (0 : Int32) h H locs ls B (lv_sub hl [2, 3, 1, 0] rfl)
end
theorem tX12_isFirstKind {l : Launch} {D : va_G} {Es : (Nat → Nat) × (Nat → Nat)} {a b : Nat → Nat} {cI cJ cT : ClassId} {mo_signs : Nat → Int32} {mo_signMany : Int32} {mo_nodeSign : Nat → Int32} {mo_nodeOn : Nat → Int32} {mo_nodeSize : Nat → Int32} {mo_nodeMany : Nat → Int32} {mo_due : Nat → Int32} {mo_openNode : Nat → Int32} {mo_value : Nat → Int32} {mo_isLaid : Int32} {mo_changes : Int32} {mo_changeNode : Nat → Int32} {mo_changeSign : Nat → Int32} {mo_differs : Nat → Int32} {mo_results : Nat → Int32} {mo_own : Nat → Int32} {mo_kinds : Nat → Int32} {mo_testInputs : Nat → Int32} {mo_testDue : Nat → Int32} {mo_tests : Int32} {mo_noticed : Nat → Int32} {mo_missed : Nat → Int32} {mo_leastFrom : Nat → Int32} {mo_blameUpper : Nat → Int32} {mo_blameLower : Nat → Int32} {x1 : Int32} {z_r : Int32} (N : Nat) (h : fX12_isFirstKind N mo_results mo_testInputs mo_testDue mo_tests x1 = some z_r) : CtI l yX12_isFirstKind wsX12_isFirstKind rmX12_isFirstKind D (tyl cI cJ cT) Es [.ref (b 0), .int x1] (wd_mo a b cI cJ cT mo_signs mo_signMany mo_nodeSign mo_nodeOn mo_nodeSize mo_nodeMany mo_due mo_openNode mo_value mo_isLaid mo_changes mo_changeNode mo_changeSign mo_differs mo_results mo_own mo_kinds mo_testInputs mo_testDue mo_tests mo_noticed mo_missed mo_leastFrom mo_blameUpper mo_blameLower) z_r (wd_mo a b cI cJ cT mo_signs mo_signMany mo_nodeSign mo_nodeOn mo_nodeSize mo_nodeMany mo_due mo_openNode mo_value mo_isLaid mo_changes mo_changeNode mo_changeSign mo_differs mo_results mo_own mo_kinds mo_testInputs mo_testDue mo_tests mo_noticed mo_missed mo_leastFrom mo_blameUpper mo_blameLower) :=
  CtI.of (own := RX12) (cc := cX12_isFirstKind) (nL := 4) (ret := (some .boolean)) (by decide +kernel) rfl rfl (Nat.le_of_ble_eq_true rfl) rfl (fun p e s m below meth c A ls C B hl => qX12_isFirstKind_0 C (N := N) x1 h _ _ _ B hl)

abbrev rmX12_mend : Room := { frames := 6, cells := 0, slots := 0, locals := 140 }
theorem hdX12_mend : yX12_mend.cls ≠ "java/lang/invoke/MethodHandle" ∧ yX12_mend.cls ≠ "java/lang/invoke/VarHandle" ∧ (parseMethodDescriptor yX12_mend.desc).map (fun d => d.parameters.length) = some 1 := by decide +kernel
theorem iX12_mend_X12 : ∀ w ∈ wsX120, w ∈ wsX12_mend := by decide +kernel
theorem gfX12_mend_141 {p : Program} {l : Launch} {e : Env} {R : Room} {s : State} {m : MethodId} {args : Array Value} {below : List Frame} {meth : Method} {c : Code} {H : Heap} {locs : List Loc} {cells slots : Nat} {Q : State → Prop} {D : va_G} {A : Nat → Prop} {tys : List (ClassId × FieldType)} {Es : (Nat → Nat) × (Nat → Nat)} {ws : va_W} {pc : Nat} {ls : Array Slot} {rest : List Value} {a : Nat} (C : CT p s m args meth c RX12 cX12_mend 6 (some .int) wsX12_mend D A tys Es) (B : DB D A ws s H locs) (q0 : Nat) {fs : List Value} {v : Value} (he : ws[q0]? = some (a, .inr (12, fs))) (hv : fs[10]? = some v) (hdg : decode cX12_mend pc = .ok (.getfield 141, 3)) (kk : W p l e R s m args below meth c H locs cells slots Q (F0 m (pc + 3) ls (v :: rest))) : W p l e R s m args below meth c H locs cells slots Q (F0 m pc ls (.ref a :: rest)) :=
  k_get (Cn := RX12) (T := TX12) (N := 25) (index := 141) C B iX12_mend_X12 rfl 10 (by decide) (by decide +kernel) q0 he hv hdg kk
section
variable {p : Program} {l : Launch} {e : Env} {s : State} {m : MethodId} {args : Array Value} {below : List Frame} {meth : Method} {c : Code} {D : va_G} {A : Nat → Prop} {Es : (Nat → Nat) × (Nat → Nat)} {a b : Nat → Nat} {cI cJ cT : ClassId}
set_option maxHeartbeats 4000000 in
set_option maxRecDepth 100000 in
theorem qX12_mend_51 (C : CT p s m args meth c RX12 cX12_mend 6 (some .int) wsX12_mend D A (tyl cI cJ cT) Es) {N : Nat} {mo_signs : Nat → Int32} {mo_signMany : Int32} {mo_nodeSign : Nat → Int32} {mo_nodeOn : Nat → Int32} {mo_nodeSize : Nat → Int32} {mo_nodeMany : Nat → Int32} {mo_due : Nat → Int32} {mo_openNode : Nat → Int32} {mo_kinds : Nat → Int32} {mo_testInputs : Nat → Int32} {mo_testDue : Nat → Int32} {mo_tests : Int32} {mo_noticed : Nat → Int32} {mo_missed : Nat → Int32} {mo_leastFrom : Nat → Int32} {mo_blameUpper : Nat → Int32} {mo_blameLower : Nat → Int32} {z_r : Int32} {z_mo_value : Nat → Int32} {z_mo_isLaid : Int32} {z_mo_changes : Int32} {z_mo_changeNode : Nat → Int32} {z_mo_changeSign : Nat → Int32} {z_mo_differs : Nat → Int32} {z_mo_results : Nat → Int32} {z_mo_own : Nat → Int32} {k21 : Int32 → Int32 → Int32 → Int32 → Int32 → (Nat → Int32) → (Int32) → (Int32) → (Nat → Int32) → (Nat → Int32) → (Nat → Int32) → (Nat → Int32) → (Nat → Int32) → Option (Int32 × (Nat → Int32) × (Int32) × (Int32) × (Nat → Int32) × (Nat → Int32) × (Nat → Int32) × (Nat → Int32) × (Nat → Int32))} (hk21 : ∀ (x1 : Int32) (x2 : Int32) (x3 : Int32) (x4 : Int32) (x5 : Int32) (mo_value : Nat → Int32) (mo_isLaid : Int32) (mo_changes : Int32) (mo_changeNode : Nat → Int32) (mo_changeSign : Nat → Int32) (mo_differs : Nat → Int32) (mo_results : Nat → Int32) (mo_own : Nat → Int32), k21 x1 x2 x3 x4 x5 mo_value mo_isLaid mo_changes mo_changeNode mo_changeSign mo_differs mo_results mo_own = some (z_r, z_mo_value, z_mo_isLaid, z_mo_changes, z_mo_changeNode, z_mo_changeSign, z_mo_differs, z_mo_results, z_mo_own) → ∀ (H : Heap) (locs : List Loc) (ls : Array Slot), DB D A (wd_mo a b cI cJ cT mo_signs mo_signMany mo_nodeSign mo_nodeOn mo_nodeSize mo_nodeMany mo_due mo_openNode mo_value mo_isLaid mo_changes mo_changeNode mo_changeSign mo_differs mo_results mo_own mo_kinds mo_testInputs mo_testDue mo_tests mo_noticed mo_missed mo_leastFrom mo_blameUpper mo_blameLower) s H locs → lv_has ls 6 [(0, .ref (b 0)), (1, .int x1), (2, .int x2), (3, .int x3), (4, .int x4), (5, .int x5)] → W p l e rmX12_mend s m args below meth c H locs 0 0 (ZI below args s D A (tyl cI cJ cT) z_r (wd_mo a b cI cJ cT mo_signs mo_signMany mo_nodeSign mo_nodeOn mo_nodeSize mo_nodeMany mo_due mo_openNode z_mo_value z_mo_isLaid z_mo_changes z_mo_changeNode z_mo_changeSign z_mo_differs z_mo_results z_mo_own mo_kinds mo_testInputs mo_testDue mo_tests mo_noticed mo_missed mo_leastFrom mo_blameUpper mo_blameLower) 0 0) (F0 m 21 ls [])) : ∀ (x1 : Int32) (x2 : Int32) (x3 : Int32) (x5 : Int32) (y0 : Int32) (mo_value : Nat → Int32) (mo_isLaid : Int32) (mo_changes : Int32) (mo_changeNode : Nat → Int32) (mo_changeSign : Nat → Int32) (mo_differs : Nat → Int32) (mo_results : Nat → Int32) (mo_own : Nat → Int32), bX12_mend_51 N mo_nodeSign mo_nodeSize mo_nodeMany mo_kinds mo_testInputs mo_testDue mo_tests k21 x1 x2 x3 x5 y0 mo_value mo_isLaid mo_changes mo_changeNode mo_changeSign mo_differs mo_results mo_own = some (z_r, z_mo_value, z_mo_isLaid, z_mo_changes, z_mo_changeNode, z_mo_changeSign, z_mo_differs, z_mo_results, z_mo_own) → ∀ (H : Heap) (locs : List Loc) (ls : Array Slot), DB D A (wd_mo a b cI cJ cT mo_signs mo_signMany mo_nodeSign mo_nodeOn mo_nodeSize mo_nodeMany mo_due mo_openNode mo_value mo_isLaid mo_changes mo_changeNode mo_changeSign mo_differs mo_results mo_own mo_kinds mo_testInputs mo_testDue mo_tests mo_noticed mo_missed mo_leastFrom mo_blameUpper mo_blameLower) s H locs → lv_has ls 6 [(0, .ref (b 0)), (1, .int x1), (2, .int x2), (3, .int x3), (5, .int x5)] → W p l e rmX12_mend s m args below meth c H locs 0 0 (ZI below args s D A (tyl cI cJ cT) z_r (wd_mo a b cI cJ cT mo_signs mo_signMany mo_nodeSign mo_nodeOn mo_nodeSize mo_nodeMany mo_due mo_openNode z_mo_value z_mo_isLaid z_mo_changes z_mo_changeNode z_mo_changeSign z_mo_differs z_mo_results z_mo_own mo_kinds mo_testInputs mo_testDue mo_tests mo_noticed mo_missed mo_leastFrom mo_blameUpper mo_blameLower) 0 0) (F0 m 51 ls [.int y0]) := by
  have hx := C.1.1
  have hb := C.1.2.1
  have hown := C.1.2.2.2.1
  have hts := C.1.2.2.2.2
  intro x1 x2 x3 x5 y0 mo_value mo_isLaid mo_changes mo_changeNode mo_changeSign mo_differs mo_results mo_own h H locs ls B hl
  rw [bX12_mend_51] at h
  refine lv_istore (lv' := [(4, .int y0), (0, .ref (b 0)), (1, .int x1), (2, .int x2), (3, .int x3), (5, .int x5)]) hx hb dX12_mend_51 hl (by decide) rfl (fun ls hl => ?_)
  refine lv_iinc (v := (x2 + 1)) (lv' := [(2, .int (x2 + 1)), (4, .int y0), (0, .ref (b 0)), (1, .int x1), (3, .int x3), (5, .int x5)]) hx hb dX12_mend_53 hl (k := 3) rfl rfl (by decide) rfl (fun ls hl => ?_)
  refine lv_iload_n hx hb dX12_mend_56 rfl (lv_at hl 4 rfl) ?_
  refine lv_iload_n hx hb dX12_mend_57 rfl (lv_at hl 3 rfl) ?_
  refine lv_bipush (v := -2) hx hb dX12_mend_58 (by decide) ?_
  refine lv_icmp_ne (tgt := 76) hx hb dX12_mend_60 (by decide) (fun c_1 => ?_) (fun c_1 => ?_)
  · rw [if_neg c_1] at h
    refine lv_iconst (v := 0) hx hb dX12_mend_76 (by decide) ?_
    refine lv_iadd hx hb dX12_mend_77 ?_
    refine lv_istore_n (lv' := [(3, .int (x3 + (0 : Int32))), (2, .int (x2 + 1)), (4, .int y0), (0, .ref (b 0)), (1, .int x1), (5, .int x5)]) hx hb dX12_mend_78 rfl hl (by decide) rfl (fun ls hl => ?_)
    refine lv_iinc (v := (x5 + 1)) (lv' := [(5, .int (x5 + 1)), (3, .int (x3 + (0 : Int32))), (2, .int (x2 + 1)), (4, .int y0), (0, .ref (b 0)), (1, .int x1)]) hx hb dX12_mend_79 hl (k := 5) rfl rfl (by decide) rfl (fun ls hl => ?_)
    refine lv_goto (tgt := 21) hx hb dX12_mend_82 (by decide) ?_
    exact hk21 x1 (x2 + 1) (x3 + (0 : Int32)) y0 (x5 + 1) mo_value mo_isLaid mo_changes mo_changeNode mo_changeSign mo_differs mo_results mo_own h H locs ls B (lv_sub hl [4, 5, 2, 1, 3, 0] rfl)
  · rw [if_pos c_1] at h
    refine lv_aload_n hx hb dX12_mend_63 rfl (lv_at hl 2 rfl) ?_
    refine lv_iload hx hb dX12_mend_64 (lv_at hl 5 rfl) ?_
    obtain ⟨r_2, g_4, h⟩ := ob_some h
    try dsimp only at h
    refine kc_VI C B (q0 := 0) (ci := 12) (As := [.int x5]) (rest := [.int x3]) (w2 := (wd_mo a b cI cJ cT mo_signs mo_signMany mo_nodeSign mo_nodeOn mo_nodeSize mo_nodeMany mo_due mo_openNode mo_value mo_isLaid mo_changes mo_changeNode mo_changeSign mo_differs mo_results mo_own mo_kinds mo_testInputs mo_testDue mo_tests mo_noticed mo_missed mo_leastFrom mo_blameUpper mo_blameLower)) (tX12_isFirstKind (a := a) (b := b) N g_4) gX12_mend_X12_isFirstKind rfl ⟨rfl, rfl⟩ ⟨rfl, hdX12_isFirstKind⟩ ⟨Nat.le_of_ble_eq_true rfl, Nat.le_of_ble_eq_true rfl⟩ rfl rfl [0, 1, 2, 3, 4, 5, 6, 7, 8, 9, 10, 11, 12, 13, 14, 15, 16, 17, 18, 19, 20, 21] [] [0, 1, 2, 3, 4, 5, 6, 7, 8, 9, 10, 11, 12, 13, 14, 15, 16, 17, 18, 19, 20, 21] rfl rfl rfl rfl rfl rfl rfl rfl hl.1 rfl (Nat.le_of_ble_eq_true rfl) ⟨Nat.zero_le _, Nat.zero_le _⟩ dX12_mend_66 (fun H locs B => ?_)
    refine lv_if_eq (tgt := 76) hx hb dX12_mend_69 (by decide) (fun c_3 => ?_) (fun c_3 => ?_)
    · rw [if_pos c_3] at h
      refine lv_iconst (v := 0) hx hb dX12_mend_76 (by decide) ?_
      refine lv_iadd hx hb dX12_mend_77 ?_
      refine lv_istore_n (lv' := [(3, .int (x3 + (0 : Int32))), (2, .int (x2 + 1)), (4, .int y0), (0, .ref (b 0)), (1, .int x1), (5, .int x5)]) hx hb dX12_mend_78 rfl hl (by decide) rfl (fun ls hl => ?_)
      refine lv_iinc (v := (x5 + 1)) (lv' := [(5, .int (x5 + 1)), (3, .int (x3 + (0 : Int32))), (2, .int (x2 + 1)), (4, .int y0), (0, .ref (b 0)), (1, .int x1)]) hx hb dX12_mend_79 hl (k := 5) rfl rfl (by decide) rfl (fun ls hl => ?_)
      refine lv_goto (tgt := 21) hx hb dX12_mend_82 (by decide) ?_
      exact hk21 x1 (x2 + 1) (x3 + (0 : Int32)) y0 (x5 + 1) mo_value mo_isLaid mo_changes mo_changeNode mo_changeSign mo_differs mo_results mo_own h H locs ls B (lv_sub hl [4, 5, 2, 1, 3, 0] rfl)
    · rw [if_neg c_3] at h
      refine lv_iconst (v := 1) hx hb dX12_mend_72 (by decide) ?_
      refine lv_goto (tgt := 77) hx hb dX12_mend_73 (by decide) ?_
      refine lv_iadd hx hb dX12_mend_77 ?_
      refine lv_istore_n (lv' := [(3, .int (x3 + (1 : Int32))), (2, .int (x2 + 1)), (4, .int y0), (0, .ref (b 0)), (1, .int x1), (5, .int x5)]) hx hb dX12_mend_78 rfl hl (by decide) rfl (fun ls hl => ?_)
      refine lv_iinc (v := (x5 + 1)) (lv' := [(5, .int (x5 + 1)), (3, .int (x3 + (1 : Int32))), (2, .int (x2 + 1)), (4, .int y0), (0, .ref (b 0)), (1, .int x1)]) hx hb dX12_mend_79 hl (k := 5) rfl rfl (by decide) rfl (fun ls hl => ?_)
      refine lv_goto (tgt := 21) hx hb dX12_mend_82 (by decide) ?_
      exact hk21 x1 (x2 + 1) (x3 + (1 : Int32)) y0 (x5 + 1) mo_value mo_isLaid mo_changes mo_changeNode mo_changeSign mo_differs mo_results mo_own h H locs ls B (lv_sub hl [4, 5, 2, 1, 3, 0] rfl)
set_option maxHeartbeats 4000000 in
set_option maxRecDepth 100000 in
theorem qX12_mend_21 (C : CT p s m args meth c RX12 cX12_mend 6 (some .int) wsX12_mend D A (tyl cI cJ cT) Es) {N : Nat} {mo_signs : Nat → Int32} {mo_signMany : Int32} {mo_nodeSign : Nat → Int32} {mo_nodeOn : Nat → Int32} {mo_nodeSize : Nat → Int32} {mo_nodeMany : Nat → Int32} {mo_due : Nat → Int32} {mo_openNode : Nat → Int32} {mo_kinds : Nat → Int32} {mo_testInputs : Nat → Int32} {mo_testDue : Nat → Int32} {mo_tests : Int32} {mo_noticed : Nat → Int32} {mo_missed : Nat → Int32} {mo_leastFrom : Nat → Int32} {mo_blameUpper : Nat → Int32} {mo_blameLower : Nat → Int32} {z_r : Int32} {z_mo_value : Nat → Int32} {z_mo_isLaid : Int32} {z_mo_changes : Int32} {z_mo_changeNode : Nat → Int32} {z_mo_changeSign : Nat → Int32} {z_mo_differs : Nat → Int32} {z_mo_results : Nat → Int32} {z_mo_own : Nat → Int32} : ∀ (n : Nat) (x1 : Int32) (x2 : Int32) (x3 : Int32) (x4 : Int32) (x5 : Int32) (mo_value : Nat → Int32) (mo_isLaid : Int32) (mo_changes : Int32) (mo_changeNode : Nat → Int32) (mo_changeSign : Nat → Int32) (mo_differs : Nat → Int32) (mo_results : Nat → Int32) (mo_own : Nat → Int32), bX12_mend_21 N mo_nodeSign mo_nodeSize mo_nodeMany mo_kinds mo_testInputs mo_testDue mo_tests n x1 x2 x3 x4 x5 mo_value mo_isLaid mo_changes mo_changeNode mo_changeSign mo_differs mo_results mo_own = some (z_r, z_mo_value, z_mo_isLaid, z_mo_changes, z_mo_changeNode, z_mo_changeSign, z_mo_differs, z_mo_results, z_mo_own) → ∀ (H : Heap) (locs : List Loc) (ls : Array Slot), DB D A (wd_mo a b cI cJ cT mo_signs mo_signMany mo_nodeSign mo_nodeOn mo_nodeSize mo_nodeMany mo_due mo_openNode mo_value mo_isLaid mo_changes mo_changeNode mo_changeSign mo_differs mo_results mo_own mo_kinds mo_testInputs mo_testDue mo_tests mo_noticed mo_missed mo_leastFrom mo_blameUpper mo_blameLower) s H locs → lv_has ls 6 [(0, .ref (b 0)), (1, .int x1), (2, .int x2), (3, .int x3), (4, .int x4), (5, .int x5)] → W p l e rmX12_mend s m args below meth c H locs 0 0 (ZI below args s D A (tyl cI cJ cT) z_r (wd_mo a b cI cJ cT mo_signs mo_signMany mo_nodeSign mo_nodeOn mo_nodeSize mo_nodeMany mo_due mo_openNode z_mo_value z_mo_isLaid z_mo_changes z_mo_changeNode z_mo_changeSign z_mo_differs z_mo_results z_mo_own mo_kinds mo_testInputs mo_testDue mo_tests mo_noticed mo_missed mo_leastFrom mo_blameUpper mo_blameLower) 0 0) (F0 m 21 ls []) := by
  have hx := C.1.1
  have hb := C.1.2.1
  have hown := C.1.2.2.2.1
  have hts := C.1.2.2.2.2
  intro n
  induction n with
  | zero => intro x1 x2 x3 x4 x5 mo_value mo_isLaid mo_changes mo_changeNode mo_changeSign mo_differs mo_results mo_own h; cases h
  | succ n ih =>
    intro x1 x2 x3 x4 x5 mo_value mo_isLaid mo_changes mo_changeNode mo_changeSign mo_differs mo_results mo_own h H locs ls B hl
    rw [bX12_mend_21] at h
    refine lv_iload hx hb dX12_mend_21 (lv_at hl 5 rfl) ?_
    refine lv_aload_n hx hb dX12_mend_23 rfl (lv_at hl 0 rfl) ?_
    refine gfX12_mend_141 C B 0 rfl rfl dX12_mend_24 ?_
    refine lv_icmp_ge (tgt := 85) hx hb dX12_mend_27 (by decide) (fun c_1 => ?_) (fun c_1 => ?_)
    · rw [if_pos c_1] at h
      refine lv_iload_n hx hb dX12_mend_85 rfl (lv_at hl 1 rfl) ?_
      refine lv_iconst (v := -1) hx hb dX12_mend_86 (by decide) ?_
      refine lv_icmp_ne (tgt := 94) hx hb dX12_mend_87 (by decide) (fun c_2 => ?_) (fun c_2 => ?_)
      · rw [if_neg c_2] at h
        refine lv_iload_n hx hb dX12_mend_94 rfl (lv_at hl 1 rfl) ?_
        refine lv_bipush (v := -2) hx hb dX12_mend_95 (by decide) ?_
        refine lv_icmp_ne (tgt := 104) hx hb dX12_mend_97 (by decide) (fun c_3 => ?_) (fun c_3 => ?_)
        · rw [if_neg c_3] at h
          refine lv_iload hx hb dX12_mend_104 (lv_at hl 4 rfl) ?_
          cases h
          exact k_iret C B dX12_mend_106
        · rw [if_pos c_3] at h
          refine lv_iload_n hx hb dX12_mend_100 rfl (lv_at hl 3 rfl) ?_
          refine lv_goto (tgt := 106) hx hb dX12_mend_101 (by decide) ?_
          cases h
          exact k_iret C B dX12_mend_106
      · rw [if_pos c_2] at h
        refine lv_iload_n hx hb dX12_mend_90 rfl (lv_at hl 2 rfl) ?_
        refine lv_goto (tgt := 106) hx hb dX12_mend_91 (by decide) ?_
        cases h
        exact k_iret C B dX12_mend_106
    · rw [if_neg c_1] at h
      refine lv_aload_n hx hb dX12_mend_30 rfl (lv_at hl 0 rfl) ?_
      refine lv_iload hx hb dX12_mend_31 (lv_at hl 5 rfl) ?_
      obtain ⟨r_4, g_7, h⟩ := ob_some h
      try dsimp only at h
      refine kc_VI C B (q0 := 0) (ci := 12) (As := [.int x5]) (rest := []) (w2 := (wd_mo a b cI cJ cT mo_signs mo_signMany mo_nodeSign mo_nodeOn mo_nodeSize mo_nodeMany mo_due mo_openNode mo_value mo_isLaid mo_changes mo_changeNode mo_changeSign mo_differs mo_results mo_own mo_kinds mo_testInputs mo_testDue mo_tests mo_noticed mo_missed mo_leastFrom mo_blameUpper mo_blameLower)) (tX12_doesMend (a := a) (b := b) N g_7) gX12_mend_X12_doesMend rfl ⟨rfl, rfl⟩ ⟨rfl, hdX12_doesMend⟩ ⟨Nat.le_of_ble_eq_true rfl, Nat.le_of_ble_eq_true rfl⟩ rfl rfl [0, 1, 2, 3, 4, 5, 6, 7, 8, 9, 10, 11, 12, 13, 14, 15, 16, 17, 18, 19, 20, 21] [] [0, 1, 2, 3, 4, 5, 6, 7, 8, 9, 10, 11, 12, 13, 14, 15, 16, 17, 18, 19, 20, 21] rfl rfl rfl rfl rfl rfl rfl rfl hl.1 rfl (Nat.le_of_ble_eq_true rfl) ⟨Nat.zero_le _, Nat.zero_le _⟩ dX12_mend_33 (fun H locs B => ?_)
      refine lv_if_eq (tgt := 79) hx hb dX12_mend_36 (by decide) (fun c_5 => ?_) (fun c_5 => ?_)
      · rw [if_pos c_5] at h
        refine lv_iinc (v := (x5 + 1)) (lv' := [(5, .int (x5 + 1)), (0, .ref (b 0)), (1, .int x1), (2, .int x2), (3, .int x3), (4, .int x4)]) hx hb dX12_mend_79 hl (k := 5) rfl rfl (by decide) rfl (fun ls hl => ?_)
        refine lv_goto (tgt := 21) hx hb dX12_mend_82 (by decide) ?_
        exact ih x1 x2 x3 x4 (x5 + 1) mo_value mo_isLaid mo_changes mo_changeNode mo_changeSign mo_differs mo_results mo_own h H locs ls B (lv_sub hl [1, 2, 3, 4, 5, 0] rfl)
      · rw [if_neg c_5] at h
        refine lv_iload_n hx hb dX12_mend_39 rfl (lv_at hl 2 rfl) ?_
        refine lv_iload_n hx hb dX12_mend_40 rfl (lv_at hl 1 rfl) ?_
        refine lv_icmp_ne (tgt := 49) hx hb dX12_mend_41 (by decide) (fun c_6 => ?_) (fun c_6 => ?_)
        · rw [if_neg c_6] at h
          refine lv_iload hx hb dX12_mend_49 (lv_at hl 4 rfl) ?_
          exact qX12_mend_51 C ih x1 x2 x3 x5 x4 mo_value mo_isLaid mo_changes mo_changeNode mo_changeSign mo_differs mo_results mo_own h H locs ls B (lv_sub hl [0, 1, 2, 3, 5] rfl)
        · rw [if_pos c_6] at h
          refine lv_iload hx hb dX12_mend_44 (lv_at hl 5 rfl) ?_
          refine lv_goto (tgt := 51) hx hb dX12_mend_46 (by decide) ?_
          exact qX12_mend_51 C ih x1 x2 x3 x5 x5 mo_value mo_isLaid mo_changes mo_changeNode mo_changeSign mo_differs mo_results mo_own h H locs ls B (lv_sub hl [0, 1, 2, 3, 5] rfl)
set_option maxHeartbeats 4000000 in
set_option maxRecDepth 100000 in
theorem qX12_mend_0 (C : CT p s m args meth c RX12 cX12_mend 6 (some .int) wsX12_mend D A (tyl cI cJ cT) Es) {N : Nat} {mo_signs : Nat → Int32} {mo_signMany : Int32} {mo_nodeSign : Nat → Int32} {mo_nodeOn : Nat → Int32} {mo_nodeSize : Nat → Int32} {mo_nodeMany : Nat → Int32} {mo_due : Nat → Int32} {mo_openNode : Nat → Int32} {mo_kinds : Nat → Int32} {mo_testInputs : Nat → Int32} {mo_testDue : Nat → Int32} {mo_tests : Int32} {mo_noticed : Nat → Int32} {mo_missed : Nat → Int32} {mo_leastFrom : Nat → Int32} {mo_blameUpper : Nat → Int32} {mo_blameLower : Nat → Int32} {z_r : Int32} {z_mo_value : Nat → Int32} {z_mo_isLaid : Int32} {z_mo_changes : Int32} {z_mo_changeNode : Nat → Int32} {z_mo_changeSign : Nat → Int32} {z_mo_differs : Nat → Int32} {z_mo_results : Nat → Int32} {z_mo_own : Nat → Int32} : ∀ (x1 : Int32) (mo_value : Nat → Int32) (mo_isLaid : Int32) (mo_changes : Int32) (mo_changeNode : Nat → Int32) (mo_changeSign : Nat → Int32) (mo_differs : Nat → Int32) (mo_results : Nat → Int32) (mo_own : Nat → Int32), fX12_mend N mo_nodeSign mo_nodeSize mo_nodeMany mo_kinds mo_testInputs mo_testDue mo_tests x1 mo_value mo_isLaid mo_changes mo_changeNode mo_changeSign mo_differs mo_results mo_own = some (z_r, z_mo_value, z_mo_isLaid, z_mo_changes, z_mo_changeNode, z_mo_changeSign, z_mo_differs, z_mo_results, z_mo_own) → ∀ (H : Heap) (locs : List Loc) (ls : Array Slot), DB D A (wd_mo a b cI cJ cT mo_signs mo_signMany mo_nodeSign mo_nodeOn mo_nodeSize mo_nodeMany mo_due mo_openNode mo_value mo_isLaid mo_changes mo_changeNode mo_changeSign mo_differs mo_results mo_own mo_kinds mo_testInputs mo_testDue mo_tests mo_noticed mo_missed mo_leastFrom mo_blameUpper mo_blameLower) s H locs → lv_has ls 6 [(0, .ref (b 0)), (1, .int x1)] → W p l e rmX12_mend s m args below meth c H locs 0 0 (ZI below args s D A (tyl cI cJ cT) z_r (wd_mo a b cI cJ cT mo_signs mo_signMany mo_nodeSign mo_nodeOn mo_nodeSize mo_nodeMany mo_due mo_openNode z_mo_value z_mo_isLaid z_mo_changes z_mo_changeNode z_mo_changeSign z_mo_differs z_mo_results z_mo_own mo_kinds mo_testInputs mo_testDue mo_tests mo_noticed mo_missed mo_leastFrom mo_blameUpper mo_blameLower) 0 0) (F0 m 0 ls []) := by
  have hx := C.1.1
  have hb := C.1.2.1
  have hown := C.1.2.2.2.1
  have hts := C.1.2.2.2.2
  intro x1 mo_value mo_isLaid mo_changes mo_changeNode mo_changeSign mo_differs mo_results mo_own h H locs ls B hl
  rw [fX12_mend] at h
  refine lv_aload_n hx hb dX12_mend_0 rfl (lv_at hl 0 rfl) ?_
  obtain ⟨⟨r_1, mo_value_2, mo_isLaid_3, mo_changes_4, mo_changeNode_5, mo_changeSign_6, mo_differs_7, mo_results_8, mo_own_9⟩, g_11, h⟩ := ob_some h
  try dsimp only at h
  refine kc_VI C B (q0 := 0) (ci := 12) (As := []) (rest := []) (w2 := (wd_mo a b cI cJ cT mo_signs mo_signMany mo_nodeSign mo_nodeOn mo_nodeSize mo_nodeMany mo_due mo_openNode mo_value_2 mo_isLaid_3 mo_changes_4 mo_changeNode_5 mo_changeSign_6 mo_differs_7 mo_results_8 mo_own_9 mo_kinds mo_testInputs mo_testDue mo_tests mo_noticed mo_missed mo_leastFrom mo_blameUpper mo_blameLower)) (tX12_failing (a := a) (b := b) N g_11) gX12_mend_X12_failing rfl ⟨rfl, rfl⟩ ⟨rfl, hdX12_failing⟩ ⟨Nat.le_of_ble_eq_true rfl, Nat.le_of_ble_eq_true rfl⟩ rfl rfl [0, 1, 2, 3, 4, 5, 6, 7, 8, 9, 10, 11, 12, 13, 14, 15, 16, 17, 18, 19, 20, 21] [] [0, 1, 2, 3, 4, 5, 6, 7, 8, 9, 10, 11, 12, 13, 14, 15, 16, 17, 18, 19, 20, 21] rfl rfl rfl rfl rfl rfl rfl rfl hl.1 rfl (Nat.le_of_ble_eq_true rfl) ⟨Nat.zero_le _, Nat.zero_le _⟩ dX12_mend_1 (fun H locs B => ?_)
  refine lv_if_ne (tgt := 10) hx hb dX12_mend_4 (by decide) (fun c_10 => ?_) (fun c_10 => ?_)
  · rw [if_neg c_10] at h
    refine lv_iconst (v := 0) hx hb dX12_mend_10 (by decide) ?_
    refine lv_istore_n (lv' := [(2, .int (0 : Int32)), (0, .ref (b 0)), (1, .int x1)]) hx hb dX12_mend_11 rfl hl (by decide) rfl (fun ls hl => ?_)
    refine lv_iconst (v := 0) hx hb dX12_mend_12 (by decide) ?_
    refine lv_istore_n (lv' := [(3, .int (0 : Int32)), (2, .int (0 : Int32)), (0, .ref (b 0)), (1, .int x1)]) hx hb dX12_mend_13 rfl hl (by decide) rfl (fun ls hl => ?_)
    refine lv_bipush (v := -6) hx hb dX12_mend_14 (by decide) ?_
    refine lv_istore (lv' := [(4, .int (-6 : Int32)), (3, .int (0 : Int32)), (2, .int (0 : Int32)), (0, .ref (b 0)), (1, .int x1)]) hx hb dX12_mend_16 hl (by decide) rfl (fun ls hl => ?_)
    refine lv_iconst (v := 0) hx hb dX12_mend_18 (by decide) ?_
    refine lv_istore (lv' := [(5, .int (0 : Int32)), (4, .int (-6 : Int32)), (3, .int (0 : Int32)), (2, .int (0 : Int32)), (0, .ref (b 0)), (1, .int x1)]) hx hb dX12_mend_19 hl (by decide) rfl (fun ls hl => ?_)
    exact qX12_mend_21 C N x1 (0 : Int32) (0 : Int32) (-6 : Int32) (0 : Int32) mo_value_2 mo_isLaid_3 mo_changes_4 mo_changeNode_5 mo_changeSign_6 mo_differs_7 mo_results_8 mo_own_9 h H locs ls B (lv_sub hl [4, 5, 3, 2, 1, 0] rfl)
  · rw [if_pos c_10] at h
    refine lv_bipush (v := -3) hx hb dX12_mend_7 (by decide) ?_
    cases h
    exact k_iret C B dX12_mend_9
end
theorem tX12_mend {l : Launch} {D : va_G} {Es : (Nat → Nat) × (Nat → Nat)} {a b : Nat → Nat} {cI cJ cT : ClassId} {mo_signs : Nat → Int32} {mo_signMany : Int32} {mo_nodeSign : Nat → Int32} {mo_nodeOn : Nat → Int32} {mo_nodeSize : Nat → Int32} {mo_nodeMany : Nat → Int32} {mo_due : Nat → Int32} {mo_openNode : Nat → Int32} {mo_value : Nat → Int32} {mo_isLaid : Int32} {mo_changes : Int32} {mo_changeNode : Nat → Int32} {mo_changeSign : Nat → Int32} {mo_differs : Nat → Int32} {mo_results : Nat → Int32} {mo_own : Nat → Int32} {mo_kinds : Nat → Int32} {mo_testInputs : Nat → Int32} {mo_testDue : Nat → Int32} {mo_tests : Int32} {mo_noticed : Nat → Int32} {mo_missed : Nat → Int32} {mo_leastFrom : Nat → Int32} {mo_blameUpper : Nat → Int32} {mo_blameLower : Nat → Int32} {x1 : Int32} {z_r : Int32} {z_mo_value : Nat → Int32} {z_mo_isLaid : Int32} {z_mo_changes : Int32} {z_mo_changeNode : Nat → Int32} {z_mo_changeSign : Nat → Int32} {z_mo_differs : Nat → Int32} {z_mo_results : Nat → Int32} {z_mo_own : Nat → Int32} (N : Nat) (h : fX12_mend N mo_nodeSign mo_nodeSize mo_nodeMany mo_kinds mo_testInputs mo_testDue mo_tests x1 mo_value mo_isLaid mo_changes mo_changeNode mo_changeSign mo_differs mo_results mo_own = some (z_r, z_mo_value, z_mo_isLaid, z_mo_changes, z_mo_changeNode, z_mo_changeSign, z_mo_differs, z_mo_results, z_mo_own)) : CtI l yX12_mend wsX12_mend rmX12_mend D (tyl cI cJ cT) Es [.ref (b 0), .int x1] (wd_mo a b cI cJ cT mo_signs mo_signMany mo_nodeSign mo_nodeOn mo_nodeSize mo_nodeMany mo_due mo_openNode mo_value mo_isLaid mo_changes mo_changeNode mo_changeSign mo_differs mo_results mo_own mo_kinds mo_testInputs mo_testDue mo_tests mo_noticed mo_missed mo_leastFrom mo_blameUpper mo_blameLower) z_r (wd_mo a b cI cJ cT mo_signs mo_signMany mo_nodeSign mo_nodeOn mo_nodeSize mo_nodeMany mo_due mo_openNode z_mo_value z_mo_isLaid z_mo_changes z_mo_changeNode z_mo_changeSign z_mo_differs z_mo_results z_mo_own mo_kinds mo_testInputs mo_testDue mo_tests mo_noticed mo_missed mo_leastFrom mo_blameUpper mo_blameLower) :=
  CtI.of (own := RX12) (cc := cX12_mend) (nL := 6) (ret := (some .int)) (by decide +kernel) rfl rfl (Nat.le_of_ble_eq_true rfl) rfl (fun p e s m below meth c A ls C B hl => qX12_mend_0 C (N := N) x1 mo_value mo_isLaid mo_changes mo_changeNode mo_changeSign mo_differs mo_results mo_own h _ _ _ B hl)

abbrev rmX12_doPart : Room := { frames := 4, cells := 0, slots := 0, locals := 96 }
theorem hdX12_doPart : yX12_doPart.cls ≠ "java/lang/invoke/MethodHandle" ∧ yX12_doPart.cls ≠ "java/lang/invoke/VarHandle" ∧ (parseMethodDescriptor yX12_doPart.desc).map (fun d => d.parameters.length) = some 1 := by decide +kernel
theorem iX12_doPart_X12 : ∀ w ∈ wsX120, w ∈ wsX12_doPart := by decide +kernel
theorem gfX12_doPart_31 {p : Program} {l : Launch} {e : Env} {R : Room} {s : State} {m : MethodId} {args : Array Value} {below : List Frame} {meth : Method} {c : Code} {H : Heap} {locs : List Loc} {cells slots : Nat} {Q : State → Prop} {D : va_G} {A : Nat → Prop} {tys : List (ClassId × FieldType)} {Es : (Nat → Nat) × (Nat → Nat)} {ws : va_W} {pc : Nat} {ls : Array Slot} {rest : List Value} {a : Nat} (C : CT p s m args meth c RX12 cX12_doPart 3 (some .boolean) wsX12_doPart D A tys Es) (B : DB D A ws s H locs) (q0 : Nat) {fs : List Value} {v : Value} (he : ws[q0]? = some (a, .inr (12, fs))) (hv : fs[8]? = some v) (hdg : decode cX12_doPart pc = .ok (.getfield 31, 3)) (kk : W p l e R s m args below meth c H locs cells slots Q (F0 m (pc + 3) ls (v :: rest))) : W p l e R s m args below meth c H locs cells slots Q (F0 m pc ls (.ref a :: rest)) :=
  k_get (Cn := RX12) (T := TX12) (N := 25) (index := 31) C B iX12_doPart_X12 rfl 8 (by decide) (by decide +kernel) q0 he hv hdg kk
section
variable {p : Program} {l : Launch} {e : Env} {s : State} {m : MethodId} {args : Array Value} {below : List Frame} {meth : Method} {c : Code} {D : va_G} {A : Nat → Prop} {Es : (Nat → Nat) × (Nat → Nat)} {a b : Nat → Nat} {cI cJ cT : ClassId}
set_option maxHeartbeats 4000000 in
set_option maxRecDepth 100000 in
theorem qX12_doPart_16 (C : CT p s m args meth c RX12 cX12_doPart 3 (some .boolean) wsX12_doPart D A (tyl cI cJ cT) Es) {N : Nat} {mo_signs : Nat → Int32} {mo_signMany : Int32} {mo_nodeSign : Nat → Int32} {mo_nodeOn : Nat → Int32} {mo_nodeSize : Nat → Int32} {mo_nodeMany : Nat → Int32} {mo_due : Nat → Int32} {mo_openNode : Nat → Int32} {mo_isLaid : Int32} {mo_changes : Int32} {mo_changeNode : Nat → Int32} {mo_changeSign : Nat → Int32} {mo_differs : Nat → Int32} {mo_results : Nat → Int32} {mo_own : Nat → Int32} {mo_kinds : Nat → Int32} {mo_testInputs : Nat → Int32} {mo_testDue : Nat → Int32} {mo_tests : Int32} {mo_noticed : Nat → Int32} {mo_missed : Nat → Int32} {mo_leastFrom : Nat → Int32} {mo_blameUpper : Nat → Int32} {mo_blameLower : Nat → Int32} {z_r : Int32} {z_mo_value : Nat → Int32} : ∀ (x1 : Int32) (x2 : Int32) (mo_value : Nat → Int32), bX12_doPart_16 N mo_nodeSign mo_nodeSize mo_nodeMany x1 x2 mo_value = some (z_r, z_mo_value) → ∀ (H : Heap) (locs : List Loc) (ls : Array Slot), DB D A (wd_mo a b cI cJ cT mo_signs mo_signMany mo_nodeSign mo_nodeOn mo_nodeSize mo_nodeMany mo_due mo_openNode mo_value mo_isLaid mo_changes mo_changeNode mo_changeSign mo_differs mo_results mo_own mo_kinds mo_testInputs mo_testDue mo_tests mo_noticed mo_missed mo_leastFrom mo_blameUpper mo_blameLower) s H locs → lv_has ls 3 [(0, .ref (b 0)), (1, .int x1), (2, .int x2)] → W p l e rmX12_doPart s m args below meth c H locs 0 0 (ZI below args s D A (tyl cI cJ cT) z_r (wd_mo a b cI cJ cT mo_signs mo_signMany mo_nodeSign mo_nodeOn mo_nodeSize mo_nodeMany mo_due mo_openNode z_mo_value mo_isLaid mo_changes mo_changeNode mo_changeSign mo_differs mo_results mo_own mo_kinds mo_testInputs mo_testDue mo_tests mo_noticed mo_missed mo_leastFrom mo_blameUpper mo_blameLower) 0 0) (F0 m 16 ls []) := by
  have hx := C.1.1
  have hb := C.1.2.1
  have hown := C.1.2.2.2.1
  have hts := C.1.2.2.2.2
  intro x1 x2 mo_value h H locs ls B hl
  rw [bX12_doPart_16] at h
  refine lv_aload_n hx hb dX12_doPart_16 rfl (lv_at hl 0 rfl) ?_
  refine lv_iconst (v := 1) hx hb dX12_doPart_17 (by decide) ?_
  refine lv_iload_n hx hb dX12_doPart_18 rfl (lv_at hl 1 rfl) ?_
  refine lv_bipush (v := -6) hx hb dX12_doPart_19 (by decide) ?_
  refine lv_iconst (v := 0) hx hb dX12_doPart_21 (by decide) ?_
  obtain ⟨mo_value_1, g_4, h⟩ := ob_some h
  try dsimp only at h
  refine kc_VV C B (q0 := 0) (ci := 12) (As := [.int (1 : Int32), .int x1, .int (-6 : Int32), .int (0 : Int32)]) (rest := []) (w2 := (wd_mo a b cI cJ cT mo_signs mo_signMany mo_nodeSign mo_nodeOn mo_nodeSize mo_nodeMany mo_due mo_openNode mo_value_1 mo_isLaid mo_changes mo_changeNode mo_changeSign mo_differs mo_results mo_own mo_kinds mo_testInputs mo_testDue mo_tests mo_noticed mo_missed mo_leastFrom mo_blameUpper mo_blameLower)) (tX12_work (a := a) (b := b) N g_4) gX12_doPart_X12_work rfl ⟨rfl, rfl⟩ ⟨rfl, hdX12_work⟩ ⟨Nat.le_of_ble_eq_true rfl, Nat.le_of_ble_eq_true rfl⟩ rfl rfl [0, 1, 2, 3, 4, 5, 6, 7, 8, 9, 10, 11, 12, 13, 14, 15, 16, 17, 18, 19, 20, 21] [] [0, 1, 2, 3, 4, 5, 6, 7, 8, 9, 10, 11, 12, 13, 14, 15, 16, 17, 18, 19, 20, 21] rfl rfl rfl rfl rfl rfl rfl rfl hl.1 rfl (Nat.le_of_ble_eq_true rfl) ⟨Nat.zero_le _, Nat.zero_le _⟩ dX12_doPart_22 (fun H locs B => ?_)
  refine lv_iload_n hx hb dX12_doPart_25 rfl (lv_at hl 2 rfl) ?_
  refine lv_aload_n hx hb dX12_doPart_26 rfl (lv_at hl 0 rfl) ?_
  refine gfX12_doPart_31 C B 0 rfl rfl dX12_doPart_27 ?_
  refine lv_iconst (v := 0) hx hb dX12_doPart_30 (by decide) ?_
  refine k_iald C B 8 0 rfl rfl (vp_lit (by decide)) dX12_doPart_31 ?_
  refine lv_icmp_eq (tgt := 39) hx hb dX12_doPart_32 (by decide) (fun c_3 => ?_) (fun c_3 => ?_)
  · rw [if_pos c_3] at h
    refine lv_iconst (v := 0) hx hb dX12_doPart_39 (by decide) ?_
    cases h
    exact k_zret C B (by decide) dX12_doPart_40
  · rw [if_neg c_3] at h
    refine lv_iconst (v := 1) hx hb dX12_doPart_35 (by decide) ?_
    refine lv_goto (tgt := 40) hx hb dX12_doPart_36 (by decide) ?_
    cases h
    exact k_zret C B (by decide) dX12_doPart_40
set_option maxHeartbeats 4000000 in
set_option maxRecDepth 100000 in
theorem qX12_doPart_0 (C : CT p s m args meth c RX12 cX12_doPart 3 (some .boolean) wsX12_doPart D A (tyl cI cJ cT) Es) {N : Nat} {mo_signs : Nat → Int32} {mo_signMany : Int32} {mo_nodeSign : Nat → Int32} {mo_nodeOn : Nat → Int32} {mo_nodeSize : Nat → Int32} {mo_nodeMany : Nat → Int32} {mo_due : Nat → Int32} {mo_openNode : Nat → Int32} {mo_isLaid : Int32} {mo_changes : Int32} {mo_changeNode : Nat → Int32} {mo_changeSign : Nat → Int32} {mo_differs : Nat → Int32} {mo_results : Nat → Int32} {mo_own : Nat → Int32} {mo_kinds : Nat → Int32} {mo_testInputs : Nat → Int32} {mo_testDue : Nat → Int32} {mo_tests : Int32} {mo_noticed : Nat → Int32} {mo_missed : Nat → Int32} {mo_leastFrom : Nat → Int32} {mo_blameUpper : Nat → Int32} {mo_blameLower : Nat → Int32} {z_r : Int32} {z_mo_value : Nat → Int32} : ∀ (x1 : Int32) (mo_value : Nat → Int32), fX12_doPart N mo_nodeSign mo_nodeSize mo_nodeMany x1 mo_value = some (z_r, z_mo_value) → ∀ (H : Heap) (locs : List Loc) (ls : Array Slot), DB D A (wd_mo a b cI cJ cT mo_signs mo_signMany mo_nodeSign mo_nodeOn mo_nodeSize mo_nodeMany mo_due mo_openNode mo_value mo_isLaid mo_changes mo_changeNode mo_changeSign mo_differs mo_results mo_own mo_kinds mo_testInputs mo_testDue mo_tests mo_noticed mo_missed mo_leastFrom mo_blameUpper mo_blameLower) s H locs → lv_has ls 3 [(0, .ref (b 0)), (1, .int x1)] → W p l e rmX12_doPart s m args below meth c H locs 0 0 (ZI below args s D A (tyl cI cJ cT) z_r (wd_mo a b cI cJ cT mo_signs mo_signMany mo_nodeSign mo_nodeOn mo_nodeSize mo_nodeMany mo_due mo_openNode z_mo_value mo_isLaid mo_changes mo_changeNode mo_changeSign mo_differs mo_results mo_own mo_kinds mo_testInputs mo_testDue mo_tests mo_noticed mo_missed mo_leastFrom mo_blameUpper mo_blameLower) 0 0) (F0 m 0 ls []) := by
  have hx := C.1.1
  have hb := C.1.2.1
  have hown := C.1.2.2.2.1
  have hts := C.1.2.2.2.2
  intro x1 mo_value h H locs ls B hl
  rw [fX12_doPart] at h
  refine lv_aload_n hx hb dX12_doPart_0 rfl (lv_at hl 0 rfl) ?_
  refine lv_iconst (v := 0) hx hb dX12_doPart_1 (by decide) ?_
  refine lv_iload_n hx hb dX12_doPart_2 rfl (lv_at hl 1 rfl) ?_
  refine lv_bipush (v := -6) hx hb dX12_doPart_3 (by decide) ?_
  refine lv_iconst (v := 0) hx hb dX12_doPart_5 (by decide) ?_
  obtain ⟨mo_value_1, g_3, h⟩ := ob_some h
  try dsimp only at h
  refine kc_VV C B (q0 := 0) (ci := 12) (As := [.int (0 : Int32), .int x1, .int (-6 : Int32), .int (0 : Int32)]) (rest := []) (w2 := (wd_mo a b cI cJ cT mo_signs mo_signMany mo_nodeSign mo_nodeOn mo_nodeSize mo_nodeMany mo_due mo_openNode mo_value_1 mo_isLaid mo_changes mo_changeNode mo_changeSign mo_differs mo_results mo_own mo_kinds mo_testInputs mo_testDue mo_tests mo_noticed mo_missed mo_leastFrom mo_blameUpper mo_blameLower)) (tX12_work (a := a) (b := b) N g_3) gX12_doPart_X12_work rfl ⟨rfl, rfl⟩ ⟨rfl, hdX12_work⟩ ⟨Nat.le_of_ble_eq_true rfl, Nat.le_of_ble_eq_true rfl⟩ rfl rfl [0, 1, 2, 3, 4, 5, 6, 7, 8, 9, 10, 11, 12, 13, 14, 15, 16, 17, 18, 19, 20, 21] [] [0, 1, 2, 3, 4, 5, 6, 7, 8, 9, 10, 11, 12, 13, 14, 15, 16, 17, 18, 19, 20, 21] rfl rfl rfl rfl rfl rfl rfl rfl hl.1 rfl (Nat.le_of_ble_eq_true rfl) ⟨Nat.zero_le _, Nat.zero_le _⟩ dX12_doPart_6 (fun H locs B => ?_)
  refine lv_aload_n hx hb dX12_doPart_9 rfl (lv_at hl 0 rfl) ?_
  refine gfX12_doPart_31 C B 0 rfl rfl dX12_doPart_10 ?_
  refine lv_iconst (v := 0) hx hb dX12_doPart_13 (by decide) ?_
  refine k_iald C B 8 0 rfl rfl (vp_lit (by decide)) dX12_doPart_14 ?_
  refine lv_istore_n (lv' := [(2, .int (mo_value_1 (Int32.toNatClampNeg (0 : Int32)))), (0, .ref (b 0)), (1, .int x1)]) hx hb dX12_doPart_15 rfl hl (by decide) rfl (fun ls hl => ?_)
  exact qX12_doPart_16 C x1 (mo_value_1 (Int32.toNatClampNeg (0 : Int32))) mo_value_1 h H locs ls B (lv_sub hl [1, 2, 0] rfl)
end
theorem tX12_doPart {l : Launch} {D : va_G} {Es : (Nat → Nat) × (Nat → Nat)} {a b : Nat → Nat} {cI cJ cT : ClassId} {mo_signs : Nat → Int32} {mo_signMany : Int32} {mo_nodeSign : Nat → Int32} {mo_nodeOn : Nat → Int32} {mo_nodeSize : Nat → Int32} {mo_nodeMany : Nat → Int32} {mo_due : Nat → Int32} {mo_openNode : Nat → Int32} {mo_value : Nat → Int32} {mo_isLaid : Int32} {mo_changes : Int32} {mo_changeNode : Nat → Int32} {mo_changeSign : Nat → Int32} {mo_differs : Nat → Int32} {mo_results : Nat → Int32} {mo_own : Nat → Int32} {mo_kinds : Nat → Int32} {mo_testInputs : Nat → Int32} {mo_testDue : Nat → Int32} {mo_tests : Int32} {mo_noticed : Nat → Int32} {mo_missed : Nat → Int32} {mo_leastFrom : Nat → Int32} {mo_blameUpper : Nat → Int32} {mo_blameLower : Nat → Int32} {x1 : Int32} {z_r : Int32} {z_mo_value : Nat → Int32} (N : Nat) (h : fX12_doPart N mo_nodeSign mo_nodeSize mo_nodeMany x1 mo_value = some (z_r, z_mo_value)) : CtI l yX12_doPart wsX12_doPart rmX12_doPart D (tyl cI cJ cT) Es [.ref (b 0), .int x1] (wd_mo a b cI cJ cT mo_signs mo_signMany mo_nodeSign mo_nodeOn mo_nodeSize mo_nodeMany mo_due mo_openNode mo_value mo_isLaid mo_changes mo_changeNode mo_changeSign mo_differs mo_results mo_own mo_kinds mo_testInputs mo_testDue mo_tests mo_noticed mo_missed mo_leastFrom mo_blameUpper mo_blameLower) z_r (wd_mo a b cI cJ cT mo_signs mo_signMany mo_nodeSign mo_nodeOn mo_nodeSize mo_nodeMany mo_due mo_openNode z_mo_value mo_isLaid mo_changes mo_changeNode mo_changeSign mo_differs mo_results mo_own mo_kinds mo_testInputs mo_testDue mo_tests mo_noticed mo_missed mo_leastFrom mo_blameUpper mo_blameLower) :=
  CtI.of (own := RX12) (cc := cX12_doPart) (nL := 3) (ret := (some .boolean)) (by decide +kernel) rfl rfl (Nat.le_of_ble_eq_true rfl) rfl (fun p e s m below meth c A ls C B hl => qX12_doPart_0 C (N := N) x1 mo_value h _ _ _ B hl)

abbrev rmX12_sumOf : Room := { frames := 0, cells := 0, slots := 0, locals := 0 }
theorem hdX12_sumOf : yX12_sumOf.cls ≠ "java/lang/invoke/MethodHandle" ∧ yX12_sumOf.cls ≠ "java/lang/invoke/VarHandle" ∧ (parseMethodDescriptor yX12_sumOf.desc).map (fun d => d.parameters.length) = some 1 := by decide +kernel
section
variable {p : Program} {l : Launch} {e : Env} {s : State} {m : MethodId} {args : Array Value} {below : List Frame} {meth : Method} {c : Code} {D : va_G} {A : Nat → Prop} {Es : (Nat → Nat) × (Nat → Nat)} {a b : Nat → Nat} {cI cJ cT : ClassId}
set_option maxHeartbeats 4000000 in
set_option maxRecDepth 100000 in
theorem qX12_sumOf_0 (C : CT p s m args meth c RX12 cX12_sumOf 1 (some .int) wsX12_sumOf D A (tyl cI cJ cT) Es) {N : Nat} {z_r : Int32} : ∀ (x0 : Int32), fX12_sumOf N x0 = some z_r → ∀ (H : Heap) (locs : List Loc) (ls : Array Slot), DB D A [] s H locs → lv_has ls 1 [(0, .int x0)] → W p l e rmX12_sumOf s m args below meth c H locs 0 0 (ZI below args s D A (tyl cI cJ cT) z_r [] 0 0) (F0 m 0 ls []) := by
  have hx := C.1.1
  have hb := C.1.2.1
  have hown := C.1.2.2.2.1
  have hts := C.1.2.2.2.2
  intro x0 h H locs ls B hl
  rw [fX12_sumOf] at h
  refine lv_iload_n hx hb dX12_sumOf_0 rfl (lv_at hl 0 rfl) ?_
  refine lv_bipush (v := 6) hx hb dX12_sumOf_1 (by decide) ?_
  refine lv_ishr hx hb dX12_sumOf_3 ?_
  refine lv_iload_n hx hb dX12_sumOf_4 rfl (lv_at hl 0 rfl) ?_
  refine lv_iconst (v := 3) hx hb dX12_sumOf_5 (by decide) ?_
  refine lv_ishr hx hb dX12_sumOf_6 ?_
  refine lv_bipush (v := 7) hx hb dX12_sumOf_7 (by decide) ?_
  refine lv_iand hx hb dX12_sumOf_9 ?_
  refine lv_iadd hx hb dX12_sumOf_10 ?_
  refine lv_iload_n hx hb dX12_sumOf_11 rfl (lv_at hl 0 rfl) ?_
  refine lv_bipush (v := 7) hx hb dX12_sumOf_12 (by decide) ?_
  refine lv_iand hx hb dX12_sumOf_14 ?_
  refine lv_iadd hx hb dX12_sumOf_15 ?_
  cases h
  exact k_iret C B dX12_sumOf_16
end
theorem tX12_sumOf {l : Launch} {D : va_G} {Es : (Nat → Nat) × (Nat → Nat)} {cI cJ cT : ClassId} {x0 : Int32} {z_r : Int32} (N : Nat) (h : fX12_sumOf N x0 = some z_r) : CtI l yX12_sumOf wsX12_sumOf rmX12_sumOf D (tyl cI cJ cT) Es [.int x0] [] z_r [] :=
  CtI.of (own := RX12) (cc := cX12_sumOf) (nL := 1) (ret := (some .int)) (by decide +kernel) rfl rfl (Nat.le_of_ble_eq_true rfl) rfl (fun p e s m below meth c A ls C B hl => qX12_sumOf_0 C (N := N) x0 h _ _ _ B hl)

abbrev rmX12_parts : Room := { frames := 5, cells := 0, slots := 0, locals := 118 }
theorem hdX12_parts : yX12_parts.cls ≠ "java/lang/invoke/MethodHandle" ∧ yX12_parts.cls ≠ "java/lang/invoke/VarHandle" ∧ (parseMethodDescriptor yX12_parts.desc).map (fun d => d.parameters.length) = some 1 := by decide +kernel
section
variable {p : Program} {l : Launch} {e : Env} {s : State} {m : MethodId} {args : Array Value} {below : List Frame} {meth : Method} {c : Code} {D : va_G} {A : Nat → Prop} {Es : (Nat → Nat) × (Nat → Nat)} {a b : Nat → Nat} {cI cJ cT : ClassId}
set_option maxHeartbeats 4000000 in
set_option maxRecDepth 100000 in
theorem qX12_parts_18 (C : CT p s m args meth c RX12 cX12_parts 5 (some .int) wsX12_parts D A (tyl cI cJ cT) Es) {N : Nat} {mo_signs : Nat → Int32} {mo_signMany : Int32} {mo_nodeSign : Nat → Int32} {mo_nodeOn : Nat → Int32} {mo_nodeSize : Nat → Int32} {mo_nodeMany : Nat → Int32} {mo_due : Nat → Int32} {mo_openNode : Nat → Int32} {mo_isLaid : Int32} {mo_changes : Int32} {mo_changeNode : Nat → Int32} {mo_changeSign : Nat → Int32} {mo_differs : Nat → Int32} {mo_results : Nat → Int32} {mo_own : Nat → Int32} {mo_kinds : Nat → Int32} {mo_testInputs : Nat → Int32} {mo_testDue : Nat → Int32} {mo_tests : Int32} {mo_noticed : Nat → Int32} {mo_missed : Nat → Int32} {mo_leastFrom : Nat → Int32} {mo_blameUpper : Nat → Int32} {mo_blameLower : Nat → Int32} {z_r : Int32} {z_mo_value : Nat → Int32} : ∀ (n : Nat) (x1 : Int32) (x2 : Int32) (x3 : Int32) (x4 : Int32) (mo_value : Nat → Int32), bX12_parts_18 N mo_nodeSign mo_nodeSize mo_nodeMany n x1 x2 x3 x4 mo_value = some (z_r, z_mo_value) → ∀ (H : Heap) (locs : List Loc) (ls : Array Slot), DB D A (wd_mo a b cI cJ cT mo_signs mo_signMany mo_nodeSign mo_nodeOn mo_nodeSize mo_nodeMany mo_due mo_openNode mo_value mo_isLaid mo_changes mo_changeNode mo_changeSign mo_differs mo_results mo_own mo_kinds mo_testInputs mo_testDue mo_tests mo_noticed mo_missed mo_leastFrom mo_blameUpper mo_blameLower) s H locs → lv_has ls 5 [(0, .ref (b 0)), (1, .int x1), (2, .int x2), (3, .int x3), (4, .int x4)] → W p l e rmX12_parts s m args below meth c H locs 0 0 (ZI below args s D A (tyl cI cJ cT) z_r (wd_mo a b cI cJ cT mo_signs mo_signMany mo_nodeSign mo_nodeOn mo_nodeSize mo_nodeMany mo_due mo_openNode z_mo_value mo_isLaid mo_changes mo_changeNode mo_changeSign mo_differs mo_results mo_own mo_kinds mo_testInputs mo_testDue mo_tests mo_noticed mo_missed mo_leastFrom mo_blameUpper mo_blameLower) 0 0) (F0 m 18 ls []) := by
  have hx := C.1.1
  have hb := C.1.2.1
  have hown := C.1.2.2.2.1
  have hts := C.1.2.2.2.2
  intro n
  induction n with
  | zero => intro x1 x2 x3 x4 mo_value h; cases h
  | succ n ih =>
    intro x1 x2 x3 x4 mo_value h H locs ls B hl
    rw [bX12_parts_18] at h
    refine lv_iload hx hb dX12_parts_18 (lv_at hl 4 rfl) ?_
    refine lv_sipush (v := 512) hx hb dX12_parts_20 (by decide) ?_
    refine lv_icmp_ge (tgt := 67) hx hb dX12_parts_23 (by decide) (fun c_1 => ?_) (fun c_1 => ?_)
    · rw [if_pos c_1] at h
      refine lv_iload_n hx hb dX12_parts_67 rfl (lv_at hl 1 rfl) ?_
      refine lv_if_ne (tgt := 75) hx hb dX12_parts_68 (by decide) (fun c_2 => ?_) (fun c_2 => ?_)
      · rw [if_neg c_2] at h
        refine lv_iload_n hx hb dX12_parts_75 rfl (lv_at hl 3 rfl) ?_
        cases h
        exact k_iret C B dX12_parts_76
      · rw [if_pos c_2] at h
        refine lv_iload_n hx hb dX12_parts_71 rfl (lv_at hl 2 rfl) ?_
        refine lv_goto (tgt := 76) hx hb dX12_parts_72 (by decide) ?_
        cases h
        exact k_iret C B dX12_parts_76
    · rw [if_neg c_1] at h
      refine lv_aload_n hx hb dX12_parts_26 rfl (lv_at hl 0 rfl) ?_
      refine lv_iload hx hb dX12_parts_27 (lv_at hl 4 rfl) ?_
      obtain ⟨⟨r_3, mo_value_4⟩, g_12, h⟩ := ob_some h
      try dsimp only at h
      refine kc_VI C B (q0 := 0) (ci := 12) (As := [.int x4]) (rest := []) (w2 := (wd_mo a b cI cJ cT mo_signs mo_signMany mo_nodeSign mo_nodeOn mo_nodeSize mo_nodeMany mo_due mo_openNode mo_value_4 mo_isLaid mo_changes mo_changeNode mo_changeSign mo_differs mo_results mo_own mo_kinds mo_testInputs mo_testDue mo_tests mo_noticed mo_missed mo_leastFrom mo_blameUpper mo_blameLower)) (tX12_doPart (a := a) (b := b) N g_12) gX12_parts_X12_doPart rfl ⟨rfl, rfl⟩ ⟨rfl, hdX12_doPart⟩ ⟨Nat.le_of_ble_eq_true rfl, Nat.le_of_ble_eq_true rfl⟩ rfl rfl [0, 1, 2, 3, 4, 5, 6, 7, 8, 9, 10, 11, 12, 13, 14, 15, 16, 17, 18, 19, 20, 21] [] [0, 1, 2, 3, 4, 5, 6, 7, 8, 9, 10, 11, 12, 13, 14, 15, 16, 17, 18, 19, 20, 21] rfl rfl rfl rfl rfl rfl rfl rfl hl.1 rfl (Nat.le_of_ble_eq_true rfl) ⟨Nat.zero_le _, Nat.zero_le _⟩ dX12_parts_29 (fun H locs B => ?_)
      refine lv_if_eq (tgt := 61) hx hb dX12_parts_32 (by decide) (fun c_5 => ?_) (fun c_5 => ?_)
      · rw [if_pos c_5] at h
        refine lv_iinc (v := (x4 + 1)) (lv' := [(4, .int (x4 + 1)), (0, .ref (b 0)), (1, .int x1), (2, .int x2), (3, .int x3)]) hx hb dX12_parts_61 hl (k := 4) rfl rfl (by decide) rfl (fun ls hl => ?_)
        refine lv_goto (tgt := 18) hx hb dX12_parts_64 (by decide) ?_
        exact ih x1 x2 x3 (x4 + 1) mo_value_4 h H locs ls B (lv_sub hl [1, 2, 3, 4, 0] rfl)
      · rw [if_neg c_5] at h
        refine lv_iload_n hx hb dX12_parts_35 rfl (lv_at hl 3 rfl) ?_
        refine lv_if_lt (tgt := 51) hx hb dX12_parts_36 (by decide) (fun c_6 => ?_) (fun c_6 => ?_)
        · rw [if_pos c_6] at h
          refine lv_iload hx hb dX12_parts_51 (lv_at hl 4 rfl) ?_
          refine lv_goto (tgt := 57) hx hb dX12_parts_53 (by decide) ?_
          refine lv_istore_n (lv' := [(3, .int x4), (0, .ref (b 0)), (1, .int x1), (2, .int x2), (4, .int x4)]) hx hb dX12_parts_57 rfl hl (by decide) rfl (fun ls hl => ?_)
          refine lv_iinc (v := (x2 + 1)) (lv' := [(2, .int (x2 + 1)), (3, .int x4), (0, .ref (b 0)), (1, .int x1), (4, .int x4)]) hx hb dX12_parts_58 hl (k := 3) rfl rfl (by decide) rfl (fun ls hl => ?_)
          refine lv_iinc (v := (x4 + 1)) (lv' := [(4, .int (x4 + 1)), (2, .int (x2 + 1)), (3, .int x4), (0, .ref (b 0)), (1, .int x1)]) hx hb dX12_parts_61 hl (k := 4) rfl rfl (by decide) rfl (fun ls hl => ?_)
          refine lv_goto (tgt := 18) hx hb dX12_parts_64 (by decide) ?_
          exact ih x1 (x2 + 1) x4 (x4 + 1) mo_value_4 h H locs ls B (lv_sub hl [3, 4, 1, 2, 0] rfl)
        · rw [if_neg c_6] at h
          refine lv_iload hx hb dX12_parts_39 (lv_at hl 4 rfl) ?_
          obtain ⟨r_7, g_11, h⟩ := ob_some h
          try dsimp only at h
          refine kc_SI C B (As := [.int x4]) (rest := []) (w2 := (wd_mo a b cI cJ cT mo_signs mo_signMany mo_nodeSign mo_nodeOn mo_nodeSize mo_nodeMany mo_due mo_openNode mo_value_4 mo_isLaid mo_changes mo_changeNode mo_changeSign mo_differs mo_results mo_own mo_kinds mo_testInputs mo_testDue mo_tests mo_noticed mo_missed mo_leastFrom mo_blameUpper mo_blameLower)) (tX12_sumOf N g_11) gX12_parts_X12_sumOf rfl ⟨rfl, rfl⟩ hdX12_sumOf ⟨Nat.le_of_ble_eq_true rfl, Nat.le_of_ble_eq_true rfl⟩ [] [0, 1, 2, 3, 4, 5, 6, 7, 8, 9, 10, 11, 12, 13, 14, 15, 16, 17, 18, 19, 20, 21] [0, 1, 2, 3, 4, 5, 6, 7, 8, 9, 10, 11, 12, 13, 14, 15, 16, 17, 18, 19, 20, 21] rfl rfl rfl rfl rfl rfl rfl rfl hl.1 rfl (Nat.le_of_ble_eq_true rfl) ⟨Nat.zero_le _, Nat.zero_le _⟩ dX12_parts_41 (fun H locs B => ?_)
          refine lv_iload_n hx hb dX12_parts_44 rfl (lv_at hl 3 rfl) ?_
          obtain ⟨r_8, g_10, h⟩ := ob_some h
          try dsimp only at h
          refine kc_SI C B (As := [.int x3]) (rest := [.int r_7]) (w2 := (wd_mo a b cI cJ cT mo_signs mo_signMany mo_nodeSign mo_nodeOn mo_nodeSize mo_nodeMany mo_due mo_openNode mo_value_4 mo_isLaid mo_changes mo_changeNode mo_changeSign mo_differs mo_results mo_own mo_kinds mo_testInputs mo_testDue mo_tests mo_noticed mo_missed mo_leastFrom mo_blameUpper mo_blameLower)) (tX12_sumOf N g_10) gX12_parts_X12_sumOf rfl ⟨rfl, rfl⟩ hdX12_sumOf ⟨Nat.le_of_ble_eq_true rfl, Nat.le_of_ble_eq_true rfl⟩ [] [0, 1, 2, 3, 4, 5, 6, 7, 8, 9, 10, 11, 12, 13, 14, 15, 16, 17, 18, 19, 20, 21] [0, 1, 2, 3, 4, 5, 6, 7, 8, 9, 10, 11, 12, 13, 14, 15, 16, 17, 18, 19, 20, 21] rfl rfl rfl rfl rfl rfl rfl rfl hl.1 rfl (Nat.le_of_ble_eq_true rfl) ⟨Nat.zero_le _, Nat.zero_le _⟩ dX12_parts_45 (fun H locs B => ?_)
          refine lv_icmp_ge (tgt := 56) hx hb dX12_parts_48 (by decide) (fun c_9 => ?_) (fun c_9 => ?_)
          · rw [if_pos c_9] at h
            refine lv_iload_n hx hb dX12_parts_56 rfl (lv_at hl 3 rfl) ?_
            refine lv_istore_n (lv' := [(3, .int x3), (0, .ref (b 0)), (1, .int x1), (2, .int x2), (4, .int x4)]) hx hb dX12_parts_57 rfl hl (by decide) rfl (fun ls hl => ?_)
            refine lv_iinc (v := (x2 + 1)) (lv' := [(2, .int (x2 + 1)), (3, .int x3), (0, .ref (b 0)), (1, .int x1), (4, .int x4)]) hx hb dX12_parts_58 hl (k := 3) rfl rfl (by decide) rfl (fun ls hl => ?_)
            refine lv_iinc (v := (x4 + 1)) (lv' := [(4, .int (x4 + 1)), (2, .int (x2 + 1)), (3, .int x3), (0, .ref (b 0)), (1, .int x1)]) hx hb dX12_parts_61 hl (k := 4) rfl rfl (by decide) rfl (fun ls hl => ?_)
            refine lv_goto (tgt := 18) hx hb dX12_parts_64 (by decide) ?_
            exact ih x1 (x2 + 1) x3 (x4 + 1) mo_value_4 h H locs ls B (lv_sub hl [3, 4, 1, 2, 0] rfl)
          · rw [if_neg c_9] at h
            refine lv_iload hx hb dX12_parts_51 (lv_at hl 4 rfl) ?_
            refine lv_goto (tgt := 57) hx hb dX12_parts_53 (by decide) ?_
            refine lv_istore_n (lv' := [(3, .int x4), (0, .ref (b 0)), (1, .int x1), (2, .int x2), (4, .int x4)]) hx hb dX12_parts_57 rfl hl (by decide) rfl (fun ls hl => ?_)
            refine lv_iinc (v := (x2 + 1)) (lv' := [(2, .int (x2 + 1)), (3, .int x4), (0, .ref (b 0)), (1, .int x1), (4, .int x4)]) hx hb dX12_parts_58 hl (k := 3) rfl rfl (by decide) rfl (fun ls hl => ?_)
            refine lv_iinc (v := (x4 + 1)) (lv' := [(4, .int (x4 + 1)), (2, .int (x2 + 1)), (3, .int x4), (0, .ref (b 0)), (1, .int x1)]) hx hb dX12_parts_61 hl (k := 4) rfl rfl (by decide) rfl (fun ls hl => ?_)
            refine lv_goto (tgt := 18) hx hb dX12_parts_64 (by decide) ?_
            exact ih x1 (x2 + 1) x4 (x4 + 1) mo_value_4 h H locs ls B (lv_sub hl [3, 4, 1, 2, 0] rfl)
set_option maxHeartbeats 4000000 in
set_option maxRecDepth 100000 in
theorem qX12_parts_0 (C : CT p s m args meth c RX12 cX12_parts 5 (some .int) wsX12_parts D A (tyl cI cJ cT) Es) {N : Nat} {mo_signs : Nat → Int32} {mo_signMany : Int32} {mo_nodeSign : Nat → Int32} {mo_nodeOn : Nat → Int32} {mo_nodeSize : Nat → Int32} {mo_nodeMany : Nat → Int32} {mo_due : Nat → Int32} {mo_openNode : Nat → Int32} {mo_isLaid : Int32} {mo_changes : Int32} {mo_changeNode : Nat → Int32} {mo_changeSign : Nat → Int32} {mo_differs : Nat → Int32} {mo_results : Nat → Int32} {mo_own : Nat → Int32} {mo_kinds : Nat → Int32} {mo_testInputs : Nat → Int32} {mo_testDue : Nat → Int32} {mo_tests : Int32} {mo_noticed : Nat → Int32} {mo_missed : Nat → Int32} {mo_leastFrom : Nat → Int32} {mo_blameUpper : Nat → Int32} {mo_blameLower : Nat → Int32} {z_r : Int32} {z_mo_value : Nat → Int32} : ∀ (x1 : Int32) (mo_value : Nat → Int32), fX12_parts N mo_nodeSign mo_nodeSize mo_nodeMany x1 mo_value = some (z_r, z_mo_value) → ∀ (H : Heap) (locs : List Loc) (ls : Array Slot), DB D A (wd_mo a b cI cJ cT mo_signs mo_signMany mo_nodeSign mo_nodeOn mo_nodeSize mo_nodeMany mo_due mo_openNode mo_value mo_isLaid mo_changes mo_changeNode mo_changeSign mo_differs mo_results mo_own mo_kinds mo_testInputs mo_testDue mo_tests mo_noticed mo_missed mo_leastFrom mo_blameUpper mo_blameLower) s H locs → lv_has ls 5 [(0, .ref (b 0)), (1, .int x1)] → W p l e rmX12_parts s m args below meth c H locs 0 0 (ZI below args s D A (tyl cI cJ cT) z_r (wd_mo a b cI cJ cT mo_signs mo_signMany mo_nodeSign mo_nodeOn mo_nodeSize mo_nodeMany mo_due mo_openNode z_mo_value mo_isLaid mo_changes mo_changeNode mo_changeSign mo_differs mo_results mo_own mo_kinds mo_testInputs mo_testDue mo_tests mo_noticed mo_missed mo_leastFrom mo_blameUpper mo_blameLower) 0 0) (F0 m 0 ls []) := by
  have hx := C.1.1
  have hb := C.1.2.1
  have hown := C.1.2.2.2.1
  have hts := C.1.2.2.2.2
  intro x1 mo_value h H locs ls B hl
  rw [fX12_parts] at h
  refine lv_iload_n hx hb dX12_parts_0 rfl (lv_at hl 1 rfl) ?_
  obtain ⟨r_1, g_3, h⟩ := ob_some h
  try dsimp only at h
  refine kc_SI C B (As := [.int x1]) (rest := []) (w2 := (wd_mo a b cI cJ cT mo_signs mo_signMany mo_nodeSign mo_nodeOn mo_nodeSize mo_nodeMany mo_due mo_openNode mo_value mo_isLaid mo_changes mo_changeNode mo_changeSign mo_differs mo_results mo_own mo_kinds mo_testInputs mo_testDue mo_tests mo_noticed mo_missed mo_leastFrom mo_blameUpper mo_blameLower)) (tX12_isPart N g_3) gX12_parts_X12_isPart rfl ⟨rfl, rfl⟩ hdX12_isPart ⟨Nat.le_of_ble_eq_true rfl, Nat.le_of_ble_eq_true rfl⟩ [] [0, 1, 2, 3, 4, 5, 6, 7, 8, 9, 10, 11, 12, 13, 14, 15, 16, 17, 18, 19, 20, 21] [0, 1, 2, 3, 4, 5, 6, 7, 8, 9, 10, 11, 12, 13, 14, 15, 16, 17, 18, 19, 20, 21] rfl rfl rfl rfl rfl rfl rfl rfl hl.1 rfl (Nat.le_of_ble_eq_true rfl) ⟨Nat.zero_le _, Nat.zero_le _⟩ dX12_parts_1 (fun H locs B => ?_)
  refine lv_if_ne (tgt := 10) hx hb dX12_parts_4 (by decide) (fun c_2 => ?_) (fun c_2 => ?_)
  · rw [if_neg c_2] at h
    refine lv_iconst (v := 0) hx hb dX12_parts_10 (by decide) ?_
    refine lv_istore_n (lv' := [(2, .int (0 : Int32)), (0, .ref (b 0)), (1, .int x1)]) hx hb dX12_parts_11 rfl hl (by decide) rfl (fun ls hl => ?_)
    refine lv_bipush (v := -6) hx hb dX12_parts_12 (by decide) ?_
    refine lv_istore_n (lv' := [(3, .int (-6 : Int32)), (2, .int (0 : Int32)), (0, .ref (b 0)), (1, .int x1)]) hx hb dX12_parts_14 rfl hl (by decide) rfl (fun ls hl => ?_)
    refine lv_iconst (v := 0) hx hb dX12_parts_15 (by decide) ?_
    refine lv_istore (lv' := [(4, .int (0 : Int32)), (3, .int (-6 : Int32)), (2, .int (0 : Int32)), (0, .ref (b 0)), (1, .int x1)]) hx hb dX12_parts_16 hl (by decide) rfl (fun ls hl => ?_)
    exact qX12_parts_18 C N x1 (0 : Int32) (-6 : Int32) (0 : Int32) mo_value h H locs ls B (lv_sub hl [3, 4, 2, 1, 0] rfl)
  · rw [if_pos c_2] at h
    refine lv_bipush (v := -2) hx hb dX12_parts_7 (by decide) ?_
    cases h
    exact k_iret C B dX12_parts_9
end
theorem tX12_parts {l : Launch} {D : va_G} {Es : (Nat → Nat) × (Nat → Nat)} {a b : Nat → Nat} {cI cJ cT : ClassId} {mo_signs : Nat → Int32} {mo_signMany : Int32} {mo_nodeSign : Nat → Int32} {mo_nodeOn : Nat → Int32} {mo_nodeSize : Nat → Int32} {mo_nodeMany : Nat → Int32} {mo_due : Nat → Int32} {mo_openNode : Nat → Int32} {mo_value : Nat → Int32} {mo_isLaid : Int32} {mo_changes : Int32} {mo_changeNode : Nat → Int32} {mo_changeSign : Nat → Int32} {mo_differs : Nat → Int32} {mo_results : Nat → Int32} {mo_own : Nat → Int32} {mo_kinds : Nat → Int32} {mo_testInputs : Nat → Int32} {mo_testDue : Nat → Int32} {mo_tests : Int32} {mo_noticed : Nat → Int32} {mo_missed : Nat → Int32} {mo_leastFrom : Nat → Int32} {mo_blameUpper : Nat → Int32} {mo_blameLower : Nat → Int32} {x1 : Int32} {z_r : Int32} {z_mo_value : Nat → Int32} (N : Nat) (h : fX12_parts N mo_nodeSign mo_nodeSize mo_nodeMany x1 mo_value = some (z_r, z_mo_value)) : CtI l yX12_parts wsX12_parts rmX12_parts D (tyl cI cJ cT) Es [.ref (b 0), .int x1] (wd_mo a b cI cJ cT mo_signs mo_signMany mo_nodeSign mo_nodeOn mo_nodeSize mo_nodeMany mo_due mo_openNode mo_value mo_isLaid mo_changes mo_changeNode mo_changeSign mo_differs mo_results mo_own mo_kinds mo_testInputs mo_testDue mo_tests mo_noticed mo_missed mo_leastFrom mo_blameUpper mo_blameLower) z_r (wd_mo a b cI cJ cT mo_signs mo_signMany mo_nodeSign mo_nodeOn mo_nodeSize mo_nodeMany mo_due mo_openNode z_mo_value mo_isLaid mo_changes mo_changeNode mo_changeSign mo_differs mo_results mo_own mo_kinds mo_testInputs mo_testDue mo_tests mo_noticed mo_missed mo_leastFrom mo_blameUpper mo_blameLower) :=
  CtI.of (own := RX12) (cc := cX12_parts) (nL := 5) (ret := (some .int)) (by decide +kernel) rfl rfl (Nat.le_of_ble_eq_true rfl) rfl (fun p e s m below meth c A ls C B hl => qX12_parts_0 C (N := N) x1 mo_value h _ _ _ B hl)

abbrev rmX12_stepped : Room := { frames := 0, cells := 0, slots := 0, locals := 0 }
theorem hdX12_stepped : yX12_stepped.cls ≠ "java/lang/invoke/MethodHandle" ∧ yX12_stepped.cls ≠ "java/lang/invoke/VarHandle" ∧ (parseMethodDescriptor yX12_stepped.desc).map (fun d => d.parameters.length) = some 2 := by decide +kernel
section
variable {p : Program} {l : Launch} {e : Env} {s : State} {m : MethodId} {args : Array Value} {below : List Frame} {meth : Method} {c : Code} {D : va_G} {A : Nat → Prop} {Es : (Nat → Nat) × (Nat → Nat)} {a b : Nat → Nat} {cI cJ cT : ClassId}
set_option maxHeartbeats 4000000 in
set_option maxRecDepth 100000 in
theorem qX12_stepped_45 (C : CT p s m args meth c RX12 cX12_stepped 5 (some .int) wsX12_stepped D A (tyl cI cJ cT) Es) {N : Nat} {z_r : Int32} : ∀ (x0 : Int32) (x2 : Int32) (y0 : Int32), bX12_stepped_45 N x0 x2 y0 = some z_r → ∀ (H : Heap) (locs : List Loc) (ls : Array Slot), DB D A [] s H locs → lv_has ls 5 [(0, .int x0), (2, .int x2)] → W p l e rmX12_stepped s m args below meth c H locs 0 0 (ZI below args s D A (tyl cI cJ cT) z_r [] 0 0) (F0 m 45 ls [.int y0]) := by
  have hx := C.1.1
  have hb := C.1.2.1
  have hown := C.1.2.2.2.1
  have hts := C.1.2.2.2.2
  intro x0 x2 y0 h H locs ls B hl
  rw [bX12_stepped_45] at h
  refine lv_istore (lv' := [(4, .int y0), (0, .int x0), (2, .int x2)]) hx hb dX12_stepped_45 hl (by decide) rfl (fun ls hl => ?_)
  refine lv_iload_n hx hb dX12_stepped_47 rfl (lv_at hl 1 rfl) ?_
  refine lv_bipush (v := 7) hx hb dX12_stepped_48 (by decide) ?_
  refine lv_iload_n hx hb dX12_stepped_50 rfl (lv_at hl 2 rfl) ?_
  refine lv_ishl hx hb dX12_stepped_51 ?_
  refine lv_iconst (v := -1) hx hb dX12_stepped_52 (by decide) ?_
  refine lv_ixor hx hb dX12_stepped_53 ?_
  refine lv_iand hx hb dX12_stepped_54 ?_
  refine lv_iload hx hb dX12_stepped_55 (lv_at hl 0 rfl) ?_
  refine lv_iload_n hx hb dX12_stepped_57 rfl (lv_at hl 2 rfl) ?_
  refine lv_ishl hx hb dX12_stepped_58 ?_
  refine lv_ior hx hb dX12_stepped_59 ?_
  cases h
  exact k_iret C B dX12_stepped_60
set_option maxHeartbeats 4000000 in
set_option maxRecDepth 100000 in
theorem qX12_stepped_6 (C : CT p s m args meth c RX12 cX12_stepped 5 (some .int) wsX12_stepped D A (tyl cI cJ cT) Es) {N : Nat} {z_r : Int32} : ∀ (x0 : Int32) (x1 : Int32) (x2 : Int32), bX12_stepped_6 N x0 x1 x2 = some z_r → ∀ (H : Heap) (locs : List Loc) (ls : Array Slot), DB D A [] s H locs → lv_has ls 5 [(0, .int x0), (1, .int x1), (2, .int x2)] → W p l e rmX12_stepped s m args below meth c H locs 0 0 (ZI below args s D A (tyl cI cJ cT) z_r [] 0 0) (F0 m 6 ls []) := by
  have hx := C.1.1
  have hb := C.1.2.1
  have hown := C.1.2.2.2.1
  have hts := C.1.2.2.2.2
  intro x0 x1 x2 h H locs ls B hl
  rw [bX12_stepped_6] at h
  refine lv_iload_n hx hb dX12_stepped_6 rfl (lv_at hl 0 rfl) ?_
  refine lv_iload_n hx hb dX12_stepped_7 rfl (lv_at hl 2 rfl) ?_
  refine lv_ishr hx hb dX12_stepped_8 ?_
  refine lv_bipush (v := 7) hx hb dX12_stepped_9 (by decide) ?_
  refine lv_iand hx hb dX12_stepped_11 ?_
  refine lv_istore_n (lv' := [(3, .int ((x0 >>> (x2 &&& 31)) &&& (7 : Int32))), (0, .int x0), (1, .int x1), (2, .int x2)]) hx hb dX12_stepped_12 rfl hl (by decide) rfl (fun ls hl => ?_)
  refine lv_iload_n hx hb dX12_stepped_13 rfl (lv_at hl 2 rfl) ?_
  refine lv_iconst (v := 3) hx hb dX12_stepped_14 (by decide) ?_
  refine lv_icmp_ge (tgt := 22) hx hb dX12_stepped_15 (by decide) (fun c_1 => ?_) (fun c_1 => ?_)
  · rw [if_pos c_1] at h
    refine lv_iload_n hx hb dX12_stepped_22 rfl (lv_at hl 2 rfl) ?_
    refine lv_bipush (v := 6) hx hb dX12_stepped_23 (by decide) ?_
    refine lv_icmp_ge (tgt := 34) hx hb dX12_stepped_25 (by decide) (fun c_2 => ?_) (fun c_2 => ?_)
    · rw [if_pos c_2] at h
      refine lv_iload_n hx hb dX12_stepped_34 rfl (lv_at hl 0 rfl) ?_
      refine lv_if_le (tgt := 44) hx hb dX12_stepped_35 (by decide) (fun c_3 => ?_) (fun c_3 => ?_)
      · rw [if_pos c_3] at h
        refine lv_iconst (v := 0) hx hb dX12_stepped_44 (by decide) ?_
        exact qX12_stepped_45 C x0 x2 (0 : Int32) h H locs ls B (lv_sub hl [1, 3] rfl)
      · rw [if_neg c_3] at h
        refine lv_iload_n hx hb dX12_stepped_38 rfl (lv_at hl 0 rfl) ?_
        refine lv_iconst (v := 1) hx hb dX12_stepped_39 (by decide) ?_
        refine lv_isub hx hb dX12_stepped_40 ?_
        refine lv_goto (tgt := 45) hx hb dX12_stepped_41 (by decide) ?_
        exact qX12_stepped_45 C x0 x2 (((x0 >>> (x2 &&& 31)) &&& (7 : Int32)) - (1 : Int32)) h H locs ls B (lv_sub hl [1, 3] rfl)
    · rw [if_neg c_2] at h
      refine lv_iload_n hx hb dX12_stepped_28 rfl (lv_at hl 0 rfl) ?_
      refine lv_iconst (v := 2) hx hb dX12_stepped_29 (by decide) ?_
      refine lv_idiv hx hb dX12_stepped_30 (by decide) ?_
      refine lv_goto (tgt := 45) hx hb dX12_stepped_31 (by decide) ?_
      exact qX12_stepped_45 C x0 x2 (((x0 >>> (x2 &&& 31)) &&& (7 : Int32)) / (2 : Int32)) h H locs ls B (lv_sub hl [1, 3] rfl)
  · rw [if_neg c_1] at h
    refine lv_iconst (v := 0) hx hb dX12_stepped_18 (by decide) ?_
    refine lv_goto (tgt := 45) hx hb dX12_stepped_19 (by decide) ?_
    exact qX12_stepped_45 C x0 x2 (0 : Int32) h H locs ls B (lv_sub hl [1, 3] rfl)
set_option maxHeartbeats 4000000 in
set_option maxRecDepth 100000 in
theorem qX12_stepped_0 (C : CT p s m args meth c RX12 cX12_stepped 5 (some .int) wsX12_stepped D A (tyl cI cJ cT) Es) {N : Nat} {z_r : Int32} : ∀ (x0 : Int32) (x1 : Int32), fX12_stepped N x0 x1 = some z_r → ∀ (H : Heap) (locs : List Loc) (ls : Array Slot), DB D A [] s H locs → lv_has ls 5 [(0, .int x0), (1, .int x1)] → W p l e rmX12_stepped s m args below meth c H locs 0 0 (ZI below args s D A (tyl cI cJ cT) z_r [] 0 0) (F0 m 0 ls []) := by
  have hx := C.1.1
  have hb := C.1.2.1
  have hown := C.1.2.2.2.1
  have hts := C.1.2.2.2.2
  intro x0 x1 h H locs ls B hl
  rw [fX12_stepped] at h
  refine lv_iconst (v := 3) hx hb dX12_stepped_0 (by decide) ?_
  refine lv_iload_n hx hb dX12_stepped_1 rfl (lv_at hl 1 rfl) ?_
  refine lv_iconst (v := 3) hx hb dX12_stepped_2 (by decide) ?_
  refine lv_irem hx hb dX12_stepped_3 (by decide) ?_
  refine lv_imul hx hb dX12_stepped_4 ?_
  refine lv_istore_n (lv' := [(2, .int ((3 : Int32) * (x1 - x1 / (3 : Int32) * (3 : Int32)))), (0, .int x0), (1, .int x1)]) hx hb dX12_stepped_5 rfl hl (by decide) rfl (fun ls hl => ?_)
  exact qX12_stepped_6 C x0 x1 ((3 : Int32) * (x1 - x1 / (3 : Int32) * (3 : Int32))) h H locs ls B (lv_sub hl [1, 2, 0] rfl)
end
theorem tX12_stepped {l : Launch} {D : va_G} {Es : (Nat → Nat) × (Nat → Nat)} {cI cJ cT : ClassId} {x0 : Int32} {x1 : Int32} {z_r : Int32} (N : Nat) (h : fX12_stepped N x0 x1 = some z_r) : CtI l yX12_stepped wsX12_stepped rmX12_stepped D (tyl cI cJ cT) Es [.int x0, .int x1] [] z_r [] :=
  CtI.of (own := RX12) (cc := cX12_stepped) (nL := 5) (ret := (some .int)) (by decide +kernel) rfl rfl (Nat.le_of_ble_eq_true rfl) rfl (fun p e s m below meth c A ls C B hl => qX12_stepped_0 C (N := N) x0 x1 h _ _ _ B hl)

abbrev rmX12_less : Room := { frames := 5, cells := 0, slots := 0, locals := 118 }
theorem hdX12_less : yX12_less.cls ≠ "java/lang/invoke/MethodHandle" ∧ yX12_less.cls ≠ "java/lang/invoke/VarHandle" ∧ (parseMethodDescriptor yX12_less.desc).map (fun d => d.parameters.length) = some 2 := by decide +kernel
section
variable {p : Program} {l : Launch} {e : Env} {s : State} {m : MethodId} {args : Array Value} {below : List Frame} {meth : Method} {c : Code} {D : va_G} {A : Nat → Prop} {Es : (Nat → Nat) × (Nat → Nat)} {a b : Nat → Nat} {cI cJ cT : ClassId}
set_option maxHeartbeats 4000000 in
set_option maxRecDepth 100000 in
theorem qX12_less_36 (C : CT p s m args meth c RX12 cX12_less 7 (some .int) wsX12_less D A (tyl cI cJ cT) Es) {N : Nat} {mo_signs : Nat → Int32} {mo_signMany : Int32} {mo_nodeSign : Nat → Int32} {mo_nodeOn : Nat → Int32} {mo_nodeSize : Nat → Int32} {mo_nodeMany : Nat → Int32} {mo_due : Nat → Int32} {mo_openNode : Nat → Int32} {mo_isLaid : Int32} {mo_changes : Int32} {mo_changeNode : Nat → Int32} {mo_changeSign : Nat → Int32} {mo_differs : Nat → Int32} {mo_results : Nat → Int32} {mo_own : Nat → Int32} {mo_kinds : Nat → Int32} {mo_testInputs : Nat → Int32} {mo_testDue : Nat → Int32} {mo_tests : Int32} {mo_noticed : Nat → Int32} {mo_missed : Nat → Int32} {mo_leastFrom : Nat → Int32} {mo_blameUpper : Nat → Int32} {mo_blameLower : Nat → Int32} {z_r : Int32} {z_mo_value : Nat → Int32} : ∀ (n : Nat) (x2 : Int32) (x3 : Int32) (x4 : Int32) (x5 : Int32) (mo_value : Nat → Int32), bX12_less_36 N mo_nodeSign mo_nodeSize mo_nodeMany n x2 x3 x4 x5 mo_value = some (z_r, z_mo_value) → ∀ (H : Heap) (locs : List Loc) (ls : Array Slot), DB D A (wd_mo a b cI cJ cT mo_signs mo_signMany mo_nodeSign mo_nodeOn mo_nodeSize mo_nodeMany mo_due mo_openNode mo_value mo_isLaid mo_changes mo_changeNode mo_changeSign mo_differs mo_results mo_own mo_kinds mo_testInputs mo_testDue mo_tests mo_noticed mo_missed mo_leastFrom mo_blameUpper mo_blameLower) s H locs → lv_has ls 7 [(0, .ref (b 0)), (2, .int x2), (3, .int x3), (4, .int x4), (5, .int x5)] → W p l e rmX12_less s m args below meth c H locs 0 0 (ZI below args s D A (tyl cI cJ cT) z_r (wd_mo a b cI cJ cT mo_signs mo_signMany mo_nodeSign mo_nodeOn mo_nodeSize mo_nodeMany mo_due mo_openNode z_mo_value mo_isLaid mo_changes mo_changeNode mo_changeSign mo_differs mo_results mo_own mo_kinds mo_testInputs mo_testDue mo_tests mo_noticed mo_missed mo_leastFrom mo_blameUpper mo_blameLower) 0 0) (F0 m 36 ls []) := by
  have hx := C.1.1
  have hb := C.1.2.1
  have hown := C.1.2.2.2.1
  have hts := C.1.2.2.2.2
  intro n
  induction n with
  | zero => intro x2 x3 x4 x5 mo_value h; cases h
  | succ n ih =>
    intro x2 x3 x4 x5 mo_value h H locs ls B hl
    rw [bX12_less_36] at h
    refine lv_iload hx hb dX12_less_36 (lv_at hl 4 rfl) ?_
    refine lv_bipush (v := 9) hx hb dX12_less_38 (by decide) ?_
    refine lv_icmp_ge (tgt := 84) hx hb dX12_less_40 (by decide) (fun c_1 => ?_) (fun c_1 => ?_)
    · rw [if_pos c_1] at h
      refine lv_iload_n hx hb dX12_less_84 rfl (lv_at hl 1 rfl) ?_
      refine lv_if_ne (tgt := 92) hx hb dX12_less_85 (by decide) (fun c_2 => ?_) (fun c_2 => ?_)
      · rw [if_neg c_2] at h
        refine lv_iload hx hb dX12_less_92 (lv_at hl 3 rfl) ?_
        cases h
        exact k_iret C B dX12_less_94
      · rw [if_pos c_2] at h
        refine lv_iload_n hx hb dX12_less_88 rfl (lv_at hl 2 rfl) ?_
        refine lv_goto (tgt := 94) hx hb dX12_less_89 (by decide) ?_
        cases h
        exact k_iret C B dX12_less_94
    · rw [if_neg c_1] at h
      refine lv_iload_n hx hb dX12_less_43 rfl (lv_at hl 2 rfl) ?_
      refine lv_iload hx hb dX12_less_44 (lv_at hl 4 rfl) ?_
      obtain ⟨r_3, g_9, h⟩ := ob_some h
      try dsimp only at h
      refine kc_SI C B (As := [.int x3, .int x5]) (rest := []) (w2 := (wd_mo a b cI cJ cT mo_signs mo_signMany mo_nodeSign mo_nodeOn mo_nodeSize mo_nodeMany mo_due mo_openNode mo_value mo_isLaid mo_changes mo_changeNode mo_changeSign mo_differs mo_results mo_own mo_kinds mo_testInputs mo_testDue mo_tests mo_noticed mo_missed mo_leastFrom mo_blameUpper mo_blameLower)) (tX12_stepped N g_9) gX12_less_X12_stepped rfl ⟨rfl, rfl⟩ hdX12_stepped ⟨Nat.le_of_ble_eq_true rfl, Nat.le_of_ble_eq_true rfl⟩ [] [0, 1, 2, 3, 4, 5, 6, 7, 8, 9, 10, 11, 12, 13, 14, 15, 16, 17, 18, 19, 20, 21] [0, 1, 2, 3, 4, 5, 6, 7, 8, 9, 10, 11, 12, 13, 14, 15, 16, 17, 18, 19, 20, 21] rfl rfl rfl rfl rfl rfl rfl rfl hl.1 rfl (Nat.le_of_ble_eq_true rfl) ⟨Nat.zero_le _, Nat.zero_le _⟩ dX12_less_46 (fun H locs B => ?_)
      refine lv_istore (lv' := [(6, .int r_3), (0, .ref (b 0)), (2, .int x2), (3, .int x3), (4, .int x4), (5, .int x5)]) hx hb dX12_less_49 hl (by decide) rfl (fun ls hl => ?_)
      refine lv_iload hx hb dX12_less_51 (lv_at hl 0 rfl) ?_
      refine lv_iload_n hx hb dX12_less_53 rfl (lv_at hl 3 rfl) ?_
      refine lv_icmp_eq (tgt := 78) hx hb dX12_less_54 (by decide) (fun c_4 => ?_) (fun c_4 => ?_)
      · rw [if_pos c_4] at h
        refine lv_iinc (v := (x5 + 1)) (lv' := [(5, .int (x5 + 1)), (6, .int r_3), (0, .ref (b 0)), (2, .int x2), (3, .int x3), (4, .int x4)]) hx hb dX12_less_78 hl (k := 5) rfl rfl (by decide) rfl (fun ls hl => ?_)
        refine lv_goto (tgt := 36) hx hb dX12_less_81 (by decide) ?_
        exact ih x2 x3 x4 (x5 + 1) mo_value h H locs ls B (lv_sub hl [2, 3, 4, 5, 0] rfl)
      · rw [if_neg c_4] at h
        refine lv_aload_n hx hb dX12_less_57 rfl (lv_at hl 1 rfl) ?_
        refine lv_iload hx hb dX12_less_58 (lv_at hl 0 rfl) ?_
        obtain ⟨⟨r_5, mo_value_6⟩, g_8, h⟩ := ob_some h
        try dsimp only at h
        refine kc_VI C B (q0 := 0) (ci := 12) (As := [.int r_3]) (rest := []) (w2 := (wd_mo a b cI cJ cT mo_signs mo_signMany mo_nodeSign mo_nodeOn mo_nodeSize mo_nodeMany mo_due mo_openNode mo_value_6 mo_isLaid mo_changes mo_changeNode mo_changeSign mo_differs mo_results mo_own mo_kinds mo_testInputs mo_testDue mo_tests mo_noticed mo_missed mo_leastFrom mo_blameUpper mo_blameLower)) (tX12_doPart (a := a) (b := b) N g_8) gX12_less_X12_doPart rfl ⟨rfl, rfl⟩ ⟨rfl, hdX12_doPart⟩ ⟨Nat.le_of_ble_eq_true rfl, Nat.le_of_ble_eq_true rfl⟩ rfl rfl [0, 1, 2, 3, 4, 5, 6, 7, 8, 9, 10, 11, 12, 13, 14, 15, 16, 17, 18, 19, 20, 21] [] [0, 1, 2, 3, 4, 5, 6, 7, 8, 9, 10, 11, 12, 13, 14, 15, 16, 17, 18, 19, 20, 21] rfl rfl rfl rfl rfl rfl rfl rfl hl.1 rfl (Nat.le_of_ble_eq_true rfl) ⟨Nat.zero_le _, Nat.zero_le _⟩ dX12_less_60 (fun H locs B => ?_)
        refine lv_if_eq (tgt := 78) hx hb dX12_less_63 (by decide) (fun c_7 => ?_) (fun c_7 => ?_)
        · rw [if_pos c_7] at h
          refine lv_iinc (v := (x5 + 1)) (lv' := [(5, .int (x5 + 1)), (6, .int r_3), (0, .ref (b 0)), (2, .int x2), (3, .int x3), (4, .int x4)]) hx hb dX12_less_78 hl (k := 5) rfl rfl (by decide) rfl (fun ls hl => ?_)
          refine lv_goto (tgt := 36) hx hb dX12_less_81 (by decide) ?_
          exact ih x2 x3 x4 (x5 + 1) mo_value_6 h H locs ls B (lv_sub hl [2, 3, 4, 5, 0] rfl)
        · rw [if_neg c_7] at h
          refine lv_iload hx hb dX12_less_66 (lv_at hl 0 rfl) ?_
          refine lv_istore_n (lv' := [(3, .int r_3), (6, .int r_3), (0, .ref (b 0)), (2, .int x2), (4, .int x4), (5, .int x5)]) hx hb dX12_less_68 rfl hl (by decide) rfl (fun ls hl => ?_)
          refine lv_iinc (v := (x4 + 1)) (lv' := [(4, .int (x4 + 1)), (3, .int r_3), (6, .int r_3), (0, .ref (b 0)), (2, .int x2), (5, .int x5)]) hx hb dX12_less_69 hl (k := 4) rfl rfl (by decide) rfl (fun ls hl => ?_)
          refine lv_iconst (v := 0) hx hb dX12_less_72 (by decide) ?_
          refine lv_istore (lv' := [(5, .int (0 : Int32)), (4, .int (x4 + 1)), (3, .int r_3), (6, .int r_3), (0, .ref (b 0)), (2, .int x2)]) hx hb dX12_less_73 hl (by decide) rfl (fun ls hl => ?_)
          refine lv_goto (tgt := 81) hx hb dX12_less_75 (by decide) ?_
          refine lv_goto (tgt := 36) hx hb dX12_less_81 (by decide) ?_
          exact ih x2 r_3 (x4 + 1) (0 : Int32) mo_value_6 h H locs ls B (lv_sub hl [4, 5, 2, 1, 0] rfl)
set_option maxHeartbeats 4000000 in
set_option maxRecDepth 100000 in
theorem qX12_less_0 (C : CT p s m args meth c RX12 cX12_less 7 (some .int) wsX12_less D A (tyl cI cJ cT) Es) {N : Nat} {mo_signs : Nat → Int32} {mo_signMany : Int32} {mo_nodeSign : Nat → Int32} {mo_nodeOn : Nat → Int32} {mo_nodeSize : Nat → Int32} {mo_nodeMany : Nat → Int32} {mo_due : Nat → Int32} {mo_openNode : Nat → Int32} {mo_isLaid : Int32} {mo_changes : Int32} {mo_changeNode : Nat → Int32} {mo_changeSign : Nat → Int32} {mo_differs : Nat → Int32} {mo_results : Nat → Int32} {mo_own : Nat → Int32} {mo_kinds : Nat → Int32} {mo_testInputs : Nat → Int32} {mo_testDue : Nat → Int32} {mo_tests : Int32} {mo_noticed : Nat → Int32} {mo_missed : Nat → Int32} {mo_leastFrom : Nat → Int32} {mo_blameUpper : Nat → Int32} {mo_blameLower : Nat → Int32} {z_r : Int32} {z_mo_value : Nat → Int32} : ∀ (x1 : Int32) (x2 : Int32) (mo_value : Nat → Int32), fX12_less N mo_nodeSign mo_nodeSize mo_nodeMany x1 x2 mo_value = some (z_r, z_mo_value) → ∀ (H : Heap) (locs : List Loc) (ls : Array Slot), DB D A (wd_mo a b cI cJ cT mo_signs mo_signMany mo_nodeSign mo_nodeOn mo_nodeSize mo_nodeMany mo_due mo_openNode mo_value mo_isLaid mo_changes mo_changeNode mo_changeSign mo_differs mo_results mo_own mo_kinds mo_testInputs mo_testDue mo_tests mo_noticed mo_missed mo_leastFrom mo_blameUpper mo_blameLower) s H locs → lv_has ls 7 [(0, .ref (b 0)), (1, .int x1), (2, .int x2)] → W p l e rmX12_less s m args below meth c H locs 0 0 (ZI below args s D A (tyl cI cJ cT) z_r (wd_mo a b cI cJ cT mo_signs mo_signMany mo_nodeSign mo_nodeOn mo_nodeSize mo_nodeMany mo_due mo_openNode z_mo_value mo_isLaid mo_changes mo_changeNode mo_changeSign mo_differs mo_results mo_own mo_kinds mo_testInputs mo_testDue mo_tests mo_noticed mo_missed mo_leastFrom mo_blameUpper mo_blameLower) 0 0) (F0 m 0 ls []) := by
  have hx := C.1.1
  have hb := C.1.2.1
  have hown := C.1.2.2.2.1
  have hts := C.1.2.2.2.2
  intro x1 x2 mo_value h H locs ls B hl
  rw [fX12_less] at h
  refine lv_iload_n hx hb dX12_less_0 rfl (lv_at hl 1 rfl) ?_
  obtain ⟨r_1, g_10, h⟩ := ob_some h
  try dsimp only at h
  refine kc_SI C B (As := [.int x1]) (rest := []) (w2 := (wd_mo a b cI cJ cT mo_signs mo_signMany mo_nodeSign mo_nodeOn mo_nodeSize mo_nodeMany mo_due mo_openNode mo_value mo_isLaid mo_changes mo_changeNode mo_changeSign mo_differs mo_results mo_own mo_kinds mo_testInputs mo_testDue mo_tests mo_noticed mo_missed mo_leastFrom mo_blameUpper mo_blameLower)) (tX12_areInputs N g_10) gX12_less_X12_areInputs rfl ⟨rfl, rfl⟩ hdX12_areInputs ⟨Nat.le_of_ble_eq_true rfl, Nat.le_of_ble_eq_true rfl⟩ [] [0, 1, 2, 3, 4, 5, 6, 7, 8, 9, 10, 11, 12, 13, 14, 15, 16, 17, 18, 19, 20, 21] [0, 1, 2, 3, 4, 5, 6, 7, 8, 9, 10, 11, 12, 13, 14, 15, 16, 17, 18, 19, 20, 21] rfl rfl rfl rfl rfl rfl rfl rfl hl.1 rfl (Nat.le_of_ble_eq_true rfl) ⟨Nat.zero_le _, Nat.zero_le _⟩ dX12_less_1 (fun H locs B => ?_)
  refine lv_if_eq (tgt := 14) hx hb dX12_less_4 (by decide) (fun c_2 => ?_) (fun c_2 => ?_)
  · rw [if_pos c_2] at h
    refine lv_bipush (v := -2) hx hb dX12_less_14 (by decide) ?_
    cases h
    exact k_iret C B dX12_less_16
  · rw [if_neg c_2] at h
    refine lv_iload_n hx hb dX12_less_7 rfl (lv_at hl 2 rfl) ?_
    obtain ⟨r_3, g_9, h⟩ := ob_some h
    try dsimp only at h
    refine kc_SI C B (As := [.int x2]) (rest := []) (w2 := (wd_mo a b cI cJ cT mo_signs mo_signMany mo_nodeSign mo_nodeOn mo_nodeSize mo_nodeMany mo_due mo_openNode mo_value mo_isLaid mo_changes mo_changeNode mo_changeSign mo_differs mo_results mo_own mo_kinds mo_testInputs mo_testDue mo_tests mo_noticed mo_missed mo_leastFrom mo_blameUpper mo_blameLower)) (tX12_isPart N g_9) gX12_less_X12_isPart rfl ⟨rfl, rfl⟩ hdX12_isPart ⟨Nat.le_of_ble_eq_true rfl, Nat.le_of_ble_eq_true rfl⟩ [] [0, 1, 2, 3, 4, 5, 6, 7, 8, 9, 10, 11, 12, 13, 14, 15, 16, 17, 18, 19, 20, 21] [0, 1, 2, 3, 4, 5, 6, 7, 8, 9, 10, 11, 12, 13, 14, 15, 16, 17, 18, 19, 20, 21] rfl rfl rfl rfl rfl rfl rfl rfl hl.1 rfl (Nat.le_of_ble_eq_true rfl) ⟨Nat.zero_le _, Nat.zero_le _⟩ dX12_less_8 (fun H locs B => ?_)
    refine lv_if_ne (tgt := 17) hx hb dX12_less_11 (by decide) (fun c_4 => ?_) (fun c_4 => ?_)
    · rw [if_neg c_4] at h
      refine lv_aload_n hx hb dX12_less_17 rfl (lv_at hl 0 rfl) ?_
      refine lv_iload_n hx hb dX12_less_18 rfl (lv_at hl 1 rfl) ?_
      obtain ⟨⟨r_5, mo_value_6⟩, g_8, h⟩ := ob_some h
      try dsimp only at h
      refine kc_VI C B (q0 := 0) (ci := 12) (As := [.int x1]) (rest := []) (w2 := (wd_mo a b cI cJ cT mo_signs mo_signMany mo_nodeSign mo_nodeOn mo_nodeSize mo_nodeMany mo_due mo_openNode mo_value_6 mo_isLaid mo_changes mo_changeNode mo_changeSign mo_differs mo_results mo_own mo_kinds mo_testInputs mo_testDue mo_tests mo_noticed mo_missed mo_leastFrom mo_blameUpper mo_blameLower)) (tX12_doPart (a := a) (b := b) N g_8) gX12_less_X12_doPart rfl ⟨rfl, rfl⟩ ⟨rfl, hdX12_doPart⟩ ⟨Nat.le_of_ble_eq_true rfl, Nat.le_of_ble_eq_true rfl⟩ rfl rfl [0, 1, 2, 3, 4, 5, 6, 7, 8, 9, 10, 11, 12, 13, 14, 15, 16, 17, 18, 19, 20, 21] [] [0, 1, 2, 3, 4, 5, 6, 7, 8, 9, 10, 11, 12, 13, 14, 15, 16, 17, 18, 19, 20, 21] rfl rfl rfl rfl rfl rfl rfl rfl hl.1 rfl (Nat.le_of_ble_eq_true rfl) ⟨Nat.zero_le _, Nat.zero_le _⟩ dX12_less_19 (fun H locs B => ?_)
      refine lv_if_ne (tgt := 28) hx hb dX12_less_22 (by decide) (fun c_7 => ?_) (fun c_7 => ?_)
      · rw [if_neg c_7] at h
        refine lv_iload_n hx hb dX12_less_28 rfl (lv_at hl 1 rfl) ?_
        refine lv_istore_n (lv' := [(3, .int x1), (0, .ref (b 0)), (1, .int x1), (2, .int x2)]) hx hb dX12_less_29 rfl hl (by decide) rfl (fun ls hl => ?_)
        refine lv_iconst (v := 0) hx hb dX12_less_30 (by decide) ?_
        refine lv_istore (lv' := [(4, .int (0 : Int32)), (3, .int x1), (0, .ref (b 0)), (1, .int x1), (2, .int x2)]) hx hb dX12_less_31 hl (by decide) rfl (fun ls hl => ?_)
        refine lv_iconst (v := 0) hx hb dX12_less_33 (by decide) ?_
        refine lv_istore (lv' := [(5, .int (0 : Int32)), (4, .int (0 : Int32)), (3, .int x1), (0, .ref (b 0)), (1, .int x1), (2, .int x2)]) hx hb dX12_less_34 hl (by decide) rfl (fun ls hl => ?_)
        exact qX12_less_36 C N x2 x1 (0 : Int32) (0 : Int32) mo_value_6 h H locs ls B (lv_sub hl [3, 5, 2, 1, 0] rfl)
      · rw [if_pos c_7] at h
        refine lv_bipush (v := -3) hx hb dX12_less_25 (by decide) ?_
        cases h
        exact k_iret C B dX12_less_27
    · rw [if_pos c_4] at h
      refine lv_bipush (v := -2) hx hb dX12_less_14 (by decide) ?_
      cases h
      exact k_iret C B dX12_less_16
end
theorem tX12_less {l : Launch} {D : va_G} {Es : (Nat → Nat) × (Nat → Nat)} {a b : Nat → Nat} {cI cJ cT : ClassId} {mo_signs : Nat → Int32} {mo_signMany : Int32} {mo_nodeSign : Nat → Int32} {mo_nodeOn : Nat → Int32} {mo_nodeSize : Nat → Int32} {mo_nodeMany : Nat → Int32} {mo_due : Nat → Int32} {mo_openNode : Nat → Int32} {mo_value : Nat → Int32} {mo_isLaid : Int32} {mo_changes : Int32} {mo_changeNode : Nat → Int32} {mo_changeSign : Nat → Int32} {mo_differs : Nat → Int32} {mo_results : Nat → Int32} {mo_own : Nat → Int32} {mo_kinds : Nat → Int32} {mo_testInputs : Nat → Int32} {mo_testDue : Nat → Int32} {mo_tests : Int32} {mo_noticed : Nat → Int32} {mo_missed : Nat → Int32} {mo_leastFrom : Nat → Int32} {mo_blameUpper : Nat → Int32} {mo_blameLower : Nat → Int32} {x1 : Int32} {x2 : Int32} {z_r : Int32} {z_mo_value : Nat → Int32} (N : Nat) (h : fX12_less N mo_nodeSign mo_nodeSize mo_nodeMany x1 x2 mo_value = some (z_r, z_mo_value)) : CtI l yX12_less wsX12_less rmX12_less D (tyl cI cJ cT) Es [.ref (b 0), .int x1, .int x2] (wd_mo a b cI cJ cT mo_signs mo_signMany mo_nodeSign mo_nodeOn mo_nodeSize mo_nodeMany mo_due mo_openNode mo_value mo_isLaid mo_changes mo_changeNode mo_changeSign mo_differs mo_results mo_own mo_kinds mo_testInputs mo_testDue mo_tests mo_noticed mo_missed mo_leastFrom mo_blameUpper mo_blameLower) z_r (wd_mo a b cI cJ cT mo_signs mo_signMany mo_nodeSign mo_nodeOn mo_nodeSize mo_nodeMany mo_due mo_openNode z_mo_value mo_isLaid mo_changes mo_changeNode mo_changeSign mo_differs mo_results mo_own mo_kinds mo_testInputs mo_testDue mo_tests mo_noticed mo_missed mo_leastFrom mo_blameUpper mo_blameLower) :=
  CtI.of (own := RX12) (cc := cX12_less) (nL := 7) (ret := (some .int)) (by decide +kernel) rfl rfl (Nat.le_of_ble_eq_true rfl) rfl (fun p e s m below meth c A ls C B hl => qX12_less_0 C (N := N) x1 x2 mo_value h _ _ _ B hl)

abbrev rmX12_told : Room := { frames := 6, cells := 0, slots := 0, locals := 140 }
theorem hdX12_told : yX12_told.cls ≠ "java/lang/invoke/MethodHandle" ∧ yX12_told.cls ≠ "java/lang/invoke/VarHandle" ∧ (parseMethodDescriptor yX12_told.desc).map (fun d => d.parameters.length) = some 1 := by decide +kernel
theorem iX12_told_X12 : ∀ w ∈ wsX120, w ∈ wsX12_told := by decide +kernel
theorem gfX12_told_85 {p : Program} {l : Launch} {e : Env} {R : Room} {s : State} {m : MethodId} {args : Array Value} {below : List Frame} {meth : Method} {c : Code} {H : Heap} {locs : List Loc} {cells slots : Nat} {Q : State → Prop} {D : va_G} {A : Nat → Prop} {tys : List (ClassId × FieldType)} {Es : (Nat → Nat) × (Nat → Nat)} {ws : va_W} {pc : Nat} {ls : Array Slot} {rest : List Value} {a : Nat} (C : CT p s m args meth c RX12 cX12_told 2 (some .int) wsX12_told D A tys Es) (B : DB D A ws s H locs) (q0 : Nat) {fs : List Value} {v : Value} (he : ws[q0]? = some (a, .inr (12, fs))) (hv : fs[1]? = some v) (hdg : decode cX12_told pc = .ok (.getfield 85, 3)) (kk : W p l e R s m args below meth c H locs cells slots Q (F0 m (pc + 3) ls (v :: rest))) : W p l e R s m args below meth c H locs cells slots Q (F0 m pc ls (.ref a :: rest)) :=
  k_get (Cn := RX12) (T := TX12) (N := 25) (index := 85) C B iX12_told_X12 rfl 1 (by decide) (by decide +kernel) q0 he hv hdg kk
theorem gfX12_told_22 {p : Program} {l : Launch} {e : Env} {R : Room} {s : State} {m : MethodId} {args : Array Value} {below : List Frame} {meth : Method} {c : Code} {H : Heap} {locs : List Loc} {cells slots : Nat} {Q : State → Prop} {D : va_G} {A : Nat → Prop} {tys : List (ClassId × FieldType)} {Es : (Nat → Nat) × (Nat → Nat)} {ws : va_W} {pc : Nat} {ls : Array Slot} {rest : List Value} {a : Nat} (C : CT p s m args meth c RX12 cX12_told 2 (some .int) wsX12_told D A tys Es) (B : DB D A ws s H locs) (q0 : Nat) {fs : List Value} {v : Value} (he : ws[q0]? = some (a, .inr (12, fs))) (hv : fs[5]? = some v) (hdg : decode cX12_told pc = .ok (.getfield 22, 3)) (kk : W p l e R s m args below meth c H locs cells slots Q (F0 m (pc + 3) ls (v :: rest))) : W p l e R s m args below meth c H locs cells slots Q (F0 m pc ls (.ref a :: rest)) :=
  k_get (Cn := RX12) (T := TX12) (N := 25) (index := 22) C B iX12_told_X12 rfl 5 (by decide) (by decide +kernel) q0 he hv hdg kk
theorem gfX12_told_155 {p : Program} {l : Launch} {e : Env} {R : Room} {s : State} {m : MethodId} {args : Array Value} {below : List Frame} {meth : Method} {c : Code} {H : Heap} {locs : List Loc} {cells slots : Nat} {Q : State → Prop} {D : va_G} {A : Nat → Prop} {tys : List (ClassId × FieldType)} {Es : (Nat → Nat) × (Nat → Nat)} {ws : va_W} {pc : Nat} {ls : Array Slot} {rest : List Value} {a : Nat} (C : CT p s m args meth c RX12 cX12_told 2 (some .int) wsX12_told D A tys Es) (B : DB D A ws s H locs) (q0 : Nat) {fs : List Value} {v : Value} (he : ws[q0]? = some (a, .inr (12, fs))) (hv : fs[19]? = some v) (hdg : decode cX12_told pc = .ok (.getfield 155, 3)) (kk : W p l e R s m args below meth c H locs cells slots Q (F0 m (pc + 3) ls (v :: rest))) : W p l e R s m args below meth c H locs cells slots Q (F0 m pc ls (.ref a :: rest)) :=
  k_get (Cn := RX12) (T := TX12) (N := 25) (index := 155) C B iX12_told_X12 rfl 19 (by decide) (by decide +kernel) q0 he hv hdg kk
section
variable {p : Program} {l : Launch} {e : Env} {s : State} {m : MethodId} {args : Array Value} {below : List Frame} {meth : Method} {c : Code} {D : va_G} {A : Nat → Prop} {Es : (Nat → Nat) × (Nat → Nat)} {a b : Nat → Nat} {cI cJ cT : ClassId}
set_option maxHeartbeats 4000000 in
set_option maxRecDepth 100000 in
theorem qX12_told_0 (C : CT p s m args meth c RX12 cX12_told 2 (some .int) wsX12_told D A (tyl cI cJ cT) Es) {N : Nat} {mo_signs : Nat → Int32} {mo_signMany : Int32} {mo_nodeSign : Nat → Int32} {mo_nodeOn : Nat → Int32} {mo_nodeSize : Nat → Int32} {mo_nodeMany : Nat → Int32} {mo_due : Nat → Int32} {mo_openNode : Nat → Int32} {mo_kinds : Nat → Int32} {mo_testInputs : Nat → Int32} {mo_testDue : Nat → Int32} {mo_tests : Int32} {mo_noticed : Nat → Int32} {mo_missed : Nat → Int32} {mo_leastFrom : Nat → Int32} {mo_blameUpper : Nat → Int32} {mo_blameLower : Nat → Int32} {z_r : Int32} {z_mo_value : Nat → Int32} {z_mo_isLaid : Int32} {z_mo_changes : Int32} {z_mo_changeNode : Nat → Int32} {z_mo_changeSign : Nat → Int32} {z_mo_differs : Nat → Int32} {z_mo_results : Nat → Int32} {z_mo_own : Nat → Int32} : ∀ (x1 : Int32) (mo_value : Nat → Int32) (mo_isLaid : Int32) (mo_changes : Int32) (mo_changeNode : Nat → Int32) (mo_changeSign : Nat → Int32) (mo_differs : Nat → Int32) (mo_results : Nat → Int32) (mo_own : Nat → Int32), fX12_told N mo_signMany mo_nodeSign mo_nodeSize mo_nodeMany mo_kinds mo_testInputs mo_testDue mo_tests x1 mo_value mo_isLaid mo_changes mo_changeNode mo_changeSign mo_differs mo_results mo_own = some (z_r, z_mo_value, z_mo_isLaid, z_mo_changes, z_mo_changeNode, z_mo_changeSign, z_mo_differs, z_mo_results, z_mo_own) → ∀ (H : Heap) (locs : List Loc) (ls : Array Slot), DB D A (wd_mo a b cI cJ cT mo_signs mo_signMany mo_nodeSign mo_nodeOn mo_nodeSize mo_nodeMany mo_due mo_openNode mo_value mo_isLaid mo_changes mo_changeNode mo_changeSign mo_differs mo_results mo_own mo_kinds mo_testInputs mo_testDue mo_tests mo_noticed mo_missed mo_leastFrom mo_blameUpper mo_blameLower) s H locs → lv_has ls 2 [(0, .ref (b 0)), (1, .int x1)] → W p l e rmX12_told s m args below meth c H locs 0 0 (ZI below args s D A (tyl cI cJ cT) z_r (wd_mo a b cI cJ cT mo_signs mo_signMany mo_nodeSign mo_nodeOn mo_nodeSize mo_nodeMany mo_due mo_openNode z_mo_value z_mo_isLaid z_mo_changes z_mo_changeNode z_mo_changeSign z_mo_differs z_mo_results z_mo_own mo_kinds mo_testInputs mo_testDue mo_tests mo_noticed mo_missed mo_leastFrom mo_blameUpper mo_blameLower) 0 0) (F0 m 0 ls []) := by
  have hx := C.1.1
  have hb := C.1.2.1
  have hown := C.1.2.2.2.1
  have hts := C.1.2.2.2.2
  intro x1 mo_value mo_isLaid mo_changes mo_changeNode mo_changeSign mo_differs mo_results mo_own h H locs ls B hl
  rw [fX12_told] at h
  refine lv_iload_n hx hb dX12_told_0 rfl (lv_at hl 1 rfl) ?_
  by_cases c_1 : x1 = 0
  · rw [if_pos c_1] at h
    refine lv_tableIn (off := 35) (tgt := 36) hx hb dX12_told_1 (by rw [c_1]; decide) (by rw [c_1]; decide) (by rw [c_1]; try rfl) (by decide) ?_
    refine lv_aload_n hx hb dX12_told_36 rfl (lv_at hl 0 rfl) ?_
    refine gfX12_told_85 C B 0 rfl rfl dX12_told_37 ?_
    cases h
    exact k_iret C B dX12_told_40
  · rw [if_neg c_1] at h
    by_cases c_2 : x1 = 1
    · rw [if_pos c_2] at h
      refine lv_tableIn (off := 40) (tgt := 41) hx hb dX12_told_1 (by rw [c_2]; decide) (by rw [c_2]; decide) (by rw [c_2]; try rfl) (by decide) ?_
      refine lv_aload_n hx hb dX12_told_41 rfl (lv_at hl 0 rfl) ?_
      refine gfX12_told_22 C B 0 rfl rfl dX12_told_42 ?_
      refine lv_iconst (v := 0) hx hb dX12_told_45 (by decide) ?_
      refine k_iald C B 5 0 rfl rfl (vp_lit (by decide)) dX12_told_46 ?_
      cases h
      exact k_iret C B dX12_told_47
    · rw [if_neg c_2] at h
      by_cases c_4 : x1 = 2
      · rw [if_pos c_4] at h
        refine lv_tableIn (off := 47) (tgt := 48) hx hb dX12_told_1 (by rw [c_4]; decide) (by rw [c_4]; decide) (by rw [c_4]; try rfl) (by decide) ?_
        refine lv_aload_n hx hb dX12_told_48 rfl (lv_at hl 0 rfl) ?_
        refine gfX12_told_22 C B 0 rfl rfl dX12_told_49 ?_
        refine lv_iconst (v := 1) hx hb dX12_told_52 (by decide) ?_
        refine k_iald C B 5 0 rfl rfl (vp_lit (by decide)) dX12_told_53 ?_
        cases h
        exact k_iret C B dX12_told_54
      · rw [if_neg c_4] at h
        by_cases c_6 : x1 = 3
        · rw [if_pos c_6] at h
          refine lv_tableIn (off := 54) (tgt := 55) hx hb dX12_told_1 (by rw [c_6]; decide) (by rw [c_6]; decide) (by rw [c_6]; try rfl) (by decide) ?_
          refine lv_aload_n hx hb dX12_told_55 rfl (lv_at hl 0 rfl) ?_
          refine gfX12_told_155 C B 0 rfl rfl dX12_told_56 ?_
          cases h
          exact k_iret C B dX12_told_59
        · rw [if_neg c_6] at h
          by_cases c_7 : x1 = 4
          · rw [if_pos c_7] at h
            refine lv_tableIn (off := 59) (tgt := 60) hx hb dX12_told_1 (by rw [c_7]; decide) (by rw [c_7]; decide) (by rw [c_7]; try rfl) (by decide) ?_
            refine lv_aload_n hx hb dX12_told_60 rfl (lv_at hl 0 rfl) ?_
            obtain ⟨⟨r_8, mo_value_9, mo_isLaid_10, mo_changes_11, mo_changeNode_12, mo_changeSign_13, mo_differs_14, mo_results_15, mo_own_16⟩, g_17, h⟩ := ob_some h
            try dsimp only at h
            refine kc_VI C B (q0 := 0) (ci := 12) (As := []) (rest := []) (w2 := (wd_mo a b cI cJ cT mo_signs mo_signMany mo_nodeSign mo_nodeOn mo_nodeSize mo_nodeMany mo_due mo_openNode mo_value_9 mo_isLaid_10 mo_changes_11 mo_changeNode_12 mo_changeSign_13 mo_differs_14 mo_results_15 mo_own_16 mo_kinds mo_testInputs mo_testDue mo_tests mo_noticed mo_missed mo_leastFrom mo_blameUpper mo_blameLower)) (tX12_failing (a := a) (b := b) N g_17) gX12_told_X12_failing rfl ⟨rfl, rfl⟩ ⟨rfl, hdX12_failing⟩ ⟨Nat.le_of_ble_eq_true rfl, Nat.le_of_ble_eq_true rfl⟩ rfl rfl [0, 1, 2, 3, 4, 5, 6, 7, 8, 9, 10, 11, 12, 13, 14, 15, 16, 17, 18, 19, 20, 21] [] [0, 1, 2, 3, 4, 5, 6, 7, 8, 9, 10, 11, 12, 13, 14, 15, 16, 17, 18, 19, 20, 21] rfl rfl rfl rfl rfl rfl rfl rfl hl.1 rfl (Nat.le_of_ble_eq_true rfl) ⟨Nat.zero_le _, Nat.zero_le _⟩ dX12_told_61 (fun H locs B => ?_)
            cases h
            exact k_iret C B dX12_told_64
          · rw [if_neg c_7] at h
            refine lv_tableOut (tgt := 65) hx hb dX12_told_1 (tb_out 0 4 (by have := tb_ne c_1 (a := 0) rfl; have := tb_ne c_2 (a := 1) rfl; have := tb_ne c_4 (a := 2) rfl; have := tb_ne c_6 (a := 3) rfl; have := tb_ne c_7 (a := 4) rfl; omega)) (by decide) ?_
            refine lv_bipush (v := -2) hx hb dX12_told_65 (by decide) ?_
            cases h
            exact k_iret C B dX12_told_67
end
theorem tX12_told {l : Launch} {D : va_G} {Es : (Nat → Nat) × (Nat → Nat)} {a b : Nat → Nat} {cI cJ cT : ClassId} {mo_signs : Nat → Int32} {mo_signMany : Int32} {mo_nodeSign : Nat → Int32} {mo_nodeOn : Nat → Int32} {mo_nodeSize : Nat → Int32} {mo_nodeMany : Nat → Int32} {mo_due : Nat → Int32} {mo_openNode : Nat → Int32} {mo_value : Nat → Int32} {mo_isLaid : Int32} {mo_changes : Int32} {mo_changeNode : Nat → Int32} {mo_changeSign : Nat → Int32} {mo_differs : Nat → Int32} {mo_results : Nat → Int32} {mo_own : Nat → Int32} {mo_kinds : Nat → Int32} {mo_testInputs : Nat → Int32} {mo_testDue : Nat → Int32} {mo_tests : Int32} {mo_noticed : Nat → Int32} {mo_missed : Nat → Int32} {mo_leastFrom : Nat → Int32} {mo_blameUpper : Nat → Int32} {mo_blameLower : Nat → Int32} {x1 : Int32} {z_r : Int32} {z_mo_value : Nat → Int32} {z_mo_isLaid : Int32} {z_mo_changes : Int32} {z_mo_changeNode : Nat → Int32} {z_mo_changeSign : Nat → Int32} {z_mo_differs : Nat → Int32} {z_mo_results : Nat → Int32} {z_mo_own : Nat → Int32} (N : Nat) (h : fX12_told N mo_signMany mo_nodeSign mo_nodeSize mo_nodeMany mo_kinds mo_testInputs mo_testDue mo_tests x1 mo_value mo_isLaid mo_changes mo_changeNode mo_changeSign mo_differs mo_results mo_own = some (z_r, z_mo_value, z_mo_isLaid, z_mo_changes, z_mo_changeNode, z_mo_changeSign, z_mo_differs, z_mo_results, z_mo_own)) : CtI l yX12_told wsX12_told rmX12_told D (tyl cI cJ cT) Es [.ref (b 0), .int x1] (wd_mo a b cI cJ cT mo_signs mo_signMany mo_nodeSign mo_nodeOn mo_nodeSize mo_nodeMany mo_due mo_openNode mo_value mo_isLaid mo_changes mo_changeNode mo_changeSign mo_differs mo_results mo_own mo_kinds mo_testInputs mo_testDue mo_tests mo_noticed mo_missed mo_leastFrom mo_blameUpper mo_blameLower) z_r (wd_mo a b cI cJ cT mo_signs mo_signMany mo_nodeSign mo_nodeOn mo_nodeSize mo_nodeMany mo_due mo_openNode z_mo_value z_mo_isLaid z_mo_changes z_mo_changeNode z_mo_changeSign z_mo_differs z_mo_results z_mo_own mo_kinds mo_testInputs mo_testDue mo_tests mo_noticed mo_missed mo_leastFrom mo_blameUpper mo_blameLower) :=
  CtI.of (own := RX12) (cc := cX12_told) (nL := 2) (ret := (some .int)) (by decide +kernel) rfl rfl (Nat.le_of_ble_eq_true rfl) rfl (fun p e s m below meth c A ls C B hl => qX12_told_0 C (N := N) x1 mo_value mo_isLaid mo_changes mo_changeNode mo_changeSign mo_differs mo_results mo_own h _ _ _ B hl)
