abbrev rmX12_layChanges : Room := { frames := 4, cells := 0, slots := 0, locals := 96 }
theorem hdX12_layChanges : yX12_layChanges.cls ≠ "java/lang/invoke/MethodHandle" ∧ yX12_layChanges.cls ≠ "java/lang/invoke/VarHandle" ∧ (parseMethodDescriptor yX12_layChanges.desc).map (fun d => d.parameters.length) = some 0 := by decide +kernel
theorem iX12_layChanges_X12 : ∀ w ∈ wsX120, w ∈ wsX12_layChanges := by decide +kernel
theorem gfX12_layChanges_34 {p : Program} {l : Launch} {e : Env} {R : Room} {s : State} {m : MethodId} {args : Array Value} {below : List Frame} {meth : Method} {c : Code} {H : Heap} {locs : List Loc} {cells slots : Nat} {Q : State → Prop} {D : va_G} {A : Nat → Prop} {tys : List (ClassId × FieldType)} {Es : (Nat → Nat) × (Nat → Nat)} {ws : va_W} {pc : Nat} {ls : Array Slot} {rest : List Value} {a : Nat} (C : CT p s m args meth c RX12 cX12_layChanges 3 none wsX12_layChanges D A tys Es) (B : DB D A ws s H locs) (q0 : Nat) {fs : List Value} {v : Value} (he : ws[q0]? = some (a, .inr (12, fs))) (hv : fs[11]? = some v) (hdg : decode cX12_layChanges pc = .ok (.getfield 34, 3)) (kk : W p l e R s m args below meth c H locs cells slots Q (F0 m (pc + 3) ls (v :: rest))) : W p l e R s m args below meth c H locs cells slots Q (F0 m pc ls (.ref a :: rest)) :=
  k_get (Cn := RX12) (T := TX12) (N := 25) (index := 34) C B iX12_layChanges_X12 rfl 11 (by decide) (by decide +kernel) q0 he hv hdg kk
theorem gfX12_layChanges_37 {p : Program} {l : Launch} {e : Env} {R : Room} {s : State} {m : MethodId} {args : Array Value} {below : List Frame} {meth : Method} {c : Code} {H : Heap} {locs : List Loc} {cells slots : Nat} {Q : State → Prop} {D : va_G} {A : Nat → Prop} {tys : List (ClassId × FieldType)} {Es : (Nat → Nat) × (Nat → Nat)} {ws : va_W} {pc : Nat} {ls : Array Slot} {rest : List Value} {a : Nat} (C : CT p s m args meth c RX12 cX12_layChanges 3 none wsX12_layChanges D A tys Es) (B : DB D A ws s H locs) (q0 : Nat) {fs : List Value} {v : Value} (he : ws[q0]? = some (a, .inr (12, fs))) (hv : fs[12]? = some v) (hdg : decode cX12_layChanges pc = .ok (.getfield 37, 3)) (kk : W p l e R s m args below meth c H locs cells slots Q (F0 m (pc + 3) ls (v :: rest))) : W p l e R s m args below meth c H locs cells slots Q (F0 m pc ls (.ref a :: rest)) :=
  k_get (Cn := RX12) (T := TX12) (N := 25) (index := 37) C B iX12_layChanges_X12 rfl 12 (by decide) (by decide +kernel) q0 he hv hdg kk
theorem gfX12_layChanges_44 {p : Program} {l : Launch} {e : Env} {R : Room} {s : State} {m : MethodId} {args : Array Value} {below : List Frame} {meth : Method} {c : Code} {H : Heap} {locs : List Loc} {cells slots : Nat} {Q : State → Prop} {D : va_G} {A : Nat → Prop} {tys : List (ClassId × FieldType)} {Es : (Nat → Nat) × (Nat → Nat)} {ws : va_W} {pc : Nat} {ls : Array Slot} {rest : List Value} {a : Nat} (C : CT p s m args meth c RX12 cX12_layChanges 3 none wsX12_layChanges D A tys Es) (B : DB D A ws s H locs) (q0 : Nat) {fs : List Value} {v : Value} (he : ws[q0]? = some (a, .inr (12, fs))) (hv : fs[14]? = some v) (hdg : decode cX12_layChanges pc = .ok (.getfield 44, 3)) (kk : W p l e R s m args below meth c H locs cells slots Q (F0 m (pc + 3) ls (v :: rest))) : W p l e R s m args below meth c H locs cells slots Q (F0 m pc ls (.ref a :: rest)) :=
  k_get (Cn := RX12) (T := TX12) (N := 25) (index := 44) C B iX12_layChanges_X12 rfl 14 (by decide) (by decide +kernel) q0 he hv hdg kk
theorem gfX12_layChanges_31 {p : Program} {l : Launch} {e : Env} {R : Room} {s : State} {m : MethodId} {args : Array Value} {below : List Frame} {meth : Method} {c : Code} {H : Heap} {locs : List Loc} {cells slots : Nat} {Q : State → Prop} {D : va_G} {A : Nat → Prop} {tys : List (ClassId × FieldType)} {Es : (Nat → Nat) × (Nat → Nat)} {ws : va_W} {pc : Nat} {ls : Array Slot} {rest : List Value} {a : Nat} (C : CT p s m args meth c RX12 cX12_layChanges 3 none wsX12_layChanges D A tys Es) (B : DB D A ws s H locs) (q0 : Nat) {fs : List Value} {v : Value} (he : ws[q0]? = some (a, .inr (12, fs))) (hv : fs[8]? = some v) (hdg : decode cX12_layChanges pc = .ok (.getfield 31, 3)) (kk : W p l e R s m args below meth c H locs cells slots Q (F0 m (pc + 3) ls (v :: rest))) : W p l e R s m args below meth c H locs cells slots Q (F0 m pc ls (.ref a :: rest)) :=
  k_get (Cn := RX12) (T := TX12) (N := 25) (index := 31) C B iX12_layChanges_X12 rfl 8 (by decide) (by decide +kernel) q0 he hv hdg kk
theorem gfX12_layChanges_40 {p : Program} {l : Launch} {e : Env} {R : Room} {s : State} {m : MethodId} {args : Array Value} {below : List Frame} {meth : Method} {c : Code} {H : Heap} {locs : List Loc} {cells slots : Nat} {Q : State → Prop} {D : va_G} {A : Nat → Prop} {tys : List (ClassId × FieldType)} {Es : (Nat → Nat) × (Nat → Nat)} {ws : va_W} {pc : Nat} {ls : Array Slot} {rest : List Value} {a : Nat} (C : CT p s m args meth c RX12 cX12_layChanges 3 none wsX12_layChanges D A tys Es) (B : DB D A ws s H locs) (q0 : Nat) {fs : List Value} {v : Value} (he : ws[q0]? = some (a, .inr (12, fs))) (hv : fs[13]? = some v) (hdg : decode cX12_layChanges pc = .ok (.getfield 40, 3)) (kk : W p l e R s m args below meth c H locs cells slots Q (F0 m (pc + 3) ls (v :: rest))) : W p l e R s m args below meth c H locs cells slots Q (F0 m pc ls (.ref a :: rest)) :=
  k_get (Cn := RX12) (T := TX12) (N := 25) (index := 40) C B iX12_layChanges_X12 rfl 13 (by decide) (by decide +kernel) q0 he hv hdg kk
theorem gfX12_layChanges_47 {p : Program} {l : Launch} {e : Env} {R : Room} {s : State} {m : MethodId} {args : Array Value} {below : List Frame} {meth : Method} {c : Code} {H : Heap} {locs : List Loc} {cells slots : Nat} {Q : State → Prop} {D : va_G} {A : Nat → Prop} {tys : List (ClassId × FieldType)} {Es : (Nat → Nat) × (Nat → Nat)} {ws : va_W} {pc : Nat} {ls : Array Slot} {rest : List Value} {a : Nat} (C : CT p s m args meth c RX12 cX12_layChanges 3 none wsX12_layChanges D A tys Es) (B : DB D A ws s H locs) (q0 : Nat) {fs : List Value} {v : Value} (he : ws[q0]? = some (a, .inr (12, fs))) (hv : fs[15]? = some v) (hdg : decode cX12_layChanges pc = .ok (.getfield 47, 3)) (kk : W p l e R s m args below meth c H locs cells slots Q (F0 m (pc + 3) ls (v :: rest))) : W p l e R s m args below meth c H locs cells slots Q (F0 m pc ls (.ref a :: rest)) :=
  k_get (Cn := RX12) (T := TX12) (N := 25) (index := 47) C B iX12_layChanges_X12 rfl 15 (by decide) (by decide +kernel) q0 he hv hdg kk
theorem gfX12_layChanges_141 {p : Program} {l : Launch} {e : Env} {R : Room} {s : State} {m : MethodId} {args : Array Value} {below : List Frame} {meth : Method} {c : Code} {H : Heap} {locs : List Loc} {cells slots : Nat} {Q : State → Prop} {D : va_G} {A : Nat → Prop} {tys : List (ClassId × FieldType)} {Es : (Nat → Nat) × (Nat → Nat)} {ws : va_W} {pc : Nat} {ls : Array Slot} {rest : List Value} {a : Nat} (C : CT p s m args meth c RX12 cX12_layChanges 3 none wsX12_layChanges D A tys Es) (B : DB D A ws s H locs) (q0 : Nat) {fs : List Value} {v : Value} (he : ws[q0]? = some (a, .inr (12, fs))) (hv : fs[10]? = some v) (hdg : decode cX12_layChanges pc = .ok (.getfield 141, 3)) (kk : W p l e R s m args below meth c H locs cells slots Q (F0 m (pc + 3) ls (v :: rest))) : W p l e R s m args below meth c H locs cells slots Q (F0 m pc ls (.ref a :: rest)) :=
  k_get (Cn := RX12) (T := TX12) (N := 25) (index := 141) C B iX12_layChanges_X12 rfl 10 (by decide) (by decide +kernel) q0 he hv hdg kk
theorem pfX12_layChanges_112 {p : Program} {l : Launch} {e : Env} {R : Room} {s : State} {m : MethodId} {args : Array Value} {below : List Frame} {meth : Method} {c : Code} {H : Heap} {locs : List Loc} {cells slots : Nat} {Q : State → Prop} {D : va_G} {A : Nat → Prop} {tys : List (ClassId × FieldType)} {Es : (Nat → Nat) × (Nat → Nat)} {ws : va_W} {pc : Nat} {ls : Array Slot} {rest : List Value} {a : Nat} (C : CT p s m args meth c RX12 cX12_layChanges 3 none wsX12_layChanges D A tys Es) (B : DB D A ws s H locs) (q0 : Nat) {fs : List Value} {v : Value} (hn : narrow .boolean v = v) (hfit : fits .boolean v = true) (he : ws[q0]? = some (a, .inr (12, fs))) (hl : 9 < fs.length) (hdg : decode cX12_layChanges pc = .ok (.putfield 112, 3)) (kk : ∀ (H1 : Heap) (locs1 : List Loc), DB D A (ws.set q0 (a, .inr (12, fs.set 9 v))) s H1 locs1 → W p l e R s m args below meth c H1 locs1 cells slots Q (F0 m (pc + 3) ls rest)) : W p l e R s m args below meth c H locs cells slots Q (F0 m pc ls (v :: .ref a :: rest)) :=
  k_put (Cn := RX12) (T := TX12) (N := 25) (index := 112) C B iX12_layChanges_X12 rfl tyX12 tyX12_ok nmX12 9 (by decide) (by decide +kernel) rfl q0 (by decide +kernel) hn hfit he hl hdg kk
theorem gfX12_layChanges_22 {p : Program} {l : Launch} {e : Env} {R : Room} {s : State} {m : MethodId} {args : Array Value} {below : List Frame} {meth : Method} {c : Code} {H : Heap} {locs : List Loc} {cells slots : Nat} {Q : State → Prop} {D : va_G} {A : Nat → Prop} {tys : List (ClassId × FieldType)} {Es : (Nat → Nat) × (Nat → Nat)} {ws : va_W} {pc : Nat} {ls : Array Slot} {rest : List Value} {a : Nat} (C : CT p s m args meth c RX12 cX12_layChanges 3 none wsX12_layChanges D A tys Es) (B : DB D A ws s H locs) (q0 : Nat) {fs : List Value} {v : Value} (he : ws[q0]? = some (a, .inr (12, fs))) (hv : fs[5]? = some v) (hdg : decode cX12_layChanges pc = .ok (.getfield 22, 3)) (kk : W p l e R s m args below meth c H locs cells slots Q (F0 m (pc + 3) ls (v :: rest))) : W p l e R s m args below meth c H locs cells slots Q (F0 m pc ls (.ref a :: rest)) :=
  k_get (Cn := RX12) (T := TX12) (N := 25) (index := 22) C B iX12_layChanges_X12 rfl 5 (by decide) (by decide +kernel) q0 he hv hdg kk
theorem gfX12_layChanges_112 {p : Program} {l : Launch} {e : Env} {R : Room} {s : State} {m : MethodId} {args : Array Value} {below : List Frame} {meth : Method} {c : Code} {H : Heap} {locs : List Loc} {cells slots : Nat} {Q : State → Prop} {D : va_G} {A : Nat → Prop} {tys : List (ClassId × FieldType)} {Es : (Nat → Nat) × (Nat → Nat)} {ws : va_W} {pc : Nat} {ls : Array Slot} {rest : List Value} {a : Nat} (C : CT p s m args meth c RX12 cX12_layChanges 3 none wsX12_layChanges D A tys Es) (B : DB D A ws s H locs) (q0 : Nat) {fs : List Value} {v : Value} (he : ws[q0]? = some (a, .inr (12, fs))) (hv : fs[9]? = some v) (hdg : decode cX12_layChanges pc = .ok (.getfield 112, 3)) (kk : W p l e R s m args below meth c H locs cells slots Q (F0 m (pc + 3) ls (v :: rest))) : W p l e R s m args below meth c H locs cells slots Q (F0 m pc ls (.ref a :: rest)) :=
  k_get (Cn := RX12) (T := TX12) (N := 25) (index := 112) C B iX12_layChanges_X12 rfl 9 (by decide) (by decide +kernel) q0 he hv hdg kk
theorem pfX12_layChanges_141 {p : Program} {l : Launch} {e : Env} {R : Room} {s : State} {m : MethodId} {args : Array Value} {below : List Frame} {meth : Method} {c : Code} {H : Heap} {locs : List Loc} {cells slots : Nat} {Q : State → Prop} {D : va_G} {A : Nat → Prop} {tys : List (ClassId × FieldType)} {Es : (Nat → Nat) × (Nat → Nat)} {ws : va_W} {pc : Nat} {ls : Array Slot} {rest : List Value} {a : Nat} (C : CT p s m args meth c RX12 cX12_layChanges 3 none wsX12_layChanges D A tys Es) (B : DB D A ws s H locs) (q0 : Nat) {fs : List Value} {v : Value} (hn : narrow .int v = v) (hfit : fits .int v = true) (he : ws[q0]? = some (a, .inr (12, fs))) (hl : 10 < fs.length) (hdg : decode cX12_layChanges pc = .ok (.putfield 141, 3)) (kk : ∀ (H1 : Heap) (locs1 : List Loc), DB D A (ws.set q0 (a, .inr (12, fs.set 10 v))) s H1 locs1 → W p l e R s m args below meth c H1 locs1 cells slots Q (F0 m (pc + 3) ls rest)) : W p l e R s m args below meth c H locs cells slots Q (F0 m pc ls (v :: .ref a :: rest)) :=
  k_put (Cn := RX12) (T := TX12) (N := 25) (index := 141) C B iX12_layChanges_X12 rfl tyX12 tyX12_ok nmX12 10 (by decide) (by decide +kernel) rfl q0 (by decide +kernel) hn hfit he hl hdg kk
section
variable {p : Program} {l : Launch} {e : Env} {s : State} {m : MethodId} {args : Array Value} {below : List Frame} {meth : Method} {c : Code} {D : va_G} {A : Nat → Prop} {Es : (Nat → Nat) × (Nat → Nat)} {a b : Nat → Nat} {cI cJ cT : ClassId}
set_option maxHeartbeats 4000000 in
set_option maxRecDepth 100000 in
theorem qX12_layChanges_161 (C : CT p s m args meth c RX12 cX12_layChanges 3 none wsX12_layChanges D A (tyl cI cJ cT) Es) {N : Nat} {mo_signs : Nat → Int32} {mo_signMany : Int32} {mo_nodeSign : Nat → Int32} {mo_nodeOn : Nat → Int32} {mo_nodeSize : Nat → Int32} {mo_nodeMany : Nat → Int32} {mo_due : Nat → Int32} {mo_openNode : Nat → Int32} {mo_kinds : Nat → Int32} {mo_testInputs : Nat → Int32} {mo_testDue : Nat → Int32} {mo_tests : Int32} {mo_noticed : Nat → Int32} {mo_missed : Nat → Int32} {mo_leastFrom : Nat → Int32} {mo_blameUpper : Nat → Int32} {mo_blameLower : Nat → Int32} {z_mo_value : Nat → Int32} {z_mo_isLaid : Int32} {z_mo_changes : Int32} {z_mo_changeNode : Nat → Int32} {z_mo_changeSign : Nat → Int32} {z_mo_differs : Nat → Int32} {z_mo_results : Nat → Int32} {z_mo_own : Nat → Int32} {k74 : Int32 → (Nat → Int32) → (Int32) → (Int32) → (Nat → Int32) → (Nat → Int32) → (Nat → Int32) → (Nat → Int32) → (Nat → Int32) → Option ((Nat → Int32) × (Int32) × (Int32) × (Nat → Int32) × (Nat → Int32) × (Nat → Int32) × (Nat → Int32) × (Nat → Int32))} (hk74 : ∀ (x1 : Int32) (mo_value : Nat → Int32) (mo_isLaid : Int32) (mo_changes : Int32) (mo_changeNode : Nat → Int32) (mo_changeSign : Nat → Int32) (mo_differs : Nat → Int32) (mo_results : Nat → Int32) (mo_own : Nat → Int32), k74 x1 mo_value mo_isLaid mo_changes mo_changeNode mo_changeSign mo_differs mo_results mo_own = some (z_mo_value, z_mo_isLaid, z_mo_changes, z_mo_changeNode, z_mo_changeSign, z_mo_differs, z_mo_results, z_mo_own) → ∀ (H : Heap) (locs : List Loc) (ls : Array Slot), DB D A (wd_mo a b cI cJ cT mo_signs mo_signMany mo_nodeSign mo_nodeOn mo_nodeSize mo_nodeMany mo_due mo_openNode mo_value mo_isLaid mo_changes mo_changeNode mo_changeSign mo_differs mo_results mo_own mo_kinds mo_testInputs mo_testDue mo_tests mo_noticed mo_missed mo_leastFrom mo_blameUpper mo_blameLower) s H locs → lv_has ls 3 [(0, .ref (b 0)), (1, .int x1)] → W p l e rmX12_layChanges s m args below meth c H locs 0 0 (ZV below args s D A (tyl cI cJ cT) (wd_mo a b cI cJ cT mo_signs mo_signMany mo_nodeSign mo_nodeOn mo_nodeSize mo_nodeMany mo_due mo_openNode z_mo_value z_mo_isLaid z_mo_changes z_mo_changeNode z_mo_changeSign z_mo_differs z_mo_results z_mo_own mo_kinds mo_testInputs mo_testDue mo_tests mo_noticed mo_missed mo_leastFrom mo_blameUpper mo_blameLower) 0 0) (F0 m 74 ls [])) {k91 : Int32 → Int32 → (Nat → Int32) → (Int32) → (Int32) → (Nat → Int32) → (Nat → Int32) → (Nat → Int32) → (Nat → Int32) → (Nat → Int32) → Option ((Nat → Int32) × (Int32) × (Int32) × (Nat → Int32) × (Nat → Int32) × (Nat → Int32) × (Nat → Int32) × (Nat → Int32))} (hk91 : ∀ (x1 : Int32) (x2 : Int32) (mo_value : Nat → Int32) (mo_isLaid : Int32) (mo_changes : Int32) (mo_changeNode : Nat → Int32) (mo_changeSign : Nat → Int32) (mo_differs : Nat → Int32) (mo_results : Nat → Int32) (mo_own : Nat → Int32), k91 x1 x2 mo_value mo_isLaid mo_changes mo_changeNode mo_changeSign mo_differs mo_results mo_own = some (z_mo_value, z_mo_isLaid, z_mo_changes, z_mo_changeNode, z_mo_changeSign, z_mo_differs, z_mo_results, z_mo_own) → ∀ (H : Heap) (locs : List Loc) (ls : Array Slot), DB D A (wd_mo a b cI cJ cT mo_signs mo_signMany mo_nodeSign mo_nodeOn mo_nodeSize mo_nodeMany mo_due mo_openNode mo_value mo_isLaid mo_changes mo_changeNode mo_changeSign mo_differs mo_results mo_own mo_kinds mo_testInputs mo_testDue mo_tests mo_noticed mo_missed mo_leastFrom mo_blameUpper mo_blameLower) s H locs → lv_has ls 3 [(0, .ref (b 0)), (1, .int x1), (2, .int x2)] → W p l e rmX12_layChanges s m args below meth c H locs 0 0 (ZV below args s D A (tyl cI cJ cT) (wd_mo a b cI cJ cT mo_signs mo_signMany mo_nodeSign mo_nodeOn mo_nodeSize mo_nodeMany mo_due mo_openNode z_mo_value z_mo_isLaid z_mo_changes z_mo_changeNode z_mo_changeSign z_mo_differs z_mo_results z_mo_own mo_kinds mo_testInputs mo_testDue mo_tests mo_noticed mo_missed mo_leastFrom mo_blameUpper mo_blameLower) 0 0) (F0 m 91 ls [])) : ∀ (x1 : Int32) (x2 : Int32) (y1 : Int32) (y2 : Int32) (y3 : Int32) (mo_value : Nat → Int32) (mo_isLaid : Int32) (mo_changes : Int32) (mo_changeNode : Nat → Int32) (mo_changeSign : Nat → Int32) (mo_differs : Nat → Int32) (mo_results : Nat → Int32) (mo_own : Nat → Int32), bX12_layChanges_161 N mo_nodeSign mo_nodeSize mo_nodeMany mo_kinds k74 k91 x1 x2 y1 y2 y3 mo_value mo_isLaid mo_changes mo_changeNode mo_changeSign mo_differs mo_results mo_own = some (z_mo_value, z_mo_isLaid, z_mo_changes, z_mo_changeNode, z_mo_changeSign, z_mo_differs, z_mo_results, z_mo_own) → ∀ (H : Heap) (locs : List Loc) (ls : Array Slot), DB D A (wd_mo a b cI cJ cT mo_signs mo_signMany mo_nodeSign mo_nodeOn mo_nodeSize mo_nodeMany mo_due mo_openNode mo_value mo_isLaid mo_changes mo_changeNode mo_changeSign mo_differs mo_results mo_own mo_kinds mo_testInputs mo_testDue mo_tests mo_noticed mo_missed mo_leastFrom mo_blameUpper mo_blameLower) s H locs → lv_has ls 3 [(0, .ref (b 0)), (1, .int x1), (2, .int x2)] → W p l e rmX12_layChanges s m args below meth c H locs 0 0 (ZV below args s D A (tyl cI cJ cT) (wd_mo a b cI cJ cT mo_signs mo_signMany mo_nodeSign mo_nodeOn mo_nodeSize mo_nodeMany mo_due mo_openNode z_mo_value z_mo_isLaid z_mo_changes z_mo_changeNode z_mo_changeSign z_mo_differs z_mo_results z_mo_own mo_kinds mo_testInputs mo_testDue mo_tests mo_noticed mo_missed mo_leastFrom mo_blameUpper mo_blameLower) 0 0) (F0 m 161 ls [.int y3, .int y2, .int y1, .ref (b 11)]) := by
  have hx := C.1.1
  have hb := C.1.2.1
  have hown := C.1.2.2.2.1
  have hts := C.1.2.2.2.2
  intro x1 x2 y1 y2 y3 mo_value mo_isLaid mo_changes mo_changeNode mo_changeSign mo_differs mo_results mo_own h H locs ls B hl
  rw [bX12_layChanges_161] at h
  refine lv_iadd hx hb dX12_layChanges_161 ?_
  obtain ⟨b_1, h⟩ := bnd_some h
  refine k_iast C B 11 0 rfl rfl b_1 dX12_layChanges_162 (fun H locs B => ?_)
  have B : DB D A (wd_mo a b cI cJ cT mo_signs mo_signMany mo_nodeSign mo_nodeOn mo_nodeSize mo_nodeMany mo_due mo_openNode mo_value mo_isLaid mo_changes mo_changeNode mo_changeSign (upd mo_differs (Int32.toNatClampNeg y1) (y2 + y3)) mo_results mo_own mo_kinds mo_testInputs mo_testDue mo_tests mo_noticed mo_missed mo_leastFrom mo_blameUpper mo_blameLower) s H locs := B
  refine lv_iinc (v := (x2 + 1)) (lv' := [(2, .int (x2 + 1)), (0, .ref (b 0)), (1, .int x1)]) hx hb dX12_layChanges_163 hl (k := 2) rfl rfl (by decide) rfl (fun ls hl => ?_)
  refine lv_goto (tgt := 91) hx hb dX12_layChanges_166 (by decide) ?_
  exact hk91 x1 (x2 + 1) mo_value mo_isLaid mo_changes mo_changeNode mo_changeSign (upd mo_differs (Int32.toNatClampNeg y1) (y2 + y3)) mo_results mo_own h H locs ls B (lv_sub hl [1, 2, 0] rfl)
set_option maxHeartbeats 4000000 in
set_option maxRecDepth 100000 in
theorem qX12_layChanges_91 (C : CT p s m args meth c RX12 cX12_layChanges 3 none wsX12_layChanges D A (tyl cI cJ cT) Es) {N : Nat} {mo_signs : Nat → Int32} {mo_signMany : Int32} {mo_nodeSign : Nat → Int32} {mo_nodeOn : Nat → Int32} {mo_nodeSize : Nat → Int32} {mo_nodeMany : Nat → Int32} {mo_due : Nat → Int32} {mo_openNode : Nat → Int32} {mo_kinds : Nat → Int32} {mo_testInputs : Nat → Int32} {mo_testDue : Nat → Int32} {mo_tests : Int32} {mo_noticed : Nat → Int32} {mo_missed : Nat → Int32} {mo_leastFrom : Nat → Int32} {mo_blameUpper : Nat → Int32} {mo_blameLower : Nat → Int32} {z_mo_value : Nat → Int32} {z_mo_isLaid : Int32} {z_mo_changes : Int32} {z_mo_changeNode : Nat → Int32} {z_mo_changeSign : Nat → Int32} {z_mo_differs : Nat → Int32} {z_mo_results : Nat → Int32} {z_mo_own : Nat → Int32} {k74 : Int32 → (Nat → Int32) → (Int32) → (Int32) → (Nat → Int32) → (Nat → Int32) → (Nat → Int32) → (Nat → Int32) → (Nat → Int32) → Option ((Nat → Int32) × (Int32) × (Int32) × (Nat → Int32) × (Nat → Int32) × (Nat → Int32) × (Nat → Int32) × (Nat → Int32))} (hk74 : ∀ (x1 : Int32) (mo_value : Nat → Int32) (mo_isLaid : Int32) (mo_changes : Int32) (mo_changeNode : Nat → Int32) (mo_changeSign : Nat → Int32) (mo_differs : Nat → Int32) (mo_results : Nat → Int32) (mo_own : Nat → Int32), k74 x1 mo_value mo_isLaid mo_changes mo_changeNode mo_changeSign mo_differs mo_results mo_own = some (z_mo_value, z_mo_isLaid, z_mo_changes, z_mo_changeNode, z_mo_changeSign, z_mo_differs, z_mo_results, z_mo_own) → ∀ (H : Heap) (locs : List Loc) (ls : Array Slot), DB D A (wd_mo a b cI cJ cT mo_signs mo_signMany mo_nodeSign mo_nodeOn mo_nodeSize mo_nodeMany mo_due mo_openNode mo_value mo_isLaid mo_changes mo_changeNode mo_changeSign mo_differs mo_results mo_own mo_kinds mo_testInputs mo_testDue mo_tests mo_noticed mo_missed mo_leastFrom mo_blameUpper mo_blameLower) s H locs → lv_has ls 3 [(0, .ref (b 0)), (1, .int x1)] → W p l e rmX12_layChanges s m args below meth c H locs 0 0 (ZV below args s D A (tyl cI cJ cT) (wd_mo a b cI cJ cT mo_signs mo_signMany mo_nodeSign mo_nodeOn mo_nodeSize mo_nodeMany mo_due mo_openNode z_mo_value z_mo_isLaid z_mo_changes z_mo_changeNode z_mo_changeSign z_mo_differs z_mo_results z_mo_own mo_kinds mo_testInputs mo_testDue mo_tests mo_noticed mo_missed mo_leastFrom mo_blameUpper mo_blameLower) 0 0) (F0 m 74 ls [])) : ∀ (n : Nat) (x1 : Int32) (x2 : Int32) (mo_value : Nat → Int32) (mo_isLaid : Int32) (mo_changes : Int32) (mo_changeNode : Nat → Int32) (mo_changeSign : Nat → Int32) (mo_differs : Nat → Int32) (mo_results : Nat → Int32) (mo_own : Nat → Int32), bX12_layChanges_91 N mo_nodeSign mo_nodeSize mo_nodeMany mo_kinds k74 n x1 x2 mo_value mo_isLaid mo_changes mo_changeNode mo_changeSign mo_differs mo_results mo_own = some (z_mo_value, z_mo_isLaid, z_mo_changes, z_mo_changeNode, z_mo_changeSign, z_mo_differs, z_mo_results, z_mo_own) → ∀ (H : Heap) (locs : List Loc) (ls : Array Slot), DB D A (wd_mo a b cI cJ cT mo_signs mo_signMany mo_nodeSign mo_nodeOn mo_nodeSize mo_nodeMany mo_due mo_openNode mo_value mo_isLaid mo_changes mo_changeNode mo_changeSign mo_differs mo_results mo_own mo_kinds mo_testInputs mo_testDue mo_tests mo_noticed mo_missed mo_leastFrom mo_blameUpper mo_blameLower) s H locs → lv_has ls 3 [(0, .ref (b 0)), (1, .int x1), (2, .int x2)] → W p l e rmX12_layChanges s m args below meth c H locs 0 0 (ZV below args s D A (tyl cI cJ cT) (wd_mo a b cI cJ cT mo_signs mo_signMany mo_nodeSign mo_nodeOn mo_nodeSize mo_nodeMany mo_due mo_openNode z_mo_value z_mo_isLaid z_mo_changes z_mo_changeNode z_mo_changeSign z_mo_differs z_mo_results z_mo_own mo_kinds mo_testInputs mo_testDue mo_tests mo_noticed mo_missed mo_leastFrom mo_blameUpper mo_blameLower) 0 0) (F0 m 91 ls []) := by
  have hx := C.1.1
  have hb := C.1.2.1
  have hown := C.1.2.2.2.1
  have hts := C.1.2.2.2.2
  intro n
  induction n with
  | zero => intro x1 x2 mo_value mo_isLaid mo_changes mo_changeNode mo_changeSign mo_differs mo_results mo_own h; cases h
  | succ n ih =>
    intro x1 x2 mo_value mo_isLaid mo_changes mo_changeNode mo_changeSign mo_differs mo_results mo_own h H locs ls B hl
    rw [bX12_layChanges_91] at h
    refine lv_iload_n hx hb dX12_layChanges_91 rfl (lv_at hl 2 rfl) ?_
    refine lv_sipush (v := 512) hx hb dX12_layChanges_92 (by decide) ?_
    refine lv_icmp_ge (tgt := 169) hx hb dX12_layChanges_95 (by decide) (fun c_1 => ?_) (fun c_1 => ?_)
    · rw [if_pos c_1] at h
      refine lv_iinc (v := (x1 + 1)) (lv' := [(1, .int (x1 + 1)), (0, .ref (b 0)), (2, .int x2)]) hx hb dX12_layChanges_169 hl (k := 1) rfl rfl (by decide) rfl (fun ls hl => ?_)
      refine lv_goto (tgt := 74) hx hb dX12_layChanges_172 (by decide) ?_
      exact hk74 (x1 + 1) mo_value mo_isLaid mo_changes mo_changeNode mo_changeSign mo_differs mo_results mo_own h H locs ls B (lv_sub hl [1, 0] rfl)
    · rw [if_neg c_1] at h
      refine lv_aload_n hx hb dX12_layChanges_98 rfl (lv_at hl 0 rfl) ?_
      refine lv_iconst (v := 0) hx hb dX12_layChanges_99 (by decide) ?_
      refine lv_iload_n hx hb dX12_layChanges_100 rfl (lv_at hl 2 rfl) ?_
      refine lv_aload_n hx hb dX12_layChanges_101 rfl (lv_at hl 0 rfl) ?_
      refine gfX12_layChanges_34 C B 0 rfl rfl dX12_layChanges_102 ?_
      refine lv_iload_n hx hb dX12_layChanges_105 rfl (lv_at hl 1 rfl) ?_
      obtain ⟨b_2, h⟩ := bnd_some h
      refine k_iald C B 9 0 rfl rfl b_2 dX12_layChanges_106 ?_
      refine lv_aload_n hx hb dX12_layChanges_107 rfl (lv_at hl 0 rfl) ?_
      refine gfX12_layChanges_37 C B 0 rfl rfl dX12_layChanges_108 ?_
      refine lv_iload_n hx hb dX12_layChanges_111 rfl (lv_at hl 1 rfl) ?_
      refine k_iald C B 10 0 rfl rfl b_2 dX12_layChanges_112 ?_
      obtain ⟨mo_value_3, g_8, h⟩ := ob_some h
      try dsimp only at h
      refine kc_VV C B (q0 := 0) (ci := 12) (As := [.int (0 : Int32), .int x2, .int (mo_changeNode (Int32.toNatClampNeg x1)), .int (mo_changeSign (Int32.toNatClampNeg x1))]) (rest := []) (w2 := (wd_mo a b cI cJ cT mo_signs mo_signMany mo_nodeSign mo_nodeOn mo_nodeSize mo_nodeMany mo_due mo_openNode mo_value_3 mo_isLaid mo_changes mo_changeNode mo_changeSign mo_differs mo_results mo_own mo_kinds mo_testInputs mo_testDue mo_tests mo_noticed mo_missed mo_leastFrom mo_blameUpper mo_blameLower)) (tX12_work (a := a) (b := b) N g_8) gX12_layChanges_X12_work rfl ⟨rfl, rfl⟩ ⟨rfl, hdX12_work⟩ ⟨Nat.le_of_ble_eq_true rfl, Nat.le_of_ble_eq_true rfl⟩ rfl rfl [0, 1, 2, 3, 4, 5, 6, 7, 8, 9, 10, 11, 12, 13, 14, 15, 16, 17, 18, 19, 20, 21] [] [0, 1, 2, 3, 4, 5, 6, 7, 8, 9, 10, 11, 12, 13, 14, 15, 16, 17, 18, 19, 20, 21] rfl rfl rfl rfl rfl rfl rfl rfl hl.1 rfl (Nat.le_of_ble_eq_true rfl) ⟨Nat.zero_le _, Nat.zero_le _⟩ dX12_layChanges_113 (fun H locs B => ?_)
      refine lv_aload_n hx hb dX12_layChanges_116 rfl (lv_at hl 0 rfl) ?_
      refine gfX12_layChanges_44 C B 0 rfl rfl dX12_layChanges_117 ?_
      refine lv_sipush (v := 512) hx hb dX12_layChanges_120 (by decide) ?_
      refine lv_iload_n hx hb dX12_layChanges_123 rfl (lv_at hl 1 rfl) ?_
      refine lv_imul hx hb dX12_layChanges_124 ?_
      refine lv_iload_n hx hb dX12_layChanges_125 rfl (lv_at hl 2 rfl) ?_
      refine lv_iadd hx hb dX12_layChanges_126 ?_
      refine lv_aload_n hx hb dX12_layChanges_127 rfl (lv_at hl 0 rfl) ?_
      refine gfX12_layChanges_31 C B 0 rfl rfl dX12_layChanges_128 ?_
      refine lv_iconst (v := 0) hx hb dX12_layChanges_131 (by decide) ?_
      refine k_iald C B 8 0 rfl rfl (vp_lit (by decide)) dX12_layChanges_132 ?_
      obtain ⟨b_5, h⟩ := bnd_some h
      refine k_iast C B 12 0 rfl rfl b_5 dX12_layChanges_133 (fun H locs B => ?_)
      have B : DB D A (wd_mo a b cI cJ cT mo_signs mo_signMany mo_nodeSign mo_nodeOn mo_nodeSize mo_nodeMany mo_due mo_openNode mo_value_3 mo_isLaid mo_changes mo_changeNode mo_changeSign mo_differs (upd mo_results (Int32.toNatClampNeg (((512 : Int32) * x1) + x2)) (mo_value_3 (Int32.toNatClampNeg (0 : Int32)))) mo_own mo_kinds mo_testInputs mo_testDue mo_tests mo_noticed mo_missed mo_leastFrom mo_blameUpper mo_blameLower) s H locs := B
      refine lv_aload_n hx hb dX12_layChanges_134 rfl (lv_at hl 0 rfl) ?_
      refine gfX12_layChanges_40 C B 0 rfl rfl dX12_layChanges_135 ?_
      refine lv_iload_n hx hb dX12_layChanges_138 rfl (lv_at hl 1 rfl) ?_
      refine lv_dup2_11 hx hb dX12_layChanges_139 rfl rfl ?_
      refine k_iald C B 11 0 rfl rfl b_2 dX12_layChanges_140 ?_
      refine lv_aload_n hx hb dX12_layChanges_141 rfl (lv_at hl 0 rfl) ?_
      refine gfX12_layChanges_31 C B 0 rfl rfl dX12_layChanges_142 ?_
      refine lv_iconst (v := 0) hx hb dX12_layChanges_145 (by decide) ?_
      refine k_iald C B 8 0 rfl rfl (vp_lit (by decide)) dX12_layChanges_146 ?_
      refine lv_aload_n hx hb dX12_layChanges_147 rfl (lv_at hl 0 rfl) ?_
      refine gfX12_layChanges_47 C B 0 rfl rfl dX12_layChanges_148 ?_
      refine lv_iload_n hx hb dX12_layChanges_151 rfl (lv_at hl 2 rfl) ?_
      obtain ⟨b_6, h⟩ := bnd_some h
      refine k_iald C B 13 0 rfl rfl b_6 dX12_layChanges_152 ?_
      refine lv_icmp_eq (tgt := 160) hx hb dX12_layChanges_153 (by decide) (fun c_7 => ?_) (fun c_7 => ?_)
      · rw [if_pos c_7] at h
        refine lv_iconst (v := 0) hx hb dX12_layChanges_160 (by decide) ?_
        exact qX12_layChanges_161 C hk74 ih x1 x2 x1 (mo_differs (Int32.toNatClampNeg x1)) (0 : Int32) mo_value_3 mo_isLaid mo_changes mo_changeNode mo_changeSign mo_differs (upd mo_results (Int32.toNatClampNeg (((512 : Int32) * x1) + x2)) (mo_value_3 (Int32.toNatClampNeg (0 : Int32)))) mo_own h H locs ls B (lv_sub hl [0, 1, 2] rfl)
      · rw [if_neg c_7] at h
        refine lv_iconst (v := 1) hx hb dX12_layChanges_156 (by decide) ?_
        refine lv_goto (tgt := 161) hx hb dX12_layChanges_157 (by decide) ?_
        exact qX12_layChanges_161 C hk74 ih x1 x2 x1 (mo_differs (Int32.toNatClampNeg x1)) (1 : Int32) mo_value_3 mo_isLaid mo_changes mo_changeNode mo_changeSign mo_differs (upd mo_results (Int32.toNatClampNeg (((512 : Int32) * x1) + x2)) (mo_value_3 (Int32.toNatClampNeg (0 : Int32)))) mo_own h H locs ls B (lv_sub hl [0, 1, 2] rfl)
set_option maxHeartbeats 4000000 in
set_option maxRecDepth 100000 in
theorem qX12_layChanges_74 (C : CT p s m args meth c RX12 cX12_layChanges 3 none wsX12_layChanges D A (tyl cI cJ cT) Es) {N : Nat} {mo_signs : Nat → Int32} {mo_signMany : Int32} {mo_nodeSign : Nat → Int32} {mo_nodeOn : Nat → Int32} {mo_nodeSize : Nat → Int32} {mo_nodeMany : Nat → Int32} {mo_due : Nat → Int32} {mo_openNode : Nat → Int32} {mo_kinds : Nat → Int32} {mo_testInputs : Nat → Int32} {mo_testDue : Nat → Int32} {mo_tests : Int32} {mo_noticed : Nat → Int32} {mo_missed : Nat → Int32} {mo_leastFrom : Nat → Int32} {mo_blameUpper : Nat → Int32} {mo_blameLower : Nat → Int32} {z_mo_value : Nat → Int32} {z_mo_isLaid : Int32} {z_mo_changes : Int32} {z_mo_changeNode : Nat → Int32} {z_mo_changeSign : Nat → Int32} {z_mo_differs : Nat → Int32} {z_mo_results : Nat → Int32} {z_mo_own : Nat → Int32} : ∀ (n : Nat) (x1 : Int32) (mo_value : Nat → Int32) (mo_isLaid : Int32) (mo_changes : Int32) (mo_changeNode : Nat → Int32) (mo_changeSign : Nat → Int32) (mo_differs : Nat → Int32) (mo_results : Nat → Int32) (mo_own : Nat → Int32), bX12_layChanges_74 N mo_nodeSign mo_nodeSize mo_nodeMany mo_kinds n x1 mo_value mo_isLaid mo_changes mo_changeNode mo_changeSign mo_differs mo_results mo_own = some (z_mo_value, z_mo_isLaid, z_mo_changes, z_mo_changeNode, z_mo_changeSign, z_mo_differs, z_mo_results, z_mo_own) → ∀ (H : Heap) (locs : List Loc) (ls : Array Slot), DB D A (wd_mo a b cI cJ cT mo_signs mo_signMany mo_nodeSign mo_nodeOn mo_nodeSize mo_nodeMany mo_due mo_openNode mo_value mo_isLaid mo_changes mo_changeNode mo_changeSign mo_differs mo_results mo_own mo_kinds mo_testInputs mo_testDue mo_tests mo_noticed mo_missed mo_leastFrom mo_blameUpper mo_blameLower) s H locs → lv_has ls 3 [(0, .ref (b 0)), (1, .int x1)] → W p l e rmX12_layChanges s m args below meth c H locs 0 0 (ZV below args s D A (tyl cI cJ cT) (wd_mo a b cI cJ cT mo_signs mo_signMany mo_nodeSign mo_nodeOn mo_nodeSize mo_nodeMany mo_due mo_openNode z_mo_value z_mo_isLaid z_mo_changes z_mo_changeNode z_mo_changeSign z_mo_differs z_mo_results z_mo_own mo_kinds mo_testInputs mo_testDue mo_tests mo_noticed mo_missed mo_leastFrom mo_blameUpper mo_blameLower) 0 0) (F0 m 74 ls []) := by
  have hx := C.1.1
  have hb := C.1.2.1
  have hown := C.1.2.2.2.1
  have hts := C.1.2.2.2.2
  intro n
  induction n with
  | zero => intro x1 mo_value mo_isLaid mo_changes mo_changeNode mo_changeSign mo_differs mo_results mo_own h; cases h
  | succ n ih =>
    intro x1 mo_value mo_isLaid mo_changes mo_changeNode mo_changeSign mo_differs mo_results mo_own h H locs ls B hl
    rw [bX12_layChanges_74] at h
    refine lv_iload_n hx hb dX12_layChanges_74 rfl (lv_at hl 1 rfl) ?_
    refine lv_aload_n hx hb dX12_layChanges_75 rfl (lv_at hl 0 rfl) ?_
    refine gfX12_layChanges_141 C B 0 rfl rfl dX12_layChanges_76 ?_
    refine lv_icmp_ge (tgt := 175) hx hb dX12_layChanges_79 (by decide) (fun c_1 => ?_) (fun c_1 => ?_)
    · rw [if_pos c_1] at h
      refine lv_aload_n hx hb dX12_layChanges_175 rfl (lv_at hl 0 rfl) ?_
      refine lv_iconst (v := 1) hx hb dX12_layChanges_176 (by decide) ?_
      refine pfX12_layChanges_112 C B 0 (by decide) (by rfl) rfl (Nat.le_of_ble_eq_true rfl) dX12_layChanges_177 (fun H locs B => ?_)
      have B : DB D A (wd_mo a b cI cJ cT mo_signs mo_signMany mo_nodeSign mo_nodeOn mo_nodeSize mo_nodeMany mo_due mo_openNode mo_value (1 : Int32) mo_changes mo_changeNode mo_changeSign mo_differs mo_results mo_own mo_kinds mo_testInputs mo_testDue mo_tests mo_noticed mo_missed mo_leastFrom mo_blameUpper mo_blameLower) s H locs := B
      cases h
      exact k_vret C B dX12_layChanges_180
    · rw [if_neg c_1] at h
      refine lv_aload_n hx hb dX12_layChanges_82 rfl (lv_at hl 0 rfl) ?_
      refine gfX12_layChanges_40 C B 0 rfl rfl dX12_layChanges_83 ?_
      refine lv_iload_n hx hb dX12_layChanges_86 rfl (lv_at hl 1 rfl) ?_
      refine lv_iconst (v := 0) hx hb dX12_layChanges_87 (by decide) ?_
      obtain ⟨b_2, h⟩ := bnd_some h
      refine k_iast C B 11 0 rfl rfl b_2 dX12_layChanges_88 (fun H locs B => ?_)
      have B : DB D A (wd_mo a b cI cJ cT mo_signs mo_signMany mo_nodeSign mo_nodeOn mo_nodeSize mo_nodeMany mo_due mo_openNode mo_value mo_isLaid mo_changes mo_changeNode mo_changeSign (upd mo_differs (Int32.toNatClampNeg x1) (0 : Int32)) mo_results mo_own mo_kinds mo_testInputs mo_testDue mo_tests mo_noticed mo_missed mo_leastFrom mo_blameUpper mo_blameLower) s H locs := B
      refine lv_iconst (v := 0) hx hb dX12_layChanges_89 (by decide) ?_
      refine lv_istore_n (lv' := [(2, .int (0 : Int32)), (0, .ref (b 0)), (1, .int x1)]) hx hb dX12_layChanges_90 rfl hl (by decide) rfl (fun ls hl => ?_)
      exact qX12_layChanges_91 C ih N x1 (0 : Int32) mo_value mo_isLaid mo_changes mo_changeNode mo_changeSign (upd mo_differs (Int32.toNatClampNeg x1) (0 : Int32)) mo_results mo_own h H locs ls B (lv_sub hl [1, 2, 0] rfl)
set_option maxHeartbeats 4000000 in
set_option maxRecDepth 100000 in
theorem qX12_layChanges_38 (C : CT p s m args meth c RX12 cX12_layChanges 3 none wsX12_layChanges D A (tyl cI cJ cT) Es) {N : Nat} {mo_signs : Nat → Int32} {mo_signMany : Int32} {mo_nodeSign : Nat → Int32} {mo_nodeOn : Nat → Int32} {mo_nodeSize : Nat → Int32} {mo_nodeMany : Nat → Int32} {mo_due : Nat → Int32} {mo_openNode : Nat → Int32} {mo_kinds : Nat → Int32} {mo_testInputs : Nat → Int32} {mo_testDue : Nat → Int32} {mo_tests : Int32} {mo_noticed : Nat → Int32} {mo_missed : Nat → Int32} {mo_leastFrom : Nat → Int32} {mo_blameUpper : Nat → Int32} {mo_blameLower : Nat → Int32} {z_mo_value : Nat → Int32} {z_mo_isLaid : Int32} {z_mo_changes : Int32} {z_mo_changeNode : Nat → Int32} {z_mo_changeSign : Nat → Int32} {z_mo_differs : Nat → Int32} {z_mo_results : Nat → Int32} {z_mo_own : Nat → Int32} : ∀ (n : Nat) (x1 : Int32) (mo_value : Nat → Int32) (mo_isLaid : Int32) (mo_changes : Int32) (mo_changeNode : Nat → Int32) (mo_changeSign : Nat → Int32) (mo_differs : Nat → Int32) (mo_results : Nat → Int32) (mo_own : Nat → Int32), bX12_layChanges_38 N mo_nodeSign mo_nodeSize mo_nodeMany mo_kinds n x1 mo_value mo_isLaid mo_changes mo_changeNode mo_changeSign mo_differs mo_results mo_own = some (z_mo_value, z_mo_isLaid, z_mo_changes, z_mo_changeNode, z_mo_changeSign, z_mo_differs, z_mo_results, z_mo_own) → ∀ (H : Heap) (locs : List Loc) (ls : Array Slot), DB D A (wd_mo a b cI cJ cT mo_signs mo_signMany mo_nodeSign mo_nodeOn mo_nodeSize mo_nodeMany mo_due mo_openNode mo_value mo_isLaid mo_changes mo_changeNode mo_changeSign mo_differs mo_results mo_own mo_kinds mo_testInputs mo_testDue mo_tests mo_noticed mo_missed mo_leastFrom mo_blameUpper mo_blameLower) s H locs → lv_has ls 3 [(0, .ref (b 0)), (1, .int x1)] → W p l e rmX12_layChanges s m args below meth c H locs 0 0 (ZV below args s D A (tyl cI cJ cT) (wd_mo a b cI cJ cT mo_signs mo_signMany mo_nodeSign mo_nodeOn mo_nodeSize mo_nodeMany mo_due mo_openNode z_mo_value z_mo_isLaid z_mo_changes z_mo_changeNode z_mo_changeSign z_mo_differs z_mo_results z_mo_own mo_kinds mo_testInputs mo_testDue mo_tests mo_noticed mo_missed mo_leastFrom mo_blameUpper mo_blameLower) 0 0) (F0 m 38 ls []) := by
  have hx := C.1.1
  have hb := C.1.2.1
  have hown := C.1.2.2.2.1
  have hts := C.1.2.2.2.2
  intro n
  induction n with
  | zero => intro x1 mo_value mo_isLaid mo_changes mo_changeNode mo_changeSign mo_differs mo_results mo_own h; cases h
  | succ n ih =>
    intro x1 mo_value mo_isLaid mo_changes mo_changeNode mo_changeSign mo_differs mo_results mo_own h H locs ls B hl
    rw [bX12_layChanges_38] at h
    refine lv_iload_n hx hb dX12_layChanges_38 rfl (lv_at hl 1 rfl) ?_
    refine lv_sipush (v := 512) hx hb dX12_layChanges_39 (by decide) ?_
    refine lv_icmp_ge (tgt := 72) hx hb dX12_layChanges_42 (by decide) (fun c_1 => ?_) (fun c_1 => ?_)
    · rw [if_pos c_1] at h
      refine lv_iconst (v := 0) hx hb dX12_layChanges_72 (by decide) ?_
      refine lv_istore_n (lv' := [(1, .int (0 : Int32)), (0, .ref (b 0))]) hx hb dX12_layChanges_73 rfl hl (by decide) rfl (fun ls hl => ?_)
      exact qX12_layChanges_74 C N (0 : Int32) mo_value mo_isLaid mo_changes mo_changeNode mo_changeSign mo_differs mo_results mo_own h H locs ls B (lv_sub hl [1, 0] rfl)
    · rw [if_neg c_1] at h
      refine lv_aload_n hx hb dX12_layChanges_45 rfl (lv_at hl 0 rfl) ?_
      refine lv_iconst (v := 0) hx hb dX12_layChanges_46 (by decide) ?_
      refine lv_iload_n hx hb dX12_layChanges_47 rfl (lv_at hl 1 rfl) ?_
      refine lv_bipush (v := -6) hx hb dX12_layChanges_48 (by decide) ?_
      refine lv_iconst (v := 0) hx hb dX12_layChanges_50 (by decide) ?_
      obtain ⟨mo_value_2, g_5, h⟩ := ob_some h
      try dsimp only at h
      refine kc_VV C B (q0 := 0) (ci := 12) (As := [.int (0 : Int32), .int x1, .int (-6 : Int32), .int (0 : Int32)]) (rest := []) (w2 := (wd_mo a b cI cJ cT mo_signs mo_signMany mo_nodeSign mo_nodeOn mo_nodeSize mo_nodeMany mo_due mo_openNode mo_value_2 mo_isLaid mo_changes mo_changeNode mo_changeSign mo_differs mo_results mo_own mo_kinds mo_testInputs mo_testDue mo_tests mo_noticed mo_missed mo_leastFrom mo_blameUpper mo_blameLower)) (tX12_work (a := a) (b := b) N g_5) gX12_layChanges_X12_work rfl ⟨rfl, rfl⟩ ⟨rfl, hdX12_work⟩ ⟨Nat.le_of_ble_eq_true rfl, Nat.le_of_ble_eq_true rfl⟩ rfl rfl [0, 1, 2, 3, 4, 5, 6, 7, 8, 9, 10, 11, 12, 13, 14, 15, 16, 17, 18, 19, 20, 21] [] [0, 1, 2, 3, 4, 5, 6, 7, 8, 9, 10, 11, 12, 13, 14, 15, 16, 17, 18, 19, 20, 21] rfl rfl rfl rfl rfl rfl rfl rfl hl.1 rfl (Nat.le_of_ble_eq_true rfl) ⟨Nat.zero_le _, Nat.zero_le _⟩ dX12_layChanges_51 (fun H locs B => ?_)
      refine lv_aload_n hx hb dX12_layChanges_54 rfl (lv_at hl 0 rfl) ?_
      refine gfX12_layChanges_47 C B 0 rfl rfl dX12_layChanges_55 ?_
      refine lv_iload_n hx hb dX12_layChanges_58 rfl (lv_at hl 1 rfl) ?_
      refine lv_aload_n hx hb dX12_layChanges_59 rfl (lv_at hl 0 rfl) ?_
      refine gfX12_layChanges_31 C B 0 rfl rfl dX12_layChanges_60 ?_
      refine lv_iconst (v := 0) hx hb dX12_layChanges_63 (by decide) ?_
      refine k_iald C B 8 0 rfl rfl (vp_lit (by decide)) dX12_layChanges_64 ?_
      obtain ⟨b_4, h⟩ := bnd_some h
      refine k_iast C B 13 0 rfl rfl b_4 dX12_layChanges_65 (fun H locs B => ?_)
      have B : DB D A (wd_mo a b cI cJ cT mo_signs mo_signMany mo_nodeSign mo_nodeOn mo_nodeSize mo_nodeMany mo_due mo_openNode mo_value_2 mo_isLaid mo_changes mo_changeNode mo_changeSign mo_differs mo_results (upd mo_own (Int32.toNatClampNeg x1) (mo_value_2 (Int32.toNatClampNeg (0 : Int32)))) mo_kinds mo_testInputs mo_testDue mo_tests mo_noticed mo_missed mo_leastFrom mo_blameUpper mo_blameLower) s H locs := B
      refine lv_iinc (v := (x1 + 1)) (lv' := [(1, .int (x1 + 1)), (0, .ref (b 0))]) hx hb dX12_layChanges_66 hl (k := 1) rfl rfl (by decide) rfl (fun ls hl => ?_)
      refine lv_goto (tgt := 38) hx hb dX12_layChanges_69 (by decide) ?_
      exact ih (x1 + 1) mo_value_2 mo_isLaid mo_changes mo_changeNode mo_changeSign mo_differs mo_results (upd mo_own (Int32.toNatClampNeg x1) (mo_value_2 (Int32.toNatClampNeg (0 : Int32)))) h H locs ls B (lv_sub hl [1, 0] rfl)
set_option maxHeartbeats 4000000 in
set_option maxRecDepth 100000 in
theorem qX12_layChanges_15 (C : CT p s m args meth c RX12 cX12_layChanges 3 none wsX12_layChanges D A (tyl cI cJ cT) Es) {N : Nat} {mo_signs : Nat → Int32} {mo_signMany : Int32} {mo_nodeSign : Nat → Int32} {mo_nodeOn : Nat → Int32} {mo_nodeSize : Nat → Int32} {mo_nodeMany : Nat → Int32} {mo_due : Nat → Int32} {mo_openNode : Nat → Int32} {mo_kinds : Nat → Int32} {mo_testInputs : Nat → Int32} {mo_testDue : Nat → Int32} {mo_tests : Int32} {mo_noticed : Nat → Int32} {mo_missed : Nat → Int32} {mo_leastFrom : Nat → Int32} {mo_blameUpper : Nat → Int32} {mo_blameLower : Nat → Int32} {z_mo_value : Nat → Int32} {z_mo_isLaid : Int32} {z_mo_changes : Int32} {z_mo_changeNode : Nat → Int32} {z_mo_changeSign : Nat → Int32} {z_mo_differs : Nat → Int32} {z_mo_results : Nat → Int32} {z_mo_own : Nat → Int32} : ∀ (n : Nat) (x1 : Int32) (mo_value : Nat → Int32) (mo_isLaid : Int32) (mo_changes : Int32) (mo_changeNode : Nat → Int32) (mo_changeSign : Nat → Int32) (mo_differs : Nat → Int32) (mo_results : Nat → Int32) (mo_own : Nat → Int32), bX12_layChanges_15 N mo_nodeSign mo_nodeSize mo_nodeMany mo_kinds n x1 mo_value mo_isLaid mo_changes mo_changeNode mo_changeSign mo_differs mo_results mo_own = some (z_mo_value, z_mo_isLaid, z_mo_changes, z_mo_changeNode, z_mo_changeSign, z_mo_differs, z_mo_results, z_mo_own) → ∀ (H : Heap) (locs : List Loc) (ls : Array Slot), DB D A (wd_mo a b cI cJ cT mo_signs mo_signMany mo_nodeSign mo_nodeOn mo_nodeSize mo_nodeMany mo_due mo_openNode mo_value mo_isLaid mo_changes mo_changeNode mo_changeSign mo_differs mo_results mo_own mo_kinds mo_testInputs mo_testDue mo_tests mo_noticed mo_missed mo_leastFrom mo_blameUpper mo_blameLower) s H locs → lv_has ls 3 [(0, .ref (b 0)), (1, .int x1)] → W p l e rmX12_layChanges s m args below meth c H locs 0 0 (ZV below args s D A (tyl cI cJ cT) (wd_mo a b cI cJ cT mo_signs mo_signMany mo_nodeSign mo_nodeOn mo_nodeSize mo_nodeMany mo_due mo_openNode z_mo_value z_mo_isLaid z_mo_changes z_mo_changeNode z_mo_changeSign z_mo_differs z_mo_results z_mo_own mo_kinds mo_testInputs mo_testDue mo_tests mo_noticed mo_missed mo_leastFrom mo_blameUpper mo_blameLower) 0 0) (F0 m 15 ls []) := by
  have hx := C.1.1
  have hb := C.1.2.1
  have hown := C.1.2.2.2.1
  have hts := C.1.2.2.2.2
  intro n
  induction n with
  | zero => intro x1 mo_value mo_isLaid mo_changes mo_changeNode mo_changeSign mo_differs mo_results mo_own h; cases h
  | succ n ih =>
    intro x1 mo_value mo_isLaid mo_changes mo_changeNode mo_changeSign mo_differs mo_results mo_own h H locs ls B hl
    rw [bX12_layChanges_15] at h
    refine lv_iload_n hx hb dX12_layChanges_15 rfl (lv_at hl 1 rfl) ?_
    refine lv_aload_n hx hb dX12_layChanges_16 rfl (lv_at hl 0 rfl) ?_
    refine gfX12_layChanges_22 C B 0 rfl rfl dX12_layChanges_17 ?_
    refine lv_iconst (v := 0) hx hb dX12_layChanges_20 (by decide) ?_
    refine k_iald C B 5 0 rfl rfl (vp_lit (by decide)) dX12_layChanges_21 ?_
    refine lv_icmp_ge (tgt := 36) hx hb dX12_layChanges_22 (by decide) (fun c_2 => ?_) (fun c_2 => ?_)
    · rw [if_pos c_2] at h
      refine lv_iconst (v := 0) hx hb dX12_layChanges_36 (by decide) ?_
      refine lv_istore_n (lv' := [(1, .int (0 : Int32)), (0, .ref (b 0))]) hx hb dX12_layChanges_37 rfl hl (by decide) rfl (fun ls hl => ?_)
      exact qX12_layChanges_38 C N (0 : Int32) mo_value mo_isLaid mo_changes mo_changeNode mo_changeSign mo_differs mo_results mo_own h H locs ls B (lv_sub hl [1, 0] rfl)
    · rw [if_neg c_2] at h
      refine lv_aload_n hx hb dX12_layChanges_25 rfl (lv_at hl 0 rfl) ?_
      refine lv_iload_n hx hb dX12_layChanges_26 rfl (lv_at hl 1 rfl) ?_
      obtain ⟨⟨mo_changes_3, mo_changeNode_4, mo_changeSign_5⟩, g_6, h⟩ := ob_some h
      try dsimp only at h
      refine kc_VV C B (q0 := 0) (ci := 12) (As := [.int x1]) (rest := []) (w2 := (wd_mo a b cI cJ cT mo_signs mo_signMany mo_nodeSign mo_nodeOn mo_nodeSize mo_nodeMany mo_due mo_openNode mo_value mo_isLaid mo_changes_3 mo_changeNode_4 mo_changeSign_5 mo_differs mo_results mo_own mo_kinds mo_testInputs mo_testDue mo_tests mo_noticed mo_missed mo_leastFrom mo_blameUpper mo_blameLower)) (tX12_addFor (a := a) (b := b) N g_6) gX12_layChanges_X12_addFor rfl ⟨rfl, rfl⟩ ⟨rfl, hdX12_addFor⟩ ⟨Nat.le_of_ble_eq_true rfl, Nat.le_of_ble_eq_true rfl⟩ rfl rfl [0, 1, 2, 3, 4, 5, 6, 7, 8, 9, 10, 11, 12, 13, 14, 15, 16, 17, 18, 19, 20, 21] [] [0, 1, 2, 3, 4, 5, 6, 7, 8, 9, 10, 11, 12, 13, 14, 15, 16, 17, 18, 19, 20, 21] rfl rfl rfl rfl rfl rfl rfl rfl hl.1 rfl (Nat.le_of_ble_eq_true rfl) ⟨Nat.zero_le _, Nat.zero_le _⟩ dX12_layChanges_27 (fun H locs B => ?_)
      refine lv_iinc (v := (x1 + 1)) (lv' := [(1, .int (x1 + 1)), (0, .ref (b 0))]) hx hb dX12_layChanges_30 hl (k := 1) rfl rfl (by decide) rfl (fun ls hl => ?_)
      refine lv_goto (tgt := 15) hx hb dX12_layChanges_33 (by decide) ?_
      exact ih (x1 + 1) mo_value mo_isLaid mo_changes_3 mo_changeNode_4 mo_changeSign_5 mo_differs mo_results mo_own h H locs ls B (lv_sub hl [1, 0] rfl)
set_option maxHeartbeats 4000000 in
set_option maxRecDepth 100000 in
theorem qX12_layChanges_0 (C : CT p s m args meth c RX12 cX12_layChanges 3 none wsX12_layChanges D A (tyl cI cJ cT) Es) {N : Nat} {mo_signs : Nat → Int32} {mo_signMany : Int32} {mo_nodeSign : Nat → Int32} {mo_nodeOn : Nat → Int32} {mo_nodeSize : Nat → Int32} {mo_nodeMany : Nat → Int32} {mo_due : Nat → Int32} {mo_openNode : Nat → Int32} {mo_kinds : Nat → Int32} {mo_testInputs : Nat → Int32} {mo_testDue : Nat → Int32} {mo_tests : Int32} {mo_noticed : Nat → Int32} {mo_missed : Nat → Int32} {mo_leastFrom : Nat → Int32} {mo_blameUpper : Nat → Int32} {mo_blameLower : Nat → Int32} {z_mo_value : Nat → Int32} {z_mo_isLaid : Int32} {z_mo_changes : Int32} {z_mo_changeNode : Nat → Int32} {z_mo_changeSign : Nat → Int32} {z_mo_differs : Nat → Int32} {z_mo_results : Nat → Int32} {z_mo_own : Nat → Int32} : ∀ (mo_value : Nat → Int32) (mo_isLaid : Int32) (mo_changes : Int32) (mo_changeNode : Nat → Int32) (mo_changeSign : Nat → Int32) (mo_differs : Nat → Int32) (mo_results : Nat → Int32) (mo_own : Nat → Int32), fX12_layChanges N mo_nodeSign mo_nodeSize mo_nodeMany mo_kinds mo_value mo_isLaid mo_changes mo_changeNode mo_changeSign mo_differs mo_results mo_own = some (z_mo_value, z_mo_isLaid, z_mo_changes, z_mo_changeNode, z_mo_changeSign, z_mo_differs, z_mo_results, z_mo_own) → ∀ (H : Heap) (locs : List Loc) (ls : Array Slot), DB D A (wd_mo a b cI cJ cT mo_signs mo_signMany mo_nodeSign mo_nodeOn mo_nodeSize mo_nodeMany mo_due mo_openNode mo_value mo_isLaid mo_changes mo_changeNode mo_changeSign mo_differs mo_results mo_own mo_kinds mo_testInputs mo_testDue mo_tests mo_noticed mo_missed mo_leastFrom mo_blameUpper mo_blameLower) s H locs → lv_has ls 3 [(0, .ref (b 0))] → W p l e rmX12_layChanges s m args below meth c H locs 0 0 (ZV below args s D A (tyl cI cJ cT) (wd_mo a b cI cJ cT mo_signs mo_signMany mo_nodeSign mo_nodeOn mo_nodeSize mo_nodeMany mo_due mo_openNode z_mo_value z_mo_isLaid z_mo_changes z_mo_changeNode z_mo_changeSign z_mo_differs z_mo_results z_mo_own mo_kinds mo_testInputs mo_testDue mo_tests mo_noticed mo_missed mo_leastFrom mo_blameUpper mo_blameLower) 0 0) (F0 m 0 ls []) := by
  have hx := C.1.1
  have hb := C.1.2.1
  have hown := C.1.2.2.2.1
  have hts := C.1.2.2.2.2
  intro mo_value mo_isLaid mo_changes mo_changeNode mo_changeSign mo_differs mo_results mo_own h H locs ls B hl
  rw [fX12_layChanges] at h
  refine lv_aload_n hx hb dX12_layChanges_0 rfl (lv_at hl 0 rfl) ?_
  refine gfX12_layChanges_112 C B 0 rfl rfl dX12_layChanges_1 ?_
  refine lv_if_eq (tgt := 8) hx hb dX12_layChanges_4 (by decide) (fun c_1 => ?_) (fun c_1 => ?_)
  · rw [if_pos c_1] at h
    refine lv_aload_n hx hb dX12_layChanges_8 rfl (lv_at hl 0 rfl) ?_
    refine lv_iconst (v := 0) hx hb dX12_layChanges_9 (by decide) ?_
    refine pfX12_layChanges_141 C B 0 rfl (by rfl) rfl (Nat.le_of_ble_eq_true rfl) dX12_layChanges_10 (fun H locs B => ?_)
    have B : DB D A (wd_mo a b cI cJ cT mo_signs mo_signMany mo_nodeSign mo_nodeOn mo_nodeSize mo_nodeMany mo_due mo_openNode mo_value mo_isLaid (0 : Int32) mo_changeNode mo_changeSign mo_differs mo_results mo_own mo_kinds mo_testInputs mo_testDue mo_tests mo_noticed mo_missed mo_leastFrom mo_blameUpper mo_blameLower) s H locs := B
    refine lv_iconst (v := 0) hx hb dX12_layChanges_13 (by decide) ?_
    refine lv_istore_n (lv' := [(1, .int (0 : Int32)), (0, .ref (b 0))]) hx hb dX12_layChanges_14 rfl hl (by decide) rfl (fun ls hl => ?_)
    exact qX12_layChanges_15 C N (0 : Int32) mo_value mo_isLaid (0 : Int32) mo_changeNode mo_changeSign mo_differs mo_results mo_own h H locs ls B (lv_sub hl [1, 0] rfl)
  · rw [if_neg c_1] at h
    cases h
    exact k_vret C B dX12_layChanges_7
end
theorem tX12_layChanges {l : Launch} {D : va_G} {Es : (Nat → Nat) × (Nat → Nat)} {a b : Nat → Nat} {cI cJ cT : ClassId} {mo_signs : Nat → Int32} {mo_signMany : Int32} {mo_nodeSign : Nat → Int32} {mo_nodeOn : Nat → Int32} {mo_nodeSize : Nat → Int32} {mo_nodeMany : Nat → Int32} {mo_due : Nat → Int32} {mo_openNode : Nat → Int32} {mo_value : Nat → Int32} {mo_isLaid : Int32} {mo_changes : Int32} {mo_changeNode : Nat → Int32} {mo_changeSign : Nat → Int32} {mo_differs : Nat → Int32} {mo_results : Nat → Int32} {mo_own : Nat → Int32} {mo_kinds : Nat → Int32} {mo_testInputs : Nat → Int32} {mo_testDue : Nat → Int32} {mo_tests : Int32} {mo_noticed : Nat → Int32} {mo_missed : Nat → Int32} {mo_leastFrom : Nat → Int32} {mo_blameUpper : Nat → Int32} {mo_blameLower : Nat → Int32} {z_mo_value : Nat → Int32} {z_mo_isLaid : Int32} {z_mo_changes : Int32} {z_mo_changeNode : Nat → Int32} {z_mo_changeSign : Nat → Int32} {z_mo_differs : Nat → Int32} {z_mo_results : Nat → Int32} {z_mo_own : Nat → Int32} (N : Nat) (h : fX12_layChanges N mo_nodeSign mo_nodeSize mo_nodeMany mo_kinds mo_value mo_isLaid mo_changes mo_changeNode mo_changeSign mo_differs mo_results mo_own = some (z_mo_value, z_mo_isLaid, z_mo_changes, z_mo_changeNode, z_mo_changeSign, z_mo_differs, z_mo_results, z_mo_own)) : CtV l yX12_layChanges wsX12_layChanges rmX12_layChanges D (tyl cI cJ cT) Es [.ref (b 0)] (wd_mo a b cI cJ cT mo_signs mo_signMany mo_nodeSign mo_nodeOn mo_nodeSize mo_nodeMany mo_due mo_openNode mo_value mo_isLaid mo_changes mo_changeNode mo_changeSign mo_differs mo_results mo_own mo_kinds mo_testInputs mo_testDue mo_tests mo_noticed mo_missed mo_leastFrom mo_blameUpper mo_blameLower) (wd_mo a b cI cJ cT mo_signs mo_signMany mo_nodeSign mo_nodeOn mo_nodeSize mo_nodeMany mo_due mo_openNode z_mo_value z_mo_isLaid z_mo_changes z_mo_changeNode z_mo_changeSign z_mo_differs z_mo_results z_mo_own mo_kinds mo_testInputs mo_testDue mo_tests mo_noticed mo_missed mo_leastFrom mo_blameUpper mo_blameLower) :=
  CtV.of (own := RX12) (cc := cX12_layChanges) (nL := 3) (ret := none) (by decide +kernel) rfl rfl (Nat.le_of_ble_eq_true rfl) rfl (fun p e s m below meth c A ls C B hl => qX12_layChanges_0 C (N := N) mo_value mo_isLaid mo_changes mo_changeNode mo_changeSign mo_differs mo_results mo_own h _ _ _ B hl)

abbrev rmX12_isChange : Room := { frames := 1, cells := 0, slots := 0, locals := 25 }
theorem hdX12_isChange : yX12_isChange.cls ≠ "java/lang/invoke/MethodHandle" ∧ yX12_isChange.cls ≠ "java/lang/invoke/VarHandle" ∧ (parseMethodDescriptor yX12_isChange.desc).map (fun d => d.parameters.length) = some 1 := by decide +kernel
theorem iX12_isChange_X12 : ∀ w ∈ wsX120, w ∈ wsX12_isChange := by decide +kernel
theorem gfX12_isChange_141 {p : Program} {l : Launch} {e : Env} {R : Room} {s : State} {m : MethodId} {args : Array Value} {below : List Frame} {meth : Method} {c : Code} {H : Heap} {locs : List Loc} {cells slots : Nat} {Q : State → Prop} {D : va_G} {A : Nat → Prop} {tys : List (ClassId × FieldType)} {Es : (Nat → Nat) × (Nat → Nat)} {ws : va_W} {pc : Nat} {ls : Array Slot} {rest : List Value} {a : Nat} (C : CT p s m args meth c RX12 cX12_isChange 2 (some .boolean) wsX12_isChange D A tys Es) (B : DB D A ws s H locs) (q0 : Nat) {fs : List Value} {v : Value} (he : ws[q0]? = some (a, .inr (12, fs))) (hv : fs[10]? = some v) (hdg : decode cX12_isChange pc = .ok (.getfield 141, 3)) (kk : W p l e R s m args below meth c H locs cells slots Q (F0 m (pc + 3) ls (v :: rest))) : W p l e R s m args below meth c H locs cells slots Q (F0 m pc ls (.ref a :: rest)) :=
  k_get (Cn := RX12) (T := TX12) (N := 25) (index := 141) C B iX12_isChange_X12 rfl 10 (by decide) (by decide +kernel) q0 he hv hdg kk
section
variable {p : Program} {l : Launch} {e : Env} {s : State} {m : MethodId} {args : Array Value} {below : List Frame} {meth : Method} {c : Code} {D : va_G} {A : Nat → Prop} {Es : (Nat → Nat) × (Nat → Nat)} {a b : Nat → Nat} {cI cJ cT : ClassId}
set_option maxHeartbeats 4000000 in
set_option maxRecDepth 100000 in
theorem qX12_isChange_0 (C : CT p s m args meth c RX12 cX12_isChange 2 (some .boolean) wsX12_isChange D A (tyl cI cJ cT) Es) {N : Nat} {mo_signs : Nat → Int32} {mo_signMany : Int32} {mo_nodeSign : Nat → Int32} {mo_nodeOn : Nat → Int32} {mo_nodeSize : Nat → Int32} {mo_nodeMany : Nat → Int32} {mo_due : Nat → Int32} {mo_openNode : Nat → Int32} {mo_value : Nat → Int32} {mo_isLaid : Int32} {mo_changes : Int32} {mo_changeNode : Nat → Int32} {mo_changeSign : Nat → Int32} {mo_differs : Nat → Int32} {mo_results : Nat → Int32} {mo_own : Nat → Int32} {mo_kinds : Nat → Int32} {mo_testInputs : Nat → Int32} {mo_testDue : Nat → Int32} {mo_tests : Int32} {mo_noticed : Nat → Int32} {mo_missed : Nat → Int32} {mo_leastFrom : Nat → Int32} {mo_blameUpper : Nat → Int32} {mo_blameLower : Nat → Int32} {z_r : Int32} : ∀ (x1 : Int32), fX12_isChange N mo_changes x1 = some z_r → ∀ (H : Heap) (locs : List Loc) (ls : Array Slot), DB D A (wd_mo a b cI cJ cT mo_signs mo_signMany mo_nodeSign mo_nodeOn mo_nodeSize mo_nodeMany mo_due mo_openNode mo_value mo_isLaid mo_changes mo_changeNode mo_changeSign mo_differs mo_results mo_own mo_kinds mo_testInputs mo_testDue mo_tests mo_noticed mo_missed mo_leastFrom mo_blameUpper mo_blameLower) s H locs → lv_has ls 2 [(0, .ref (b 0)), (1, .int x1)] → W p l e rmX12_isChange s m args below meth c H locs 0 0 (ZI below args s D A (tyl cI cJ cT) z_r (wd_mo a b cI cJ cT mo_signs mo_signMany mo_nodeSign mo_nodeOn mo_nodeSize mo_nodeMany mo_due mo_openNode mo_value mo_isLaid mo_changes mo_changeNode mo_changeSign mo_differs mo_results mo_own mo_kinds mo_testInputs mo_testDue mo_tests mo_noticed mo_missed mo_leastFrom mo_blameUpper mo_blameLower) 0 0) (F0 m 0 ls []) := by
  have hx := C.1.1
  have hb := C.1.2.1
  have hown := C.1.2.2.2.1
  have hts := C.1.2.2.2.2
  intro x1 h H locs ls B hl
  rw [fX12_isChange] at h
  refine lv_iload_n hx hb dX12_isChange_0 rfl (lv_at hl 1 rfl) ?_
  refine lv_i2l (v := (Int32.toInt64 x1)) hx hb dX12_isChange_1 rfl ?_
  refine lv_lconst (v := 0) hx hb dX12_isChange_2 (by decide) ?_
  refine lv_aload_n hx hb dX12_isChange_3 rfl (lv_at hl 0 rfl) ?_
  refine gfX12_isChange_141 C B 0 rfl rfl dX12_isChange_4 ?_
  refine lv_iconst (v := 1) hx hb dX12_isChange_7 (by decide) ?_
  refine lv_isub hx hb dX12_isChange_8 ?_
  refine lv_i2l (v := (Int32.toInt64 (mo_changes - (1 : Int32)))) hx hb dX12_isChange_9 rfl ?_
  obtain ⟨r_1, g_3, h⟩ := ob_some h
  try dsimp only at h
  refine kc_SI C B (As := [.long (Int32.toInt64 x1), .long (0 : Int64), .long (Int32.toInt64 (mo_changes - (1 : Int32)))]) (rest := []) (w2 := (wd_mo a b cI cJ cT mo_signs mo_signMany mo_nodeSign mo_nodeOn mo_nodeSize mo_nodeMany mo_due mo_openNode mo_value mo_isLaid mo_changes mo_changeNode mo_changeSign mo_differs mo_results mo_own mo_kinds mo_testInputs mo_testDue mo_tests mo_noticed mo_missed mo_leastFrom mo_blameUpper mo_blameLower)) (tX12_in N g_3) gX12_isChange_X12_in rfl ⟨rfl, rfl⟩ hdX12_in ⟨Nat.le_of_ble_eq_true rfl, Nat.le_of_ble_eq_true rfl⟩ [] [0, 1, 2, 3, 4, 5, 6, 7, 8, 9, 10, 11, 12, 13, 14, 15, 16, 17, 18, 19, 20, 21] [0, 1, 2, 3, 4, 5, 6, 7, 8, 9, 10, 11, 12, 13, 14, 15, 16, 17, 18, 19, 20, 21] rfl rfl rfl rfl rfl rfl rfl rfl hl.1 rfl (Nat.le_of_ble_eq_true rfl) ⟨Nat.zero_le _, Nat.zero_le _⟩ dX12_isChange_10 (fun H locs B => ?_)
  obtain ⟨z_2, h⟩ := bo_some h
  cases h
  exact k_zret C B z_2 dX12_isChange_13
end
theorem tX12_isChange {l : Launch} {D : va_G} {Es : (Nat → Nat) × (Nat → Nat)} {a b : Nat → Nat} {cI cJ cT : ClassId} {mo_signs : Nat → Int32} {mo_signMany : Int32} {mo_nodeSign : Nat → Int32} {mo_nodeOn : Nat → Int32} {mo_nodeSize : Nat → Int32} {mo_nodeMany : Nat → Int32} {mo_due : Nat → Int32} {mo_openNode : Nat → Int32} {mo_value : Nat → Int32} {mo_isLaid : Int32} {mo_changes : Int32} {mo_changeNode : Nat → Int32} {mo_changeSign : Nat → Int32} {mo_differs : Nat → Int32} {mo_results : Nat → Int32} {mo_own : Nat → Int32} {mo_kinds : Nat → Int32} {mo_testInputs : Nat → Int32} {mo_testDue : Nat → Int32} {mo_tests : Int32} {mo_noticed : Nat → Int32} {mo_missed : Nat → Int32} {mo_leastFrom : Nat → Int32} {mo_blameUpper : Nat → Int32} {mo_blameLower : Nat → Int32} {x1 : Int32} {z_r : Int32} (N : Nat) (h : fX12_isChange N mo_changes x1 = some z_r) : CtI l yX12_isChange wsX12_isChange rmX12_isChange D (tyl cI cJ cT) Es [.ref (b 0), .int x1] (wd_mo a b cI cJ cT mo_signs mo_signMany mo_nodeSign mo_nodeOn mo_nodeSize mo_nodeMany mo_due mo_openNode mo_value mo_isLaid mo_changes mo_changeNode mo_changeSign mo_differs mo_results mo_own mo_kinds mo_testInputs mo_testDue mo_tests mo_noticed mo_missed mo_leastFrom mo_blameUpper mo_blameLower) z_r (wd_mo a b cI cJ cT mo_signs mo_signMany mo_nodeSign mo_nodeOn mo_nodeSize mo_nodeMany mo_due mo_openNode mo_value mo_isLaid mo_changes mo_changeNode mo_changeSign mo_differs mo_results mo_own mo_kinds mo_testInputs mo_testDue mo_tests mo_noticed mo_missed mo_leastFrom mo_blameUpper mo_blameLower) :=
  CtI.of (own := RX12) (cc := cX12_isChange) (nL := 2) (ret := (some .boolean)) (by decide +kernel) rfl rfl (Nat.le_of_ble_eq_true rfl) rfl (fun p e s m below meth c A ls C B hl => qX12_isChange_0 C (N := N) x1 h _ _ _ B hl)

abbrev rmX12_findNoticed : Room := { frames := 5, cells := 0, slots := 0, locals := 118 }
theorem hdX12_findNoticed : yX12_findNoticed.cls ≠ "java/lang/invoke/MethodHandle" ∧ yX12_findNoticed.cls ≠ "java/lang/invoke/VarHandle" ∧ (parseMethodDescriptor yX12_findNoticed.desc).map (fun d => d.parameters.length) = some 0 := by decide +kernel
theorem iX12_findNoticed_X12 : ∀ w ∈ wsX120, w ∈ wsX12_findNoticed := by decide +kernel
theorem gfX12_findNoticed_155 {p : Program} {l : Launch} {e : Env} {R : Room} {s : State} {m : MethodId} {args : Array Value} {below : List Frame} {meth : Method} {c : Code} {H : Heap} {locs : List Loc} {cells slots : Nat} {Q : State → Prop} {D : va_G} {A : Nat → Prop} {tys : List (ClassId × FieldType)} {Es : (Nat → Nat) × (Nat → Nat)} {ws : va_W} {pc : Nat} {ls : Array Slot} {rest : List Value} {a : Nat} (C : CT p s m args meth c RX12 cX12_findNoticed 3 none wsX12_findNoticed D A tys Es) (B : DB D A ws s H locs) (q0 : Nat) {fs : List Value} {v : Value} (he : ws[q0]? = some (a, .inr (12, fs))) (hv : fs[19]? = some v) (hdg : decode cX12_findNoticed pc = .ok (.getfield 155, 3)) (kk : W p l e R s m args below meth c H locs cells slots Q (F0 m (pc + 3) ls (v :: rest))) : W p l e R s m args below meth c H locs cells slots Q (F0 m pc ls (.ref a :: rest)) :=
  k_get (Cn := RX12) (T := TX12) (N := 25) (index := 155) C B iX12_findNoticed_X12 rfl 19 (by decide) (by decide +kernel) q0 he hv hdg kk
theorem gfX12_findNoticed_59 {p : Program} {l : Launch} {e : Env} {R : Room} {s : State} {m : MethodId} {args : Array Value} {below : List Frame} {meth : Method} {c : Code} {H : Heap} {locs : List Loc} {cells slots : Nat} {Q : State → Prop} {D : va_G} {A : Nat → Prop} {tys : List (ClassId × FieldType)} {Es : (Nat → Nat) × (Nat → Nat)} {ws : va_W} {pc : Nat} {ls : Array Slot} {rest : List Value} {a : Nat} (C : CT p s m args meth c RX12 cX12_findNoticed 3 none wsX12_findNoticed D A tys Es) (B : DB D A ws s H locs) (q0 : Nat) {fs : List Value} {v : Value} (he : ws[q0]? = some (a, .inr (12, fs))) (hv : fs[20]? = some v) (hdg : decode cX12_findNoticed pc = .ok (.getfield 59, 3)) (kk : W p l e R s m args below meth c H locs cells slots Q (F0 m (pc + 3) ls (v :: rest))) : W p l e R s m args below meth c H locs cells slots Q (F0 m pc ls (.ref a :: rest)) :=
  k_get (Cn := RX12) (T := TX12) (N := 25) (index := 59) C B iX12_findNoticed_X12 rfl 20 (by decide) (by decide +kernel) q0 he hv hdg kk
theorem gfX12_findNoticed_44 {p : Program} {l : Launch} {e : Env} {R : Room} {s : State} {m : MethodId} {args : Array Value} {below : List Frame} {meth : Method} {c : Code} {H : Heap} {locs : List Loc} {cells slots : Nat} {Q : State → Prop} {D : va_G} {A : Nat → Prop} {tys : List (ClassId × FieldType)} {Es : (Nat → Nat) × (Nat → Nat)} {ws : va_W} {pc : Nat} {ls : Array Slot} {rest : List Value} {a : Nat} (C : CT p s m args meth c RX12 cX12_findNoticed 3 none wsX12_findNoticed D A tys Es) (B : DB D A ws s H locs) (q0 : Nat) {fs : List Value} {v : Value} (he : ws[q0]? = some (a, .inr (12, fs))) (hv : fs[14]? = some v) (hdg : decode cX12_findNoticed pc = .ok (.getfield 44, 3)) (kk : W p l e R s m args below meth c H locs cells slots Q (F0 m (pc + 3) ls (v :: rest))) : W p l e R s m args below meth c H locs cells slots Q (F0 m pc ls (.ref a :: rest)) :=
  k_get (Cn := RX12) (T := TX12) (N := 25) (index := 44) C B iX12_findNoticed_X12 rfl 14 (by decide) (by decide +kernel) q0 he hv hdg kk
theorem gfX12_findNoticed_53 {p : Program} {l : Launch} {e : Env} {R : Room} {s : State} {m : MethodId} {args : Array Value} {below : List Frame} {meth : Method} {c : Code} {H : Heap} {locs : List Loc} {cells slots : Nat} {Q : State → Prop} {D : va_G} {A : Nat → Prop} {tys : List (ClassId × FieldType)} {Es : (Nat → Nat) × (Nat → Nat)} {ws : va_W} {pc : Nat} {ls : Array Slot} {rest : List Value} {a : Nat} (C : CT p s m args meth c RX12 cX12_findNoticed 3 none wsX12_findNoticed D A tys Es) (B : DB D A ws s H locs) (q0 : Nat) {fs : List Value} {v : Value} (he : ws[q0]? = some (a, .inr (12, fs))) (hv : fs[17]? = some v) (hdg : decode cX12_findNoticed pc = .ok (.getfield 53, 3)) (kk : W p l e R s m args below meth c H locs cells slots Q (F0 m (pc + 3) ls (v :: rest))) : W p l e R s m args below meth c H locs cells slots Q (F0 m pc ls (.ref a :: rest)) :=
  k_get (Cn := RX12) (T := TX12) (N := 25) (index := 53) C B iX12_findNoticed_X12 rfl 17 (by decide) (by decide +kernel) q0 he hv hdg kk
theorem gfX12_findNoticed_47 {p : Program} {l : Launch} {e : Env} {R : Room} {s : State} {m : MethodId} {args : Array Value} {below : List Frame} {meth : Method} {c : Code} {H : Heap} {locs : List Loc} {cells slots : Nat} {Q : State → Prop} {D : va_G} {A : Nat → Prop} {tys : List (ClassId × FieldType)} {Es : (Nat → Nat) × (Nat → Nat)} {ws : va_W} {pc : Nat} {ls : Array Slot} {rest : List Value} {a : Nat} (C : CT p s m args meth c RX12 cX12_findNoticed 3 none wsX12_findNoticed D A tys Es) (B : DB D A ws s H locs) (q0 : Nat) {fs : List Value} {v : Value} (he : ws[q0]? = some (a, .inr (12, fs))) (hv : fs[15]? = some v) (hdg : decode cX12_findNoticed pc = .ok (.getfield 47, 3)) (kk : W p l e R s m args below meth c H locs cells slots Q (F0 m (pc + 3) ls (v :: rest))) : W p l e R s m args below meth c H locs cells slots Q (F0 m pc ls (.ref a :: rest)) :=
  k_get (Cn := RX12) (T := TX12) (N := 25) (index := 47) C B iX12_findNoticed_X12 rfl 15 (by decide) (by decide +kernel) q0 he hv hdg kk
theorem gfX12_findNoticed_141 {p : Program} {l : Launch} {e : Env} {R : Room} {s : State} {m : MethodId} {args : Array Value} {below : List Frame} {meth : Method} {c : Code} {H : Heap} {locs : List Loc} {cells slots : Nat} {Q : State → Prop} {D : va_G} {A : Nat → Prop} {tys : List (ClassId × FieldType)} {Es : (Nat → Nat) × (Nat → Nat)} {ws : va_W} {pc : Nat} {ls : Array Slot} {rest : List Value} {a : Nat} (C : CT p s m args meth c RX12 cX12_findNoticed 3 none wsX12_findNoticed D A tys Es) (B : DB D A ws s H locs) (q0 : Nat) {fs : List Value} {v : Value} (he : ws[q0]? = some (a, .inr (12, fs))) (hv : fs[10]? = some v) (hdg : decode cX12_findNoticed pc = .ok (.getfield 141, 3)) (kk : W p l e R s m args below meth c H locs cells slots Q (F0 m (pc + 3) ls (v :: rest))) : W p l e R s m args below meth c H locs cells slots Q (F0 m pc ls (.ref a :: rest)) :=
  k_get (Cn := RX12) (T := TX12) (N := 25) (index := 141) C B iX12_findNoticed_X12 rfl 10 (by decide) (by decide +kernel) q0 he hv hdg kk
section
variable {p : Program} {l : Launch} {e : Env} {s : State} {m : MethodId} {args : Array Value} {below : List Frame} {meth : Method} {c : Code} {D : va_G} {A : Nat → Prop} {Es : (Nat → Nat) × (Nat → Nat)} {a b : Nat → Nat} {cI cJ cT : ClassId}
set_option maxHeartbeats 4000000 in
set_option maxRecDepth 100000 in
theorem qX12_findNoticed_76 (C : CT p s m args meth c RX12 cX12_findNoticed 3 none wsX12_findNoticed D A (tyl cI cJ cT) Es) {N : Nat} {mo_signs : Nat → Int32} {mo_signMany : Int32} {mo_nodeSign : Nat → Int32} {mo_nodeOn : Nat → Int32} {mo_nodeSize : Nat → Int32} {mo_nodeMany : Nat → Int32} {mo_due : Nat → Int32} {mo_openNode : Nat → Int32} {mo_kinds : Nat → Int32} {mo_testInputs : Nat → Int32} {mo_testDue : Nat → Int32} {mo_tests : Int32} {mo_missed : Nat → Int32} {mo_leastFrom : Nat → Int32} {mo_blameUpper : Nat → Int32} {mo_blameLower : Nat → Int32} {z_mo_value : Nat → Int32} {z_mo_isLaid : Int32} {z_mo_changes : Int32} {z_mo_changeNode : Nat → Int32} {z_mo_changeSign : Nat → Int32} {z_mo_differs : Nat → Int32} {z_mo_results : Nat → Int32} {z_mo_own : Nat → Int32} {z_mo_noticed : Nat → Int32} {k6 : Int32 → (Nat → Int32) → (Int32) → (Int32) → (Nat → Int32) → (Nat → Int32) → (Nat → Int32) → (Nat → Int32) → (Nat → Int32) → (Nat → Int32) → Option ((Nat → Int32) × (Int32) × (Int32) × (Nat → Int32) × (Nat → Int32) × (Nat → Int32) × (Nat → Int32) × (Nat → Int32) × (Nat → Int32))} (hk6 : ∀ (x1 : Int32) (mo_value : Nat → Int32) (mo_isLaid : Int32) (mo_changes : Int32) (mo_changeNode : Nat → Int32) (mo_changeSign : Nat → Int32) (mo_differs : Nat → Int32) (mo_results : Nat → Int32) (mo_own : Nat → Int32) (mo_noticed : Nat → Int32), k6 x1 mo_value mo_isLaid mo_changes mo_changeNode mo_changeSign mo_differs mo_results mo_own mo_noticed = some (z_mo_value, z_mo_isLaid, z_mo_changes, z_mo_changeNode, z_mo_changeSign, z_mo_differs, z_mo_results, z_mo_own, z_mo_noticed) → ∀ (H : Heap) (locs : List Loc) (ls : Array Slot), DB D A (wd_mo a b cI cJ cT mo_signs mo_signMany mo_nodeSign mo_nodeOn mo_nodeSize mo_nodeMany mo_due mo_openNode mo_value mo_isLaid mo_changes mo_changeNode mo_changeSign mo_differs mo_results mo_own mo_kinds mo_testInputs mo_testDue mo_tests mo_noticed mo_missed mo_leastFrom mo_blameUpper mo_blameLower) s H locs → lv_has ls 3 [(0, .ref (b 0)), (1, .int x1)] → W p l e rmX12_findNoticed s m args below meth c H locs 0 0 (ZV below args s D A (tyl cI cJ cT) (wd_mo a b cI cJ cT mo_signs mo_signMany mo_nodeSign mo_nodeOn mo_nodeSize mo_nodeMany mo_due mo_openNode z_mo_value z_mo_isLaid z_mo_changes z_mo_changeNode z_mo_changeSign z_mo_differs z_mo_results z_mo_own mo_kinds mo_testInputs mo_testDue mo_tests z_mo_noticed mo_missed mo_leastFrom mo_blameUpper mo_blameLower) 0 0) (F0 m 6 ls [])) {k23 : Int32 → Int32 → (Nat → Int32) → (Int32) → (Int32) → (Nat → Int32) → (Nat → Int32) → (Nat → Int32) → (Nat → Int32) → (Nat → Int32) → (Nat → Int32) → Option ((Nat → Int32) × (Int32) × (Int32) × (Nat → Int32) × (Nat → Int32) × (Nat → Int32) × (Nat → Int32) × (Nat → Int32) × (Nat → Int32))} (hk23 : ∀ (x1 : Int32) (x2 : Int32) (mo_value : Nat → Int32) (mo_isLaid : Int32) (mo_changes : Int32) (mo_changeNode : Nat → Int32) (mo_changeSign : Nat → Int32) (mo_differs : Nat → Int32) (mo_results : Nat → Int32) (mo_own : Nat → Int32) (mo_noticed : Nat → Int32), k23 x1 x2 mo_value mo_isLaid mo_changes mo_changeNode mo_changeSign mo_differs mo_results mo_own mo_noticed = some (z_mo_value, z_mo_isLaid, z_mo_changes, z_mo_changeNode, z_mo_changeSign, z_mo_differs, z_mo_results, z_mo_own, z_mo_noticed) → ∀ (H : Heap) (locs : List Loc) (ls : Array Slot), DB D A (wd_mo a b cI cJ cT mo_signs mo_signMany mo_nodeSign mo_nodeOn mo_nodeSize mo_nodeMany mo_due mo_openNode mo_value mo_isLaid mo_changes mo_changeNode mo_changeSign mo_differs mo_results mo_own mo_kinds mo_testInputs mo_testDue mo_tests mo_noticed mo_missed mo_leastFrom mo_blameUpper mo_blameLower) s H locs → lv_has ls 3 [(0, .ref (b 0)), (1, .int x1), (2, .int x2)] → W p l e rmX12_findNoticed s m args below meth c H locs 0 0 (ZV below args s D A (tyl cI cJ cT) (wd_mo a b cI cJ cT mo_signs mo_signMany mo_nodeSign mo_nodeOn mo_nodeSize mo_nodeMany mo_due mo_openNode z_mo_value z_mo_isLaid z_mo_changes z_mo_changeNode z_mo_changeSign z_mo_differs z_mo_results z_mo_own mo_kinds mo_testInputs mo_testDue mo_tests z_mo_noticed mo_missed mo_leastFrom mo_blameUpper mo_blameLower) 0 0) (F0 m 23 ls [])) : ∀ (x1 : Int32) (x2 : Int32) (y1 : Int32) (y2 : Int32) (y3 : Int32) (mo_value : Nat → Int32) (mo_isLaid : Int32) (mo_changes : Int32) (mo_changeNode : Nat → Int32) (mo_changeSign : Nat → Int32) (mo_differs : Nat → Int32) (mo_results : Nat → Int32) (mo_own : Nat → Int32) (mo_noticed : Nat → Int32), bX12_findNoticed_76 N mo_nodeSign mo_nodeSize mo_nodeMany mo_kinds mo_testInputs mo_tests k6 k23 x1 x2 y1 y2 y3 mo_value mo_isLaid mo_changes mo_changeNode mo_changeSign mo_differs mo_results mo_own mo_noticed = some (z_mo_value, z_mo_isLaid, z_mo_changes, z_mo_changeNode, z_mo_changeSign, z_mo_differs, z_mo_results, z_mo_own, z_mo_noticed) → ∀ (H : Heap) (locs : List Loc) (ls : Array Slot), DB D A (wd_mo a b cI cJ cT mo_signs mo_signMany mo_nodeSign mo_nodeOn mo_nodeSize mo_nodeMany mo_due mo_openNode mo_value mo_isLaid mo_changes mo_changeNode mo_changeSign mo_differs mo_results mo_own mo_kinds mo_testInputs mo_testDue mo_tests mo_noticed mo_missed mo_leastFrom mo_blameUpper mo_blameLower) s H locs → lv_has ls 3 [(0, .ref (b 0)), (1, .int x1), (2, .int x2)] → W p l e rmX12_findNoticed s m args below meth c H locs 0 0 (ZV below args s D A (tyl cI cJ cT) (wd_mo a b cI cJ cT mo_signs mo_signMany mo_nodeSign mo_nodeOn mo_nodeSize mo_nodeMany mo_due mo_openNode z_mo_value z_mo_isLaid z_mo_changes z_mo_changeNode z_mo_changeSign z_mo_differs z_mo_results z_mo_own mo_kinds mo_testInputs mo_testDue mo_tests z_mo_noticed mo_missed mo_leastFrom mo_blameUpper mo_blameLower) 0 0) (F0 m 76 ls [.int y3, .int y2, .int y1, .ref (b 17)]) := by
  have hx := C.1.1
  have hb := C.1.2.1
  have hown := C.1.2.2.2.1
  have hts := C.1.2.2.2.2
  intro x1 x2 y1 y2 y3 mo_value mo_isLaid mo_changes mo_changeNode mo_changeSign mo_differs mo_results mo_own mo_noticed h H locs ls B hl
  rw [bX12_findNoticed_76] at h
  refine lv_ior hx hb dX12_findNoticed_76 ?_
  obtain ⟨b_1, h⟩ := bnd_some h
  refine k_iast C B 17 0 rfl rfl b_1 dX12_findNoticed_77 (fun H locs B => ?_)
  have B : DB D A (wd_mo a b cI cJ cT mo_signs mo_signMany mo_nodeSign mo_nodeOn mo_nodeSize mo_nodeMany mo_due mo_openNode mo_value mo_isLaid mo_changes mo_changeNode mo_changeSign mo_differs mo_results mo_own mo_kinds mo_testInputs mo_testDue mo_tests (upd mo_noticed (Int32.toNatClampNeg y1) (y2 ||| y3)) mo_missed mo_leastFrom mo_blameUpper mo_blameLower) s H locs := B
  refine lv_iinc (v := (x2 + 1)) (lv' := [(2, .int (x2 + 1)), (0, .ref (b 0)), (1, .int x1)]) hx hb dX12_findNoticed_78 hl (k := 2) rfl rfl (by decide) rfl (fun ls hl => ?_)
  refine lv_goto (tgt := 23) hx hb dX12_findNoticed_81 (by decide) ?_
  exact hk23 x1 (x2 + 1) mo_value mo_isLaid mo_changes mo_changeNode mo_changeSign mo_differs mo_results mo_own (upd mo_noticed (Int32.toNatClampNeg y1) (y2 ||| y3)) h H locs ls B (lv_sub hl [1, 2, 0] rfl)
set_option maxHeartbeats 4000000 in
set_option maxRecDepth 100000 in
theorem qX12_findNoticed_23 (C : CT p s m args meth c RX12 cX12_findNoticed 3 none wsX12_findNoticed D A (tyl cI cJ cT) Es) {N : Nat} {mo_signs : Nat → Int32} {mo_signMany : Int32} {mo_nodeSign : Nat → Int32} {mo_nodeOn : Nat → Int32} {mo_nodeSize : Nat → Int32} {mo_nodeMany : Nat → Int32} {mo_due : Nat → Int32} {mo_openNode : Nat → Int32} {mo_kinds : Nat → Int32} {mo_testInputs : Nat → Int32} {mo_testDue : Nat → Int32} {mo_tests : Int32} {mo_missed : Nat → Int32} {mo_leastFrom : Nat → Int32} {mo_blameUpper : Nat → Int32} {mo_blameLower : Nat → Int32} {z_mo_value : Nat → Int32} {z_mo_isLaid : Int32} {z_mo_changes : Int32} {z_mo_changeNode : Nat → Int32} {z_mo_changeSign : Nat → Int32} {z_mo_differs : Nat → Int32} {z_mo_results : Nat → Int32} {z_mo_own : Nat → Int32} {z_mo_noticed : Nat → Int32} {k6 : Int32 → (Nat → Int32) → (Int32) → (Int32) → (Nat → Int32) → (Nat → Int32) → (Nat → Int32) → (Nat → Int32) → (Nat → Int32) → (Nat → Int32) → Option ((Nat → Int32) × (Int32) × (Int32) × (Nat → Int32) × (Nat → Int32) × (Nat → Int32) × (Nat → Int32) × (Nat → Int32) × (Nat → Int32))} (hk6 : ∀ (x1 : Int32) (mo_value : Nat → Int32) (mo_isLaid : Int32) (mo_changes : Int32) (mo_changeNode : Nat → Int32) (mo_changeSign : Nat → Int32) (mo_differs : Nat → Int32) (mo_results : Nat → Int32) (mo_own : Nat → Int32) (mo_noticed : Nat → Int32), k6 x1 mo_value mo_isLaid mo_changes mo_changeNode mo_changeSign mo_differs mo_results mo_own mo_noticed = some (z_mo_value, z_mo_isLaid, z_mo_changes, z_mo_changeNode, z_mo_changeSign, z_mo_differs, z_mo_results, z_mo_own, z_mo_noticed) → ∀ (H : Heap) (locs : List Loc) (ls : Array Slot), DB D A (wd_mo a b cI cJ cT mo_signs mo_signMany mo_nodeSign mo_nodeOn mo_nodeSize mo_nodeMany mo_due mo_openNode mo_value mo_isLaid mo_changes mo_changeNode mo_changeSign mo_differs mo_results mo_own mo_kinds mo_testInputs mo_testDue mo_tests mo_noticed mo_missed mo_leastFrom mo_blameUpper mo_blameLower) s H locs → lv_has ls 3 [(0, .ref (b 0)), (1, .int x1)] → W p l e rmX12_findNoticed s m args below meth c H locs 0 0 (ZV below args s D A (tyl cI cJ cT) (wd_mo a b cI cJ cT mo_signs mo_signMany mo_nodeSign mo_nodeOn mo_nodeSize mo_nodeMany mo_due mo_openNode z_mo_value z_mo_isLaid z_mo_changes z_mo_changeNode z_mo_changeSign z_mo_differs z_mo_results z_mo_own mo_kinds mo_testInputs mo_testDue mo_tests z_mo_noticed mo_missed mo_leastFrom mo_blameUpper mo_blameLower) 0 0) (F0 m 6 ls [])) : ∀ (n : Nat) (x1 : Int32) (x2 : Int32) (mo_value : Nat → Int32) (mo_isLaid : Int32) (mo_changes : Int32) (mo_changeNode : Nat → Int32) (mo_changeSign : Nat → Int32) (mo_differs : Nat → Int32) (mo_results : Nat → Int32) (mo_own : Nat → Int32) (mo_noticed : Nat → Int32), bX12_findNoticed_23 N mo_nodeSign mo_nodeSize mo_nodeMany mo_kinds mo_testInputs mo_tests k6 n x1 x2 mo_value mo_isLaid mo_changes mo_changeNode mo_changeSign mo_differs mo_results mo_own mo_noticed = some (z_mo_value, z_mo_isLaid, z_mo_changes, z_mo_changeNode, z_mo_changeSign, z_mo_differs, z_mo_results, z_mo_own, z_mo_noticed) → ∀ (H : Heap) (locs : List Loc) (ls : Array Slot), DB D A (wd_mo a b cI cJ cT mo_signs mo_signMany mo_nodeSign mo_nodeOn mo_nodeSize mo_nodeMany mo_due mo_openNode mo_value mo_isLaid mo_changes mo_changeNode mo_changeSign mo_differs mo_results mo_own mo_kinds mo_testInputs mo_testDue mo_tests mo_noticed mo_missed mo_leastFrom mo_blameUpper mo_blameLower) s H locs → lv_has ls 3 [(0, .ref (b 0)), (1, .int x1), (2, .int x2)] → W p l e rmX12_findNoticed s m args below meth c H locs 0 0 (ZV below args s D A (tyl cI cJ cT) (wd_mo a b cI cJ cT mo_signs mo_signMany mo_nodeSign mo_nodeOn mo_nodeSize mo_nodeMany mo_due mo_openNode z_mo_value z_mo_isLaid z_mo_changes z_mo_changeNode z_mo_changeSign z_mo_differs z_mo_results z_mo_own mo_kinds mo_testInputs mo_testDue mo_tests z_mo_noticed mo_missed mo_leastFrom mo_blameUpper mo_blameLower) 0 0) (F0 m 23 ls []) := by
  have hx := C.1.1
  have hb := C.1.2.1
  have hown := C.1.2.2.2.1
  have hts := C.1.2.2.2.2
  intro n
  induction n with
  | zero => intro x1 x2 mo_value mo_isLaid mo_changes mo_changeNode mo_changeSign mo_differs mo_results mo_own mo_noticed h; cases h
  | succ n ih =>
    intro x1 x2 mo_value mo_isLaid mo_changes mo_changeNode mo_changeSign mo_differs mo_results mo_own mo_noticed h H locs ls B hl
    rw [bX12_findNoticed_23] at h
    refine lv_iload_n hx hb dX12_findNoticed_23 rfl (lv_at hl 2 rfl) ?_
    refine lv_aload_n hx hb dX12_findNoticed_24 rfl (lv_at hl 0 rfl) ?_
    refine gfX12_findNoticed_155 C B 0 rfl rfl dX12_findNoticed_25 ?_
    refine lv_icmp_ge (tgt := 84) hx hb dX12_findNoticed_28 (by decide) (fun c_1 => ?_) (fun c_1 => ?_)
    · rw [if_pos c_1] at h
      refine lv_iinc (v := (x1 + 1)) (lv' := [(1, .int (x1 + 1)), (0, .ref (b 0)), (2, .int x2)]) hx hb dX12_findNoticed_84 hl (k := 1) rfl rfl (by decide) rfl (fun ls hl => ?_)
      refine lv_goto (tgt := 6) hx hb dX12_findNoticed_87 (by decide) ?_
      exact hk6 (x1 + 1) mo_value mo_isLaid mo_changes mo_changeNode mo_changeSign mo_differs mo_results mo_own mo_noticed h H locs ls B (lv_sub hl [1, 0] rfl)
    · rw [if_neg c_1] at h
      refine lv_aload_n hx hb dX12_findNoticed_31 rfl (lv_at hl 0 rfl) ?_
      refine gfX12_findNoticed_59 C B 0 rfl rfl dX12_findNoticed_32 ?_
      refine lv_iload_n hx hb dX12_findNoticed_35 rfl (lv_at hl 1 rfl) ?_
      refine lv_dup2_11 hx hb dX12_findNoticed_36 rfl rfl ?_
      obtain ⟨b_2, h⟩ := bnd_some h
      refine k_iald C B 17 0 rfl rfl b_2 dX12_findNoticed_37 ?_
      refine lv_aload_n hx hb dX12_findNoticed_38 rfl (lv_at hl 0 rfl) ?_
      refine gfX12_findNoticed_44 C B 0 rfl rfl dX12_findNoticed_39 ?_
      refine lv_sipush (v := 512) hx hb dX12_findNoticed_42 (by decide) ?_
      refine lv_iload_n hx hb dX12_findNoticed_45 rfl (lv_at hl 1 rfl) ?_
      refine lv_imul hx hb dX12_findNoticed_46 ?_
      refine lv_aload_n hx hb dX12_findNoticed_47 rfl (lv_at hl 0 rfl) ?_
      refine gfX12_findNoticed_53 C B 0 rfl rfl dX12_findNoticed_48 ?_
      refine lv_iload_n hx hb dX12_findNoticed_51 rfl (lv_at hl 2 rfl) ?_
      obtain ⟨b_3, h⟩ := bnd_some h
      refine k_iald C B 15 0 rfl rfl b_3 dX12_findNoticed_52 ?_
      refine lv_iadd hx hb dX12_findNoticed_53 ?_
      obtain ⟨b_4, h⟩ := bnd_some h
      refine k_iald C B 12 0 rfl rfl b_4 dX12_findNoticed_54 ?_
      refine lv_aload_n hx hb dX12_findNoticed_55 rfl (lv_at hl 0 rfl) ?_
      refine gfX12_findNoticed_47 C B 0 rfl rfl dX12_findNoticed_56 ?_
      refine lv_aload_n hx hb dX12_findNoticed_59 rfl (lv_at hl 0 rfl) ?_
      refine gfX12_findNoticed_53 C B 0 rfl rfl dX12_findNoticed_60 ?_
      refine lv_iload_n hx hb dX12_findNoticed_63 rfl (lv_at hl 2 rfl) ?_
      refine k_iald C B 15 0 rfl rfl b_3 dX12_findNoticed_64 ?_
      obtain ⟨b_5, h⟩ := bnd_some h
      refine k_iald C B 13 0 rfl rfl b_5 dX12_findNoticed_65 ?_
      refine lv_icmp_eq (tgt := 75) hx hb dX12_findNoticed_66 (by decide) (fun c_6 => ?_) (fun c_6 => ?_)
      · rw [if_pos c_6] at h
        refine lv_iconst (v := 0) hx hb dX12_findNoticed_75 (by decide) ?_
        exact qX12_findNoticed_76 C hk6 ih x1 x2 x1 (mo_noticed (Int32.toNatClampNeg x1)) (0 : Int32) mo_value mo_isLaid mo_changes mo_changeNode mo_changeSign mo_differs mo_results mo_own mo_noticed h H locs ls B (lv_sub hl [0, 1, 2] rfl)
      · rw [if_neg c_6] at h
        refine lv_iconst (v := 1) hx hb dX12_findNoticed_69 (by decide) ?_
        refine lv_iload_n hx hb dX12_findNoticed_70 rfl (lv_at hl 2 rfl) ?_
        refine lv_ishl hx hb dX12_findNoticed_71 ?_
        refine lv_goto (tgt := 76) hx hb dX12_findNoticed_72 (by decide) ?_
        exact qX12_findNoticed_76 C hk6 ih x1 x2 x1 (mo_noticed (Int32.toNatClampNeg x1)) ((1 : Int32) <<< (x2 &&& 31)) mo_value mo_isLaid mo_changes mo_changeNode mo_changeSign mo_differs mo_results mo_own mo_noticed h H locs ls B (lv_sub hl [0, 1, 2] rfl)
set_option maxHeartbeats 4000000 in
set_option maxRecDepth 100000 in
theorem qX12_findNoticed_6 (C : CT p s m args meth c RX12 cX12_findNoticed 3 none wsX12_findNoticed D A (tyl cI cJ cT) Es) {N : Nat} {mo_signs : Nat → Int32} {mo_signMany : Int32} {mo_nodeSign : Nat → Int32} {mo_nodeOn : Nat → Int32} {mo_nodeSize : Nat → Int32} {mo_nodeMany : Nat → Int32} {mo_due : Nat → Int32} {mo_openNode : Nat → Int32} {mo_kinds : Nat → Int32} {mo_testInputs : Nat → Int32} {mo_testDue : Nat → Int32} {mo_tests : Int32} {mo_missed : Nat → Int32} {mo_leastFrom : Nat → Int32} {mo_blameUpper : Nat → Int32} {mo_blameLower : Nat → Int32} {z_mo_value : Nat → Int32} {z_mo_isLaid : Int32} {z_mo_changes : Int32} {z_mo_changeNode : Nat → Int32} {z_mo_changeSign : Nat → Int32} {z_mo_differs : Nat → Int32} {z_mo_results : Nat → Int32} {z_mo_own : Nat → Int32} {z_mo_noticed : Nat → Int32} : ∀ (n : Nat) (x1 : Int32) (mo_value : Nat → Int32) (mo_isLaid : Int32) (mo_changes : Int32) (mo_changeNode : Nat → Int32) (mo_changeSign : Nat → Int32) (mo_differs : Nat → Int32) (mo_results : Nat → Int32) (mo_own : Nat → Int32) (mo_noticed : Nat → Int32), bX12_findNoticed_6 N mo_nodeSign mo_nodeSize mo_nodeMany mo_kinds mo_testInputs mo_tests n x1 mo_value mo_isLaid mo_changes mo_changeNode mo_changeSign mo_differs mo_results mo_own mo_noticed = some (z_mo_value, z_mo_isLaid, z_mo_changes, z_mo_changeNode, z_mo_changeSign, z_mo_differs, z_mo_results, z_mo_own, z_mo_noticed) → ∀ (H : Heap) (locs : List Loc) (ls : Array Slot), DB D A (wd_mo a b cI cJ cT mo_signs mo_signMany mo_nodeSign mo_nodeOn mo_nodeSize mo_nodeMany mo_due mo_openNode mo_value mo_isLaid mo_changes mo_changeNode mo_changeSign mo_differs mo_results mo_own mo_kinds mo_testInputs mo_testDue mo_tests mo_noticed mo_missed mo_leastFrom mo_blameUpper mo_blameLower) s H locs → lv_has ls 3 [(0, .ref (b 0)), (1, .int x1)] → W p l e rmX12_findNoticed s m args below meth c H locs 0 0 (ZV below args s D A (tyl cI cJ cT) (wd_mo a b cI cJ cT mo_signs mo_signMany mo_nodeSign mo_nodeOn mo_nodeSize mo_nodeMany mo_due mo_openNode z_mo_value z_mo_isLaid z_mo_changes z_mo_changeNode z_mo_changeSign z_mo_differs z_mo_results z_mo_own mo_kinds mo_testInputs mo_testDue mo_tests z_mo_noticed mo_missed mo_leastFrom mo_blameUpper mo_blameLower) 0 0) (F0 m 6 ls []) := by
  have hx := C.1.1
  have hb := C.1.2.1
  have hown := C.1.2.2.2.1
  have hts := C.1.2.2.2.2
  intro n
  induction n with
  | zero => intro x1 mo_value mo_isLaid mo_changes mo_changeNode mo_changeSign mo_differs mo_results mo_own mo_noticed h; cases h
  | succ n ih =>
    intro x1 mo_value mo_isLaid mo_changes mo_changeNode mo_changeSign mo_differs mo_results mo_own mo_noticed h H locs ls B hl
    rw [bX12_findNoticed_6] at h
    refine lv_iload_n hx hb dX12_findNoticed_6 rfl (lv_at hl 1 rfl) ?_
    refine lv_aload_n hx hb dX12_findNoticed_7 rfl (lv_at hl 0 rfl) ?_
    refine gfX12_findNoticed_141 C B 0 rfl rfl dX12_findNoticed_8 ?_
    refine lv_icmp_ge (tgt := 90) hx hb dX12_findNoticed_11 (by decide) (fun c_1 => ?_) (fun c_1 => ?_)
    · rw [if_pos c_1] at h
      cases h
      exact k_vret C B dX12_findNoticed_90
    · rw [if_neg c_1] at h
      refine lv_aload_n hx hb dX12_findNoticed_14 rfl (lv_at hl 0 rfl) ?_
      refine gfX12_findNoticed_59 C B 0 rfl rfl dX12_findNoticed_15 ?_
      refine lv_iload_n hx hb dX12_findNoticed_18 rfl (lv_at hl 1 rfl) ?_
      refine lv_iconst (v := 0) hx hb dX12_findNoticed_19 (by decide) ?_
      obtain ⟨b_2, h⟩ := bnd_some h
      refine k_iast C B 17 0 rfl rfl b_2 dX12_findNoticed_20 (fun H locs B => ?_)
      have B : DB D A (wd_mo a b cI cJ cT mo_signs mo_signMany mo_nodeSign mo_nodeOn mo_nodeSize mo_nodeMany mo_due mo_openNode mo_value mo_isLaid mo_changes mo_changeNode mo_changeSign mo_differs mo_results mo_own mo_kinds mo_testInputs mo_testDue mo_tests (upd mo_noticed (Int32.toNatClampNeg x1) (0 : Int32)) mo_missed mo_leastFrom mo_blameUpper mo_blameLower) s H locs := B
      refine lv_iconst (v := 0) hx hb dX12_findNoticed_21 (by decide) ?_
      refine lv_istore_n (lv' := [(2, .int (0 : Int32)), (0, .ref (b 0)), (1, .int x1)]) hx hb dX12_findNoticed_22 rfl hl (by decide) rfl (fun ls hl => ?_)
      exact qX12_findNoticed_23 C ih N x1 (0 : Int32) mo_value mo_isLaid mo_changes mo_changeNode mo_changeSign mo_differs mo_results mo_own (upd mo_noticed (Int32.toNatClampNeg x1) (0 : Int32)) h H locs ls B (lv_sub hl [1, 2, 0] rfl)
set_option maxHeartbeats 4000000 in
set_option maxRecDepth 100000 in
theorem qX12_findNoticed_0 (C : CT p s m args meth c RX12 cX12_findNoticed 3 none wsX12_findNoticed D A (tyl cI cJ cT) Es) {N : Nat} {mo_signs : Nat → Int32} {mo_signMany : Int32} {mo_nodeSign : Nat → Int32} {mo_nodeOn : Nat → Int32} {mo_nodeSize : Nat → Int32} {mo_nodeMany : Nat → Int32} {mo_due : Nat → Int32} {mo_openNode : Nat → Int32} {mo_kinds : Nat → Int32} {mo_testInputs : Nat → Int32} {mo_testDue : Nat → Int32} {mo_tests : Int32} {mo_missed : Nat → Int32} {mo_leastFrom : Nat → Int32} {mo_blameUpper : Nat → Int32} {mo_blameLower : Nat → Int32} {z_mo_value : Nat → Int32} {z_mo_isLaid : Int32} {z_mo_changes : Int32} {z_mo_changeNode : Nat → Int32} {z_mo_changeSign : Nat → Int32} {z_mo_differs : Nat → Int32} {z_mo_results : Nat → Int32} {z_mo_own : Nat → Int32} {z_mo_noticed : Nat → Int32} : ∀ (mo_value : Nat → Int32) (mo_isLaid : Int32) (mo_changes : Int32) (mo_changeNode : Nat → Int32) (mo_changeSign : Nat → Int32) (mo_differs : Nat → Int32) (mo_results : Nat → Int32) (mo_own : Nat → Int32) (mo_noticed : Nat → Int32), fX12_findNoticed N mo_nodeSign mo_nodeSize mo_nodeMany mo_kinds mo_testInputs mo_tests mo_value mo_isLaid mo_changes mo_changeNode mo_changeSign mo_differs mo_results mo_own mo_noticed = some (z_mo_value, z_mo_isLaid, z_mo_changes, z_mo_changeNode, z_mo_changeSign, z_mo_differs, z_mo_results, z_mo_own, z_mo_noticed) → ∀ (H : Heap) (locs : List Loc) (ls : Array Slot), DB D A (wd_mo a b cI cJ cT mo_signs mo_signMany mo_nodeSign mo_nodeOn mo_nodeSize mo_nodeMany mo_due mo_openNode mo_value mo_isLaid mo_changes mo_changeNode mo_changeSign mo_differs mo_results mo_own mo_kinds mo_testInputs mo_testDue mo_tests mo_noticed mo_missed mo_leastFrom mo_blameUpper mo_blameLower) s H locs → lv_has ls 3 [(0, .ref (b 0))] → W p l e rmX12_findNoticed s m args below meth c H locs 0 0 (ZV below args s D A (tyl cI cJ cT) (wd_mo a b cI cJ cT mo_signs mo_signMany mo_nodeSign mo_nodeOn mo_nodeSize mo_nodeMany mo_due mo_openNode z_mo_value z_mo_isLaid z_mo_changes z_mo_changeNode z_mo_changeSign z_mo_differs z_mo_results z_mo_own mo_kinds mo_testInputs mo_testDue mo_tests z_mo_noticed mo_missed mo_leastFrom mo_blameUpper mo_blameLower) 0 0) (F0 m 0 ls []) := by
  have hx := C.1.1
  have hb := C.1.2.1
  have hown := C.1.2.2.2.1
  have hts := C.1.2.2.2.2
  intro mo_value mo_isLaid mo_changes mo_changeNode mo_changeSign mo_differs mo_results mo_own mo_noticed h H locs ls B hl
  rw [fX12_findNoticed] at h
  refine lv_aload_n hx hb dX12_findNoticed_0 rfl (lv_at hl 0 rfl) ?_
  obtain ⟨⟨mo_value_1, mo_isLaid_2, mo_changes_3, mo_changeNode_4, mo_changeSign_5, mo_differs_6, mo_results_7, mo_own_8⟩, g_9, h⟩ := ob_some h
  try dsimp only at h
  refine kc_VV C B (q0 := 0) (ci := 12) (As := []) (rest := []) (w2 := (wd_mo a b cI cJ cT mo_signs mo_signMany mo_nodeSign mo_nodeOn mo_nodeSize mo_nodeMany mo_due mo_openNode mo_value_1 mo_isLaid_2 mo_changes_3 mo_changeNode_4 mo_changeSign_5 mo_differs_6 mo_results_7 mo_own_8 mo_kinds mo_testInputs mo_testDue mo_tests mo_noticed mo_missed mo_leastFrom mo_blameUpper mo_blameLower)) (tX12_layChanges (a := a) (b := b) N g_9) gX12_findNoticed_X12_layChanges rfl ⟨rfl, rfl⟩ ⟨rfl, hdX12_layChanges⟩ ⟨Nat.le_of_ble_eq_true rfl, Nat.le_of_ble_eq_true rfl⟩ rfl rfl [0, 1, 2, 3, 4, 5, 6, 7, 8, 9, 10, 11, 12, 13, 14, 15, 16, 17, 18, 19, 20, 21] [] [0, 1, 2, 3, 4, 5, 6, 7, 8, 9, 10, 11, 12, 13, 14, 15, 16, 17, 18, 19, 20, 21] rfl rfl rfl rfl rfl rfl rfl rfl hl.1 rfl (Nat.le_of_ble_eq_true rfl) ⟨Nat.zero_le _, Nat.zero_le _⟩ dX12_findNoticed_1 (fun H locs B => ?_)
  refine lv_iconst (v := 0) hx hb dX12_findNoticed_4 (by decide) ?_
  refine lv_istore_n (lv' := [(1, .int (0 : Int32)), (0, .ref (b 0))]) hx hb dX12_findNoticed_5 rfl hl (by decide) rfl (fun ls hl => ?_)
  exact qX12_findNoticed_6 C N (0 : Int32) mo_value_1 mo_isLaid_2 mo_changes_3 mo_changeNode_4 mo_changeSign_5 mo_differs_6 mo_results_7 mo_own_8 mo_noticed h H locs ls B (lv_sub hl [1, 0] rfl)
end
theorem tX12_findNoticed {l : Launch} {D : va_G} {Es : (Nat → Nat) × (Nat → Nat)} {a b : Nat → Nat} {cI cJ cT : ClassId} {mo_signs : Nat → Int32} {mo_signMany : Int32} {mo_nodeSign : Nat → Int32} {mo_nodeOn : Nat → Int32} {mo_nodeSize : Nat → Int32} {mo_nodeMany : Nat → Int32} {mo_due : Nat → Int32} {mo_openNode : Nat → Int32} {mo_value : Nat → Int32} {mo_isLaid : Int32} {mo_changes : Int32} {mo_changeNode : Nat → Int32} {mo_changeSign : Nat → Int32} {mo_differs : Nat → Int32} {mo_results : Nat → Int32} {mo_own : Nat → Int32} {mo_kinds : Nat → Int32} {mo_testInputs : Nat → Int32} {mo_testDue : Nat → Int32} {mo_tests : Int32} {mo_noticed : Nat → Int32} {mo_missed : Nat → Int32} {mo_leastFrom : Nat → Int32} {mo_blameUpper : Nat → Int32} {mo_blameLower : Nat → Int32} {z_mo_value : Nat → Int32} {z_mo_isLaid : Int32} {z_mo_changes : Int32} {z_mo_changeNode : Nat → Int32} {z_mo_changeSign : Nat → Int32} {z_mo_differs : Nat → Int32} {z_mo_results : Nat → Int32} {z_mo_own : Nat → Int32} {z_mo_noticed : Nat → Int32} (N : Nat) (h : fX12_findNoticed N mo_nodeSign mo_nodeSize mo_nodeMany mo_kinds mo_testInputs mo_tests mo_value mo_isLaid mo_changes mo_changeNode mo_changeSign mo_differs mo_results mo_own mo_noticed = some (z_mo_value, z_mo_isLaid, z_mo_changes, z_mo_changeNode, z_mo_changeSign, z_mo_differs, z_mo_results, z_mo_own, z_mo_noticed)) : CtV l yX12_findNoticed wsX12_findNoticed rmX12_findNoticed D (tyl cI cJ cT) Es [.ref (b 0)] (wd_mo a b cI cJ cT mo_signs mo_signMany mo_nodeSign mo_nodeOn mo_nodeSize mo_nodeMany mo_due mo_openNode mo_value mo_isLaid mo_changes mo_changeNode mo_changeSign mo_differs mo_results mo_own mo_kinds mo_testInputs mo_testDue mo_tests mo_noticed mo_missed mo_leastFrom mo_blameUpper mo_blameLower) (wd_mo a b cI cJ cT mo_signs mo_signMany mo_nodeSign mo_nodeOn mo_nodeSize mo_nodeMany mo_due mo_openNode z_mo_value z_mo_isLaid z_mo_changes z_mo_changeNode z_mo_changeSign z_mo_differs z_mo_results z_mo_own mo_kinds mo_testInputs mo_testDue mo_tests z_mo_noticed mo_missed mo_leastFrom mo_blameUpper mo_blameLower) :=
  CtV.of (own := RX12) (cc := cX12_findNoticed) (nL := 3) (ret := none) (by decide +kernel) rfl rfl (Nat.le_of_ble_eq_true rfl) rfl (fun p e s m below meth c A ls C B hl => qX12_findNoticed_0 C (N := N) mo_value mo_isLaid mo_changes mo_changeNode mo_changeSign mo_differs mo_results mo_own mo_noticed h _ _ _ B hl)

abbrev rmX12_isBehind : Room := { frames := 0, cells := 0, slots := 0, locals := 0 }
theorem hdX12_isBehind : yX12_isBehind.cls ≠ "java/lang/invoke/MethodHandle" ∧ yX12_isBehind.cls ≠ "java/lang/invoke/VarHandle" ∧ (parseMethodDescriptor yX12_isBehind.desc).map (fun d => d.parameters.length) = some 2 := by decide +kernel
theorem iX12_isBehind_X12 : ∀ w ∈ wsX120, w ∈ wsX12_isBehind := by decide +kernel
theorem gfX12_isBehind_59 {p : Program} {l : Launch} {e : Env} {R : Room} {s : State} {m : MethodId} {args : Array Value} {below : List Frame} {meth : Method} {c : Code} {H : Heap} {locs : List Loc} {cells slots : Nat} {Q : State → Prop} {D : va_G} {A : Nat → Prop} {tys : List (ClassId × FieldType)} {Es : (Nat → Nat) × (Nat → Nat)} {ws : va_W} {pc : Nat} {ls : Array Slot} {rest : List Value} {a : Nat} (C : CT p s m args meth c RX12 cX12_isBehind 3 (some .boolean) wsX12_isBehind D A tys Es) (B : DB D A ws s H locs) (q0 : Nat) {fs : List Value} {v : Value} (he : ws[q0]? = some (a, .inr (12, fs))) (hv : fs[20]? = some v) (hdg : decode cX12_isBehind pc = .ok (.getfield 59, 3)) (kk : W p l e R s m args below meth c H locs cells slots Q (F0 m (pc + 3) ls (v :: rest))) : W p l e R s m args below meth c H locs cells slots Q (F0 m pc ls (.ref a :: rest)) :=
  k_get (Cn := RX12) (T := TX12) (N := 25) (index := 59) C B iX12_isBehind_X12 rfl 20 (by decide) (by decide +kernel) q0 he hv hdg kk
section
variable {p : Program} {l : Launch} {e : Env} {s : State} {m : MethodId} {args : Array Value} {below : List Frame} {meth : Method} {c : Code} {D : va_G} {A : Nat → Prop} {Es : (Nat → Nat) × (Nat → Nat)} {a b : Nat → Nat} {cI cJ cT : ClassId}
set_option maxHeartbeats 4000000 in
set_option maxRecDepth 100000 in
theorem qX12_isBehind_0 (C : CT p s m args meth c RX12 cX12_isBehind 3 (some .boolean) wsX12_isBehind D A (tyl cI cJ cT) Es) {N : Nat} {mo_signs : Nat → Int32} {mo_signMany : Int32} {mo_nodeSign : Nat → Int32} {mo_nodeOn : Nat → Int32} {mo_nodeSize : Nat → Int32} {mo_nodeMany : Nat → Int32} {mo_due : Nat → Int32} {mo_openNode : Nat → Int32} {mo_value : Nat → Int32} {mo_isLaid : Int32} {mo_changes : Int32} {mo_changeNode : Nat → Int32} {mo_changeSign : Nat → Int32} {mo_differs : Nat → Int32} {mo_results : Nat → Int32} {mo_own : Nat → Int32} {mo_kinds : Nat → Int32} {mo_testInputs : Nat → Int32} {mo_testDue : Nat → Int32} {mo_tests : Int32} {mo_noticed : Nat → Int32} {mo_missed : Nat → Int32} {mo_leastFrom : Nat → Int32} {mo_blameUpper : Nat → Int32} {mo_blameLower : Nat → Int32} {z_r : Int32} : ∀ (x1 : Int32) (x2 : Int32), fX12_isBehind N mo_noticed x1 x2 = some z_r → ∀ (H : Heap) (locs : List Loc) (ls : Array Slot), DB D A (wd_mo a b cI cJ cT mo_signs mo_signMany mo_nodeSign mo_nodeOn mo_nodeSize mo_nodeMany mo_due mo_openNode mo_value mo_isLaid mo_changes mo_changeNode mo_changeSign mo_differs mo_results mo_own mo_kinds mo_testInputs mo_testDue mo_tests mo_noticed mo_missed mo_leastFrom mo_blameUpper mo_blameLower) s H locs → lv_has ls 3 [(0, .ref (b 0)), (1, .int x1), (2, .int x2)] → W p l e rmX12_isBehind s m args below meth c H locs 0 0 (ZI below args s D A (tyl cI cJ cT) z_r (wd_mo a b cI cJ cT mo_signs mo_signMany mo_nodeSign mo_nodeOn mo_nodeSize mo_nodeMany mo_due mo_openNode mo_value mo_isLaid mo_changes mo_changeNode mo_changeSign mo_differs mo_results mo_own mo_kinds mo_testInputs mo_testDue mo_tests mo_noticed mo_missed mo_leastFrom mo_blameUpper mo_blameLower) 0 0) (F0 m 0 ls []) := by
  have hx := C.1.1
  have hb := C.1.2.1
  have hown := C.1.2.2.2.1
  have hts := C.1.2.2.2.2
  intro x1 x2 h H locs ls B hl
  rw [fX12_isBehind] at h
  refine lv_aload_n hx hb dX12_isBehind_0 rfl (lv_at hl 0 rfl) ?_
  refine gfX12_isBehind_59 C B 0 rfl rfl dX12_isBehind_1 ?_
  refine lv_iload_n hx hb dX12_isBehind_4 rfl (lv_at hl 2 rfl) ?_
  obtain ⟨b_1, h⟩ := bnd_some h
  refine k_iald C B 17 0 rfl rfl b_1 dX12_isBehind_5 ?_
  refine lv_if_eq (tgt := 46) hx hb dX12_isBehind_6 (by decide) (fun c_2 => ?_) (fun c_2 => ?_)
  · rw [if_pos c_2] at h
    refine lv_iconst (v := 0) hx hb dX12_isBehind_46 (by decide) ?_
    cases h
    exact k_zret C B (by decide) dX12_isBehind_47
  · rw [if_neg c_2] at h
    refine lv_aload_n hx hb dX12_isBehind_9 rfl (lv_at hl 0 rfl) ?_
    refine gfX12_isBehind_59 C B 0 rfl rfl dX12_isBehind_10 ?_
    refine lv_iload_n hx hb dX12_isBehind_13 rfl (lv_at hl 2 rfl) ?_
    refine k_iald C B 17 0 rfl rfl b_1 dX12_isBehind_14 ?_
    refine lv_aload_n hx hb dX12_isBehind_15 rfl (lv_at hl 0 rfl) ?_
    refine gfX12_isBehind_59 C B 0 rfl rfl dX12_isBehind_16 ?_
    refine lv_iload_n hx hb dX12_isBehind_19 rfl (lv_at hl 1 rfl) ?_
    obtain ⟨b_3, h⟩ := bnd_some h
    refine k_iald C B 17 0 rfl rfl b_3 dX12_isBehind_20 ?_
    refine lv_iconst (v := -1) hx hb dX12_isBehind_21 (by decide) ?_
    refine lv_ixor hx hb dX12_isBehind_22 ?_
    refine lv_iand hx hb dX12_isBehind_23 ?_
    refine lv_if_ne (tgt := 46) hx hb dX12_isBehind_24 (by decide) (fun c_4 => ?_) (fun c_4 => ?_)
    · rw [if_neg c_4] at h
      refine lv_iconst (v := 0) hx hb dX12_isBehind_46 (by decide) ?_
      cases h
      exact k_zret C B (by decide) dX12_isBehind_47
    · rw [if_pos c_4] at h
      refine lv_aload_n hx hb dX12_isBehind_27 rfl (lv_at hl 0 rfl) ?_
      refine gfX12_isBehind_59 C B 0 rfl rfl dX12_isBehind_28 ?_
      refine lv_iload_n hx hb dX12_isBehind_31 rfl (lv_at hl 1 rfl) ?_
      refine k_iald C B 17 0 rfl rfl b_3 dX12_isBehind_32 ?_
      refine lv_aload_n hx hb dX12_isBehind_33 rfl (lv_at hl 0 rfl) ?_
      refine gfX12_isBehind_59 C B 0 rfl rfl dX12_isBehind_34 ?_
      refine lv_iload_n hx hb dX12_isBehind_37 rfl (lv_at hl 2 rfl) ?_
      refine k_iald C B 17 0 rfl rfl b_1 dX12_isBehind_38 ?_
      refine lv_icmp_eq (tgt := 46) hx hb dX12_isBehind_39 (by decide) (fun c_5 => ?_) (fun c_5 => ?_)
      · rw [if_pos c_5] at h
        refine lv_iconst (v := 0) hx hb dX12_isBehind_46 (by decide) ?_
        cases h
        exact k_zret C B (by decide) dX12_isBehind_47
      · rw [if_neg c_5] at h
        refine lv_iconst (v := 1) hx hb dX12_isBehind_42 (by decide) ?_
        refine lv_goto (tgt := 47) hx hb dX12_isBehind_43 (by decide) ?_
        cases h
        exact k_zret C B (by decide) dX12_isBehind_47
end
theorem tX12_isBehind {l : Launch} {D : va_G} {Es : (Nat → Nat) × (Nat → Nat)} {a b : Nat → Nat} {cI cJ cT : ClassId} {mo_signs : Nat → Int32} {mo_signMany : Int32} {mo_nodeSign : Nat → Int32} {mo_nodeOn : Nat → Int32} {mo_nodeSize : Nat → Int32} {mo_nodeMany : Nat → Int32} {mo_due : Nat → Int32} {mo_openNode : Nat → Int32} {mo_value : Nat → Int32} {mo_isLaid : Int32} {mo_changes : Int32} {mo_changeNode : Nat → Int32} {mo_changeSign : Nat → Int32} {mo_differs : Nat → Int32} {mo_results : Nat → Int32} {mo_own : Nat → Int32} {mo_kinds : Nat → Int32} {mo_testInputs : Nat → Int32} {mo_testDue : Nat → Int32} {mo_tests : Int32} {mo_noticed : Nat → Int32} {mo_missed : Nat → Int32} {mo_leastFrom : Nat → Int32} {mo_blameUpper : Nat → Int32} {mo_blameLower : Nat → Int32} {x1 : Int32} {x2 : Int32} {z_r : Int32} (N : Nat) (h : fX12_isBehind N mo_noticed x1 x2 = some z_r) : CtI l yX12_isBehind wsX12_isBehind rmX12_isBehind D (tyl cI cJ cT) Es [.ref (b 0), .int x1, .int x2] (wd_mo a b cI cJ cT mo_signs mo_signMany mo_nodeSign mo_nodeOn mo_nodeSize mo_nodeMany mo_due mo_openNode mo_value mo_isLaid mo_changes mo_changeNode mo_changeSign mo_differs mo_results mo_own mo_kinds mo_testInputs mo_testDue mo_tests mo_noticed mo_missed mo_leastFrom mo_blameUpper mo_blameLower) z_r (wd_mo a b cI cJ cT mo_signs mo_signMany mo_nodeSign mo_nodeOn mo_nodeSize mo_nodeMany mo_due mo_openNode mo_value mo_isLaid mo_changes mo_changeNode mo_changeSign mo_differs mo_results mo_own mo_kinds mo_testInputs mo_testDue mo_tests mo_noticed mo_missed mo_leastFrom mo_blameUpper mo_blameLower) :=
  CtI.of (own := RX12) (cc := cX12_isBehind) (nL := 3) (ret := (some .boolean)) (by decide +kernel) rfl rfl (Nat.le_of_ble_eq_true rfl) rfl (fun p e s m below meth c A ls C B hl => qX12_isBehind_0 C (N := N) x1 x2 h _ _ _ B hl)

abbrev rmX12_behindOf : Room := { frames := 1, cells := 0, slots := 0, locals := 22 }
theorem hdX12_behindOf : yX12_behindOf.cls ≠ "java/lang/invoke/MethodHandle" ∧ yX12_behindOf.cls ≠ "java/lang/invoke/VarHandle" ∧ (parseMethodDescriptor yX12_behindOf.desc).map (fun d => d.parameters.length) = some 1 := by decide +kernel
theorem iX12_behindOf_X12 : ∀ w ∈ wsX120, w ∈ wsX12_behindOf := by decide +kernel
theorem gfX12_behindOf_141 {p : Program} {l : Launch} {e : Env} {R : Room} {s : State} {m : MethodId} {args : Array Value} {below : List Frame} {meth : Method} {c : Code} {H : Heap} {locs : List Loc} {cells slots : Nat} {Q : State → Prop} {D : va_G} {A : Nat → Prop} {tys : List (ClassId × FieldType)} {Es : (Nat → Nat) × (Nat → Nat)} {ws : va_W} {pc : Nat} {ls : Array Slot} {rest : List Value} {a : Nat} (C : CT p s m args meth c RX12 cX12_behindOf 4 (some .int) wsX12_behindOf D A tys Es) (B : DB D A ws s H locs) (q0 : Nat) {fs : List Value} {v : Value} (he : ws[q0]? = some (a, .inr (12, fs))) (hv : fs[10]? = some v) (hdg : decode cX12_behindOf pc = .ok (.getfield 141, 3)) (kk : W p l e R s m args below meth c H locs cells slots Q (F0 m (pc + 3) ls (v :: rest))) : W p l e R s m args below meth c H locs cells slots Q (F0 m pc ls (.ref a :: rest)) :=
  k_get (Cn := RX12) (T := TX12) (N := 25) (index := 141) C B iX12_behindOf_X12 rfl 10 (by decide) (by decide +kernel) q0 he hv hdg kk
section
variable {p : Program} {l : Launch} {e : Env} {s : State} {m : MethodId} {args : Array Value} {below : List Frame} {meth : Method} {c : Code} {D : va_G} {A : Nat → Prop} {Es : (Nat → Nat) × (Nat → Nat)} {a b : Nat → Nat} {cI cJ cT : ClassId}
set_option maxHeartbeats 4000000 in
set_option maxRecDepth 100000 in
theorem qX12_behindOf_4 (C : CT p s m args meth c RX12 cX12_behindOf 4 (some .int) wsX12_behindOf D A (tyl cI cJ cT) Es) {N : Nat} {mo_signs : Nat → Int32} {mo_signMany : Int32} {mo_nodeSign : Nat → Int32} {mo_nodeOn : Nat → Int32} {mo_nodeSize : Nat → Int32} {mo_nodeMany : Nat → Int32} {mo_due : Nat → Int32} {mo_openNode : Nat → Int32} {mo_value : Nat → Int32} {mo_isLaid : Int32} {mo_changes : Int32} {mo_changeNode : Nat → Int32} {mo_changeSign : Nat → Int32} {mo_differs : Nat → Int32} {mo_results : Nat → Int32} {mo_own : Nat → Int32} {mo_kinds : Nat → Int32} {mo_testInputs : Nat → Int32} {mo_testDue : Nat → Int32} {mo_tests : Int32} {mo_noticed : Nat → Int32} {mo_missed : Nat → Int32} {mo_leastFrom : Nat → Int32} {mo_blameUpper : Nat → Int32} {mo_blameLower : Nat → Int32} {z_r : Int32} : ∀ (n : Nat) (x1 : Int32) (x2 : Int32) (x3 : Int32), bX12_behindOf_4 N mo_changes mo_noticed n x1 x2 x3 = some z_r → ∀ (H : Heap) (locs : List Loc) (ls : Array Slot), DB D A (wd_mo a b cI cJ cT mo_signs mo_signMany mo_nodeSign mo_nodeOn mo_nodeSize mo_nodeMany mo_due mo_openNode mo_value mo_isLaid mo_changes mo_changeNode mo_changeSign mo_differs mo_results mo_own mo_kinds mo_testInputs mo_testDue mo_tests mo_noticed mo_missed mo_leastFrom mo_blameUpper mo_blameLower) s H locs → lv_has ls 4 [(0, .ref (b 0)), (1, .int x1), (2, .int x2), (3, .int x3)] → W p l e rmX12_behindOf s m args below meth c H locs 0 0 (ZI below args s D A (tyl cI cJ cT) z_r (wd_mo a b cI cJ cT mo_signs mo_signMany mo_nodeSign mo_nodeOn mo_nodeSize mo_nodeMany mo_due mo_openNode mo_value mo_isLaid mo_changes mo_changeNode mo_changeSign mo_differs mo_results mo_own mo_kinds mo_testInputs mo_testDue mo_tests mo_noticed mo_missed mo_leastFrom mo_blameUpper mo_blameLower) 0 0) (F0 m 4 ls []) := by
  have hx := C.1.1
  have hb := C.1.2.1
  have hown := C.1.2.2.2.1
  have hts := C.1.2.2.2.2
  intro n
  induction n with
  | zero => intro x1 x2 x3 h; cases h
  | succ n ih =>
    intro x1 x2 x3 h H locs ls B hl
    rw [bX12_behindOf_4] at h
    refine lv_iload_n hx hb dX12_behindOf_4 rfl (lv_at hl 3 rfl) ?_
    refine lv_aload_n hx hb dX12_behindOf_5 rfl (lv_at hl 0 rfl) ?_
    refine gfX12_behindOf_141 C B 0 rfl rfl dX12_behindOf_6 ?_
    refine lv_icmp_ge (tgt := 35) hx hb dX12_behindOf_9 (by decide) (fun c_1 => ?_) (fun c_1 => ?_)
    · rw [if_pos c_1] at h
      refine lv_iload_n hx hb dX12_behindOf_35 rfl (lv_at hl 2 rfl) ?_
      cases h
      exact k_iret C B dX12_behindOf_36
    · rw [if_neg c_1] at h
      refine lv_iload_n hx hb dX12_behindOf_12 rfl (lv_at hl 2 rfl) ?_
      refine lv_aload_n hx hb dX12_behindOf_13 rfl (lv_at hl 0 rfl) ?_
      refine lv_iload_n hx hb dX12_behindOf_14 rfl (lv_at hl 1 rfl) ?_
      refine lv_iload_n hx hb dX12_behindOf_15 rfl (lv_at hl 3 rfl) ?_
      obtain ⟨r_2, g_4, h⟩ := ob_some h
      try dsimp only at h
      refine kc_VI C B (q0 := 0) (ci := 12) (As := [.int x1, .int x3]) (rest := [.int x2]) (w2 := (wd_mo a b cI cJ cT mo_signs mo_signMany mo_nodeSign mo_nodeOn mo_nodeSize mo_nodeMany mo_due mo_openNode mo_value mo_isLaid mo_changes mo_changeNode mo_changeSign mo_differs mo_results mo_own mo_kinds mo_testInputs mo_testDue mo_tests mo_noticed mo_missed mo_leastFrom mo_blameUpper mo_blameLower)) (tX12_isBehind (a := a) (b := b) N g_4) gX12_behindOf_X12_isBehind rfl ⟨rfl, rfl⟩ ⟨rfl, hdX12_isBehind⟩ ⟨Nat.le_of_ble_eq_true rfl, Nat.le_of_ble_eq_true rfl⟩ rfl rfl [0, 1, 2, 3, 4, 5, 6, 7, 8, 9, 10, 11, 12, 13, 14, 15, 16, 17, 18, 19, 20, 21] [] [0, 1, 2, 3, 4, 5, 6, 7, 8, 9, 10, 11, 12, 13, 14, 15, 16, 17, 18, 19, 20, 21] rfl rfl rfl rfl rfl rfl rfl rfl hl.1 rfl (Nat.le_of_ble_eq_true rfl) ⟨Nat.zero_le _, Nat.zero_le _⟩ dX12_behindOf_16 (fun H locs B => ?_)
      refine lv_if_eq (tgt := 26) hx hb dX12_behindOf_19 (by decide) (fun c_3 => ?_) (fun c_3 => ?_)
      · rw [if_pos c_3] at h
        refine lv_iconst (v := 0) hx hb dX12_behindOf_26 (by decide) ?_
        refine lv_iadd hx hb dX12_behindOf_27 ?_
        refine lv_istore_n (lv' := [(2, .int (x2 + (0 : Int32))), (0, .ref (b 0)), (1, .int x1), (3, .int x3)]) hx hb dX12_behindOf_28 rfl hl (by decide) rfl (fun ls hl => ?_)
        refine lv_iinc (v := (x3 + 1)) (lv' := [(3, .int (x3 + 1)), (2, .int (x2 + (0 : Int32))), (0, .ref (b 0)), (1, .int x1)]) hx hb dX12_behindOf_29 hl (k := 3) rfl rfl (by decide) rfl (fun ls hl => ?_)
        refine lv_goto (tgt := 4) hx hb dX12_behindOf_32 (by decide) ?_
        exact ih x1 (x2 + (0 : Int32)) (x3 + 1) h H locs ls B (lv_sub hl [2, 3, 1, 0] rfl)
      · rw [if_neg c_3] at h
        refine lv_iconst (v := 1) hx hb dX12_behindOf_22 (by decide) ?_
        refine lv_goto (tgt := 27) hx hb dX12_behindOf_23 (by decide) ?_
        refine lv_iadd hx hb dX12_behindOf_27 ?_
        refine lv_istore_n (lv' := [(2, .int (x2 + (1 : Int32))), (0, .ref (b 0)), (1, .int x1), (3, .int x3)]) hx hb dX12_behindOf_28 rfl hl (by decide) rfl (fun ls hl => ?_)
        refine lv_iinc (v := (x3 + 1)) (lv' := [(3, .int (x3 + 1)), (2, .int (x2 + (1 : Int32))), (0, .ref (b 0)), (1, .int x1)]) hx hb dX12_behindOf_29 hl (k := 3) rfl rfl (by decide) rfl (fun ls hl => ?_)
        refine lv_goto (tgt := 4) hx hb dX12_behindOf_32 (by decide) ?_
        exact ih x1 (x2 + (1 : Int32)) (x3 + 1) h H locs ls B (lv_sub hl [2, 3, 1, 0] rfl)
set_option maxHeartbeats 4000000 in
set_option maxRecDepth 100000 in
theorem qX12_behindOf_0 (C : CT p s m args meth c RX12 cX12_behindOf 4 (some .int) wsX12_behindOf D A (tyl cI cJ cT) Es) {N : Nat} {mo_signs : Nat → Int32} {mo_signMany : Int32} {mo_nodeSign : Nat → Int32} {mo_nodeOn : Nat → Int32} {mo_nodeSize : Nat → Int32} {mo_nodeMany : Nat → Int32} {mo_due : Nat → Int32} {mo_openNode : Nat → Int32} {mo_value : Nat → Int32} {mo_isLaid : Int32} {mo_changes : Int32} {mo_changeNode : Nat → Int32} {mo_changeSign : Nat → Int32} {mo_differs : Nat → Int32} {mo_results : Nat → Int32} {mo_own : Nat → Int32} {mo_kinds : Nat → Int32} {mo_testInputs : Nat → Int32} {mo_testDue : Nat → Int32} {mo_tests : Int32} {mo_noticed : Nat → Int32} {mo_missed : Nat → Int32} {mo_leastFrom : Nat → Int32} {mo_blameUpper : Nat → Int32} {mo_blameLower : Nat → Int32} {z_r : Int32} : ∀ (x1 : Int32), fX12_behindOf N mo_changes mo_noticed x1 = some z_r → ∀ (H : Heap) (locs : List Loc) (ls : Array Slot), DB D A (wd_mo a b cI cJ cT mo_signs mo_signMany mo_nodeSign mo_nodeOn mo_nodeSize mo_nodeMany mo_due mo_openNode mo_value mo_isLaid mo_changes mo_changeNode mo_changeSign mo_differs mo_results mo_own mo_kinds mo_testInputs mo_testDue mo_tests mo_noticed mo_missed mo_leastFrom mo_blameUpper mo_blameLower) s H locs → lv_has ls 4 [(0, .ref (b 0)), (1, .int x1)] → W p l e rmX12_behindOf s m args below meth c H locs 0 0 (ZI below args s D A (tyl cI cJ cT) z_r (wd_mo a b cI cJ cT mo_signs mo_signMany mo_nodeSign mo_nodeOn mo_nodeSize mo_nodeMany mo_due mo_openNode mo_value mo_isLaid mo_changes mo_changeNode mo_changeSign mo_differs mo_results mo_own mo_kinds mo_testInputs mo_testDue mo_tests mo_noticed mo_missed mo_leastFrom mo_blameUpper mo_blameLower) 0 0) (F0 m 0 ls []) := by
  have hx := C.1.1
  have hb := C.1.2.1
  have hown := C.1.2.2.2.1
  have hts := C.1.2.2.2.2
  intro x1 h H locs ls B hl
  rw [fX12_behindOf] at h
  refine lv_iconst (v := 0) hx hb dX12_behindOf_0 (by decide) ?_
  refine lv_istore_n (lv' := [(2, .int (0 : Int32)), (0, .ref (b 0)), (1, .int x1)]) hx hb dX12_behindOf_1 rfl hl (by decide) rfl (fun ls hl => ?_)
  refine lv_iconst (v := 0) hx hb dX12_behindOf_2 (by decide) ?_
  refine lv_istore_n (lv' := [(3, .int (0 : Int32)), (2, .int (0 : Int32)), (0, .ref (b 0)), (1, .int x1)]) hx hb dX12_behindOf_3 rfl hl (by decide) rfl (fun ls hl => ?_)
  exact qX12_behindOf_4 C N x1 (0 : Int32) (0 : Int32) h H locs ls B (lv_sub hl [2, 3, 1, 0] rfl)
end
theorem tX12_behindOf {l : Launch} {D : va_G} {Es : (Nat → Nat) × (Nat → Nat)} {a b : Nat → Nat} {cI cJ cT : ClassId} {mo_signs : Nat → Int32} {mo_signMany : Int32} {mo_nodeSign : Nat → Int32} {mo_nodeOn : Nat → Int32} {mo_nodeSize : Nat → Int32} {mo_nodeMany : Nat → Int32} {mo_due : Nat → Int32} {mo_openNode : Nat → Int32} {mo_value : Nat → Int32} {mo_isLaid : Int32} {mo_changes : Int32} {mo_changeNode : Nat → Int32} {mo_changeSign : Nat → Int32} {mo_differs : Nat → Int32} {mo_results : Nat → Int32} {mo_own : Nat → Int32} {mo_kinds : Nat → Int32} {mo_testInputs : Nat → Int32} {mo_testDue : Nat → Int32} {mo_tests : Int32} {mo_noticed : Nat → Int32} {mo_missed : Nat → Int32} {mo_leastFrom : Nat → Int32} {mo_blameUpper : Nat → Int32} {mo_blameLower : Nat → Int32} {x1 : Int32} {z_r : Int32} (N : Nat) (h : fX12_behindOf N mo_changes mo_noticed x1 = some z_r) : CtI l yX12_behindOf wsX12_behindOf rmX12_behindOf D (tyl cI cJ cT) Es [.ref (b 0), .int x1] (wd_mo a b cI cJ cT mo_signs mo_signMany mo_nodeSign mo_nodeOn mo_nodeSize mo_nodeMany mo_due mo_openNode mo_value mo_isLaid mo_changes mo_changeNode mo_changeSign mo_differs mo_results mo_own mo_kinds mo_testInputs mo_testDue mo_tests mo_noticed mo_missed mo_leastFrom mo_blameUpper mo_blameLower) z_r (wd_mo a b cI cJ cT mo_signs mo_signMany mo_nodeSign mo_nodeOn mo_nodeSize mo_nodeMany mo_due mo_openNode mo_value mo_isLaid mo_changes mo_changeNode mo_changeSign mo_differs mo_results mo_own mo_kinds mo_testInputs mo_testDue mo_tests mo_noticed mo_missed mo_leastFrom mo_blameUpper mo_blameLower) :=
  CtI.of (own := RX12) (cc := cX12_behindOf) (nL := 4) (ret := (some .int)) (by decide +kernel) rfl rfl (Nat.le_of_ble_eq_true rfl) rfl (fun p e s m below meth c A ls C B hl => qX12_behindOf_0 C (N := N) x1 h _ _ _ B hl)

abbrev rmX12_change : Room := { frames := 6, cells := 0, slots := 0, locals := 140 }
theorem hdX12_change : yX12_change.cls ≠ "java/lang/invoke/MethodHandle" ∧ yX12_change.cls ≠ "java/lang/invoke/VarHandle" ∧ (parseMethodDescriptor yX12_change.desc).map (fun d => d.parameters.length) = some 2 := by decide +kernel
theorem iX12_change_X12 : ∀ w ∈ wsX120, w ∈ wsX12_change := by decide +kernel
theorem gfX12_change_34 {p : Program} {l : Launch} {e : Env} {R : Room} {s : State} {m : MethodId} {args : Array Value} {below : List Frame} {meth : Method} {c : Code} {H : Heap} {locs : List Loc} {cells slots : Nat} {Q : State → Prop} {D : va_G} {A : Nat → Prop} {tys : List (ClassId × FieldType)} {Es : (Nat → Nat) × (Nat → Nat)} {ws : va_W} {pc : Nat} {ls : Array Slot} {rest : List Value} {a : Nat} (C : CT p s m args meth c RX12 cX12_change 3 (some .int) wsX12_change D A tys Es) (B : DB D A ws s H locs) (q0 : Nat) {fs : List Value} {v : Value} (he : ws[q0]? = some (a, .inr (12, fs))) (hv : fs[11]? = some v) (hdg : decode cX12_change pc = .ok (.getfield 34, 3)) (kk : W p l e R s m args below meth c H locs cells slots Q (F0 m (pc + 3) ls (v :: rest))) : W p l e R s m args below meth c H locs cells slots Q (F0 m pc ls (.ref a :: rest)) :=
  k_get (Cn := RX12) (T := TX12) (N := 25) (index := 34) C B iX12_change_X12 rfl 11 (by decide) (by decide +kernel) q0 he hv hdg kk
theorem gfX12_change_37 {p : Program} {l : Launch} {e : Env} {R : Room} {s : State} {m : MethodId} {args : Array Value} {below : List Frame} {meth : Method} {c : Code} {H : Heap} {locs : List Loc} {cells slots : Nat} {Q : State → Prop} {D : va_G} {A : Nat → Prop} {tys : List (ClassId × FieldType)} {Es : (Nat → Nat) × (Nat → Nat)} {ws : va_W} {pc : Nat} {ls : Array Slot} {rest : List Value} {a : Nat} (C : CT p s m args meth c RX12 cX12_change 3 (some .int) wsX12_change D A tys Es) (B : DB D A ws s H locs) (q0 : Nat) {fs : List Value} {v : Value} (he : ws[q0]? = some (a, .inr (12, fs))) (hv : fs[12]? = some v) (hdg : decode cX12_change pc = .ok (.getfield 37, 3)) (kk : W p l e R s m args below meth c H locs cells slots Q (F0 m (pc + 3) ls (v :: rest))) : W p l e R s m args below meth c H locs cells slots Q (F0 m pc ls (.ref a :: rest)) :=
  k_get (Cn := RX12) (T := TX12) (N := 25) (index := 37) C B iX12_change_X12 rfl 12 (by decide) (by decide +kernel) q0 he hv hdg kk
theorem gfX12_change_40 {p : Program} {l : Launch} {e : Env} {R : Room} {s : State} {m : MethodId} {args : Array Value} {below : List Frame} {meth : Method} {c : Code} {H : Heap} {locs : List Loc} {cells slots : Nat} {Q : State → Prop} {D : va_G} {A : Nat → Prop} {tys : List (ClassId × FieldType)} {Es : (Nat → Nat) × (Nat → Nat)} {ws : va_W} {pc : Nat} {ls : Array Slot} {rest : List Value} {a : Nat} (C : CT p s m args meth c RX12 cX12_change 3 (some .int) wsX12_change D A tys Es) (B : DB D A ws s H locs) (q0 : Nat) {fs : List Value} {v : Value} (he : ws[q0]? = some (a, .inr (12, fs))) (hv : fs[13]? = some v) (hdg : decode cX12_change pc = .ok (.getfield 40, 3)) (kk : W p l e R s m args below meth c H locs cells slots Q (F0 m (pc + 3) ls (v :: rest))) : W p l e R s m args below meth c H locs cells slots Q (F0 m pc ls (.ref a :: rest)) :=
  k_get (Cn := RX12) (T := TX12) (N := 25) (index := 40) C B iX12_change_X12 rfl 13 (by decide) (by decide +kernel) q0 he hv hdg kk
theorem gfX12_change_59 {p : Program} {l : Launch} {e : Env} {R : Room} {s : State} {m : MethodId} {args : Array Value} {below : List Frame} {meth : Method} {c : Code} {H : Heap} {locs : List Loc} {cells slots : Nat} {Q : State → Prop} {D : va_G} {A : Nat → Prop} {tys : List (ClassId × FieldType)} {Es : (Nat → Nat) × (Nat → Nat)} {ws : va_W} {pc : Nat} {ls : Array Slot} {rest : List Value} {a : Nat} (C : CT p s m args meth c RX12 cX12_change 3 (some .int) wsX12_change D A tys Es) (B : DB D A ws s H locs) (q0 : Nat) {fs : List Value} {v : Value} (he : ws[q0]? = some (a, .inr (12, fs))) (hv : fs[20]? = some v) (hdg : decode cX12_change pc = .ok (.getfield 59, 3)) (kk : W p l e R s m args below meth c H locs cells slots Q (F0 m (pc + 3) ls (v :: rest))) : W p l e R s m args below meth c H locs cells slots Q (F0 m pc ls (.ref a :: rest)) :=
  k_get (Cn := RX12) (T := TX12) (N := 25) (index := 59) C B iX12_change_X12 rfl 20 (by decide) (by decide +kernel) q0 he hv hdg kk
theorem gfX12_change_141 {p : Program} {l : Launch} {e : Env} {R : Room} {s : State} {m : MethodId} {args : Array Value} {below : List Frame} {meth : Method} {c : Code} {H : Heap} {locs : List Loc} {cells slots : Nat} {Q : State → Prop} {D : va_G} {A : Nat → Prop} {tys : List (ClassId × FieldType)} {Es : (Nat → Nat) × (Nat → Nat)} {ws : va_W} {pc : Nat} {ls : Array Slot} {rest : List Value} {a : Nat} (C : CT p s m args meth c RX12 cX12_change 3 (some .int) wsX12_change D A tys Es) (B : DB D A ws s H locs) (q0 : Nat) {fs : List Value} {v : Value} (he : ws[q0]? = some (a, .inr (12, fs))) (hv : fs[10]? = some v) (hdg : decode cX12_change pc = .ok (.getfield 141, 3)) (kk : W p l e R s m args below meth c H locs cells slots Q (F0 m (pc + 3) ls (v :: rest))) : W p l e R s m args below meth c H locs cells slots Q (F0 m pc ls (.ref a :: rest)) :=
  k_get (Cn := RX12) (T := TX12) (N := 25) (index := 141) C B iX12_change_X12 rfl 10 (by decide) (by decide +kernel) q0 he hv hdg kk
section
variable {p : Program} {l : Launch} {e : Env} {s : State} {m : MethodId} {args : Array Value} {below : List Frame} {meth : Method} {c : Code} {D : va_G} {A : Nat → Prop} {Es : (Nat → Nat) × (Nat → Nat)} {a b : Nat → Nat} {cI cJ cT : ClassId}
set_option maxHeartbeats 4000000 in
set_option maxRecDepth 100000 in
theorem qX12_change_0 (C : CT p s m args meth c RX12 cX12_change 3 (some .int) wsX12_change D A (tyl cI cJ cT) Es) {N : Nat} {mo_signs : Nat → Int32} {mo_signMany : Int32} {mo_nodeSign : Nat → Int32} {mo_nodeOn : Nat → Int32} {mo_nodeSize : Nat → Int32} {mo_nodeMany : Nat → Int32} {mo_due : Nat → Int32} {mo_openNode : Nat → Int32} {mo_kinds : Nat → Int32} {mo_testInputs : Nat → Int32} {mo_testDue : Nat → Int32} {mo_tests : Int32} {mo_missed : Nat → Int32} {mo_leastFrom : Nat → Int32} {mo_blameUpper : Nat → Int32} {mo_blameLower : Nat → Int32} {z_r : Int32} {z_mo_value : Nat → Int32} {z_mo_isLaid : Int32} {z_mo_changes : Int32} {z_mo_changeNode : Nat → Int32} {z_mo_changeSign : Nat → Int32} {z_mo_differs : Nat → Int32} {z_mo_results : Nat → Int32} {z_mo_own : Nat → Int32} {z_mo_noticed : Nat → Int32} : ∀ (x1 : Int32) (x2 : Int32) (mo_value : Nat → Int32) (mo_isLaid : Int32) (mo_changes : Int32) (mo_changeNode : Nat → Int32) (mo_changeSign : Nat → Int32) (mo_differs : Nat → Int32) (mo_results : Nat → Int32) (mo_own : Nat → Int32) (mo_noticed : Nat → Int32), fX12_change N mo_nodeSign mo_nodeSize mo_nodeMany mo_kinds mo_testInputs mo_tests x1 x2 mo_value mo_isLaid mo_changes mo_changeNode mo_changeSign mo_differs mo_results mo_own mo_noticed = some (z_r, z_mo_value, z_mo_isLaid, z_mo_changes, z_mo_changeNode, z_mo_changeSign, z_mo_differs, z_mo_results, z_mo_own, z_mo_noticed) → ∀ (H : Heap) (locs : List Loc) (ls : Array Slot), DB D A (wd_mo a b cI cJ cT mo_signs mo_signMany mo_nodeSign mo_nodeOn mo_nodeSize mo_nodeMany mo_due mo_openNode mo_value mo_isLaid mo_changes mo_changeNode mo_changeSign mo_differs mo_results mo_own mo_kinds mo_testInputs mo_testDue mo_tests mo_noticed mo_missed mo_leastFrom mo_blameUpper mo_blameLower) s H locs → lv_has ls 3 [(0, .ref (b 0)), (1, .int x1), (2, .int x2)] → W p l e rmX12_change s m args below meth c H locs 0 0 (ZI below args s D A (tyl cI cJ cT) z_r (wd_mo a b cI cJ cT mo_signs mo_signMany mo_nodeSign mo_nodeOn mo_nodeSize mo_nodeMany mo_due mo_openNode z_mo_value z_mo_isLaid z_mo_changes z_mo_changeNode z_mo_changeSign z_mo_differs z_mo_results z_mo_own mo_kinds mo_testInputs mo_testDue mo_tests z_mo_noticed mo_missed mo_leastFrom mo_blameUpper mo_blameLower) 0 0) (F0 m 0 ls []) := by
  have hx := C.1.1
  have hb := C.1.2.1
  have hown := C.1.2.2.2.1
  have hts := C.1.2.2.2.2
  intro x1 x2 mo_value mo_isLaid mo_changes mo_changeNode mo_changeSign mo_differs mo_results mo_own mo_noticed h H locs ls B hl
  rw [fX12_change] at h
  refine lv_aload_n hx hb dX12_change_0 rfl (lv_at hl 0 rfl) ?_
  obtain ⟨⟨mo_value_1, mo_isLaid_2, mo_changes_3, mo_changeNode_4, mo_changeSign_5, mo_differs_6, mo_results_7, mo_own_8, mo_noticed_9⟩, g_28, h⟩ := ob_some h
  try dsimp only at h
  refine kc_VV C B (q0 := 0) (ci := 12) (As := []) (rest := []) (w2 := (wd_mo a b cI cJ cT mo_signs mo_signMany mo_nodeSign mo_nodeOn mo_nodeSize mo_nodeMany mo_due mo_openNode mo_value_1 mo_isLaid_2 mo_changes_3 mo_changeNode_4 mo_changeSign_5 mo_differs_6 mo_results_7 mo_own_8 mo_kinds mo_testInputs mo_testDue mo_tests mo_noticed_9 mo_missed mo_leastFrom mo_blameUpper mo_blameLower)) (tX12_findNoticed (a := a) (b := b) N g_28) gX12_change_X12_findNoticed rfl ⟨rfl, rfl⟩ ⟨rfl, hdX12_findNoticed⟩ ⟨Nat.le_of_ble_eq_true rfl, Nat.le_of_ble_eq_true rfl⟩ rfl rfl [0, 1, 2, 3, 4, 5, 6, 7, 8, 9, 10, 11, 12, 13, 14, 15, 16, 17, 18, 19, 20, 21] [] [0, 1, 2, 3, 4, 5, 6, 7, 8, 9, 10, 11, 12, 13, 14, 15, 16, 17, 18, 19, 20, 21] rfl rfl rfl rfl rfl rfl rfl rfl hl.1 rfl (Nat.le_of_ble_eq_true rfl) ⟨Nat.zero_le _, Nat.zero_le _⟩ dX12_change_1 (fun H locs B => ?_)
  refine lv_iload_n hx hb dX12_change_4 rfl (lv_at hl 1 rfl) ?_
  refine lv_iconst (v := -1) hx hb dX12_change_5 (by decide) ?_
  refine lv_icmp_ne (tgt := 14) hx hb dX12_change_6 (by decide) (fun c_10 => ?_) (fun c_10 => ?_)
  · rw [if_neg c_10] at h
    refine lv_aload_n hx hb dX12_change_14 rfl (lv_at hl 0 rfl) ?_
    refine lv_iload_n hx hb dX12_change_15 rfl (lv_at hl 1 rfl) ?_
    obtain ⟨r_11, g_27, h⟩ := ob_some h
    try dsimp only at h
    refine kc_VI C B (q0 := 0) (ci := 12) (As := [.int x1]) (rest := []) (w2 := (wd_mo a b cI cJ cT mo_signs mo_signMany mo_nodeSign mo_nodeOn mo_nodeSize mo_nodeMany mo_due mo_openNode mo_value_1 mo_isLaid_2 mo_changes_3 mo_changeNode_4 mo_changeSign_5 mo_differs_6 mo_results_7 mo_own_8 mo_kinds mo_testInputs mo_testDue mo_tests mo_noticed_9 mo_missed mo_leastFrom mo_blameUpper mo_blameLower)) (tX12_isChange (a := a) (b := b) N g_27) gX12_change_X12_isChange rfl ⟨rfl, rfl⟩ ⟨rfl, hdX12_isChange⟩ ⟨Nat.le_of_ble_eq_true rfl, Nat.le_of_ble_eq_true rfl⟩ rfl rfl [0, 1, 2, 3, 4, 5, 6, 7, 8, 9, 10, 11, 12, 13, 14, 15, 16, 17, 18, 19, 20, 21] [] [0, 1, 2, 3, 4, 5, 6, 7, 8, 9, 10, 11, 12, 13, 14, 15, 16, 17, 18, 19, 20, 21] rfl rfl rfl rfl rfl rfl rfl rfl hl.1 rfl (Nat.le_of_ble_eq_true rfl) ⟨Nat.zero_le _, Nat.zero_le _⟩ dX12_change_16 (fun H locs B => ?_)
    refine lv_if_ne (tgt := 24) hx hb dX12_change_19 (by decide) (fun c_12 => ?_) (fun c_12 => ?_)
    · rw [if_neg c_12] at h
      refine lv_iload_n hx hb dX12_change_24 rfl (lv_at hl 2 rfl) ?_
      by_cases c_13 : x2 = 0
      · rw [if_pos c_13] at h
        refine lv_tableIn (off := 39) (tgt := 64) hx hb dX12_change_25 (by rw [c_13]; decide) (by rw [c_13]; decide) (by rw [c_13]; try rfl) (by decide) ?_
        refine lv_aload_n hx hb dX12_change_64 rfl (lv_at hl 0 rfl) ?_
        refine gfX12_change_34 C B 0 rfl rfl dX12_change_65 ?_
        refine lv_iload_n hx hb dX12_change_68 rfl (lv_at hl 1 rfl) ?_
        obtain ⟨b_14, h⟩ := bnd_some h
        refine k_iald C B 9 0 rfl rfl b_14 dX12_change_69 ?_
        cases h
        exact k_iret C B dX12_change_70
      · rw [if_neg c_13] at h
        by_cases c_15 : x2 = 1
        · rw [if_pos c_15] at h
          refine lv_tableIn (off := 46) (tgt := 71) hx hb dX12_change_25 (by rw [c_15]; decide) (by rw [c_15]; decide) (by rw [c_15]; try rfl) (by decide) ?_
          refine lv_aload_n hx hb dX12_change_71 rfl (lv_at hl 0 rfl) ?_
          refine gfX12_change_37 C B 0 rfl rfl dX12_change_72 ?_
          refine lv_iload_n hx hb dX12_change_75 rfl (lv_at hl 1 rfl) ?_
          obtain ⟨b_16, h⟩ := bnd_some h
          refine k_iald C B 10 0 rfl rfl b_16 dX12_change_76 ?_
          cases h
          exact k_iret C B dX12_change_77
        · rw [if_neg c_15] at h
          by_cases c_17 : x2 = 2
          · rw [if_pos c_17] at h
            refine lv_tableIn (off := 53) (tgt := 78) hx hb dX12_change_25 (by rw [c_17]; decide) (by rw [c_17]; decide) (by rw [c_17]; try rfl) (by decide) ?_
            refine lv_aload_n hx hb dX12_change_78 rfl (lv_at hl 0 rfl) ?_
            refine gfX12_change_40 C B 0 rfl rfl dX12_change_79 ?_
            refine lv_iload_n hx hb dX12_change_82 rfl (lv_at hl 1 rfl) ?_
            obtain ⟨b_18, h⟩ := bnd_some h
            refine k_iald C B 11 0 rfl rfl b_18 dX12_change_83 ?_
            cases h
            exact k_iret C B dX12_change_84
          · rw [if_neg c_17] at h
            by_cases c_19 : x2 = 3
            · rw [if_pos c_19] at h
              refine lv_tableIn (off := 60) (tgt := 85) hx hb dX12_change_25 (by rw [c_19]; decide) (by rw [c_19]; decide) (by rw [c_19]; try rfl) (by decide) ?_
              refine lv_aload_n hx hb dX12_change_85 rfl (lv_at hl 0 rfl) ?_
              refine gfX12_change_59 C B 0 rfl rfl dX12_change_86 ?_
              refine lv_iload_n hx hb dX12_change_89 rfl (lv_at hl 1 rfl) ?_
              obtain ⟨b_20, h⟩ := bnd_some h
              refine k_iald C B 17 0 rfl rfl b_20 dX12_change_90 ?_
              refine lv_if_eq (tgt := 98) hx hb dX12_change_91 (by decide) (fun c_21 => ?_) (fun c_21 => ?_)
              · rw [if_pos c_21] at h
                refine lv_iconst (v := 0) hx hb dX12_change_98 (by decide) ?_
                cases h
                exact k_iret C B dX12_change_99
              · rw [if_neg c_21] at h
                refine lv_iconst (v := 1) hx hb dX12_change_94 (by decide) ?_
                refine lv_goto (tgt := 99) hx hb dX12_change_95 (by decide) ?_
                cases h
                exact k_iret C B dX12_change_99
            · rw [if_neg c_19] at h
              by_cases c_22 : x2 = 4
              · rw [if_pos c_22] at h
                refine lv_tableIn (off := 75) (tgt := 100) hx hb dX12_change_25 (by rw [c_22]; decide) (by rw [c_22]; decide) (by rw [c_22]; try rfl) (by decide) ?_
                refine lv_aload_n hx hb dX12_change_100 rfl (lv_at hl 0 rfl) ?_
                refine gfX12_change_59 C B 0 rfl rfl dX12_change_101 ?_
                refine lv_iload_n hx hb dX12_change_104 rfl (lv_at hl 1 rfl) ?_
                obtain ⟨b_23, h⟩ := bnd_some h
                refine k_iald C B 17 0 rfl rfl b_23 dX12_change_105 ?_
                cases h
                exact k_iret C B dX12_change_106
              · rw [if_neg c_22] at h
                by_cases c_24 : x2 = 5
                · rw [if_pos c_24] at h
                  refine lv_tableIn (off := 82) (tgt := 107) hx hb dX12_change_25 (by rw [c_24]; decide) (by rw [c_24]; decide) (by rw [c_24]; try rfl) (by decide) ?_
                  refine lv_aload_n hx hb dX12_change_107 rfl (lv_at hl 0 rfl) ?_
                  refine lv_iload_n hx hb dX12_change_108 rfl (lv_at hl 1 rfl) ?_
                  obtain ⟨r_25, g_26, h⟩ := ob_some h
                  try dsimp only at h
                  refine kc_VI C B (q0 := 0) (ci := 12) (As := [.int x1]) (rest := []) (w2 := (wd_mo a b cI cJ cT mo_signs mo_signMany mo_nodeSign mo_nodeOn mo_nodeSize mo_nodeMany mo_due mo_openNode mo_value_1 mo_isLaid_2 mo_changes_3 mo_changeNode_4 mo_changeSign_5 mo_differs_6 mo_results_7 mo_own_8 mo_kinds mo_testInputs mo_testDue mo_tests mo_noticed_9 mo_missed mo_leastFrom mo_blameUpper mo_blameLower)) (tX12_behindOf (a := a) (b := b) N g_26) gX12_change_X12_behindOf rfl ⟨rfl, rfl⟩ ⟨rfl, hdX12_behindOf⟩ ⟨Nat.le_of_ble_eq_true rfl, Nat.le_of_ble_eq_true rfl⟩ rfl rfl [0, 1, 2, 3, 4, 5, 6, 7, 8, 9, 10, 11, 12, 13, 14, 15, 16, 17, 18, 19, 20, 21] [] [0, 1, 2, 3, 4, 5, 6, 7, 8, 9, 10, 11, 12, 13, 14, 15, 16, 17, 18, 19, 20, 21] rfl rfl rfl rfl rfl rfl rfl rfl hl.1 rfl (Nat.le_of_ble_eq_true rfl) ⟨Nat.zero_le _, Nat.zero_le _⟩ dX12_change_109 (fun H locs B => ?_)
                  cases h
                  exact k_iret C B dX12_change_112
                · rw [if_neg c_24] at h
                  refine lv_tableOut (tgt := 113) hx hb dX12_change_25 (tb_out 0 5 (by have := tb_ne c_13 (a := 0) rfl; have := tb_ne c_15 (a := 1) rfl; have := tb_ne c_17 (a := 2) rfl; have := tb_ne c_19 (a := 3) rfl; have := tb_ne c_22 (a := 4) rfl; have := tb_ne c_24 (a := 5) rfl; omega)) (by decide) ?_
                  refine lv_bipush (v := -2) hx hb dX12_change_113 (by decide) ?_
                  cases h
                  exact k_iret C B dX12_change_115
    · rw [if_pos c_12] at h
      refine lv_iconst (v := -1) hx hb dX12_change_22 (by decide) ?_
      cases h
      exact k_iret C B dX12_change_23
  · rw [if_pos c_10] at h
    refine lv_aload_n hx hb dX12_change_9 rfl (lv_at hl 0 rfl) ?_
    refine gfX12_change_141 C B 0 rfl rfl dX12_change_10 ?_
    cases h
    exact k_iret C B dX12_change_13
end
theorem tX12_change {l : Launch} {D : va_G} {Es : (Nat → Nat) × (Nat → Nat)} {a b : Nat → Nat} {cI cJ cT : ClassId} {mo_signs : Nat → Int32} {mo_signMany : Int32} {mo_nodeSign : Nat → Int32} {mo_nodeOn : Nat → Int32} {mo_nodeSize : Nat → Int32} {mo_nodeMany : Nat → Int32} {mo_due : Nat → Int32} {mo_openNode : Nat → Int32} {mo_value : Nat → Int32} {mo_isLaid : Int32} {mo_changes : Int32} {mo_changeNode : Nat → Int32} {mo_changeSign : Nat → Int32} {mo_differs : Nat → Int32} {mo_results : Nat → Int32} {mo_own : Nat → Int32} {mo_kinds : Nat → Int32} {mo_testInputs : Nat → Int32} {mo_testDue : Nat → Int32} {mo_tests : Int32} {mo_noticed : Nat → Int32} {mo_missed : Nat → Int32} {mo_leastFrom : Nat → Int32} {mo_blameUpper : Nat → Int32} {mo_blameLower : Nat → Int32} {x1 : Int32} {x2 : Int32} {z_r : Int32} {z_mo_value : Nat → Int32} {z_mo_isLaid : Int32} {z_mo_changes : Int32} {z_mo_changeNode : Nat → Int32} {z_mo_changeSign : Nat → Int32} {z_mo_differs : Nat → Int32} {z_mo_results : Nat → Int32} {z_mo_own : Nat → Int32} {z_mo_noticed : Nat → Int32} (N : Nat) (h : fX12_change N mo_nodeSign mo_nodeSize mo_nodeMany mo_kinds mo_testInputs mo_tests x1 x2 mo_value mo_isLaid mo_changes mo_changeNode mo_changeSign mo_differs mo_results mo_own mo_noticed = some (z_r, z_mo_value, z_mo_isLaid, z_mo_changes, z_mo_changeNode, z_mo_changeSign, z_mo_differs, z_mo_results, z_mo_own, z_mo_noticed)) : CtI l yX12_change wsX12_change rmX12_change D (tyl cI cJ cT) Es [.ref (b 0), .int x1, .int x2] (wd_mo a b cI cJ cT mo_signs mo_signMany mo_nodeSign mo_nodeOn mo_nodeSize mo_nodeMany mo_due mo_openNode mo_value mo_isLaid mo_changes mo_changeNode mo_changeSign mo_differs mo_results mo_own mo_kinds mo_testInputs mo_testDue mo_tests mo_noticed mo_missed mo_leastFrom mo_blameUpper mo_blameLower) z_r (wd_mo a b cI cJ cT mo_signs mo_signMany mo_nodeSign mo_nodeOn mo_nodeSize mo_nodeMany mo_due mo_openNode z_mo_value z_mo_isLaid z_mo_changes z_mo_changeNode z_mo_changeSign z_mo_differs z_mo_results z_mo_own mo_kinds mo_testInputs mo_testDue mo_tests z_mo_noticed mo_missed mo_leastFrom mo_blameUpper mo_blameLower) :=
  CtI.of (own := RX12) (cc := cX12_change) (nL := 3) (ret := (some .int)) (by decide +kernel) rfl rfl (Nat.le_of_ble_eq_true rfl) rfl (fun p e s m below meth c A ls C B hl => qX12_change_0 C (N := N) x1 x2 mo_value mo_isLaid mo_changes mo_changeNode mo_changeSign mo_differs mo_results mo_own mo_noticed h _ _ _ B hl)

abbrev rmX12_by : Room := { frames := 5, cells := 0, slots := 0, locals := 118 }
theorem hdX12_by : yX12_by.cls ≠ "java/lang/invoke/MethodHandle" ∧ yX12_by.cls ≠ "java/lang/invoke/VarHandle" ∧ (parseMethodDescriptor yX12_by.desc).map (fun d => d.parameters.length) = some 2 := by decide +kernel
theorem iX12_by_X12 : ∀ w ∈ wsX120, w ∈ wsX12_by := by decide +kernel
theorem gfX12_by_44 {p : Program} {l : Launch} {e : Env} {R : Room} {s : State} {m : MethodId} {args : Array Value} {below : List Frame} {meth : Method} {c : Code} {H : Heap} {locs : List Loc} {cells slots : Nat} {Q : State → Prop} {D : va_G} {A : Nat → Prop} {tys : List (ClassId × FieldType)} {Es : (Nat → Nat) × (Nat → Nat)} {ws : va_W} {pc : Nat} {ls : Array Slot} {rest : List Value} {a : Nat} (C : CT p s m args meth c RX12 cX12_by 3 (some .int) wsX12_by D A tys Es) (B : DB D A ws s H locs) (q0 : Nat) {fs : List Value} {v : Value} (he : ws[q0]? = some (a, .inr (12, fs))) (hv : fs[14]? = some v) (hdg : decode cX12_by pc = .ok (.getfield 44, 3)) (kk : W p l e R s m args below meth c H locs cells slots Q (F0 m (pc + 3) ls (v :: rest))) : W p l e R s m args below meth c H locs cells slots Q (F0 m pc ls (.ref a :: rest)) :=
  k_get (Cn := RX12) (T := TX12) (N := 25) (index := 44) C B iX12_by_X12 rfl 14 (by decide) (by decide +kernel) q0 he hv hdg kk
section
variable {p : Program} {l : Launch} {e : Env} {s : State} {m : MethodId} {args : Array Value} {below : List Frame} {meth : Method} {c : Code} {D : va_G} {A : Nat → Prop} {Es : (Nat → Nat) × (Nat → Nat)} {a b : Nat → Nat} {cI cJ cT : ClassId}
set_option maxHeartbeats 4000000 in
set_option maxRecDepth 100000 in
theorem qX12_by_0 (C : CT p s m args meth c RX12 cX12_by 3 (some .int) wsX12_by D A (tyl cI cJ cT) Es) {N : Nat} {mo_signs : Nat → Int32} {mo_signMany : Int32} {mo_nodeSign : Nat → Int32} {mo_nodeOn : Nat → Int32} {mo_nodeSize : Nat → Int32} {mo_nodeMany : Nat → Int32} {mo_due : Nat → Int32} {mo_openNode : Nat → Int32} {mo_kinds : Nat → Int32} {mo_testInputs : Nat → Int32} {mo_testDue : Nat → Int32} {mo_tests : Int32} {mo_noticed : Nat → Int32} {mo_missed : Nat → Int32} {mo_leastFrom : Nat → Int32} {mo_blameUpper : Nat → Int32} {mo_blameLower : Nat → Int32} {z_r : Int32} {z_mo_value : Nat → Int32} {z_mo_isLaid : Int32} {z_mo_changes : Int32} {z_mo_changeNode : Nat → Int32} {z_mo_changeSign : Nat → Int32} {z_mo_differs : Nat → Int32} {z_mo_results : Nat → Int32} {z_mo_own : Nat → Int32} : ∀ (x1 : Int32) (x2 : Int32) (mo_value : Nat → Int32) (mo_isLaid : Int32) (mo_changes : Int32) (mo_changeNode : Nat → Int32) (mo_changeSign : Nat → Int32) (mo_differs : Nat → Int32) (mo_results : Nat → Int32) (mo_own : Nat → Int32), fX12_by N mo_nodeSign mo_nodeSize mo_nodeMany mo_kinds x1 x2 mo_value mo_isLaid mo_changes mo_changeNode mo_changeSign mo_differs mo_results mo_own = some (z_r, z_mo_value, z_mo_isLaid, z_mo_changes, z_mo_changeNode, z_mo_changeSign, z_mo_differs, z_mo_results, z_mo_own) → ∀ (H : Heap) (locs : List Loc) (ls : Array Slot), DB D A (wd_mo a b cI cJ cT mo_signs mo_signMany mo_nodeSign mo_nodeOn mo_nodeSize mo_nodeMany mo_due mo_openNode mo_value mo_isLaid mo_changes mo_changeNode mo_changeSign mo_differs mo_results mo_own mo_kinds mo_testInputs mo_testDue mo_tests mo_noticed mo_missed mo_leastFrom mo_blameUpper mo_blameLower) s H locs → lv_has ls 3 [(0, .ref (b 0)), (1, .int x1), (2, .int x2)] → W p l e rmX12_by s m args below meth c H locs 0 0 (ZI below args s D A (tyl cI cJ cT) z_r (wd_mo a b cI cJ cT mo_signs mo_signMany mo_nodeSign mo_nodeOn mo_nodeSize mo_nodeMany mo_due mo_openNode z_mo_value z_mo_isLaid z_mo_changes z_mo_changeNode z_mo_changeSign z_mo_differs z_mo_results z_mo_own mo_kinds mo_testInputs mo_testDue mo_tests mo_noticed mo_missed mo_leastFrom mo_blameUpper mo_blameLower) 0 0) (F0 m 0 ls []) := by
  have hx := C.1.1
  have hb := C.1.2.1
  have hown := C.1.2.2.2.1
  have hts := C.1.2.2.2.2
  intro x1 x2 mo_value mo_isLaid mo_changes mo_changeNode mo_changeSign mo_differs mo_results mo_own h H locs ls B hl
  rw [fX12_by] at h
  refine lv_aload_n hx hb dX12_by_0 rfl (lv_at hl 0 rfl) ?_
  obtain ⟨⟨mo_value_1, mo_isLaid_2, mo_changes_3, mo_changeNode_4, mo_changeSign_5, mo_differs_6, mo_results_7, mo_own_8⟩, g_16, h⟩ := ob_some h
  try dsimp only at h
  refine kc_VV C B (q0 := 0) (ci := 12) (As := []) (rest := []) (w2 := (wd_mo a b cI cJ cT mo_signs mo_signMany mo_nodeSign mo_nodeOn mo_nodeSize mo_nodeMany mo_due mo_openNode mo_value_1 mo_isLaid_2 mo_changes_3 mo_changeNode_4 mo_changeSign_5 mo_differs_6 mo_results_7 mo_own_8 mo_kinds mo_testInputs mo_testDue mo_tests mo_noticed mo_missed mo_leastFrom mo_blameUpper mo_blameLower)) (tX12_layChanges (a := a) (b := b) N g_16) gX12_by_X12_layChanges rfl ⟨rfl, rfl⟩ ⟨rfl, hdX12_layChanges⟩ ⟨Nat.le_of_ble_eq_true rfl, Nat.le_of_ble_eq_true rfl⟩ rfl rfl [0, 1, 2, 3, 4, 5, 6, 7, 8, 9, 10, 11, 12, 13, 14, 15, 16, 17, 18, 19, 20, 21] [] [0, 1, 2, 3, 4, 5, 6, 7, 8, 9, 10, 11, 12, 13, 14, 15, 16, 17, 18, 19, 20, 21] rfl rfl rfl rfl rfl rfl rfl rfl hl.1 rfl (Nat.le_of_ble_eq_true rfl) ⟨Nat.zero_le _, Nat.zero_le _⟩ dX12_by_1 (fun H locs B => ?_)
  refine lv_aload_n hx hb dX12_by_4 rfl (lv_at hl 0 rfl) ?_
  refine lv_iload_n hx hb dX12_by_5 rfl (lv_at hl 1 rfl) ?_
  obtain ⟨r_9, g_15, h⟩ := ob_some h
  try dsimp only at h
  refine kc_VI C B (q0 := 0) (ci := 12) (As := [.int x1]) (rest := []) (w2 := (wd_mo a b cI cJ cT mo_signs mo_signMany mo_nodeSign mo_nodeOn mo_nodeSize mo_nodeMany mo_due mo_openNode mo_value_1 mo_isLaid_2 mo_changes_3 mo_changeNode_4 mo_changeSign_5 mo_differs_6 mo_results_7 mo_own_8 mo_kinds mo_testInputs mo_testDue mo_tests mo_noticed mo_missed mo_leastFrom mo_blameUpper mo_blameLower)) (tX12_isChange (a := a) (b := b) N g_15) gX12_by_X12_isChange rfl ⟨rfl, rfl⟩ ⟨rfl, hdX12_isChange⟩ ⟨Nat.le_of_ble_eq_true rfl, Nat.le_of_ble_eq_true rfl⟩ rfl rfl [0, 1, 2, 3, 4, 5, 6, 7, 8, 9, 10, 11, 12, 13, 14, 15, 16, 17, 18, 19, 20, 21] [] [0, 1, 2, 3, 4, 5, 6, 7, 8, 9, 10, 11, 12, 13, 14, 15, 16, 17, 18, 19, 20, 21] rfl rfl rfl rfl rfl rfl rfl rfl hl.1 rfl (Nat.le_of_ble_eq_true rfl) ⟨Nat.zero_le _, Nat.zero_le _⟩ dX12_by_6 (fun H locs B => ?_)
  refine lv_if_ne (tgt := 14) hx hb dX12_by_9 (by decide) (fun c_10 => ?_) (fun c_10 => ?_)
  · rw [if_neg c_10] at h
    refine lv_iload_n hx hb dX12_by_14 rfl (lv_at hl 2 rfl) ?_
    obtain ⟨r_11, g_14, h⟩ := ob_some h
    try dsimp only at h
    refine kc_SI C B (As := [.int x2]) (rest := []) (w2 := (wd_mo a b cI cJ cT mo_signs mo_signMany mo_nodeSign mo_nodeOn mo_nodeSize mo_nodeMany mo_due mo_openNode mo_value_1 mo_isLaid_2 mo_changes_3 mo_changeNode_4 mo_changeSign_5 mo_differs_6 mo_results_7 mo_own_8 mo_kinds mo_testInputs mo_testDue mo_tests mo_noticed mo_missed mo_leastFrom mo_blameUpper mo_blameLower)) (tX12_areInputs N g_14) gX12_by_X12_areInputs rfl ⟨rfl, rfl⟩ hdX12_areInputs ⟨Nat.le_of_ble_eq_true rfl, Nat.le_of_ble_eq_true rfl⟩ [] [0, 1, 2, 3, 4, 5, 6, 7, 8, 9, 10, 11, 12, 13, 14, 15, 16, 17, 18, 19, 20, 21] [0, 1, 2, 3, 4, 5, 6, 7, 8, 9, 10, 11, 12, 13, 14, 15, 16, 17, 18, 19, 20, 21] rfl rfl rfl rfl rfl rfl rfl rfl hl.1 rfl (Nat.le_of_ble_eq_true rfl) ⟨Nat.zero_le _, Nat.zero_le _⟩ dX12_by_15 (fun H locs B => ?_)
    refine lv_if_eq (tgt := 36) hx hb dX12_by_18 (by decide) (fun c_12 => ?_) (fun c_12 => ?_)
    · rw [if_pos c_12] at h
      refine lv_bipush (v := -2) hx hb dX12_by_36 (by decide) ?_
      cases h
      exact k_iret C B dX12_by_38
    · rw [if_neg c_12] at h
      refine lv_aload_n hx hb dX12_by_21 rfl (lv_at hl 0 rfl) ?_
      refine gfX12_by_44 C B 0 rfl rfl dX12_by_22 ?_
      refine lv_sipush (v := 512) hx hb dX12_by_25 (by decide) ?_
      refine lv_iload_n hx hb dX12_by_28 rfl (lv_at hl 1 rfl) ?_
      refine lv_imul hx hb dX12_by_29 ?_
      refine lv_iload_n hx hb dX12_by_30 rfl (lv_at hl 2 rfl) ?_
      refine lv_iadd hx hb dX12_by_31 ?_
      obtain ⟨b_13, h⟩ := bnd_some h
      refine k_iald C B 12 0 rfl rfl b_13 dX12_by_32 ?_
      refine lv_goto (tgt := 38) hx hb dX12_by_33 (by decide) ?_
      cases h
      exact k_iret C B dX12_by_38
  · rw [if_pos c_10] at h
    refine lv_iconst (v := -1) hx hb dX12_by_12 (by decide) ?_
    cases h
    exact k_iret C B dX12_by_13
end
theorem tX12_by {l : Launch} {D : va_G} {Es : (Nat → Nat) × (Nat → Nat)} {a b : Nat → Nat} {cI cJ cT : ClassId} {mo_signs : Nat → Int32} {mo_signMany : Int32} {mo_nodeSign : Nat → Int32} {mo_nodeOn : Nat → Int32} {mo_nodeSize : Nat → Int32} {mo_nodeMany : Nat → Int32} {mo_due : Nat → Int32} {mo_openNode : Nat → Int32} {mo_value : Nat → Int32} {mo_isLaid : Int32} {mo_changes : Int32} {mo_changeNode : Nat → Int32} {mo_changeSign : Nat → Int32} {mo_differs : Nat → Int32} {mo_results : Nat → Int32} {mo_own : Nat → Int32} {mo_kinds : Nat → Int32} {mo_testInputs : Nat → Int32} {mo_testDue : Nat → Int32} {mo_tests : Int32} {mo_noticed : Nat → Int32} {mo_missed : Nat → Int32} {mo_leastFrom : Nat → Int32} {mo_blameUpper : Nat → Int32} {mo_blameLower : Nat → Int32} {x1 : Int32} {x2 : Int32} {z_r : Int32} {z_mo_value : Nat → Int32} {z_mo_isLaid : Int32} {z_mo_changes : Int32} {z_mo_changeNode : Nat → Int32} {z_mo_changeSign : Nat → Int32} {z_mo_differs : Nat → Int32} {z_mo_results : Nat → Int32} {z_mo_own : Nat → Int32} (N : Nat) (h : fX12_by N mo_nodeSign mo_nodeSize mo_nodeMany mo_kinds x1 x2 mo_value mo_isLaid mo_changes mo_changeNode mo_changeSign mo_differs mo_results mo_own = some (z_r, z_mo_value, z_mo_isLaid, z_mo_changes, z_mo_changeNode, z_mo_changeSign, z_mo_differs, z_mo_results, z_mo_own)) : CtI l yX12_by wsX12_by rmX12_by D (tyl cI cJ cT) Es [.ref (b 0), .int x1, .int x2] (wd_mo a b cI cJ cT mo_signs mo_signMany mo_nodeSign mo_nodeOn mo_nodeSize mo_nodeMany mo_due mo_openNode mo_value mo_isLaid mo_changes mo_changeNode mo_changeSign mo_differs mo_results mo_own mo_kinds mo_testInputs mo_testDue mo_tests mo_noticed mo_missed mo_leastFrom mo_blameUpper mo_blameLower) z_r (wd_mo a b cI cJ cT mo_signs mo_signMany mo_nodeSign mo_nodeOn mo_nodeSize mo_nodeMany mo_due mo_openNode z_mo_value z_mo_isLaid z_mo_changes z_mo_changeNode z_mo_changeSign z_mo_differs z_mo_results z_mo_own mo_kinds mo_testInputs mo_testDue mo_tests mo_noticed mo_missed mo_leastFrom mo_blameUpper mo_blameLower) :=
  CtI.of (own := RX12) (cc := cX12_by) (nL := 3) (ret := (some .int)) (by decide +kernel) rfl rfl (Nat.le_of_ble_eq_true rfl) rfl (fun p e s m below meth c A ls C B hl => qX12_by_0 C (N := N) x1 x2 mo_value mo_isLaid mo_changes mo_changeNode mo_changeSign mo_differs mo_results mo_own h _ _ _ B hl)

abbrev rmX12_test : Room := { frames := 2, cells := 0, slots := 0, locals := 45 }
theorem hdX12_test : yX12_test.cls ≠ "java/lang/invoke/MethodHandle" ∧ yX12_test.cls ≠ "java/lang/invoke/VarHandle" ∧ (parseMethodDescriptor yX12_test.desc).map (fun d => d.parameters.length) = some 2 := by decide +kernel
theorem mX12_test_l170 : (Cond.constantLong RX12 170 (7)) ∈ wsX12_test := by decide +kernel
theorem iX12_test_X12 : ∀ w ∈ wsX120, w ∈ wsX12_test := by decide +kernel
theorem gfX12_test_155 {p : Program} {l : Launch} {e : Env} {R : Room} {s : State} {m : MethodId} {args : Array Value} {below : List Frame} {meth : Method} {c : Code} {H : Heap} {locs : List Loc} {cells slots : Nat} {Q : State → Prop} {D : va_G} {A : Nat → Prop} {tys : List (ClassId × FieldType)} {Es : (Nat → Nat) × (Nat → Nat)} {ws : va_W} {pc : Nat} {ls : Array Slot} {rest : List Value} {a : Nat} (C : CT p s m args meth c RX12 cX12_test 3 (some .int) wsX12_test D A tys Es) (B : DB D A ws s H locs) (q0 : Nat) {fs : List Value} {v : Value} (he : ws[q0]? = some (a, .inr (12, fs))) (hv : fs[19]? = some v) (hdg : decode cX12_test pc = .ok (.getfield 155, 3)) (kk : W p l e R s m args below meth c H locs cells slots Q (F0 m (pc + 3) ls (v :: rest))) : W p l e R s m args below meth c H locs cells slots Q (F0 m pc ls (.ref a :: rest)) :=
  k_get (Cn := RX12) (T := TX12) (N := 25) (index := 155) C B iX12_test_X12 rfl 19 (by decide) (by decide +kernel) q0 he hv hdg kk
theorem gfX12_test_53 {p : Program} {l : Launch} {e : Env} {R : Room} {s : State} {m : MethodId} {args : Array Value} {below : List Frame} {meth : Method} {c : Code} {H : Heap} {locs : List Loc} {cells slots : Nat} {Q : State → Prop} {D : va_G} {A : Nat → Prop} {tys : List (ClassId × FieldType)} {Es : (Nat → Nat) × (Nat → Nat)} {ws : va_W} {pc : Nat} {ls : Array Slot} {rest : List Value} {a : Nat} (C : CT p s m args meth c RX12 cX12_test 3 (some .int) wsX12_test D A tys Es) (B : DB D A ws s H locs) (q0 : Nat) {fs : List Value} {v : Value} (he : ws[q0]? = some (a, .inr (12, fs))) (hv : fs[17]? = some v) (hdg : decode cX12_test pc = .ok (.getfield 53, 3)) (kk : W p l e R s m args below meth c H locs cells slots Q (F0 m (pc + 3) ls (v :: rest))) : W p l e R s m args below meth c H locs cells slots Q (F0 m pc ls (.ref a :: rest)) :=
  k_get (Cn := RX12) (T := TX12) (N := 25) (index := 53) C B iX12_test_X12 rfl 17 (by decide) (by decide +kernel) q0 he hv hdg kk
theorem gfX12_test_56 {p : Program} {l : Launch} {e : Env} {R : Room} {s : State} {m : MethodId} {args : Array Value} {below : List Frame} {meth : Method} {c : Code} {H : Heap} {locs : List Loc} {cells slots : Nat} {Q : State → Prop} {D : va_G} {A : Nat → Prop} {tys : List (ClassId × FieldType)} {Es : (Nat → Nat) × (Nat → Nat)} {ws : va_W} {pc : Nat} {ls : Array Slot} {rest : List Value} {a : Nat} (C : CT p s m args meth c RX12 cX12_test 3 (some .int) wsX12_test D A tys Es) (B : DB D A ws s H locs) (q0 : Nat) {fs : List Value} {v : Value} (he : ws[q0]? = some (a, .inr (12, fs))) (hv : fs[18]? = some v) (hdg : decode cX12_test pc = .ok (.getfield 56, 3)) (kk : W p l e R s m args below meth c H locs cells slots Q (F0 m (pc + 3) ls (v :: rest))) : W p l e R s m args below meth c H locs cells slots Q (F0 m pc ls (.ref a :: rest)) :=
  k_get (Cn := RX12) (T := TX12) (N := 25) (index := 56) C B iX12_test_X12 rfl 18 (by decide) (by decide +kernel) q0 he hv hdg kk
theorem pfX12_test_155 {p : Program} {l : Launch} {e : Env} {R : Room} {s : State} {m : MethodId} {args : Array Value} {below : List Frame} {meth : Method} {c : Code} {H : Heap} {locs : List Loc} {cells slots : Nat} {Q : State → Prop} {D : va_G} {A : Nat → Prop} {tys : List (ClassId × FieldType)} {Es : (Nat → Nat) × (Nat → Nat)} {ws : va_W} {pc : Nat} {ls : Array Slot} {rest : List Value} {a : Nat} (C : CT p s m args meth c RX12 cX12_test 3 (some .int) wsX12_test D A tys Es) (B : DB D A ws s H locs) (q0 : Nat) {fs : List Value} {v : Value} (hn : narrow .int v = v) (hfit : fits .int v = true) (he : ws[q0]? = some (a, .inr (12, fs))) (hl : 19 < fs.length) (hdg : decode cX12_test pc = .ok (.putfield 155, 3)) (kk : ∀ (H1 : Heap) (locs1 : List Loc), DB D A (ws.set q0 (a, .inr (12, fs.set 19 v))) s H1 locs1 → W p l e R s m args below meth c H1 locs1 cells slots Q (F0 m (pc + 3) ls rest)) : W p l e R s m args below meth c H locs cells slots Q (F0 m pc ls (v :: .ref a :: rest)) :=
  k_put (Cn := RX12) (T := TX12) (N := 25) (index := 155) C B iX12_test_X12 rfl tyX12 tyX12_ok nmX12 19 (by decide) (by decide +kernel) rfl q0 (by decide +kernel) hn hfit he hl hdg kk
section
variable {p : Program} {l : Launch} {e : Env} {s : State} {m : MethodId} {args : Array Value} {below : List Frame} {meth : Method} {c : Code} {D : va_G} {A : Nat → Prop} {Es : (Nat → Nat) × (Nat → Nat)} {a b : Nat → Nat} {cI cJ cT : ClassId}
set_option maxHeartbeats 4000000 in
set_option maxRecDepth 100000 in
theorem qX12_test_0 (C : CT p s m args meth c RX12 cX12_test 3 (some .int) wsX12_test D A (tyl cI cJ cT) Es) {N : Nat} {mo_signs : Nat → Int32} {mo_signMany : Int32} {mo_nodeSign : Nat → Int32} {mo_nodeOn : Nat → Int32} {mo_nodeSize : Nat → Int32} {mo_nodeMany : Nat → Int32} {mo_due : Nat → Int32} {mo_openNode : Nat → Int32} {mo_value : Nat → Int32} {mo_isLaid : Int32} {mo_changes : Int32} {mo_changeNode : Nat → Int32} {mo_changeSign : Nat → Int32} {mo_differs : Nat → Int32} {mo_results : Nat → Int32} {mo_own : Nat → Int32} {mo_kinds : Nat → Int32} {mo_noticed : Nat → Int32} {mo_missed : Nat → Int32} {mo_leastFrom : Nat → Int32} {mo_blameUpper : Nat → Int32} {mo_blameLower : Nat → Int32} {z_r : Int32} {z_mo_testInputs : Nat → Int32} {z_mo_testDue : Nat → Int32} {z_mo_tests : Int32} : ∀ (x1 : Int32) (x2 : Int32) (mo_testInputs : Nat → Int32) (mo_testDue : Nat → Int32) (mo_tests : Int32), fX12_test N x1 x2 mo_testInputs mo_testDue mo_tests = some (z_r, z_mo_testInputs, z_mo_testDue, z_mo_tests) → ∀ (H : Heap) (locs : List Loc) (ls : Array Slot), DB D A (wd_mo a b cI cJ cT mo_signs mo_signMany mo_nodeSign mo_nodeOn mo_nodeSize mo_nodeMany mo_due mo_openNode mo_value mo_isLaid mo_changes mo_changeNode mo_changeSign mo_differs mo_results mo_own mo_kinds mo_testInputs mo_testDue mo_tests mo_noticed mo_missed mo_leastFrom mo_blameUpper mo_blameLower) s H locs → lv_has ls 3 [(0, .ref (b 0)), (1, .int x1), (2, .int x2)] → W p l e rmX12_test s m args below meth c H locs 0 0 (ZI below args s D A (tyl cI cJ cT) z_r (wd_mo a b cI cJ cT mo_signs mo_signMany mo_nodeSign mo_nodeOn mo_nodeSize mo_nodeMany mo_due mo_openNode mo_value mo_isLaid mo_changes mo_changeNode mo_changeSign mo_differs mo_results mo_own mo_kinds z_mo_testInputs z_mo_testDue z_mo_tests mo_noticed mo_missed mo_leastFrom mo_blameUpper mo_blameLower) 0 0) (F0 m 0 ls []) := by
  have hx := C.1.1
  have hb := C.1.2.1
  have hown := C.1.2.2.2.1
  have hts := C.1.2.2.2.2
  intro x1 x2 mo_testInputs mo_testDue mo_tests h H locs ls B hl
  rw [fX12_test] at h
  refine lv_iload_n hx hb dX12_test_0 rfl (lv_at hl 1 rfl) ?_
  obtain ⟨r_1, g_8, h⟩ := ob_some h
  try dsimp only at h
  refine kc_SI C B (As := [.int x1]) (rest := []) (w2 := (wd_mo a b cI cJ cT mo_signs mo_signMany mo_nodeSign mo_nodeOn mo_nodeSize mo_nodeMany mo_due mo_openNode mo_value mo_isLaid mo_changes mo_changeNode mo_changeSign mo_differs mo_results mo_own mo_kinds mo_testInputs mo_testDue mo_tests mo_noticed mo_missed mo_leastFrom mo_blameUpper mo_blameLower)) (tX12_areInputs N g_8) gX12_test_X12_areInputs rfl ⟨rfl, rfl⟩ hdX12_areInputs ⟨Nat.le_of_ble_eq_true rfl, Nat.le_of_ble_eq_true rfl⟩ [] [0, 1, 2, 3, 4, 5, 6, 7, 8, 9, 10, 11, 12, 13, 14, 15, 16, 17, 18, 19, 20, 21] [0, 1, 2, 3, 4, 5, 6, 7, 8, 9, 10, 11, 12, 13, 14, 15, 16, 17, 18, 19, 20, 21] rfl rfl rfl rfl rfl rfl rfl rfl hl.1 rfl (Nat.le_of_ble_eq_true rfl) ⟨Nat.zero_le _, Nat.zero_le _⟩ dX12_test_1 (fun H locs B => ?_)
  refine lv_if_eq (tgt := 19) hx hb dX12_test_4 (by decide) (fun c_2 => ?_) (fun c_2 => ?_)
  · rw [if_pos c_2] at h
    refine lv_bipush (v := -2) hx hb dX12_test_19 (by decide) ?_
    cases h
    exact k_iret C B dX12_test_21
  · rw [if_neg c_2] at h
    refine lv_iload_n hx hb dX12_test_7 rfl (lv_at hl 2 rfl) ?_
    refine lv_i2l (v := (Int32.toInt64 x2)) hx hb dX12_test_8 rfl ?_
    refine lv_lconst (v := 0) hx hb dX12_test_9 (by decide) ?_
    refine lv_ldc2 (v := 7) hx hb hown (hts _ mX12_test_l170) dX12_test_10 ?_
    obtain ⟨r_3, g_7, h⟩ := ob_some h
    try dsimp only at h
    refine kc_SI C B (As := [.long (Int32.toInt64 x2), .long (0 : Int64), .long (7 : Int64)]) (rest := []) (w2 := (wd_mo a b cI cJ cT mo_signs mo_signMany mo_nodeSign mo_nodeOn mo_nodeSize mo_nodeMany mo_due mo_openNode mo_value mo_isLaid mo_changes mo_changeNode mo_changeSign mo_differs mo_results mo_own mo_kinds mo_testInputs mo_testDue mo_tests mo_noticed mo_missed mo_leastFrom mo_blameUpper mo_blameLower)) (tX12_in N g_7) gX12_test_X12_in rfl ⟨rfl, rfl⟩ hdX12_in ⟨Nat.le_of_ble_eq_true rfl, Nat.le_of_ble_eq_true rfl⟩ [] [0, 1, 2, 3, 4, 5, 6, 7, 8, 9, 10, 11, 12, 13, 14, 15, 16, 17, 18, 19, 20, 21] [0, 1, 2, 3, 4, 5, 6, 7, 8, 9, 10, 11, 12, 13, 14, 15, 16, 17, 18, 19, 20, 21] rfl rfl rfl rfl rfl rfl rfl rfl hl.1 rfl (Nat.le_of_ble_eq_true rfl) ⟨Nat.zero_le _, Nat.zero_le _⟩ dX12_test_13 (fun H locs B => ?_)
    refine lv_if_ne (tgt := 22) hx hb dX12_test_16 (by decide) (fun c_4 => ?_) (fun c_4 => ?_)
    · rw [if_neg c_4] at h
      refine lv_aload_n hx hb dX12_test_22 rfl (lv_at hl 0 rfl) ?_
      refine gfX12_test_155 C B 0 rfl rfl dX12_test_23 ?_
      refine lv_bipush (v := 14) hx hb dX12_test_26 (by decide) ?_
      refine lv_icmp_ne (tgt := 34) hx hb dX12_test_28 (by decide) (fun c_5 => ?_) (fun c_5 => ?_)
      · rw [if_neg c_5] at h
        refine lv_aload_n hx hb dX12_test_34 rfl (lv_at hl 0 rfl) ?_
        refine gfX12_test_53 C B 0 rfl rfl dX12_test_35 ?_
        refine lv_aload_n hx hb dX12_test_38 rfl (lv_at hl 0 rfl) ?_
        refine gfX12_test_155 C B 0 rfl rfl dX12_test_39 ?_
        refine lv_iload_n hx hb dX12_test_42 rfl (lv_at hl 1 rfl) ?_
        obtain ⟨b_6, h⟩ := bnd_some h
        refine k_iast C B 15 0 rfl rfl b_6 dX12_test_43 (fun H locs B => ?_)
        have B : DB D A (wd_mo a b cI cJ cT mo_signs mo_signMany mo_nodeSign mo_nodeOn mo_nodeSize mo_nodeMany mo_due mo_openNode mo_value mo_isLaid mo_changes mo_changeNode mo_changeSign mo_differs mo_results mo_own mo_kinds (upd mo_testInputs (Int32.toNatClampNeg mo_tests) x1) mo_testDue mo_tests mo_noticed mo_missed mo_leastFrom mo_blameUpper mo_blameLower) s H locs := B
        refine lv_aload_n hx hb dX12_test_44 rfl (lv_at hl 0 rfl) ?_
        refine gfX12_test_56 C B 0 rfl rfl dX12_test_45 ?_
        refine lv_aload_n hx hb dX12_test_48 rfl (lv_at hl 0 rfl) ?_
        refine gfX12_test_155 C B 0 rfl rfl dX12_test_49 ?_
        refine lv_iload_n hx hb dX12_test_52 rfl (lv_at hl 2 rfl) ?_
        refine k_iast C B 16 0 rfl rfl b_6 dX12_test_53 (fun H locs B => ?_)
        have B : DB D A (wd_mo a b cI cJ cT mo_signs mo_signMany mo_nodeSign mo_nodeOn mo_nodeSize mo_nodeMany mo_due mo_openNode mo_value mo_isLaid mo_changes mo_changeNode mo_changeSign mo_differs mo_results mo_own mo_kinds (upd mo_testInputs (Int32.toNatClampNeg mo_tests) x1) (upd mo_testDue (Int32.toNatClampNeg mo_tests) x2) mo_tests mo_noticed mo_missed mo_leastFrom mo_blameUpper mo_blameLower) s H locs := B
        refine lv_aload_n hx hb dX12_test_54 rfl (lv_at hl 0 rfl) ?_
        refine lv_dup hx hb dX12_test_55 rfl ?_
        refine gfX12_test_155 C B 0 rfl rfl dX12_test_56 ?_
        refine lv_iconst (v := 1) hx hb dX12_test_59 (by decide) ?_
        refine lv_iadd hx hb dX12_test_60 ?_
        refine pfX12_test_155 C B 0 rfl (by rfl) rfl (Nat.le_of_ble_eq_true rfl) dX12_test_61 (fun H locs B => ?_)
        have B : DB D A (wd_mo a b cI cJ cT mo_signs mo_signMany mo_nodeSign mo_nodeOn mo_nodeSize mo_nodeMany mo_due mo_openNode mo_value mo_isLaid mo_changes mo_changeNode mo_changeSign mo_differs mo_results mo_own mo_kinds (upd mo_testInputs (Int32.toNatClampNeg mo_tests) x1) (upd mo_testDue (Int32.toNatClampNeg mo_tests) x2) (mo_tests + (1 : Int32)) mo_noticed mo_missed mo_leastFrom mo_blameUpper mo_blameLower) s H locs := B
        refine lv_aload_n hx hb dX12_test_64 rfl (lv_at hl 0 rfl) ?_
        refine gfX12_test_155 C B 0 rfl rfl dX12_test_65 ?_
        refine lv_iconst (v := 1) hx hb dX12_test_68 (by decide) ?_
        refine lv_isub hx hb dX12_test_69 ?_
        cases h
        exact k_iret C B dX12_test_70
      · rw [if_pos c_5] at h
        refine lv_bipush (v := -4) hx hb dX12_test_31 (by decide) ?_
        cases h
        exact k_iret C B dX12_test_33
    · rw [if_pos c_4] at h
      refine lv_bipush (v := -2) hx hb dX12_test_19 (by decide) ?_
      cases h
      exact k_iret C B dX12_test_21
end
theorem tX12_test {l : Launch} {D : va_G} {Es : (Nat → Nat) × (Nat → Nat)} {a b : Nat → Nat} {cI cJ cT : ClassId} {mo_signs : Nat → Int32} {mo_signMany : Int32} {mo_nodeSign : Nat → Int32} {mo_nodeOn : Nat → Int32} {mo_nodeSize : Nat → Int32} {mo_nodeMany : Nat → Int32} {mo_due : Nat → Int32} {mo_openNode : Nat → Int32} {mo_value : Nat → Int32} {mo_isLaid : Int32} {mo_changes : Int32} {mo_changeNode : Nat → Int32} {mo_changeSign : Nat → Int32} {mo_differs : Nat → Int32} {mo_results : Nat → Int32} {mo_own : Nat → Int32} {mo_kinds : Nat → Int32} {mo_testInputs : Nat → Int32} {mo_testDue : Nat → Int32} {mo_tests : Int32} {mo_noticed : Nat → Int32} {mo_missed : Nat → Int32} {mo_leastFrom : Nat → Int32} {mo_blameUpper : Nat → Int32} {mo_blameLower : Nat → Int32} {x1 : Int32} {x2 : Int32} {z_r : Int32} {z_mo_testInputs : Nat → Int32} {z_mo_testDue : Nat → Int32} {z_mo_tests : Int32} (N : Nat) (h : fX12_test N x1 x2 mo_testInputs mo_testDue mo_tests = some (z_r, z_mo_testInputs, z_mo_testDue, z_mo_tests)) : CtI l yX12_test wsX12_test rmX12_test D (tyl cI cJ cT) Es [.ref (b 0), .int x1, .int x2] (wd_mo a b cI cJ cT mo_signs mo_signMany mo_nodeSign mo_nodeOn mo_nodeSize mo_nodeMany mo_due mo_openNode mo_value mo_isLaid mo_changes mo_changeNode mo_changeSign mo_differs mo_results mo_own mo_kinds mo_testInputs mo_testDue mo_tests mo_noticed mo_missed mo_leastFrom mo_blameUpper mo_blameLower) z_r (wd_mo a b cI cJ cT mo_signs mo_signMany mo_nodeSign mo_nodeOn mo_nodeSize mo_nodeMany mo_due mo_openNode mo_value mo_isLaid mo_changes mo_changeNode mo_changeSign mo_differs mo_results mo_own mo_kinds z_mo_testInputs z_mo_testDue z_mo_tests mo_noticed mo_missed mo_leastFrom mo_blameUpper mo_blameLower) :=
  CtI.of (own := RX12) (cc := cX12_test) (nL := 3) (ret := (some .int)) (by decide +kernel) rfl rfl (Nat.le_of_ble_eq_true rfl) rfl (fun p e s m below meth c A ls C B hl => qX12_test_0 C (N := N) x1 x2 mo_testInputs mo_testDue mo_tests h _ _ _ B hl)

abbrev rmX12_isTest : Room := { frames := 1, cells := 0, slots := 0, locals := 25 }
theorem hdX12_isTest : yX12_isTest.cls ≠ "java/lang/invoke/MethodHandle" ∧ yX12_isTest.cls ≠ "java/lang/invoke/VarHandle" ∧ (parseMethodDescriptor yX12_isTest.desc).map (fun d => d.parameters.length) = some 1 := by decide +kernel
theorem iX12_isTest_X12 : ∀ w ∈ wsX120, w ∈ wsX12_isTest := by decide +kernel
theorem gfX12_isTest_155 {p : Program} {l : Launch} {e : Env} {R : Room} {s : State} {m : MethodId} {args : Array Value} {below : List Frame} {meth : Method} {c : Code} {H : Heap} {locs : List Loc} {cells slots : Nat} {Q : State → Prop} {D : va_G} {A : Nat → Prop} {tys : List (ClassId × FieldType)} {Es : (Nat → Nat) × (Nat → Nat)} {ws : va_W} {pc : Nat} {ls : Array Slot} {rest : List Value} {a : Nat} (C : CT p s m args meth c RX12 cX12_isTest 2 (some .boolean) wsX12_isTest D A tys Es) (B : DB D A ws s H locs) (q0 : Nat) {fs : List Value} {v : Value} (he : ws[q0]? = some (a, .inr (12, fs))) (hv : fs[19]? = some v) (hdg : decode cX12_isTest pc = .ok (.getfield 155, 3)) (kk : W p l e R s m args below meth c H locs cells slots Q (F0 m (pc + 3) ls (v :: rest))) : W p l e R s m args below meth c H locs cells slots Q (F0 m pc ls (.ref a :: rest)) :=
  k_get (Cn := RX12) (T := TX12) (N := 25) (index := 155) C B iX12_isTest_X12 rfl 19 (by decide) (by decide +kernel) q0 he hv hdg kk
section
variable {p : Program} {l : Launch} {e : Env} {s : State} {m : MethodId} {args : Array Value} {below : List Frame} {meth : Method} {c : Code} {D : va_G} {A : Nat → Prop} {Es : (Nat → Nat) × (Nat → Nat)} {a b : Nat → Nat} {cI cJ cT : ClassId}
set_option maxHeartbeats 4000000 in
set_option maxRecDepth 100000 in
theorem qX12_isTest_0 (C : CT p s m args meth c RX12 cX12_isTest 2 (some .boolean) wsX12_isTest D A (tyl cI cJ cT) Es) {N : Nat} {mo_signs : Nat → Int32} {mo_signMany : Int32} {mo_nodeSign : Nat → Int32} {mo_nodeOn : Nat → Int32} {mo_nodeSize : Nat → Int32} {mo_nodeMany : Nat → Int32} {mo_due : Nat → Int32} {mo_openNode : Nat → Int32} {mo_value : Nat → Int32} {mo_isLaid : Int32} {mo_changes : Int32} {mo_changeNode : Nat → Int32} {mo_changeSign : Nat → Int32} {mo_differs : Nat → Int32} {mo_results : Nat → Int32} {mo_own : Nat → Int32} {mo_kinds : Nat → Int32} {mo_testInputs : Nat → Int32} {mo_testDue : Nat → Int32} {mo_tests : Int32} {mo_noticed : Nat → Int32} {mo_missed : Nat → Int32} {mo_leastFrom : Nat → Int32} {mo_blameUpper : Nat → Int32} {mo_blameLower : Nat → Int32} {z_r : Int32} : ∀ (x1 : Int32), fX12_isTest N mo_tests x1 = some z_r → ∀ (H : Heap) (locs : List Loc) (ls : Array Slot), DB D A (wd_mo a b cI cJ cT mo_signs mo_signMany mo_nodeSign mo_nodeOn mo_nodeSize mo_nodeMany mo_due mo_openNode mo_value mo_isLaid mo_changes mo_changeNode mo_changeSign mo_differs mo_results mo_own mo_kinds mo_testInputs mo_testDue mo_tests mo_noticed mo_missed mo_leastFrom mo_blameUpper mo_blameLower) s H locs → lv_has ls 2 [(0, .ref (b 0)), (1, .int x1)] → W p l e rmX12_isTest s m args below meth c H locs 0 0 (ZI below args s D A (tyl cI cJ cT) z_r (wd_mo a b cI cJ cT mo_signs mo_signMany mo_nodeSign mo_nodeOn mo_nodeSize mo_nodeMany mo_due mo_openNode mo_value mo_isLaid mo_changes mo_changeNode mo_changeSign mo_differs mo_results mo_own mo_kinds mo_testInputs mo_testDue mo_tests mo_noticed mo_missed mo_leastFrom mo_blameUpper mo_blameLower) 0 0) (F0 m 0 ls []) := by
  have hx := C.1.1
  have hb := C.1.2.1
  have hown := C.1.2.2.2.1
  have hts := C.1.2.2.2.2
  intro x1 h H locs ls B hl
  rw [fX12_isTest] at h
  refine lv_iload_n hx hb dX12_isTest_0 rfl (lv_at hl 1 rfl) ?_
  refine lv_i2l (v := (Int32.toInt64 x1)) hx hb dX12_isTest_1 rfl ?_
  refine lv_lconst (v := 0) hx hb dX12_isTest_2 (by decide) ?_
  refine lv_aload_n hx hb dX12_isTest_3 rfl (lv_at hl 0 rfl) ?_
  refine gfX12_isTest_155 C B 0 rfl rfl dX12_isTest_4 ?_
  refine lv_iconst (v := 1) hx hb dX12_isTest_7 (by decide) ?_
  refine lv_isub hx hb dX12_isTest_8 ?_
  refine lv_i2l (v := (Int32.toInt64 (mo_tests - (1 : Int32)))) hx hb dX12_isTest_9 rfl ?_
  obtain ⟨r_1, g_3, h⟩ := ob_some h
  try dsimp only at h
  refine kc_SI C B (As := [.long (Int32.toInt64 x1), .long (0 : Int64), .long (Int32.toInt64 (mo_tests - (1 : Int32)))]) (rest := []) (w2 := (wd_mo a b cI cJ cT mo_signs mo_signMany mo_nodeSign mo_nodeOn mo_nodeSize mo_nodeMany mo_due mo_openNode mo_value mo_isLaid mo_changes mo_changeNode mo_changeSign mo_differs mo_results mo_own mo_kinds mo_testInputs mo_testDue mo_tests mo_noticed mo_missed mo_leastFrom mo_blameUpper mo_blameLower)) (tX12_in N g_3) gX12_isTest_X12_in rfl ⟨rfl, rfl⟩ hdX12_in ⟨Nat.le_of_ble_eq_true rfl, Nat.le_of_ble_eq_true rfl⟩ [] [0, 1, 2, 3, 4, 5, 6, 7, 8, 9, 10, 11, 12, 13, 14, 15, 16, 17, 18, 19, 20, 21] [0, 1, 2, 3, 4, 5, 6, 7, 8, 9, 10, 11, 12, 13, 14, 15, 16, 17, 18, 19, 20, 21] rfl rfl rfl rfl rfl rfl rfl rfl hl.1 rfl (Nat.le_of_ble_eq_true rfl) ⟨Nat.zero_le _, Nat.zero_le _⟩ dX12_isTest_10 (fun H locs B => ?_)
  obtain ⟨z_2, h⟩ := bo_some h
  cases h
  exact k_zret C B z_2 dX12_isTest_13
end
theorem tX12_isTest {l : Launch} {D : va_G} {Es : (Nat → Nat) × (Nat → Nat)} {a b : Nat → Nat} {cI cJ cT : ClassId} {mo_signs : Nat → Int32} {mo_signMany : Int32} {mo_nodeSign : Nat → Int32} {mo_nodeOn : Nat → Int32} {mo_nodeSize : Nat → Int32} {mo_nodeMany : Nat → Int32} {mo_due : Nat → Int32} {mo_openNode : Nat → Int32} {mo_value : Nat → Int32} {mo_isLaid : Int32} {mo_changes : Int32} {mo_changeNode : Nat → Int32} {mo_changeSign : Nat → Int32} {mo_differs : Nat → Int32} {mo_results : Nat → Int32} {mo_own : Nat → Int32} {mo_kinds : Nat → Int32} {mo_testInputs : Nat → Int32} {mo_testDue : Nat → Int32} {mo_tests : Int32} {mo_noticed : Nat → Int32} {mo_missed : Nat → Int32} {mo_leastFrom : Nat → Int32} {mo_blameUpper : Nat → Int32} {mo_blameLower : Nat → Int32} {x1 : Int32} {z_r : Int32} (N : Nat) (h : fX12_isTest N mo_tests x1 = some z_r) : CtI l yX12_isTest wsX12_isTest rmX12_isTest D (tyl cI cJ cT) Es [.ref (b 0), .int x1] (wd_mo a b cI cJ cT mo_signs mo_signMany mo_nodeSign mo_nodeOn mo_nodeSize mo_nodeMany mo_due mo_openNode mo_value mo_isLaid mo_changes mo_changeNode mo_changeSign mo_differs mo_results mo_own mo_kinds mo_testInputs mo_testDue mo_tests mo_noticed mo_missed mo_leastFrom mo_blameUpper mo_blameLower) z_r (wd_mo a b cI cJ cT mo_signs mo_signMany mo_nodeSign mo_nodeOn mo_nodeSize mo_nodeMany mo_due mo_openNode mo_value mo_isLaid mo_changes mo_changeNode mo_changeSign mo_differs mo_results mo_own mo_kinds mo_testInputs mo_testDue mo_tests mo_noticed mo_missed mo_leastFrom mo_blameUpper mo_blameLower) :=
  CtI.of (own := RX12) (cc := cX12_isTest) (nL := 2) (ret := (some .boolean)) (by decide +kernel) rfl rfl (Nat.le_of_ble_eq_true rfl) rfl (fun p e s m below meth c A ls C B hl => qX12_isTest_0 C (N := N) x1 h _ _ _ B hl)

abbrev rmX12_drop : Room := { frames := 2, cells := 0, slots := 0, locals := 46 }
theorem hdX12_drop : yX12_drop.cls ≠ "java/lang/invoke/MethodHandle" ∧ yX12_drop.cls ≠ "java/lang/invoke/VarHandle" ∧ (parseMethodDescriptor yX12_drop.desc).map (fun d => d.parameters.length) = some 1 := by decide +kernel
theorem iX12_drop_X12 : ∀ w ∈ wsX120, w ∈ wsX12_drop := by decide +kernel
theorem gfX12_drop_155 {p : Program} {l : Launch} {e : Env} {R : Room} {s : State} {m : MethodId} {args : Array Value} {below : List Frame} {meth : Method} {c : Code} {H : Heap} {locs : List Loc} {cells slots : Nat} {Q : State → Prop} {D : va_G} {A : Nat → Prop} {tys : List (ClassId × FieldType)} {Es : (Nat → Nat) × (Nat → Nat)} {ws : va_W} {pc : Nat} {ls : Array Slot} {rest : List Value} {a : Nat} (C : CT p s m args meth c RX12 cX12_drop 4 (some .int) wsX12_drop D A tys Es) (B : DB D A ws s H locs) (q0 : Nat) {fs : List Value} {v : Value} (he : ws[q0]? = some (a, .inr (12, fs))) (hv : fs[19]? = some v) (hdg : decode cX12_drop pc = .ok (.getfield 155, 3)) (kk : W p l e R s m args below meth c H locs cells slots Q (F0 m (pc + 3) ls (v :: rest))) : W p l e R s m args below meth c H locs cells slots Q (F0 m pc ls (.ref a :: rest)) :=
  k_get (Cn := RX12) (T := TX12) (N := 25) (index := 155) C B iX12_drop_X12 rfl 19 (by decide) (by decide +kernel) q0 he hv hdg kk
theorem pfX12_drop_155 {p : Program} {l : Launch} {e : Env} {R : Room} {s : State} {m : MethodId} {args : Array Value} {below : List Frame} {meth : Method} {c : Code} {H : Heap} {locs : List Loc} {cells slots : Nat} {Q : State → Prop} {D : va_G} {A : Nat → Prop} {tys : List (ClassId × FieldType)} {Es : (Nat → Nat) × (Nat → Nat)} {ws : va_W} {pc : Nat} {ls : Array Slot} {rest : List Value} {a : Nat} (C : CT p s m args meth c RX12 cX12_drop 4 (some .int) wsX12_drop D A tys Es) (B : DB D A ws s H locs) (q0 : Nat) {fs : List Value} {v : Value} (hn : narrow .int v = v) (hfit : fits .int v = true) (he : ws[q0]? = some (a, .inr (12, fs))) (hl : 19 < fs.length) (hdg : decode cX12_drop pc = .ok (.putfield 155, 3)) (kk : ∀ (H1 : Heap) (locs1 : List Loc), DB D A (ws.set q0 (a, .inr (12, fs.set 19 v))) s H1 locs1 → W p l e R s m args below meth c H1 locs1 cells slots Q (F0 m (pc + 3) ls rest)) : W p l e R s m args below meth c H locs cells slots Q (F0 m pc ls (v :: .ref a :: rest)) :=
  k_put (Cn := RX12) (T := TX12) (N := 25) (index := 155) C B iX12_drop_X12 rfl tyX12 tyX12_ok nmX12 19 (by decide) (by decide +kernel) rfl q0 (by decide +kernel) hn hfit he hl hdg kk
theorem gfX12_drop_53 {p : Program} {l : Launch} {e : Env} {R : Room} {s : State} {m : MethodId} {args : Array Value} {below : List Frame} {meth : Method} {c : Code} {H : Heap} {locs : List Loc} {cells slots : Nat} {Q : State → Prop} {D : va_G} {A : Nat → Prop} {tys : List (ClassId × FieldType)} {Es : (Nat → Nat) × (Nat → Nat)} {ws : va_W} {pc : Nat} {ls : Array Slot} {rest : List Value} {a : Nat} (C : CT p s m args meth c RX12 cX12_drop 4 (some .int) wsX12_drop D A tys Es) (B : DB D A ws s H locs) (q0 : Nat) {fs : List Value} {v : Value} (he : ws[q0]? = some (a, .inr (12, fs))) (hv : fs[17]? = some v) (hdg : decode cX12_drop pc = .ok (.getfield 53, 3)) (kk : W p l e R s m args below meth c H locs cells slots Q (F0 m (pc + 3) ls (v :: rest))) : W p l e R s m args below meth c H locs cells slots Q (F0 m pc ls (.ref a :: rest)) :=
  k_get (Cn := RX12) (T := TX12) (N := 25) (index := 53) C B iX12_drop_X12 rfl 17 (by decide) (by decide +kernel) q0 he hv hdg kk
theorem gfX12_drop_56 {p : Program} {l : Launch} {e : Env} {R : Room} {s : State} {m : MethodId} {args : Array Value} {below : List Frame} {meth : Method} {c : Code} {H : Heap} {locs : List Loc} {cells slots : Nat} {Q : State → Prop} {D : va_G} {A : Nat → Prop} {tys : List (ClassId × FieldType)} {Es : (Nat → Nat) × (Nat → Nat)} {ws : va_W} {pc : Nat} {ls : Array Slot} {rest : List Value} {a : Nat} (C : CT p s m args meth c RX12 cX12_drop 4 (some .int) wsX12_drop D A tys Es) (B : DB D A ws s H locs) (q0 : Nat) {fs : List Value} {v : Value} (he : ws[q0]? = some (a, .inr (12, fs))) (hv : fs[18]? = some v) (hdg : decode cX12_drop pc = .ok (.getfield 56, 3)) (kk : W p l e R s m args below meth c H locs cells slots Q (F0 m (pc + 3) ls (v :: rest))) : W p l e R s m args below meth c H locs cells slots Q (F0 m pc ls (.ref a :: rest)) :=
  k_get (Cn := RX12) (T := TX12) (N := 25) (index := 56) C B iX12_drop_X12 rfl 18 (by decide) (by decide +kernel) q0 he hv hdg kk
section
variable {p : Program} {l : Launch} {e : Env} {s : State} {m : MethodId} {args : Array Value} {below : List Frame} {meth : Method} {c : Code} {D : va_G} {A : Nat → Prop} {Es : (Nat → Nat) × (Nat → Nat)} {a b : Nat → Nat} {cI cJ cT : ClassId}
set_option maxHeartbeats 4000000 in
set_option maxRecDepth 100000 in
theorem qX12_drop_19 (C : CT p s m args meth c RX12 cX12_drop 4 (some .int) wsX12_drop D A (tyl cI cJ cT) Es) {N : Nat} {mo_signs : Nat → Int32} {mo_signMany : Int32} {mo_nodeSign : Nat → Int32} {mo_nodeOn : Nat → Int32} {mo_nodeSize : Nat → Int32} {mo_nodeMany : Nat → Int32} {mo_due : Nat → Int32} {mo_openNode : Nat → Int32} {mo_value : Nat → Int32} {mo_isLaid : Int32} {mo_changes : Int32} {mo_changeNode : Nat → Int32} {mo_changeSign : Nat → Int32} {mo_differs : Nat → Int32} {mo_results : Nat → Int32} {mo_own : Nat → Int32} {mo_kinds : Nat → Int32} {mo_noticed : Nat → Int32} {mo_missed : Nat → Int32} {mo_leastFrom : Nat → Int32} {mo_blameUpper : Nat → Int32} {mo_blameLower : Nat → Int32} {z_r : Int32} {z_mo_testInputs : Nat → Int32} {z_mo_testDue : Nat → Int32} {z_mo_tests : Int32} : ∀ (n : Nat) (x2 : Int32) (x3 : Int32) (mo_testInputs : Nat → Int32) (mo_testDue : Nat → Int32) (mo_tests : Int32), bX12_drop_19 N n x2 x3 mo_testInputs mo_testDue mo_tests = some (z_r, z_mo_testInputs, z_mo_testDue, z_mo_tests) → ∀ (H : Heap) (locs : List Loc) (ls : Array Slot), DB D A (wd_mo a b cI cJ cT mo_signs mo_signMany mo_nodeSign mo_nodeOn mo_nodeSize mo_nodeMany mo_due mo_openNode mo_value mo_isLaid mo_changes mo_changeNode mo_changeSign mo_differs mo_results mo_own mo_kinds mo_testInputs mo_testDue mo_tests mo_noticed mo_missed mo_leastFrom mo_blameUpper mo_blameLower) s H locs → lv_has ls 4 [(0, .ref (b 0)), (2, .int x2), (3, .int x3)] → W p l e rmX12_drop s m args below meth c H locs 0 0 (ZI below args s D A (tyl cI cJ cT) z_r (wd_mo a b cI cJ cT mo_signs mo_signMany mo_nodeSign mo_nodeOn mo_nodeSize mo_nodeMany mo_due mo_openNode mo_value mo_isLaid mo_changes mo_changeNode mo_changeSign mo_differs mo_results mo_own mo_kinds z_mo_testInputs z_mo_testDue z_mo_tests mo_noticed mo_missed mo_leastFrom mo_blameUpper mo_blameLower) 0 0) (F0 m 19 ls []) := by
  have hx := C.1.1
  have hb := C.1.2.1
  have hown := C.1.2.2.2.1
  have hts := C.1.2.2.2.2
  intro n
  induction n with
  | zero => intro x2 x3 mo_testInputs mo_testDue mo_tests h; cases h
  | succ n ih =>
    intro x2 x3 mo_testInputs mo_testDue mo_tests h H locs ls B hl
    rw [bX12_drop_19] at h
    refine lv_iload_n hx hb dX12_drop_19 rfl (lv_at hl 2 rfl) ?_
    refine lv_aload_n hx hb dX12_drop_20 rfl (lv_at hl 0 rfl) ?_
    refine gfX12_drop_155 C B 0 rfl rfl dX12_drop_21 ?_
    refine lv_iconst (v := 1) hx hb dX12_drop_24 (by decide) ?_
    refine lv_isub hx hb dX12_drop_25 ?_
    refine lv_icmp_ge (tgt := 63) hx hb dX12_drop_26 (by decide) (fun c_1 => ?_) (fun c_1 => ?_)
    · rw [if_pos c_1] at h
      refine lv_aload_n hx hb dX12_drop_63 rfl (lv_at hl 0 rfl) ?_
      refine lv_dup hx hb dX12_drop_64 rfl ?_
      refine gfX12_drop_155 C B 0 rfl rfl dX12_drop_65 ?_
      refine lv_iconst (v := 1) hx hb dX12_drop_68 (by decide) ?_
      refine lv_isub hx hb dX12_drop_69 ?_
      refine pfX12_drop_155 C B 0 rfl (by rfl) rfl (Nat.le_of_ble_eq_true rfl) dX12_drop_70 (fun H locs B => ?_)
      have B : DB D A (wd_mo a b cI cJ cT mo_signs mo_signMany mo_nodeSign mo_nodeOn mo_nodeSize mo_nodeMany mo_due mo_openNode mo_value mo_isLaid mo_changes mo_changeNode mo_changeSign mo_differs mo_results mo_own mo_kinds mo_testInputs mo_testDue (mo_tests - (1 : Int32)) mo_noticed mo_missed mo_leastFrom mo_blameUpper mo_blameLower) s H locs := B
      refine lv_iload_n hx hb dX12_drop_73 rfl (lv_at hl 1 rfl) ?_
      cases h
      exact k_iret C B dX12_drop_74
    · rw [if_neg c_1] at h
      refine lv_aload_n hx hb dX12_drop_29 rfl (lv_at hl 0 rfl) ?_
      refine gfX12_drop_53 C B 0 rfl rfl dX12_drop_30 ?_
      refine lv_iload_n hx hb dX12_drop_33 rfl (lv_at hl 2 rfl) ?_
      refine lv_aload_n hx hb dX12_drop_34 rfl (lv_at hl 0 rfl) ?_
      refine gfX12_drop_53 C B 0 rfl rfl dX12_drop_35 ?_
      refine lv_iload_n hx hb dX12_drop_38 rfl (lv_at hl 2 rfl) ?_
      refine lv_iconst (v := 1) hx hb dX12_drop_39 (by decide) ?_
      refine lv_iadd hx hb dX12_drop_40 ?_
      obtain ⟨b_2, h⟩ := bnd_some h
      refine k_iald C B 15 0 rfl rfl b_2 dX12_drop_41 ?_
      obtain ⟨b_3, h⟩ := bnd_some h
      refine k_iast C B 15 0 rfl rfl b_3 dX12_drop_42 (fun H locs B => ?_)
      have B : DB D A (wd_mo a b cI cJ cT mo_signs mo_signMany mo_nodeSign mo_nodeOn mo_nodeSize mo_nodeMany mo_due mo_openNode mo_value mo_isLaid mo_changes mo_changeNode mo_changeSign mo_differs mo_results mo_own mo_kinds (upd mo_testInputs (Int32.toNatClampNeg x3) (mo_testInputs (Int32.toNatClampNeg (x3 + (1 : Int32))))) mo_testDue mo_tests mo_noticed mo_missed mo_leastFrom mo_blameUpper mo_blameLower) s H locs := B
      refine lv_aload_n hx hb dX12_drop_43 rfl (lv_at hl 0 rfl) ?_
      refine gfX12_drop_56 C B 0 rfl rfl dX12_drop_44 ?_
      refine lv_iload_n hx hb dX12_drop_47 rfl (lv_at hl 2 rfl) ?_
      refine lv_aload_n hx hb dX12_drop_48 rfl (lv_at hl 0 rfl) ?_
      refine gfX12_drop_56 C B 0 rfl rfl dX12_drop_49 ?_
      refine lv_iload_n hx hb dX12_drop_52 rfl (lv_at hl 2 rfl) ?_
      refine lv_iconst (v := 1) hx hb dX12_drop_53 (by decide) ?_
      refine lv_iadd hx hb dX12_drop_54 ?_
      refine k_iald C B 16 0 rfl rfl b_2 dX12_drop_55 ?_
      refine k_iast C B 16 0 rfl rfl b_3 dX12_drop_56 (fun H locs B => ?_)
      have B : DB D A (wd_mo a b cI cJ cT mo_signs mo_signMany mo_nodeSign mo_nodeOn mo_nodeSize mo_nodeMany mo_due mo_openNode mo_value mo_isLaid mo_changes mo_changeNode mo_changeSign mo_differs mo_results mo_own mo_kinds (upd mo_testInputs (Int32.toNatClampNeg x3) (mo_testInputs (Int32.toNatClampNeg (x3 + (1 : Int32))))) (upd mo_testDue (Int32.toNatClampNeg x3) (mo_testDue (Int32.toNatClampNeg (x3 + (1 : Int32))))) mo_tests mo_noticed mo_missed mo_leastFrom mo_blameUpper mo_blameLower) s H locs := B
      refine lv_iinc (v := (x3 + 1)) (lv' := [(3, .int (x3 + 1)), (0, .ref (b 0)), (2, .int x2)]) hx hb dX12_drop_57 hl (k := 2) rfl rfl (by decide) rfl (fun ls hl => ?_)
      refine lv_goto (tgt := 19) hx hb dX12_drop_60 (by decide) ?_
      exact ih x2 (x3 + 1) (upd mo_testInputs (Int32.toNatClampNeg x3) (mo_testInputs (Int32.toNatClampNeg (x3 + (1 : Int32))))) (upd mo_testDue (Int32.toNatClampNeg x3) (mo_testDue (Int32.toNatClampNeg (x3 + (1 : Int32))))) mo_tests h H locs ls B (lv_sub hl [1, 2, 0] rfl)
set_option maxHeartbeats 4000000 in
set_option maxRecDepth 100000 in
theorem qX12_drop_0 (C : CT p s m args meth c RX12 cX12_drop 4 (some .int) wsX12_drop D A (tyl cI cJ cT) Es) {N : Nat} {mo_signs : Nat → Int32} {mo_signMany : Int32} {mo_nodeSign : Nat → Int32} {mo_nodeOn : Nat → Int32} {mo_nodeSize : Nat → Int32} {mo_nodeMany : Nat → Int32} {mo_due : Nat → Int32} {mo_openNode : Nat → Int32} {mo_value : Nat → Int32} {mo_isLaid : Int32} {mo_changes : Int32} {mo_changeNode : Nat → Int32} {mo_changeSign : Nat → Int32} {mo_differs : Nat → Int32} {mo_results : Nat → Int32} {mo_own : Nat → Int32} {mo_kinds : Nat → Int32} {mo_noticed : Nat → Int32} {mo_missed : Nat → Int32} {mo_leastFrom : Nat → Int32} {mo_blameUpper : Nat → Int32} {mo_blameLower : Nat → Int32} {z_r : Int32} {z_mo_testInputs : Nat → Int32} {z_mo_testDue : Nat → Int32} {z_mo_tests : Int32} : ∀ (x1 : Int32) (mo_testInputs : Nat → Int32) (mo_testDue : Nat → Int32) (mo_tests : Int32), fX12_drop N x1 mo_testInputs mo_testDue mo_tests = some (z_r, z_mo_testInputs, z_mo_testDue, z_mo_tests) → ∀ (H : Heap) (locs : List Loc) (ls : Array Slot), DB D A (wd_mo a b cI cJ cT mo_signs mo_signMany mo_nodeSign mo_nodeOn mo_nodeSize mo_nodeMany mo_due mo_openNode mo_value mo_isLaid mo_changes mo_changeNode mo_changeSign mo_differs mo_results mo_own mo_kinds mo_testInputs mo_testDue mo_tests mo_noticed mo_missed mo_leastFrom mo_blameUpper mo_blameLower) s H locs → lv_has ls 4 [(0, .ref (b 0)), (1, .int x1)] → W p l e rmX12_drop s m args below meth c H locs 0 0 (ZI below args s D A (tyl cI cJ cT) z_r (wd_mo a b cI cJ cT mo_signs mo_signMany mo_nodeSign mo_nodeOn mo_nodeSize mo_nodeMany mo_due mo_openNode mo_value mo_isLaid mo_changes mo_changeNode mo_changeSign mo_differs mo_results mo_own mo_kinds z_mo_testInputs z_mo_testDue z_mo_tests mo_noticed mo_missed mo_leastFrom mo_blameUpper mo_blameLower) 0 0) (F0 m 0 ls []) := by
  have hx := C.1.1
  have hb := C.1.2.1
  have hown := C.1.2.2.2.1
  have hts := C.1.2.2.2.2
  intro x1 mo_testInputs mo_testDue mo_tests h H locs ls B hl
  rw [fX12_drop] at h
  refine lv_aload_n hx hb dX12_drop_0 rfl (lv_at hl 0 rfl) ?_
  refine lv_iload_n hx hb dX12_drop_1 rfl (lv_at hl 1 rfl) ?_
  obtain ⟨r_1, g_4, h⟩ := ob_some h
  try dsimp only at h
  refine kc_VI C B (q0 := 0) (ci := 12) (As := [.int x1]) (rest := []) (w2 := (wd_mo a b cI cJ cT mo_signs mo_signMany mo_nodeSign mo_nodeOn mo_nodeSize mo_nodeMany mo_due mo_openNode mo_value mo_isLaid mo_changes mo_changeNode mo_changeSign mo_differs mo_results mo_own mo_kinds mo_testInputs mo_testDue mo_tests mo_noticed mo_missed mo_leastFrom mo_blameUpper mo_blameLower)) (tX12_isTest (a := a) (b := b) N g_4) gX12_drop_X12_isTest rfl ⟨rfl, rfl⟩ ⟨rfl, hdX12_isTest⟩ ⟨Nat.le_of_ble_eq_true rfl, Nat.le_of_ble_eq_true rfl⟩ rfl rfl [0, 1, 2, 3, 4, 5, 6, 7, 8, 9, 10, 11, 12, 13, 14, 15, 16, 17, 18, 19, 20, 21] [] [0, 1, 2, 3, 4, 5, 6, 7, 8, 9, 10, 11, 12, 13, 14, 15, 16, 17, 18, 19, 20, 21] rfl rfl rfl rfl rfl rfl rfl rfl hl.1 rfl (Nat.le_of_ble_eq_true rfl) ⟨Nat.zero_le _, Nat.zero_le _⟩ dX12_drop_2 (fun H locs B => ?_)
  refine lv_if_ne (tgt := 10) hx hb dX12_drop_5 (by decide) (fun c_2 => ?_) (fun c_2 => ?_)
  · rw [if_neg c_2] at h
    refine lv_aload_n hx hb dX12_drop_10 rfl (lv_at hl 0 rfl) ?_
    refine gfX12_drop_53 C B 0 rfl rfl dX12_drop_11 ?_
    refine lv_iload_n hx hb dX12_drop_14 rfl (lv_at hl 1 rfl) ?_
    obtain ⟨b_3, h⟩ := bnd_some h
    refine k_iald C B 15 0 rfl rfl b_3 dX12_drop_15 ?_
    refine lv_istore_n (lv' := [(2, .int (mo_testInputs (Int32.toNatClampNeg x1))), (0, .ref (b 0)), (1, .int x1)]) hx hb dX12_drop_16 rfl hl (by decide) rfl (fun ls hl => ?_)
    refine lv_iload_n hx hb dX12_drop_17 rfl (lv_at hl 2 rfl) ?_
    refine lv_istore_n (lv' := [(3, .int x1), (2, .int (mo_testInputs (Int32.toNatClampNeg x1))), (0, .ref (b 0)), (1, .int x1)]) hx hb dX12_drop_18 rfl hl (by decide) rfl (fun ls hl => ?_)
    exact qX12_drop_19 C N (mo_testInputs (Int32.toNatClampNeg x1)) x1 mo_testInputs mo_testDue mo_tests h H locs ls B (lv_sub hl [2, 1, 0] rfl)
  · rw [if_pos c_2] at h
    refine lv_iconst (v := -1) hx hb dX12_drop_8 (by decide) ?_
    cases h
    exact k_iret C B dX12_drop_9
end
theorem tX12_drop {l : Launch} {D : va_G} {Es : (Nat → Nat) × (Nat → Nat)} {a b : Nat → Nat} {cI cJ cT : ClassId} {mo_signs : Nat → Int32} {mo_signMany : Int32} {mo_nodeSign : Nat → Int32} {mo_nodeOn : Nat → Int32} {mo_nodeSize : Nat → Int32} {mo_nodeMany : Nat → Int32} {mo_due : Nat → Int32} {mo_openNode : Nat → Int32} {mo_value : Nat → Int32} {mo_isLaid : Int32} {mo_changes : Int32} {mo_changeNode : Nat → Int32} {mo_changeSign : Nat → Int32} {mo_differs : Nat → Int32} {mo_results : Nat → Int32} {mo_own : Nat → Int32} {mo_kinds : Nat → Int32} {mo_testInputs : Nat → Int32} {mo_testDue : Nat → Int32} {mo_tests : Int32} {mo_noticed : Nat → Int32} {mo_missed : Nat → Int32} {mo_leastFrom : Nat → Int32} {mo_blameUpper : Nat → Int32} {mo_blameLower : Nat → Int32} {x1 : Int32} {z_r : Int32} {z_mo_testInputs : Nat → Int32} {z_mo_testDue : Nat → Int32} {z_mo_tests : Int32} (N : Nat) (h : fX12_drop N x1 mo_testInputs mo_testDue mo_tests = some (z_r, z_mo_testInputs, z_mo_testDue, z_mo_tests)) : CtI l yX12_drop wsX12_drop rmX12_drop D (tyl cI cJ cT) Es [.ref (b 0), .int x1] (wd_mo a b cI cJ cT mo_signs mo_signMany mo_nodeSign mo_nodeOn mo_nodeSize mo_nodeMany mo_due mo_openNode mo_value mo_isLaid mo_changes mo_changeNode mo_changeSign mo_differs mo_results mo_own mo_kinds mo_testInputs mo_testDue mo_tests mo_noticed mo_missed mo_leastFrom mo_blameUpper mo_blameLower) z_r (wd_mo a b cI cJ cT mo_signs mo_signMany mo_nodeSign mo_nodeOn mo_nodeSize mo_nodeMany mo_due mo_openNode mo_value mo_isLaid mo_changes mo_changeNode mo_changeSign mo_differs mo_results mo_own mo_kinds z_mo_testInputs z_mo_testDue z_mo_tests mo_noticed mo_missed mo_leastFrom mo_blameUpper mo_blameLower) :=
  CtI.of (own := RX12) (cc := cX12_drop) (nL := 4) (ret := (some .int)) (by decide +kernel) rfl rfl (Nat.le_of_ble_eq_true rfl) rfl (fun p e s m below meth c A ls C B hl => qX12_drop_0 C (N := N) x1 mo_testInputs mo_testDue mo_tests h _ _ _ B hl)

abbrev rmX12_doesFail : Room := { frames := 0, cells := 0, slots := 0, locals := 0 }
theorem hdX12_doesFail : yX12_doesFail.cls ≠ "java/lang/invoke/MethodHandle" ∧ yX12_doesFail.cls ≠ "java/lang/invoke/VarHandle" ∧ (parseMethodDescriptor yX12_doesFail.desc).map (fun d => d.parameters.length) = some 1 := by decide +kernel
theorem iX12_doesFail_X12 : ∀ w ∈ wsX120, w ∈ wsX12_doesFail := by decide +kernel
theorem gfX12_doesFail_47 {p : Program} {l : Launch} {e : Env} {R : Room} {s : State} {m : MethodId} {args : Array Value} {below : List Frame} {meth : Method} {c : Code} {H : Heap} {locs : List Loc} {cells slots : Nat} {Q : State → Prop} {D : va_G} {A : Nat → Prop} {tys : List (ClassId × FieldType)} {Es : (Nat → Nat) × (Nat → Nat)} {ws : va_W} {pc : Nat} {ls : Array Slot} {rest : List Value} {a : Nat} (C : CT p s m args meth c RX12 cX12_doesFail 2 (some .boolean) wsX12_doesFail D A tys Es) (B : DB D A ws s H locs) (q0 : Nat) {fs : List Value} {v : Value} (he : ws[q0]? = some (a, .inr (12, fs))) (hv : fs[15]? = some v) (hdg : decode cX12_doesFail pc = .ok (.getfield 47, 3)) (kk : W p l e R s m args below meth c H locs cells slots Q (F0 m (pc + 3) ls (v :: rest))) : W p l e R s m args below meth c H locs cells slots Q (F0 m pc ls (.ref a :: rest)) :=
  k_get (Cn := RX12) (T := TX12) (N := 25) (index := 47) C B iX12_doesFail_X12 rfl 15 (by decide) (by decide +kernel) q0 he hv hdg kk
theorem gfX12_doesFail_53 {p : Program} {l : Launch} {e : Env} {R : Room} {s : State} {m : MethodId} {args : Array Value} {below : List Frame} {meth : Method} {c : Code} {H : Heap} {locs : List Loc} {cells slots : Nat} {Q : State → Prop} {D : va_G} {A : Nat → Prop} {tys : List (ClassId × FieldType)} {Es : (Nat → Nat) × (Nat → Nat)} {ws : va_W} {pc : Nat} {ls : Array Slot} {rest : List Value} {a : Nat} (C : CT p s m args meth c RX12 cX12_doesFail 2 (some .boolean) wsX12_doesFail D A tys Es) (B : DB D A ws s H locs) (q0 : Nat) {fs : List Value} {v : Value} (he : ws[q0]? = some (a, .inr (12, fs))) (hv : fs[17]? = some v) (hdg : decode cX12_doesFail pc = .ok (.getfield 53, 3)) (kk : W p l e R s m args below meth c H locs cells slots Q (F0 m (pc + 3) ls (v :: rest))) : W p l e R s m args below meth c H locs cells slots Q (F0 m pc ls (.ref a :: rest)) :=
  k_get (Cn := RX12) (T := TX12) (N := 25) (index := 53) C B iX12_doesFail_X12 rfl 17 (by decide) (by decide +kernel) q0 he hv hdg kk
theorem gfX12_doesFail_56 {p : Program} {l : Launch} {e : Env} {R : Room} {s : State} {m : MethodId} {args : Array Value} {below : List Frame} {meth : Method} {c : Code} {H : Heap} {locs : List Loc} {cells slots : Nat} {Q : State → Prop} {D : va_G} {A : Nat → Prop} {tys : List (ClassId × FieldType)} {Es : (Nat → Nat) × (Nat → Nat)} {ws : va_W} {pc : Nat} {ls : Array Slot} {rest : List Value} {a : Nat} (C : CT p s m args meth c RX12 cX12_doesFail 2 (some .boolean) wsX12_doesFail D A tys Es) (B : DB D A ws s H locs) (q0 : Nat) {fs : List Value} {v : Value} (he : ws[q0]? = some (a, .inr (12, fs))) (hv : fs[18]? = some v) (hdg : decode cX12_doesFail pc = .ok (.getfield 56, 3)) (kk : W p l e R s m args below meth c H locs cells slots Q (F0 m (pc + 3) ls (v :: rest))) : W p l e R s m args below meth c H locs cells slots Q (F0 m pc ls (.ref a :: rest)) :=
  k_get (Cn := RX12) (T := TX12) (N := 25) (index := 56) C B iX12_doesFail_X12 rfl 18 (by decide) (by decide +kernel) q0 he hv hdg kk
section
variable {p : Program} {l : Launch} {e : Env} {s : State} {m : MethodId} {args : Array Value} {below : List Frame} {meth : Method} {c : Code} {D : va_G} {A : Nat → Prop} {Es : (Nat → Nat) × (Nat → Nat)} {a b : Nat → Nat} {cI cJ cT : ClassId}
set_option maxHeartbeats 4000000 in
set_option maxRecDepth 100000 in
theorem qX12_doesFail_0 (C : CT p s m args meth c RX12 cX12_doesFail 2 (some .boolean) wsX12_doesFail D A (tyl cI cJ cT) Es) {N : Nat} {mo_signs : Nat → Int32} {mo_signMany : Int32} {mo_nodeSign : Nat → Int32} {mo_nodeOn : Nat → Int32} {mo_nodeSize : Nat → Int32} {mo_nodeMany : Nat → Int32} {mo_due : Nat → Int32} {mo_openNode : Nat → Int32} {mo_value : Nat → Int32} {mo_isLaid : Int32} {mo_changes : Int32} {mo_changeNode : Nat → Int32} {mo_changeSign : Nat → Int32} {mo_differs : Nat → Int32} {mo_results : Nat → Int32} {mo_own : Nat → Int32} {mo_kinds : Nat → Int32} {mo_testInputs : Nat → Int32} {mo_testDue : Nat → Int32} {mo_tests : Int32} {mo_noticed : Nat → Int32} {mo_missed : Nat → Int32} {mo_leastFrom : Nat → Int32} {mo_blameUpper : Nat → Int32} {mo_blameLower : Nat → Int32} {z_r : Int32} : ∀ (x1 : Int32), fX12_doesFail N mo_own mo_testInputs mo_testDue x1 = some z_r → ∀ (H : Heap) (locs : List Loc) (ls : Array Slot), DB D A (wd_mo a b cI cJ cT mo_signs mo_signMany mo_nodeSign mo_nodeOn mo_nodeSize mo_nodeMany mo_due mo_openNode mo_value mo_isLaid mo_changes mo_changeNode mo_changeSign mo_differs mo_results mo_own mo_kinds mo_testInputs mo_testDue mo_tests mo_noticed mo_missed mo_leastFrom mo_blameUpper mo_blameLower) s H locs → lv_has ls 2 [(0, .ref (b 0)), (1, .int x1)] → W p l e rmX12_doesFail s m args below meth c H locs 0 0 (ZI below args s D A (tyl cI cJ cT) z_r (wd_mo a b cI cJ cT mo_signs mo_signMany mo_nodeSign mo_nodeOn mo_nodeSize mo_nodeMany mo_due mo_openNode mo_value mo_isLaid mo_changes mo_changeNode mo_changeSign mo_differs mo_results mo_own mo_kinds mo_testInputs mo_testDue mo_tests mo_noticed mo_missed mo_leastFrom mo_blameUpper mo_blameLower) 0 0) (F0 m 0 ls []) := by
  have hx := C.1.1
  have hb := C.1.2.1
  have hown := C.1.2.2.2.1
  have hts := C.1.2.2.2.2
  intro x1 h H locs ls B hl
  rw [fX12_doesFail] at h
  refine lv_aload_n hx hb dX12_doesFail_0 rfl (lv_at hl 0 rfl) ?_
  refine gfX12_doesFail_47 C B 0 rfl rfl dX12_doesFail_1 ?_
  refine lv_aload_n hx hb dX12_doesFail_4 rfl (lv_at hl 0 rfl) ?_
  refine gfX12_doesFail_53 C B 0 rfl rfl dX12_doesFail_5 ?_
  refine lv_iload_n hx hb dX12_doesFail_8 rfl (lv_at hl 1 rfl) ?_
  obtain ⟨b_1, h⟩ := bnd_some h
  refine k_iald C B 15 0 rfl rfl b_1 dX12_doesFail_9 ?_
  obtain ⟨b_2, h⟩ := bnd_some h
  refine k_iald C B 13 0 rfl rfl b_2 dX12_doesFail_10 ?_
  refine lv_aload_n hx hb dX12_doesFail_11 rfl (lv_at hl 0 rfl) ?_
  refine gfX12_doesFail_56 C B 0 rfl rfl dX12_doesFail_12 ?_
  refine lv_iload_n hx hb dX12_doesFail_15 rfl (lv_at hl 1 rfl) ?_
  refine k_iald C B 16 0 rfl rfl b_1 dX12_doesFail_16 ?_
  refine lv_icmp_eq (tgt := 24) hx hb dX12_doesFail_17 (by decide) (fun c_3 => ?_) (fun c_3 => ?_)
  · rw [if_pos c_3] at h
    refine lv_iconst (v := 0) hx hb dX12_doesFail_24 (by decide) ?_
    cases h
    exact k_zret C B (by decide) dX12_doesFail_25
  · rw [if_neg c_3] at h
    refine lv_iconst (v := 1) hx hb dX12_doesFail_20 (by decide) ?_
    refine lv_goto (tgt := 25) hx hb dX12_doesFail_21 (by decide) ?_
    cases h
    exact k_zret C B (by decide) dX12_doesFail_25
end
theorem tX12_doesFail {l : Launch} {D : va_G} {Es : (Nat → Nat) × (Nat → Nat)} {a b : Nat → Nat} {cI cJ cT : ClassId} {mo_signs : Nat → Int32} {mo_signMany : Int32} {mo_nodeSign : Nat → Int32} {mo_nodeOn : Nat → Int32} {mo_nodeSize : Nat → Int32} {mo_nodeMany : Nat → Int32} {mo_due : Nat → Int32} {mo_openNode : Nat → Int32} {mo_value : Nat → Int32} {mo_isLaid : Int32} {mo_changes : Int32} {mo_changeNode : Nat → Int32} {mo_changeSign : Nat → Int32} {mo_differs : Nat → Int32} {mo_results : Nat → Int32} {mo_own : Nat → Int32} {mo_kinds : Nat → Int32} {mo_testInputs : Nat → Int32} {mo_testDue : Nat → Int32} {mo_tests : Int32} {mo_noticed : Nat → Int32} {mo_missed : Nat → Int32} {mo_leastFrom : Nat → Int32} {mo_blameUpper : Nat → Int32} {mo_blameLower : Nat → Int32} {x1 : Int32} {z_r : Int32} (N : Nat) (h : fX12_doesFail N mo_own mo_testInputs mo_testDue x1 = some z_r) : CtI l yX12_doesFail wsX12_doesFail rmX12_doesFail D (tyl cI cJ cT) Es [.ref (b 0), .int x1] (wd_mo a b cI cJ cT mo_signs mo_signMany mo_nodeSign mo_nodeOn mo_nodeSize mo_nodeMany mo_due mo_openNode mo_value mo_isLaid mo_changes mo_changeNode mo_changeSign mo_differs mo_results mo_own mo_kinds mo_testInputs mo_testDue mo_tests mo_noticed mo_missed mo_leastFrom mo_blameUpper mo_blameLower) z_r (wd_mo a b cI cJ cT mo_signs mo_signMany mo_nodeSign mo_nodeOn mo_nodeSize mo_nodeMany mo_due mo_openNode mo_value mo_isLaid mo_changes mo_changeNode mo_changeSign mo_differs mo_results mo_own mo_kinds mo_testInputs mo_testDue mo_tests mo_noticed mo_missed mo_leastFrom mo_blameUpper mo_blameLower) :=
  CtI.of (own := RX12) (cc := cX12_doesFail) (nL := 2) (ret := (some .boolean)) (by decide +kernel) rfl rfl (Nat.le_of_ble_eq_true rfl) rfl (fun p e s m below meth c A ls C B hl => qX12_doesFail_0 C (N := N) x1 h _ _ _ B hl)

abbrev rmX12_of : Room := { frames := 6, cells := 0, slots := 0, locals := 140 }
theorem hdX12_of : yX12_of.cls ≠ "java/lang/invoke/MethodHandle" ∧ yX12_of.cls ≠ "java/lang/invoke/VarHandle" ∧ (parseMethodDescriptor yX12_of.desc).map (fun d => d.parameters.length) = some 2 := by decide +kernel
theorem iX12_of_X12 : ∀ w ∈ wsX120, w ∈ wsX12_of := by decide +kernel
theorem gfX12_of_141 {p : Program} {l : Launch} {e : Env} {R : Room} {s : State} {m : MethodId} {args : Array Value} {below : List Frame} {meth : Method} {c : Code} {H : Heap} {locs : List Loc} {cells slots : Nat} {Q : State → Prop} {D : va_G} {A : Nat → Prop} {tys : List (ClassId × FieldType)} {Es : (Nat → Nat) × (Nat → Nat)} {ws : va_W} {pc : Nat} {ls : Array Slot} {rest : List Value} {a : Nat} (C : CT p s m args meth c RX12 cX12_of 5 (some .int) wsX12_of D A tys Es) (B : DB D A ws s H locs) (q0 : Nat) {fs : List Value} {v : Value} (he : ws[q0]? = some (a, .inr (12, fs))) (hv : fs[10]? = some v) (hdg : decode cX12_of pc = .ok (.getfield 141, 3)) (kk : W p l e R s m args below meth c H locs cells slots Q (F0 m (pc + 3) ls (v :: rest))) : W p l e R s m args below meth c H locs cells slots Q (F0 m pc ls (.ref a :: rest)) :=
  k_get (Cn := RX12) (T := TX12) (N := 25) (index := 141) C B iX12_of_X12 rfl 10 (by decide) (by decide +kernel) q0 he hv hdg kk
theorem gfX12_of_56 {p : Program} {l : Launch} {e : Env} {R : Room} {s : State} {m : MethodId} {args : Array Value} {below : List Frame} {meth : Method} {c : Code} {H : Heap} {locs : List Loc} {cells slots : Nat} {Q : State → Prop} {D : va_G} {A : Nat → Prop} {tys : List (ClassId × FieldType)} {Es : (Nat → Nat) × (Nat → Nat)} {ws : va_W} {pc : Nat} {ls : Array Slot} {rest : List Value} {a : Nat} (C : CT p s m args meth c RX12 cX12_of 5 (some .int) wsX12_of D A tys Es) (B : DB D A ws s H locs) (q0 : Nat) {fs : List Value} {v : Value} (he : ws[q0]? = some (a, .inr (12, fs))) (hv : fs[18]? = some v) (hdg : decode cX12_of pc = .ok (.getfield 56, 3)) (kk : W p l e R s m args below meth c H locs cells slots Q (F0 m (pc + 3) ls (v :: rest))) : W p l e R s m args below meth c H locs cells slots Q (F0 m pc ls (.ref a :: rest)) :=
  k_get (Cn := RX12) (T := TX12) (N := 25) (index := 56) C B iX12_of_X12 rfl 18 (by decide) (by decide +kernel) q0 he hv hdg kk
theorem gfX12_of_53 {p : Program} {l : Launch} {e : Env} {R : Room} {s : State} {m : MethodId} {args : Array Value} {below : List Frame} {meth : Method} {c : Code} {H : Heap} {locs : List Loc} {cells slots : Nat} {Q : State → Prop} {D : va_G} {A : Nat → Prop} {tys : List (ClassId × FieldType)} {Es : (Nat → Nat) × (Nat → Nat)} {ws : va_W} {pc : Nat} {ls : Array Slot} {rest : List Value} {a : Nat} (C : CT p s m args meth c RX12 cX12_of 5 (some .int) wsX12_of D A tys Es) (B : DB D A ws s H locs) (q0 : Nat) {fs : List Value} {v : Value} (he : ws[q0]? = some (a, .inr (12, fs))) (hv : fs[17]? = some v) (hdg : decode cX12_of pc = .ok (.getfield 53, 3)) (kk : W p l e R s m args below meth c H locs cells slots Q (F0 m (pc + 3) ls (v :: rest))) : W p l e R s m args below meth c H locs cells slots Q (F0 m pc ls (.ref a :: rest)) :=
  k_get (Cn := RX12) (T := TX12) (N := 25) (index := 53) C B iX12_of_X12 rfl 17 (by decide) (by decide +kernel) q0 he hv hdg kk
theorem gfX12_of_59 {p : Program} {l : Launch} {e : Env} {R : Room} {s : State} {m : MethodId} {args : Array Value} {below : List Frame} {meth : Method} {c : Code} {H : Heap} {locs : List Loc} {cells slots : Nat} {Q : State → Prop} {D : va_G} {A : Nat → Prop} {tys : List (ClassId × FieldType)} {Es : (Nat → Nat) × (Nat → Nat)} {ws : va_W} {pc : Nat} {ls : Array Slot} {rest : List Value} {a : Nat} (C : CT p s m args meth c RX12 cX12_of 5 (some .int) wsX12_of D A tys Es) (B : DB D A ws s H locs) (q0 : Nat) {fs : List Value} {v : Value} (he : ws[q0]? = some (a, .inr (12, fs))) (hv : fs[20]? = some v) (hdg : decode cX12_of pc = .ok (.getfield 59, 3)) (kk : W p l e R s m args below meth c H locs cells slots Q (F0 m (pc + 3) ls (v :: rest))) : W p l e R s m args below meth c H locs cells slots Q (F0 m pc ls (.ref a :: rest)) :=
  k_get (Cn := RX12) (T := TX12) (N := 25) (index := 59) C B iX12_of_X12 rfl 20 (by decide) (by decide +kernel) q0 he hv hdg kk
section
variable {p : Program} {l : Launch} {e : Env} {s : State} {m : MethodId} {args : Array Value} {below : List Frame} {meth : Method} {c : Code} {D : va_G} {A : Nat → Prop} {Es : (Nat → Nat) × (Nat → Nat)} {a b : Nat → Nat} {cI cJ cT : ClassId}
set_option maxHeartbeats 4000000 in
set_option maxRecDepth 100000 in
theorem qX12_of_42 (C : CT p s m args meth c RX12 cX12_of 5 (some .int) wsX12_of D A (tyl cI cJ cT) Es) {N : Nat} {mo_signs : Nat → Int32} {mo_signMany : Int32} {mo_nodeSign : Nat → Int32} {mo_nodeOn : Nat → Int32} {mo_nodeSize : Nat → Int32} {mo_nodeMany : Nat → Int32} {mo_due : Nat → Int32} {mo_openNode : Nat → Int32} {mo_kinds : Nat → Int32} {mo_testInputs : Nat → Int32} {mo_testDue : Nat → Int32} {mo_tests : Int32} {mo_missed : Nat → Int32} {mo_leastFrom : Nat → Int32} {mo_blameUpper : Nat → Int32} {mo_blameLower : Nat → Int32} {z_r : Int32} {z_mo_value : Nat → Int32} {z_mo_isLaid : Int32} {z_mo_changes : Int32} {z_mo_changeNode : Nat → Int32} {z_mo_changeSign : Nat → Int32} {z_mo_differs : Nat → Int32} {z_mo_results : Nat → Int32} {z_mo_own : Nat → Int32} {z_mo_noticed : Nat → Int32} {k19 : Int32 → Int32 → Int32 → Int32 → (Nat → Int32) → (Int32) → (Int32) → (Nat → Int32) → (Nat → Int32) → (Nat → Int32) → (Nat → Int32) → (Nat → Int32) → (Nat → Int32) → Option (Int32 × (Nat → Int32) × (Int32) × (Int32) × (Nat → Int32) × (Nat → Int32) × (Nat → Int32) × (Nat → Int32) × (Nat → Int32) × (Nat → Int32))} (hk19 : ∀ (x1 : Int32) (x2 : Int32) (x3 : Int32) (x4 : Int32) (mo_value : Nat → Int32) (mo_isLaid : Int32) (mo_changes : Int32) (mo_changeNode : Nat → Int32) (mo_changeSign : Nat → Int32) (mo_differs : Nat → Int32) (mo_results : Nat → Int32) (mo_own : Nat → Int32) (mo_noticed : Nat → Int32), k19 x1 x2 x3 x4 mo_value mo_isLaid mo_changes mo_changeNode mo_changeSign mo_differs mo_results mo_own mo_noticed = some (z_r, z_mo_value, z_mo_isLaid, z_mo_changes, z_mo_changeNode, z_mo_changeSign, z_mo_differs, z_mo_results, z_mo_own, z_mo_noticed) → ∀ (H : Heap) (locs : List Loc) (ls : Array Slot), DB D A (wd_mo a b cI cJ cT mo_signs mo_signMany mo_nodeSign mo_nodeOn mo_nodeSize mo_nodeMany mo_due mo_openNode mo_value mo_isLaid mo_changes mo_changeNode mo_changeSign mo_differs mo_results mo_own mo_kinds mo_testInputs mo_testDue mo_tests mo_noticed mo_missed mo_leastFrom mo_blameUpper mo_blameLower) s H locs → lv_has ls 5 [(0, .ref (b 0)), (1, .int x1), (2, .int x2), (3, .int x3), (4, .int x4)] → W p l e rmX12_of s m args below meth c H locs 0 0 (ZI below args s D A (tyl cI cJ cT) z_r (wd_mo a b cI cJ cT mo_signs mo_signMany mo_nodeSign mo_nodeOn mo_nodeSize mo_nodeMany mo_due mo_openNode z_mo_value z_mo_isLaid z_mo_changes z_mo_changeNode z_mo_changeSign z_mo_differs z_mo_results z_mo_own mo_kinds mo_testInputs mo_testDue mo_tests z_mo_noticed mo_missed mo_leastFrom mo_blameUpper mo_blameLower) 0 0) (F0 m 19 ls [])) : ∀ (x1 : Int32) (x2 : Int32) (x3 : Int32) (x4 : Int32) (mo_value : Nat → Int32) (mo_isLaid : Int32) (mo_changes : Int32) (mo_changeNode : Nat → Int32) (mo_changeSign : Nat → Int32) (mo_differs : Nat → Int32) (mo_results : Nat → Int32) (mo_own : Nat → Int32) (mo_noticed : Nat → Int32), bX12_of_42 N mo_nodeSign mo_nodeSize mo_nodeMany mo_kinds mo_testInputs mo_testDue mo_tests k19 x1 x2 x3 x4 mo_value mo_isLaid mo_changes mo_changeNode mo_changeSign mo_differs mo_results mo_own mo_noticed = some (z_r, z_mo_value, z_mo_isLaid, z_mo_changes, z_mo_changeNode, z_mo_changeSign, z_mo_differs, z_mo_results, z_mo_own, z_mo_noticed) → ∀ (H : Heap) (locs : List Loc) (ls : Array Slot), DB D A (wd_mo a b cI cJ cT mo_signs mo_signMany mo_nodeSign mo_nodeOn mo_nodeSize mo_nodeMany mo_due mo_openNode mo_value mo_isLaid mo_changes mo_changeNode mo_changeSign mo_differs mo_results mo_own mo_kinds mo_testInputs mo_testDue mo_tests mo_noticed mo_missed mo_leastFrom mo_blameUpper mo_blameLower) s H locs → lv_has ls 5 [(0, .ref (b 0)), (1, .int x1), (2, .int x2), (3, .int x3), (4, .int x4)] → W p l e rmX12_of s m args below meth c H locs 0 0 (ZI below args s D A (tyl cI cJ cT) z_r (wd_mo a b cI cJ cT mo_signs mo_signMany mo_nodeSign mo_nodeOn mo_nodeSize mo_nodeMany mo_due mo_openNode z_mo_value z_mo_isLaid z_mo_changes z_mo_changeNode z_mo_changeSign z_mo_differs z_mo_results z_mo_own mo_kinds mo_testInputs mo_testDue mo_tests z_mo_noticed mo_missed mo_leastFrom mo_blameUpper mo_blameLower) 0 0) (F0 m 42 ls []) := by
  have hx := C.1.1
  have hb := C.1.2.1
  have hown := C.1.2.2.2.1
  have hts := C.1.2.2.2.2
  intro x1 x2 x3 x4 mo_value mo_isLaid mo_changes mo_changeNode mo_changeSign mo_differs mo_results mo_own mo_noticed h H locs ls B hl
  rw [bX12_of_42] at h
  refine lv_iinc (v := (x4 + 1)) (lv' := [(4, .int (x4 + 1)), (0, .ref (b 0)), (1, .int x1), (2, .int x2), (3, .int x3)]) hx hb dX12_of_42 hl (k := 4) rfl rfl (by decide) rfl (fun ls hl => ?_)
  refine lv_goto (tgt := 19) hx hb dX12_of_45 (by decide) ?_
  exact hk19 x1 x2 x3 (x4 + 1) mo_value mo_isLaid mo_changes mo_changeNode mo_changeSign mo_differs mo_results mo_own mo_noticed h H locs ls B (lv_sub hl [1, 2, 3, 4, 0] rfl)
set_option maxHeartbeats 4000000 in
set_option maxRecDepth 100000 in
theorem qX12_of_19 (C : CT p s m args meth c RX12 cX12_of 5 (some .int) wsX12_of D A (tyl cI cJ cT) Es) {N : Nat} {mo_signs : Nat → Int32} {mo_signMany : Int32} {mo_nodeSign : Nat → Int32} {mo_nodeOn : Nat → Int32} {mo_nodeSize : Nat → Int32} {mo_nodeMany : Nat → Int32} {mo_due : Nat → Int32} {mo_openNode : Nat → Int32} {mo_kinds : Nat → Int32} {mo_testInputs : Nat → Int32} {mo_testDue : Nat → Int32} {mo_tests : Int32} {mo_missed : Nat → Int32} {mo_leastFrom : Nat → Int32} {mo_blameUpper : Nat → Int32} {mo_blameLower : Nat → Int32} {z_r : Int32} {z_mo_value : Nat → Int32} {z_mo_isLaid : Int32} {z_mo_changes : Int32} {z_mo_changeNode : Nat → Int32} {z_mo_changeSign : Nat → Int32} {z_mo_differs : Nat → Int32} {z_mo_results : Nat → Int32} {z_mo_own : Nat → Int32} {z_mo_noticed : Nat → Int32} : ∀ (n : Nat) (x1 : Int32) (x2 : Int32) (x3 : Int32) (x4 : Int32) (mo_value : Nat → Int32) (mo_isLaid : Int32) (mo_changes : Int32) (mo_changeNode : Nat → Int32) (mo_changeSign : Nat → Int32) (mo_differs : Nat → Int32) (mo_results : Nat → Int32) (mo_own : Nat → Int32) (mo_noticed : Nat → Int32), bX12_of_19 N mo_nodeSign mo_nodeSize mo_nodeMany mo_kinds mo_testInputs mo_testDue mo_tests n x1 x2 x3 x4 mo_value mo_isLaid mo_changes mo_changeNode mo_changeSign mo_differs mo_results mo_own mo_noticed = some (z_r, z_mo_value, z_mo_isLaid, z_mo_changes, z_mo_changeNode, z_mo_changeSign, z_mo_differs, z_mo_results, z_mo_own, z_mo_noticed) → ∀ (H : Heap) (locs : List Loc) (ls : Array Slot), DB D A (wd_mo a b cI cJ cT mo_signs mo_signMany mo_nodeSign mo_nodeOn mo_nodeSize mo_nodeMany mo_due mo_openNode mo_value mo_isLaid mo_changes mo_changeNode mo_changeSign mo_differs mo_results mo_own mo_kinds mo_testInputs mo_testDue mo_tests mo_noticed mo_missed mo_leastFrom mo_blameUpper mo_blameLower) s H locs → lv_has ls 5 [(0, .ref (b 0)), (1, .int x1), (2, .int x2), (3, .int x3), (4, .int x4)] → W p l e rmX12_of s m args below meth c H locs 0 0 (ZI below args s D A (tyl cI cJ cT) z_r (wd_mo a b cI cJ cT mo_signs mo_signMany mo_nodeSign mo_nodeOn mo_nodeSize mo_nodeMany mo_due mo_openNode z_mo_value z_mo_isLaid z_mo_changes z_mo_changeNode z_mo_changeSign z_mo_differs z_mo_results z_mo_own mo_kinds mo_testInputs mo_testDue mo_tests z_mo_noticed mo_missed mo_leastFrom mo_blameUpper mo_blameLower) 0 0) (F0 m 19 ls []) := by
  have hx := C.1.1
  have hb := C.1.2.1
  have hown := C.1.2.2.2.1
  have hts := C.1.2.2.2.2
  intro n
  induction n with
  | zero => intro x1 x2 x3 x4 mo_value mo_isLaid mo_changes mo_changeNode mo_changeSign mo_differs mo_results mo_own mo_noticed h; cases h
  | succ n ih =>
    intro x1 x2 x3 x4 mo_value mo_isLaid mo_changes mo_changeNode mo_changeSign mo_differs mo_results mo_own mo_noticed h H locs ls B hl
    rw [bX12_of_19] at h
    refine lv_iload hx hb dX12_of_19 (lv_at hl 4 rfl) ?_
    refine lv_aload_n hx hb dX12_of_21 rfl (lv_at hl 0 rfl) ?_
    refine gfX12_of_141 C B 0 rfl rfl dX12_of_22 ?_
    refine lv_icmp_ge (tgt := 48) hx hb dX12_of_25 (by decide) (fun c_1 => ?_) (fun c_1 => ?_)
    · rw [if_pos c_1] at h
      refine lv_iload_n hx hb dX12_of_48 rfl (lv_at hl 2 rfl) ?_
      refine lv_if_ne (tgt := 61) hx hb dX12_of_49 (by decide) (fun c_2 => ?_) (fun c_2 => ?_)
      · rw [if_neg c_2] at h
        refine lv_iload_n hx hb dX12_of_61 rfl (lv_at hl 2 rfl) ?_
        refine lv_iconst (v := 1) hx hb dX12_of_62 (by decide) ?_
        refine lv_icmp_ne (tgt := 75) hx hb dX12_of_63 (by decide) (fun c_3 => ?_) (fun c_3 => ?_)
        · rw [if_neg c_3] at h
          refine lv_iload_n hx hb dX12_of_75 rfl (lv_at hl 2 rfl) ?_
          refine lv_iconst (v := 2) hx hb dX12_of_76 (by decide) ?_
          refine lv_icmp_ne (tgt := 96) hx hb dX12_of_77 (by decide) (fun c_4 => ?_) (fun c_4 => ?_)
          · rw [if_neg c_4] at h
            refine lv_iload_n hx hb dX12_of_96 rfl (lv_at hl 2 rfl) ?_
            refine lv_iconst (v := 3) hx hb dX12_of_97 (by decide) ?_
            refine lv_icmp_ne (tgt := 105) hx hb dX12_of_98 (by decide) (fun c_5 => ?_) (fun c_5 => ?_)
            · rw [if_neg c_5] at h
              refine lv_bipush (v := -2) hx hb dX12_of_105 (by decide) ?_
              cases h
              exact k_iret C B dX12_of_107
            · rw [if_pos c_5] at h
              refine lv_iload_n hx hb dX12_of_101 rfl (lv_at hl 3 rfl) ?_
              refine lv_goto (tgt := 107) hx hb dX12_of_102 (by decide) ?_
              cases h
              exact k_iret C B dX12_of_107
          · rw [if_pos c_4] at h
            refine lv_aload_n hx hb dX12_of_80 rfl (lv_at hl 0 rfl) ?_
            refine lv_iload_n hx hb dX12_of_81 rfl (lv_at hl 1 rfl) ?_
            obtain ⟨r_6, g_8, h⟩ := ob_some h
            try dsimp only at h
            refine kc_VI C B (q0 := 0) (ci := 12) (As := [.int x1]) (rest := []) (w2 := (wd_mo a b cI cJ cT mo_signs mo_signMany mo_nodeSign mo_nodeOn mo_nodeSize mo_nodeMany mo_due mo_openNode mo_value mo_isLaid mo_changes mo_changeNode mo_changeSign mo_differs mo_results mo_own mo_kinds mo_testInputs mo_testDue mo_tests mo_noticed mo_missed mo_leastFrom mo_blameUpper mo_blameLower)) (tX12_doesFail (a := a) (b := b) N g_8) gX12_of_X12_doesFail rfl ⟨rfl, rfl⟩ ⟨rfl, hdX12_doesFail⟩ ⟨Nat.le_of_ble_eq_true rfl, Nat.le_of_ble_eq_true rfl⟩ rfl rfl [0, 1, 2, 3, 4, 5, 6, 7, 8, 9, 10, 11, 12, 13, 14, 15, 16, 17, 18, 19, 20, 21] [] [0, 1, 2, 3, 4, 5, 6, 7, 8, 9, 10, 11, 12, 13, 14, 15, 16, 17, 18, 19, 20, 21] rfl rfl rfl rfl rfl rfl rfl rfl hl.1 rfl (Nat.le_of_ble_eq_true rfl) ⟨Nat.zero_le _, Nat.zero_le _⟩ dX12_of_82 (fun H locs B => ?_)
            refine lv_if_eq (tgt := 92) hx hb dX12_of_85 (by decide) (fun c_7 => ?_) (fun c_7 => ?_)
            · rw [if_pos c_7] at h
              refine lv_iconst (v := 0) hx hb dX12_of_92 (by decide) ?_
              refine lv_goto (tgt := 107) hx hb dX12_of_93 (by decide) ?_
              cases h
              exact k_iret C B dX12_of_107
            · rw [if_neg c_7] at h
              refine lv_iconst (v := 1) hx hb dX12_of_88 (by decide) ?_
              refine lv_goto (tgt := 107) hx hb dX12_of_89 (by decide) ?_
              cases h
              exact k_iret C B dX12_of_107
        · rw [if_pos c_3] at h
          refine lv_aload_n hx hb dX12_of_66 rfl (lv_at hl 0 rfl) ?_
          refine gfX12_of_56 C B 0 rfl rfl dX12_of_67 ?_
          refine lv_iload_n hx hb dX12_of_70 rfl (lv_at hl 1 rfl) ?_
          obtain ⟨b_9, h⟩ := bnd_some h
          refine k_iald C B 16 0 rfl rfl b_9 dX12_of_71 ?_
          refine lv_goto (tgt := 107) hx hb dX12_of_72 (by decide) ?_
          cases h
          exact k_iret C B dX12_of_107
      · rw [if_pos c_2] at h
        refine lv_aload_n hx hb dX12_of_52 rfl (lv_at hl 0 rfl) ?_
        refine gfX12_of_53 C B 0 rfl rfl dX12_of_53 ?_
        refine lv_iload_n hx hb dX12_of_56 rfl (lv_at hl 1 rfl) ?_
        obtain ⟨b_10, h⟩ := bnd_some h
        refine k_iald C B 15 0 rfl rfl b_10 dX12_of_57 ?_
        refine lv_goto (tgt := 107) hx hb dX12_of_58 (by decide) ?_
        cases h
        exact k_iret C B dX12_of_107
    · rw [if_neg c_1] at h
      refine lv_iload_n hx hb dX12_of_28 rfl (lv_at hl 3 rfl) ?_
      refine lv_aload_n hx hb dX12_of_29 rfl (lv_at hl 0 rfl) ?_
      refine gfX12_of_59 C B 0 rfl rfl dX12_of_30 ?_
      refine lv_iload hx hb dX12_of_33 (lv_at hl 4 rfl) ?_
      obtain ⟨b_11, h⟩ := bnd_some h
      refine k_iald C B 17 0 rfl rfl b_11 dX12_of_35 ?_
      refine lv_iload_n hx hb dX12_of_36 rfl (lv_at hl 1 rfl) ?_
      refine lv_ishr hx hb dX12_of_37 ?_
      refine lv_iconst (v := 1) hx hb dX12_of_38 (by decide) ?_
      refine lv_iand hx hb dX12_of_39 ?_
      refine lv_iadd hx hb dX12_of_40 ?_
      refine lv_istore_n (lv' := [(3, .int (x3 + (((mo_noticed (Int32.toNatClampNeg x4)) >>> (x1 &&& 31)) &&& (1 : Int32)))), (0, .ref (b 0)), (1, .int x1), (2, .int x2), (4, .int x4)]) hx hb dX12_of_41 rfl hl (by decide) rfl (fun ls hl => ?_)
      exact qX12_of_42 C ih x1 x2 (x3 + (((mo_noticed (Int32.toNatClampNeg x4)) >>> (x1 &&& 31)) &&& (1 : Int32))) x4 mo_value mo_isLaid mo_changes mo_changeNode mo_changeSign mo_differs mo_results mo_own mo_noticed h H locs ls B (lv_sub hl [1, 2, 3, 0, 4] rfl)
set_option maxHeartbeats 4000000 in
set_option maxRecDepth 100000 in
theorem qX12_of_0 (C : CT p s m args meth c RX12 cX12_of 5 (some .int) wsX12_of D A (tyl cI cJ cT) Es) {N : Nat} {mo_signs : Nat → Int32} {mo_signMany : Int32} {mo_nodeSign : Nat → Int32} {mo_nodeOn : Nat → Int32} {mo_nodeSize : Nat → Int32} {mo_nodeMany : Nat → Int32} {mo_due : Nat → Int32} {mo_openNode : Nat → Int32} {mo_kinds : Nat → Int32} {mo_testInputs : Nat → Int32} {mo_testDue : Nat → Int32} {mo_tests : Int32} {mo_missed : Nat → Int32} {mo_leastFrom : Nat → Int32} {mo_blameUpper : Nat → Int32} {mo_blameLower : Nat → Int32} {z_r : Int32} {z_mo_value : Nat → Int32} {z_mo_isLaid : Int32} {z_mo_changes : Int32} {z_mo_changeNode : Nat → Int32} {z_mo_changeSign : Nat → Int32} {z_mo_differs : Nat → Int32} {z_mo_results : Nat → Int32} {z_mo_own : Nat → Int32} {z_mo_noticed : Nat → Int32} : ∀ (x1 : Int32) (x2 : Int32) (mo_value : Nat → Int32) (mo_isLaid : Int32) (mo_changes : Int32) (mo_changeNode : Nat → Int32) (mo_changeSign : Nat → Int32) (mo_differs : Nat → Int32) (mo_results : Nat → Int32) (mo_own : Nat → Int32) (mo_noticed : Nat → Int32), fX12_of N mo_nodeSign mo_nodeSize mo_nodeMany mo_kinds mo_testInputs mo_testDue mo_tests x1 x2 mo_value mo_isLaid mo_changes mo_changeNode mo_changeSign mo_differs mo_results mo_own mo_noticed = some (z_r, z_mo_value, z_mo_isLaid, z_mo_changes, z_mo_changeNode, z_mo_changeSign, z_mo_differs, z_mo_results, z_mo_own, z_mo_noticed) → ∀ (H : Heap) (locs : List Loc) (ls : Array Slot), DB D A (wd_mo a b cI cJ cT mo_signs mo_signMany mo_nodeSign mo_nodeOn mo_nodeSize mo_nodeMany mo_due mo_openNode mo_value mo_isLaid mo_changes mo_changeNode mo_changeSign mo_differs mo_results mo_own mo_kinds mo_testInputs mo_testDue mo_tests mo_noticed mo_missed mo_leastFrom mo_blameUpper mo_blameLower) s H locs → lv_has ls 5 [(0, .ref (b 0)), (1, .int x1), (2, .int x2)] → W p l e rmX12_of s m args below meth c H locs 0 0 (ZI below args s D A (tyl cI cJ cT) z_r (wd_mo a b cI cJ cT mo_signs mo_signMany mo_nodeSign mo_nodeOn mo_nodeSize mo_nodeMany mo_due mo_openNode z_mo_value z_mo_isLaid z_mo_changes z_mo_changeNode z_mo_changeSign z_mo_differs z_mo_results z_mo_own mo_kinds mo_testInputs mo_testDue mo_tests z_mo_noticed mo_missed mo_leastFrom mo_blameUpper mo_blameLower) 0 0) (F0 m 0 ls []) := by
  have hx := C.1.1
  have hb := C.1.2.1
  have hown := C.1.2.2.2.1
  have hts := C.1.2.2.2.2
  intro x1 x2 mo_value mo_isLaid mo_changes mo_changeNode mo_changeSign mo_differs mo_results mo_own mo_noticed h H locs ls B hl
  rw [fX12_of] at h
  refine lv_aload_n hx hb dX12_of_0 rfl (lv_at hl 0 rfl) ?_
  refine lv_iload_n hx hb dX12_of_1 rfl (lv_at hl 1 rfl) ?_
  obtain ⟨r_1, g_13, h⟩ := ob_some h
  try dsimp only at h
  refine kc_VI C B (q0 := 0) (ci := 12) (As := [.int x1]) (rest := []) (w2 := (wd_mo a b cI cJ cT mo_signs mo_signMany mo_nodeSign mo_nodeOn mo_nodeSize mo_nodeMany mo_due mo_openNode mo_value mo_isLaid mo_changes mo_changeNode mo_changeSign mo_differs mo_results mo_own mo_kinds mo_testInputs mo_testDue mo_tests mo_noticed mo_missed mo_leastFrom mo_blameUpper mo_blameLower)) (tX12_isTest (a := a) (b := b) N g_13) gX12_of_X12_isTest rfl ⟨rfl, rfl⟩ ⟨rfl, hdX12_isTest⟩ ⟨Nat.le_of_ble_eq_true rfl, Nat.le_of_ble_eq_true rfl⟩ rfl rfl [0, 1, 2, 3, 4, 5, 6, 7, 8, 9, 10, 11, 12, 13, 14, 15, 16, 17, 18, 19, 20, 21] [] [0, 1, 2, 3, 4, 5, 6, 7, 8, 9, 10, 11, 12, 13, 14, 15, 16, 17, 18, 19, 20, 21] rfl rfl rfl rfl rfl rfl rfl rfl hl.1 rfl (Nat.le_of_ble_eq_true rfl) ⟨Nat.zero_le _, Nat.zero_le _⟩ dX12_of_2 (fun H locs B => ?_)
  refine lv_if_ne (tgt := 10) hx hb dX12_of_5 (by decide) (fun c_2 => ?_) (fun c_2 => ?_)
  · rw [if_neg c_2] at h
    refine lv_aload_n hx hb dX12_of_10 rfl (lv_at hl 0 rfl) ?_
    obtain ⟨⟨mo_value_3, mo_isLaid_4, mo_changes_5, mo_changeNode_6, mo_changeSign_7, mo_differs_8, mo_results_9, mo_own_10, mo_noticed_11⟩, g_12, h⟩ := ob_some h
    try dsimp only at h
    refine kc_VV C B (q0 := 0) (ci := 12) (As := []) (rest := []) (w2 := (wd_mo a b cI cJ cT mo_signs mo_signMany mo_nodeSign mo_nodeOn mo_nodeSize mo_nodeMany mo_due mo_openNode mo_value_3 mo_isLaid_4 mo_changes_5 mo_changeNode_6 mo_changeSign_7 mo_differs_8 mo_results_9 mo_own_10 mo_kinds mo_testInputs mo_testDue mo_tests mo_noticed_11 mo_missed mo_leastFrom mo_blameUpper mo_blameLower)) (tX12_findNoticed (a := a) (b := b) N g_12) gX12_of_X12_findNoticed rfl ⟨rfl, rfl⟩ ⟨rfl, hdX12_findNoticed⟩ ⟨Nat.le_of_ble_eq_true rfl, Nat.le_of_ble_eq_true rfl⟩ rfl rfl [0, 1, 2, 3, 4, 5, 6, 7, 8, 9, 10, 11, 12, 13, 14, 15, 16, 17, 18, 19, 20, 21] [] [0, 1, 2, 3, 4, 5, 6, 7, 8, 9, 10, 11, 12, 13, 14, 15, 16, 17, 18, 19, 20, 21] rfl rfl rfl rfl rfl rfl rfl rfl hl.1 rfl (Nat.le_of_ble_eq_true rfl) ⟨Nat.zero_le _, Nat.zero_le _⟩ dX12_of_11 (fun H locs B => ?_)
    refine lv_iconst (v := 0) hx hb dX12_of_14 (by decide) ?_
    refine lv_istore_n (lv' := [(3, .int (0 : Int32)), (0, .ref (b 0)), (1, .int x1), (2, .int x2)]) hx hb dX12_of_15 rfl hl (by decide) rfl (fun ls hl => ?_)
    refine lv_iconst (v := 0) hx hb dX12_of_16 (by decide) ?_
    refine lv_istore (lv' := [(4, .int (0 : Int32)), (3, .int (0 : Int32)), (0, .ref (b 0)), (1, .int x1), (2, .int x2)]) hx hb dX12_of_17 hl (by decide) rfl (fun ls hl => ?_)
    exact qX12_of_19 C N x1 x2 (0 : Int32) (0 : Int32) mo_value_3 mo_isLaid_4 mo_changes_5 mo_changeNode_6 mo_changeSign_7 mo_differs_8 mo_results_9 mo_own_10 mo_noticed_11 h H locs ls B (lv_sub hl [2, 3, 4, 1, 0] rfl)
  · rw [if_pos c_2] at h
    refine lv_iconst (v := -1) hx hb dX12_of_8 (by decide) ?_
    cases h
    exact k_iret C B dX12_of_9
end
theorem tX12_of {l : Launch} {D : va_G} {Es : (Nat → Nat) × (Nat → Nat)} {a b : Nat → Nat} {cI cJ cT : ClassId} {mo_signs : Nat → Int32} {mo_signMany : Int32} {mo_nodeSign : Nat → Int32} {mo_nodeOn : Nat → Int32} {mo_nodeSize : Nat → Int32} {mo_nodeMany : Nat → Int32} {mo_due : Nat → Int32} {mo_openNode : Nat → Int32} {mo_value : Nat → Int32} {mo_isLaid : Int32} {mo_changes : Int32} {mo_changeNode : Nat → Int32} {mo_changeSign : Nat → Int32} {mo_differs : Nat → Int32} {mo_results : Nat → Int32} {mo_own : Nat → Int32} {mo_kinds : Nat → Int32} {mo_testInputs : Nat → Int32} {mo_testDue : Nat → Int32} {mo_tests : Int32} {mo_noticed : Nat → Int32} {mo_missed : Nat → Int32} {mo_leastFrom : Nat → Int32} {mo_blameUpper : Nat → Int32} {mo_blameLower : Nat → Int32} {x1 : Int32} {x2 : Int32} {z_r : Int32} {z_mo_value : Nat → Int32} {z_mo_isLaid : Int32} {z_mo_changes : Int32} {z_mo_changeNode : Nat → Int32} {z_mo_changeSign : Nat → Int32} {z_mo_differs : Nat → Int32} {z_mo_results : Nat → Int32} {z_mo_own : Nat → Int32} {z_mo_noticed : Nat → Int32} (N : Nat) (h : fX12_of N mo_nodeSign mo_nodeSize mo_nodeMany mo_kinds mo_testInputs mo_testDue mo_tests x1 x2 mo_value mo_isLaid mo_changes mo_changeNode mo_changeSign mo_differs mo_results mo_own mo_noticed = some (z_r, z_mo_value, z_mo_isLaid, z_mo_changes, z_mo_changeNode, z_mo_changeSign, z_mo_differs, z_mo_results, z_mo_own, z_mo_noticed)) : CtI l yX12_of wsX12_of rmX12_of D (tyl cI cJ cT) Es [.ref (b 0), .int x1, .int x2] (wd_mo a b cI cJ cT mo_signs mo_signMany mo_nodeSign mo_nodeOn mo_nodeSize mo_nodeMany mo_due mo_openNode mo_value mo_isLaid mo_changes mo_changeNode mo_changeSign mo_differs mo_results mo_own mo_kinds mo_testInputs mo_testDue mo_tests mo_noticed mo_missed mo_leastFrom mo_blameUpper mo_blameLower) z_r (wd_mo a b cI cJ cT mo_signs mo_signMany mo_nodeSign mo_nodeOn mo_nodeSize mo_nodeMany mo_due mo_openNode z_mo_value z_mo_isLaid z_mo_changes z_mo_changeNode z_mo_changeSign z_mo_differs z_mo_results z_mo_own mo_kinds mo_testInputs mo_testDue mo_tests z_mo_noticed mo_missed mo_leastFrom mo_blameUpper mo_blameLower) :=
  CtI.of (own := RX12) (cc := cX12_of) (nL := 5) (ret := (some .int)) (by decide +kernel) rfl rfl (Nat.le_of_ble_eq_true rfl) rfl (fun p e s m below meth c A ls C B hl => qX12_of_0 C (N := N) x1 x2 mo_value mo_isLaid mo_changes mo_changeNode mo_changeSign mo_differs mo_results mo_own mo_noticed h _ _ _ B hl)

abbrev rmX12_isOne : Room := { frames := 2, cells := 0, slots := 0, locals := 45 }
theorem hdX12_isOne : yX12_isOne.cls ≠ "java/lang/invoke/MethodHandle" ∧ yX12_isOne.cls ≠ "java/lang/invoke/VarHandle" ∧ (parseMethodDescriptor yX12_isOne.desc).map (fun d => d.parameters.length) = some 2 := by decide +kernel
theorem iX12_isOne_X12 : ∀ w ∈ wsX120, w ∈ wsX12_isOne := by decide +kernel
theorem gfX12_isOne_40 {p : Program} {l : Launch} {e : Env} {R : Room} {s : State} {m : MethodId} {args : Array Value} {below : List Frame} {meth : Method} {c : Code} {H : Heap} {locs : List Loc} {cells slots : Nat} {Q : State → Prop} {D : va_G} {A : Nat → Prop} {tys : List (ClassId × FieldType)} {Es : (Nat → Nat) × (Nat → Nat)} {ws : va_W} {pc : Nat} {ls : Array Slot} {rest : List Value} {a : Nat} (C : CT p s m args meth c RX12 cX12_isOne 3 (some .boolean) wsX12_isOne D A tys Es) (B : DB D A ws s H locs) (q0 : Nat) {fs : List Value} {v : Value} (he : ws[q0]? = some (a, .inr (12, fs))) (hv : fs[13]? = some v) (hdg : decode cX12_isOne pc = .ok (.getfield 40, 3)) (kk : W p l e R s m args below meth c H locs cells slots Q (F0 m (pc + 3) ls (v :: rest))) : W p l e R s m args below meth c H locs cells slots Q (F0 m pc ls (.ref a :: rest)) :=
  k_get (Cn := RX12) (T := TX12) (N := 25) (index := 40) C B iX12_isOne_X12 rfl 13 (by decide) (by decide +kernel) q0 he hv hdg kk
theorem gfX12_isOne_59 {p : Program} {l : Launch} {e : Env} {R : Room} {s : State} {m : MethodId} {args : Array Value} {below : List Frame} {meth : Method} {c : Code} {H : Heap} {locs : List Loc} {cells slots : Nat} {Q : State → Prop} {D : va_G} {A : Nat → Prop} {tys : List (ClassId × FieldType)} {Es : (Nat → Nat) × (Nat → Nat)} {ws : va_W} {pc : Nat} {ls : Array Slot} {rest : List Value} {a : Nat} (C : CT p s m args meth c RX12 cX12_isOne 3 (some .boolean) wsX12_isOne D A tys Es) (B : DB D A ws s H locs) (q0 : Nat) {fs : List Value} {v : Value} (he : ws[q0]? = some (a, .inr (12, fs))) (hv : fs[20]? = some v) (hdg : decode cX12_isOne pc = .ok (.getfield 59, 3)) (kk : W p l e R s m args below meth c H locs cells slots Q (F0 m (pc + 3) ls (v :: rest))) : W p l e R s m args below meth c H locs cells slots Q (F0 m pc ls (.ref a :: rest)) :=
  k_get (Cn := RX12) (T := TX12) (N := 25) (index := 59) C B iX12_isOne_X12 rfl 20 (by decide) (by decide +kernel) q0 he hv hdg kk
section
variable {p : Program} {l : Launch} {e : Env} {s : State} {m : MethodId} {args : Array Value} {below : List Frame} {meth : Method} {c : Code} {D : va_G} {A : Nat → Prop} {Es : (Nat → Nat) × (Nat → Nat)} {a b : Nat → Nat} {cI cJ cT : ClassId}
set_option maxHeartbeats 4000000 in
set_option maxRecDepth 100000 in
theorem qX12_isOne_0 (C : CT p s m args meth c RX12 cX12_isOne 3 (some .boolean) wsX12_isOne D A (tyl cI cJ cT) Es) {N : Nat} {mo_signs : Nat → Int32} {mo_signMany : Int32} {mo_nodeSign : Nat → Int32} {mo_nodeOn : Nat → Int32} {mo_nodeSize : Nat → Int32} {mo_nodeMany : Nat → Int32} {mo_due : Nat → Int32} {mo_openNode : Nat → Int32} {mo_value : Nat → Int32} {mo_isLaid : Int32} {mo_changes : Int32} {mo_changeNode : Nat → Int32} {mo_changeSign : Nat → Int32} {mo_differs : Nat → Int32} {mo_results : Nat → Int32} {mo_own : Nat → Int32} {mo_kinds : Nat → Int32} {mo_testInputs : Nat → Int32} {mo_testDue : Nat → Int32} {mo_tests : Int32} {mo_noticed : Nat → Int32} {mo_missed : Nat → Int32} {mo_leastFrom : Nat → Int32} {mo_blameUpper : Nat → Int32} {mo_blameLower : Nat → Int32} {z_r : Int32} : ∀ (x1 : Int32) (x2 : Int32), fX12_isOne N mo_changes mo_differs mo_noticed x1 x2 = some z_r → ∀ (H : Heap) (locs : List Loc) (ls : Array Slot), DB D A (wd_mo a b cI cJ cT mo_signs mo_signMany mo_nodeSign mo_nodeOn mo_nodeSize mo_nodeMany mo_due mo_openNode mo_value mo_isLaid mo_changes mo_changeNode mo_changeSign mo_differs mo_results mo_own mo_kinds mo_testInputs mo_testDue mo_tests mo_noticed mo_missed mo_leastFrom mo_blameUpper mo_blameLower) s H locs → lv_has ls 3 [(0, .ref (b 0)), (1, .int x1), (2, .int x2)] → W p l e rmX12_isOne s m args below meth c H locs 0 0 (ZI below args s D A (tyl cI cJ cT) z_r (wd_mo a b cI cJ cT mo_signs mo_signMany mo_nodeSign mo_nodeOn mo_nodeSize mo_nodeMany mo_due mo_openNode mo_value mo_isLaid mo_changes mo_changeNode mo_changeSign mo_differs mo_results mo_own mo_kinds mo_testInputs mo_testDue mo_tests mo_noticed mo_missed mo_leastFrom mo_blameUpper mo_blameLower) 0 0) (F0 m 0 ls []) := by
  have hx := C.1.1
  have hb := C.1.2.1
  have hown := C.1.2.2.2.1
  have hts := C.1.2.2.2.2
  intro x1 x2 h H locs ls B hl
  rw [fX12_isOne] at h
  refine lv_iload_n hx hb dX12_isOne_0 rfl (lv_at hl 2 rfl) ?_
  by_cases c_1 : x2 = 0
  · rw [if_pos c_1] at h
    refine lv_tableIn (off := 27) (tgt := 28) hx hb dX12_isOne_1 (by rw [c_1]; decide) (by rw [c_1]; decide) (by rw [c_1]; try rfl) (by decide) ?_
    refine lv_aload_n hx hb dX12_isOne_28 rfl (lv_at hl 0 rfl) ?_
    refine gfX12_isOne_40 C B 0 rfl rfl dX12_isOne_29 ?_
    refine lv_iload_n hx hb dX12_isOne_32 rfl (lv_at hl 1 rfl) ?_
    obtain ⟨b_2, h⟩ := bnd_some h
    refine k_iald C B 11 0 rfl rfl b_2 dX12_isOne_33 ?_
    refine lv_if_ne (tgt := 41) hx hb dX12_isOne_34 (by decide) (fun c_3 => ?_) (fun c_3 => ?_)
    · rw [if_neg c_3] at h
      refine lv_iconst (v := 0) hx hb dX12_isOne_41 (by decide) ?_
      cases h
      exact k_zret C B (by decide) dX12_isOne_42
    · rw [if_pos c_3] at h
      refine lv_iconst (v := 1) hx hb dX12_isOne_37 (by decide) ?_
      refine lv_goto (tgt := 42) hx hb dX12_isOne_38 (by decide) ?_
      cases h
      exact k_zret C B (by decide) dX12_isOne_42
  · rw [if_neg c_1] at h
    by_cases c_4 : x2 = 1
    · rw [if_pos c_4] at h
      refine lv_tableIn (off := 42) (tgt := 43) hx hb dX12_isOne_1 (by rw [c_4]; decide) (by rw [c_4]; decide) (by rw [c_4]; try rfl) (by decide) ?_
      refine lv_aload_n hx hb dX12_isOne_43 rfl (lv_at hl 0 rfl) ?_
      refine gfX12_isOne_59 C B 0 rfl rfl dX12_isOne_44 ?_
      refine lv_iload_n hx hb dX12_isOne_47 rfl (lv_at hl 1 rfl) ?_
      obtain ⟨b_5, h⟩ := bnd_some h
      refine k_iald C B 17 0 rfl rfl b_5 dX12_isOne_48 ?_
      refine lv_if_eq (tgt := 56) hx hb dX12_isOne_49 (by decide) (fun c_6 => ?_) (fun c_6 => ?_)
      · rw [if_pos c_6] at h
        refine lv_iconst (v := 0) hx hb dX12_isOne_56 (by decide) ?_
        cases h
        exact k_zret C B (by decide) dX12_isOne_57
      · rw [if_neg c_6] at h
        refine lv_iconst (v := 1) hx hb dX12_isOne_52 (by decide) ?_
        refine lv_goto (tgt := 57) hx hb dX12_isOne_53 (by decide) ?_
        cases h
        exact k_zret C B (by decide) dX12_isOne_57
    · rw [if_neg c_4] at h
      by_cases c_7 : x2 = 2
      · rw [if_pos c_7] at h
        refine lv_tableIn (off := 57) (tgt := 58) hx hb dX12_isOne_1 (by rw [c_7]; decide) (by rw [c_7]; decide) (by rw [c_7]; try rfl) (by decide) ?_
        refine lv_aload_n hx hb dX12_isOne_58 rfl (lv_at hl 0 rfl) ?_
        refine gfX12_isOne_40 C B 0 rfl rfl dX12_isOne_59 ?_
        refine lv_iload_n hx hb dX12_isOne_62 rfl (lv_at hl 1 rfl) ?_
        obtain ⟨b_8, h⟩ := bnd_some h
        refine k_iald C B 11 0 rfl rfl b_8 dX12_isOne_63 ?_
        refine lv_if_eq (tgt := 80) hx hb dX12_isOne_64 (by decide) (fun c_9 => ?_) (fun c_9 => ?_)
        · rw [if_pos c_9] at h
          refine lv_iconst (v := 0) hx hb dX12_isOne_80 (by decide) ?_
          cases h
          exact k_zret C B (by decide) dX12_isOne_81
        · rw [if_neg c_9] at h
          refine lv_aload_n hx hb dX12_isOne_67 rfl (lv_at hl 0 rfl) ?_
          refine gfX12_isOne_59 C B 0 rfl rfl dX12_isOne_68 ?_
          refine lv_iload_n hx hb dX12_isOne_71 rfl (lv_at hl 1 rfl) ?_
          refine k_iald C B 17 0 rfl rfl b_8 dX12_isOne_72 ?_
          refine lv_if_ne (tgt := 80) hx hb dX12_isOne_73 (by decide) (fun c_10 => ?_) (fun c_10 => ?_)
          · rw [if_neg c_10] at h
            refine lv_iconst (v := 0) hx hb dX12_isOne_80 (by decide) ?_
            cases h
            exact k_zret C B (by decide) dX12_isOne_81
          · rw [if_pos c_10] at h
            refine lv_iconst (v := 1) hx hb dX12_isOne_76 (by decide) ?_
            refine lv_goto (tgt := 81) hx hb dX12_isOne_77 (by decide) ?_
            cases h
            exact k_zret C B (by decide) dX12_isOne_81
      · rw [if_neg c_7] at h
        refine lv_tableOut (tgt := 82) hx hb dX12_isOne_1 (tb_out 0 2 (by have := tb_ne c_1 (a := 0) rfl; have := tb_ne c_4 (a := 1) rfl; have := tb_ne c_7 (a := 2) rfl; omega)) (by decide) ?_
        refine lv_aload_n hx hb dX12_isOne_82 rfl (lv_at hl 0 rfl) ?_
        refine gfX12_isOne_59 C B 0 rfl rfl dX12_isOne_83 ?_
        refine lv_iload_n hx hb dX12_isOne_86 rfl (lv_at hl 1 rfl) ?_
        obtain ⟨b_11, h⟩ := bnd_some h
        refine k_iald C B 17 0 rfl rfl b_11 dX12_isOne_87 ?_
        refine lv_if_eq (tgt := 103) hx hb dX12_isOne_88 (by decide) (fun c_12 => ?_) (fun c_12 => ?_)
        · rw [if_pos c_12] at h
          refine lv_iconst (v := 0) hx hb dX12_isOne_103 (by decide) ?_
          cases h
          exact k_zret C B (by decide) dX12_isOne_104
        · rw [if_neg c_12] at h
          refine lv_aload_n hx hb dX12_isOne_91 rfl (lv_at hl 0 rfl) ?_
          refine lv_iload_n hx hb dX12_isOne_92 rfl (lv_at hl 1 rfl) ?_
          obtain ⟨r_13, g_15, h⟩ := ob_some h
          try dsimp only at h
          refine kc_VI C B (q0 := 0) (ci := 12) (As := [.int x1]) (rest := []) (w2 := (wd_mo a b cI cJ cT mo_signs mo_signMany mo_nodeSign mo_nodeOn mo_nodeSize mo_nodeMany mo_due mo_openNode mo_value mo_isLaid mo_changes mo_changeNode mo_changeSign mo_differs mo_results mo_own mo_kinds mo_testInputs mo_testDue mo_tests mo_noticed mo_missed mo_leastFrom mo_blameUpper mo_blameLower)) (tX12_behindOf (a := a) (b := b) N g_15) gX12_isOne_X12_behindOf rfl ⟨rfl, rfl⟩ ⟨rfl, hdX12_behindOf⟩ ⟨Nat.le_of_ble_eq_true rfl, Nat.le_of_ble_eq_true rfl⟩ rfl rfl [0, 1, 2, 3, 4, 5, 6, 7, 8, 9, 10, 11, 12, 13, 14, 15, 16, 17, 18, 19, 20, 21] [] [0, 1, 2, 3, 4, 5, 6, 7, 8, 9, 10, 11, 12, 13, 14, 15, 16, 17, 18, 19, 20, 21] rfl rfl rfl rfl rfl rfl rfl rfl hl.1 rfl (Nat.le_of_ble_eq_true rfl) ⟨Nat.zero_le _, Nat.zero_le _⟩ dX12_isOne_93 (fun H locs B => ?_)
          refine lv_if_ne (tgt := 103) hx hb dX12_isOne_96 (by decide) (fun c_14 => ?_) (fun c_14 => ?_)
          · rw [if_neg c_14] at h
            refine lv_iconst (v := 0) hx hb dX12_isOne_103 (by decide) ?_
            cases h
            exact k_zret C B (by decide) dX12_isOne_104
          · rw [if_pos c_14] at h
            refine lv_iconst (v := 1) hx hb dX12_isOne_99 (by decide) ?_
            refine lv_goto (tgt := 104) hx hb dX12_isOne_100 (by decide) ?_
            cases h
            exact k_zret C B (by decide) dX12_isOne_104
end
theorem tX12_isOne {l : Launch} {D : va_G} {Es : (Nat → Nat) × (Nat → Nat)} {a b : Nat → Nat} {cI cJ cT : ClassId} {mo_signs : Nat → Int32} {mo_signMany : Int32} {mo_nodeSign : Nat → Int32} {mo_nodeOn : Nat → Int32} {mo_nodeSize : Nat → Int32} {mo_nodeMany : Nat → Int32} {mo_due : Nat → Int32} {mo_openNode : Nat → Int32} {mo_value : Nat → Int32} {mo_isLaid : Int32} {mo_changes : Int32} {mo_changeNode : Nat → Int32} {mo_changeSign : Nat → Int32} {mo_differs : Nat → Int32} {mo_results : Nat → Int32} {mo_own : Nat → Int32} {mo_kinds : Nat → Int32} {mo_testInputs : Nat → Int32} {mo_testDue : Nat → Int32} {mo_tests : Int32} {mo_noticed : Nat → Int32} {mo_missed : Nat → Int32} {mo_leastFrom : Nat → Int32} {mo_blameUpper : Nat → Int32} {mo_blameLower : Nat → Int32} {x1 : Int32} {x2 : Int32} {z_r : Int32} (N : Nat) (h : fX12_isOne N mo_changes mo_differs mo_noticed x1 x2 = some z_r) : CtI l yX12_isOne wsX12_isOne rmX12_isOne D (tyl cI cJ cT) Es [.ref (b 0), .int x1, .int x2] (wd_mo a b cI cJ cT mo_signs mo_signMany mo_nodeSign mo_nodeOn mo_nodeSize mo_nodeMany mo_due mo_openNode mo_value mo_isLaid mo_changes mo_changeNode mo_changeSign mo_differs mo_results mo_own mo_kinds mo_testInputs mo_testDue mo_tests mo_noticed mo_missed mo_leastFrom mo_blameUpper mo_blameLower) z_r (wd_mo a b cI cJ cT mo_signs mo_signMany mo_nodeSign mo_nodeOn mo_nodeSize mo_nodeMany mo_due mo_openNode mo_value mo_isLaid mo_changes mo_changeNode mo_changeSign mo_differs mo_results mo_own mo_kinds mo_testInputs mo_testDue mo_tests mo_noticed mo_missed mo_leastFrom mo_blameUpper mo_blameLower) :=
  CtI.of (own := RX12) (cc := cX12_isOne) (nL := 3) (ret := (some .boolean)) (by decide +kernel) rfl rfl (Nat.le_of_ble_eq_true rfl) rfl (fun p e s m below meth c A ls C B hl => qX12_isOne_0 C (N := N) x1 x2 h _ _ _ B hl)

abbrev rmX12_manyOf : Room := { frames := 3, cells := 0, slots := 0, locals := 67 }
theorem hdX12_manyOf : yX12_manyOf.cls ≠ "java/lang/invoke/MethodHandle" ∧ yX12_manyOf.cls ≠ "java/lang/invoke/VarHandle" ∧ (parseMethodDescriptor yX12_manyOf.desc).map (fun d => d.parameters.length) = some 1 := by decide +kernel
theorem iX12_manyOf_X12 : ∀ w ∈ wsX120, w ∈ wsX12_manyOf := by decide +kernel
theorem gfX12_manyOf_141 {p : Program} {l : Launch} {e : Env} {R : Room} {s : State} {m : MethodId} {args : Array Value} {below : List Frame} {meth : Method} {c : Code} {H : Heap} {locs : List Loc} {cells slots : Nat} {Q : State → Prop} {D : va_G} {A : Nat → Prop} {tys : List (ClassId × FieldType)} {Es : (Nat → Nat) × (Nat → Nat)} {ws : va_W} {pc : Nat} {ls : Array Slot} {rest : List Value} {a : Nat} (C : CT p s m args meth c RX12 cX12_manyOf 4 (some .int) wsX12_manyOf D A tys Es) (B : DB D A ws s H locs) (q0 : Nat) {fs : List Value} {v : Value} (he : ws[q0]? = some (a, .inr (12, fs))) (hv : fs[10]? = some v) (hdg : decode cX12_manyOf pc = .ok (.getfield 141, 3)) (kk : W p l e R s m args below meth c H locs cells slots Q (F0 m (pc + 3) ls (v :: rest))) : W p l e R s m args below meth c H locs cells slots Q (F0 m pc ls (.ref a :: rest)) :=
  k_get (Cn := RX12) (T := TX12) (N := 25) (index := 141) C B iX12_manyOf_X12 rfl 10 (by decide) (by decide +kernel) q0 he hv hdg kk
section
variable {p : Program} {l : Launch} {e : Env} {s : State} {m : MethodId} {args : Array Value} {below : List Frame} {meth : Method} {c : Code} {D : va_G} {A : Nat → Prop} {Es : (Nat → Nat) × (Nat → Nat)} {a b : Nat → Nat} {cI cJ cT : ClassId}
set_option maxHeartbeats 4000000 in
set_option maxRecDepth 100000 in
theorem qX12_manyOf_4 (C : CT p s m args meth c RX12 cX12_manyOf 4 (some .int) wsX12_manyOf D A (tyl cI cJ cT) Es) {N : Nat} {mo_signs : Nat → Int32} {mo_signMany : Int32} {mo_nodeSign : Nat → Int32} {mo_nodeOn : Nat → Int32} {mo_nodeSize : Nat → Int32} {mo_nodeMany : Nat → Int32} {mo_due : Nat → Int32} {mo_openNode : Nat → Int32} {mo_value : Nat → Int32} {mo_isLaid : Int32} {mo_changes : Int32} {mo_changeNode : Nat → Int32} {mo_changeSign : Nat → Int32} {mo_differs : Nat → Int32} {mo_results : Nat → Int32} {mo_own : Nat → Int32} {mo_kinds : Nat → Int32} {mo_testInputs : Nat → Int32} {mo_testDue : Nat → Int32} {mo_tests : Int32} {mo_noticed : Nat → Int32} {mo_missed : Nat → Int32} {mo_leastFrom : Nat → Int32} {mo_blameUpper : Nat → Int32} {mo_blameLower : Nat → Int32} {z_r : Int32} : ∀ (n : Nat) (x1 : Int32) (x2 : Int32) (x3 : Int32), bX12_manyOf_4 N mo_changes mo_differs mo_noticed n x1 x2 x3 = some z_r → ∀ (H : Heap) (locs : List Loc) (ls : Array Slot), DB D A (wd_mo a b cI cJ cT mo_signs mo_signMany mo_nodeSign mo_nodeOn mo_nodeSize mo_nodeMany mo_due mo_openNode mo_value mo_isLaid mo_changes mo_changeNode mo_changeSign mo_differs mo_results mo_own mo_kinds mo_testInputs mo_testDue mo_tests mo_noticed mo_missed mo_leastFrom mo_blameUpper mo_blameLower) s H locs → lv_has ls 4 [(0, .ref (b 0)), (1, .int x1), (2, .int x2), (3, .int x3)] → W p l e rmX12_manyOf s m args below meth c H locs 0 0 (ZI below args s D A (tyl cI cJ cT) z_r (wd_mo a b cI cJ cT mo_signs mo_signMany mo_nodeSign mo_nodeOn mo_nodeSize mo_nodeMany mo_due mo_openNode mo_value mo_isLaid mo_changes mo_changeNode mo_changeSign mo_differs mo_results mo_own mo_kinds mo_testInputs mo_testDue mo_tests mo_noticed mo_missed mo_leastFrom mo_blameUpper mo_blameLower) 0 0) (F0 m 4 ls []) := by
  have hx := C.1.1
  have hb := C.1.2.1
  have hown := C.1.2.2.2.1
  have hts := C.1.2.2.2.2
  intro n
  induction n with
  | zero => intro x1 x2 x3 h; cases h
  | succ n ih =>
    intro x1 x2 x3 h H locs ls B hl
    rw [bX12_manyOf_4] at h
    refine lv_iload_n hx hb dX12_manyOf_4 rfl (lv_at hl 3 rfl) ?_
    refine lv_aload_n hx hb dX12_manyOf_5 rfl (lv_at hl 0 rfl) ?_
    refine gfX12_manyOf_141 C B 0 rfl rfl dX12_manyOf_6 ?_
    refine lv_icmp_ge (tgt := 35) hx hb dX12_manyOf_9 (by decide) (fun c_1 => ?_) (fun c_1 => ?_)
    · rw [if_pos c_1] at h
      refine lv_iload_n hx hb dX12_manyOf_35 rfl (lv_at hl 2 rfl) ?_
      cases h
      exact k_iret C B dX12_manyOf_36
    · rw [if_neg c_1] at h
      refine lv_iload_n hx hb dX12_manyOf_12 rfl (lv_at hl 2 rfl) ?_
      refine lv_aload_n hx hb dX12_manyOf_13 rfl (lv_at hl 0 rfl) ?_
      refine lv_iload_n hx hb dX12_manyOf_14 rfl (lv_at hl 3 rfl) ?_
      refine lv_iload_n hx hb dX12_manyOf_15 rfl (lv_at hl 1 rfl) ?_
      obtain ⟨r_2, g_4, h⟩ := ob_some h
      try dsimp only at h
      refine kc_VI C B (q0 := 0) (ci := 12) (As := [.int x3, .int x1]) (rest := [.int x2]) (w2 := (wd_mo a b cI cJ cT mo_signs mo_signMany mo_nodeSign mo_nodeOn mo_nodeSize mo_nodeMany mo_due mo_openNode mo_value mo_isLaid mo_changes mo_changeNode mo_changeSign mo_differs mo_results mo_own mo_kinds mo_testInputs mo_testDue mo_tests mo_noticed mo_missed mo_leastFrom mo_blameUpper mo_blameLower)) (tX12_isOne (a := a) (b := b) N g_4) gX12_manyOf_X12_isOne rfl ⟨rfl, rfl⟩ ⟨rfl, hdX12_isOne⟩ ⟨Nat.le_of_ble_eq_true rfl, Nat.le_of_ble_eq_true rfl⟩ rfl rfl [0, 1, 2, 3, 4, 5, 6, 7, 8, 9, 10, 11, 12, 13, 14, 15, 16, 17, 18, 19, 20, 21] [] [0, 1, 2, 3, 4, 5, 6, 7, 8, 9, 10, 11, 12, 13, 14, 15, 16, 17, 18, 19, 20, 21] rfl rfl rfl rfl rfl rfl rfl rfl hl.1 rfl (Nat.le_of_ble_eq_true rfl) ⟨Nat.zero_le _, Nat.zero_le _⟩ dX12_manyOf_16 (fun H locs B => ?_)
      refine lv_if_eq (tgt := 26) hx hb dX12_manyOf_19 (by decide) (fun c_3 => ?_) (fun c_3 => ?_)
      · rw [if_pos c_3] at h
        refine lv_iconst (v := 0) hx hb dX12_manyOf_26 (by decide) ?_
        refine lv_iadd hx hb dX12_manyOf_27 ?_
        refine lv_istore_n (lv' := [(2, .int (x2 + (0 : Int32))), (0, .ref (b 0)), (1, .int x1), (3, .int x3)]) hx hb dX12_manyOf_28 rfl hl (by decide) rfl (fun ls hl => ?_)
        refine lv_iinc (v := (x3 + 1)) (lv' := [(3, .int (x3 + 1)), (2, .int (x2 + (0 : Int32))), (0, .ref (b 0)), (1, .int x1)]) hx hb dX12_manyOf_29 hl (k := 3) rfl rfl (by decide) rfl (fun ls hl => ?_)
        refine lv_goto (tgt := 4) hx hb dX12_manyOf_32 (by decide) ?_
        exact ih x1 (x2 + (0 : Int32)) (x3 + 1) h H locs ls B (lv_sub hl [2, 3, 1, 0] rfl)
      · rw [if_neg c_3] at h
        refine lv_iconst (v := 1) hx hb dX12_manyOf_22 (by decide) ?_
        refine lv_goto (tgt := 27) hx hb dX12_manyOf_23 (by decide) ?_
        refine lv_iadd hx hb dX12_manyOf_27 ?_
        refine lv_istore_n (lv' := [(2, .int (x2 + (1 : Int32))), (0, .ref (b 0)), (1, .int x1), (3, .int x3)]) hx hb dX12_manyOf_28 rfl hl (by decide) rfl (fun ls hl => ?_)
        refine lv_iinc (v := (x3 + 1)) (lv' := [(3, .int (x3 + 1)), (2, .int (x2 + (1 : Int32))), (0, .ref (b 0)), (1, .int x1)]) hx hb dX12_manyOf_29 hl (k := 3) rfl rfl (by decide) rfl (fun ls hl => ?_)
        refine lv_goto (tgt := 4) hx hb dX12_manyOf_32 (by decide) ?_
        exact ih x1 (x2 + (1 : Int32)) (x3 + 1) h H locs ls B (lv_sub hl [2, 3, 1, 0] rfl)
set_option maxHeartbeats 4000000 in
set_option maxRecDepth 100000 in
theorem qX12_manyOf_0 (C : CT p s m args meth c RX12 cX12_manyOf 4 (some .int) wsX12_manyOf D A (tyl cI cJ cT) Es) {N : Nat} {mo_signs : Nat → Int32} {mo_signMany : Int32} {mo_nodeSign : Nat → Int32} {mo_nodeOn : Nat → Int32} {mo_nodeSize : Nat → Int32} {mo_nodeMany : Nat → Int32} {mo_due : Nat → Int32} {mo_openNode : Nat → Int32} {mo_value : Nat → Int32} {mo_isLaid : Int32} {mo_changes : Int32} {mo_changeNode : Nat → Int32} {mo_changeSign : Nat → Int32} {mo_differs : Nat → Int32} {mo_results : Nat → Int32} {mo_own : Nat → Int32} {mo_kinds : Nat → Int32} {mo_testInputs : Nat → Int32} {mo_testDue : Nat → Int32} {mo_tests : Int32} {mo_noticed : Nat → Int32} {mo_missed : Nat → Int32} {mo_leastFrom : Nat → Int32} {mo_blameUpper : Nat → Int32} {mo_blameLower : Nat → Int32} {z_r : Int32} : ∀ (x1 : Int32), fX12_manyOf N mo_changes mo_differs mo_noticed x1 = some z_r → ∀ (H : Heap) (locs : List Loc) (ls : Array Slot), DB D A (wd_mo a b cI cJ cT mo_signs mo_signMany mo_nodeSign mo_nodeOn mo_nodeSize mo_nodeMany mo_due mo_openNode mo_value mo_isLaid mo_changes mo_changeNode mo_changeSign mo_differs mo_results mo_own mo_kinds mo_testInputs mo_testDue mo_tests mo_noticed mo_missed mo_leastFrom mo_blameUpper mo_blameLower) s H locs → lv_has ls 4 [(0, .ref (b 0)), (1, .int x1)] → W p l e rmX12_manyOf s m args below meth c H locs 0 0 (ZI below args s D A (tyl cI cJ cT) z_r (wd_mo a b cI cJ cT mo_signs mo_signMany mo_nodeSign mo_nodeOn mo_nodeSize mo_nodeMany mo_due mo_openNode mo_value mo_isLaid mo_changes mo_changeNode mo_changeSign mo_differs mo_results mo_own mo_kinds mo_testInputs mo_testDue mo_tests mo_noticed mo_missed mo_leastFrom mo_blameUpper mo_blameLower) 0 0) (F0 m 0 ls []) := by
  have hx := C.1.1
  have hb := C.1.2.1
  have hown := C.1.2.2.2.1
  have hts := C.1.2.2.2.2
  intro x1 h H locs ls B hl
  rw [fX12_manyOf] at h
  refine lv_iconst (v := 0) hx hb dX12_manyOf_0 (by decide) ?_
  refine lv_istore_n (lv' := [(2, .int (0 : Int32)), (0, .ref (b 0)), (1, .int x1)]) hx hb dX12_manyOf_1 rfl hl (by decide) rfl (fun ls hl => ?_)
  refine lv_iconst (v := 0) hx hb dX12_manyOf_2 (by decide) ?_
  refine lv_istore_n (lv' := [(3, .int (0 : Int32)), (2, .int (0 : Int32)), (0, .ref (b 0)), (1, .int x1)]) hx hb dX12_manyOf_3 rfl hl (by decide) rfl (fun ls hl => ?_)
  exact qX12_manyOf_4 C N x1 (0 : Int32) (0 : Int32) h H locs ls B (lv_sub hl [2, 3, 1, 0] rfl)
end
theorem tX12_manyOf {l : Launch} {D : va_G} {Es : (Nat → Nat) × (Nat → Nat)} {a b : Nat → Nat} {cI cJ cT : ClassId} {mo_signs : Nat → Int32} {mo_signMany : Int32} {mo_nodeSign : Nat → Int32} {mo_nodeOn : Nat → Int32} {mo_nodeSize : Nat → Int32} {mo_nodeMany : Nat → Int32} {mo_due : Nat → Int32} {mo_openNode : Nat → Int32} {mo_value : Nat → Int32} {mo_isLaid : Int32} {mo_changes : Int32} {mo_changeNode : Nat → Int32} {mo_changeSign : Nat → Int32} {mo_differs : Nat → Int32} {mo_results : Nat → Int32} {mo_own : Nat → Int32} {mo_kinds : Nat → Int32} {mo_testInputs : Nat → Int32} {mo_testDue : Nat → Int32} {mo_tests : Int32} {mo_noticed : Nat → Int32} {mo_missed : Nat → Int32} {mo_leastFrom : Nat → Int32} {mo_blameUpper : Nat → Int32} {mo_blameLower : Nat → Int32} {x1 : Int32} {z_r : Int32} (N : Nat) (h : fX12_manyOf N mo_changes mo_differs mo_noticed x1 = some z_r) : CtI l yX12_manyOf wsX12_manyOf rmX12_manyOf D (tyl cI cJ cT) Es [.ref (b 0), .int x1] (wd_mo a b cI cJ cT mo_signs mo_signMany mo_nodeSign mo_nodeOn mo_nodeSize mo_nodeMany mo_due mo_openNode mo_value mo_isLaid mo_changes mo_changeNode mo_changeSign mo_differs mo_results mo_own mo_kinds mo_testInputs mo_testDue mo_tests mo_noticed mo_missed mo_leastFrom mo_blameUpper mo_blameLower) z_r (wd_mo a b cI cJ cT mo_signs mo_signMany mo_nodeSign mo_nodeOn mo_nodeSize mo_nodeMany mo_due mo_openNode mo_value mo_isLaid mo_changes mo_changeNode mo_changeSign mo_differs mo_results mo_own mo_kinds mo_testInputs mo_testDue mo_tests mo_noticed mo_missed mo_leastFrom mo_blameUpper mo_blameLower) :=
  CtI.of (own := RX12) (cc := cX12_manyOf) (nL := 4) (ret := (some .int)) (by decide +kernel) rfl rfl (Nat.le_of_ble_eq_true rfl) rfl (fun p e s m below meth c A ls C B hl => qX12_manyOf_0 C (N := N) x1 h _ _ _ B hl)

abbrev rmX12_many : Room := { frames := 6, cells := 0, slots := 0, locals := 140 }
theorem hdX12_many : yX12_many.cls ≠ "java/lang/invoke/MethodHandle" ∧ yX12_many.cls ≠ "java/lang/invoke/VarHandle" ∧ (parseMethodDescriptor yX12_many.desc).map (fun d => d.parameters.length) = some 1 := by decide +kernel
theorem mX12_many_l181 : (Cond.constantLong RX12 181 (3)) ∈ wsX12_many := by decide +kernel
section
variable {p : Program} {l : Launch} {e : Env} {s : State} {m : MethodId} {args : Array Value} {below : List Frame} {meth : Method} {c : Code} {D : va_G} {A : Nat → Prop} {Es : (Nat → Nat) × (Nat → Nat)} {a b : Nat → Nat} {cI cJ cT : ClassId}
set_option maxHeartbeats 4000000 in
set_option maxRecDepth 100000 in
theorem qX12_many_0 (C : CT p s m args meth c RX12 cX12_many 2 (some .int) wsX12_many D A (tyl cI cJ cT) Es) {N : Nat} {mo_signs : Nat → Int32} {mo_signMany : Int32} {mo_nodeSign : Nat → Int32} {mo_nodeOn : Nat → Int32} {mo_nodeSize : Nat → Int32} {mo_nodeMany : Nat → Int32} {mo_due : Nat → Int32} {mo_openNode : Nat → Int32} {mo_kinds : Nat → Int32} {mo_testInputs : Nat → Int32} {mo_testDue : Nat → Int32} {mo_tests : Int32} {mo_missed : Nat → Int32} {mo_leastFrom : Nat → Int32} {mo_blameUpper : Nat → Int32} {mo_blameLower : Nat → Int32} {z_r : Int32} {z_mo_value : Nat → Int32} {z_mo_isLaid : Int32} {z_mo_changes : Int32} {z_mo_changeNode : Nat → Int32} {z_mo_changeSign : Nat → Int32} {z_mo_differs : Nat → Int32} {z_mo_results : Nat → Int32} {z_mo_own : Nat → Int32} {z_mo_noticed : Nat → Int32} : ∀ (x1 : Int32) (mo_value : Nat → Int32) (mo_isLaid : Int32) (mo_changes : Int32) (mo_changeNode : Nat → Int32) (mo_changeSign : Nat → Int32) (mo_differs : Nat → Int32) (mo_results : Nat → Int32) (mo_own : Nat → Int32) (mo_noticed : Nat → Int32), fX12_many N mo_nodeSign mo_nodeSize mo_nodeMany mo_kinds mo_testInputs mo_tests x1 mo_value mo_isLaid mo_changes mo_changeNode mo_changeSign mo_differs mo_results mo_own mo_noticed = some (z_r, z_mo_value, z_mo_isLaid, z_mo_changes, z_mo_changeNode, z_mo_changeSign, z_mo_differs, z_mo_results, z_mo_own, z_mo_noticed) → ∀ (H : Heap) (locs : List Loc) (ls : Array Slot), DB D A (wd_mo a b cI cJ cT mo_signs mo_signMany mo_nodeSign mo_nodeOn mo_nodeSize mo_nodeMany mo_due mo_openNode mo_value mo_isLaid mo_changes mo_changeNode mo_changeSign mo_differs mo_results mo_own mo_kinds mo_testInputs mo_testDue mo_tests mo_noticed mo_missed mo_leastFrom mo_blameUpper mo_blameLower) s H locs → lv_has ls 2 [(0, .ref (b 0)), (1, .int x1)] → W p l e rmX12_many s m args below meth c H locs 0 0 (ZI below args s D A (tyl cI cJ cT) z_r (wd_mo a b cI cJ cT mo_signs mo_signMany mo_nodeSign mo_nodeOn mo_nodeSize mo_nodeMany mo_due mo_openNode z_mo_value z_mo_isLaid z_mo_changes z_mo_changeNode z_mo_changeSign z_mo_differs z_mo_results z_mo_own mo_kinds mo_testInputs mo_testDue mo_tests z_mo_noticed mo_missed mo_leastFrom mo_blameUpper mo_blameLower) 0 0) (F0 m 0 ls []) := by
  have hx := C.1.1
  have hb := C.1.2.1
  have hown := C.1.2.2.2.1
  have hts := C.1.2.2.2.2
  intro x1 mo_value mo_isLaid mo_changes mo_changeNode mo_changeSign mo_differs mo_results mo_own mo_noticed h H locs ls B hl
  rw [fX12_many] at h
  refine lv_iload_n hx hb dX12_many_0 rfl (lv_at hl 1 rfl) ?_
  refine lv_i2l (v := (Int32.toInt64 x1)) hx hb dX12_many_1 rfl ?_
  refine lv_lconst (v := 0) hx hb dX12_many_2 (by decide) ?_
  refine lv_ldc2 (v := 3) hx hb hown (hts _ mX12_many_l181) dX12_many_3 ?_
  obtain ⟨r_1, g_15, h⟩ := ob_some h
  try dsimp only at h
  refine kc_SI C B (As := [.long (Int32.toInt64 x1), .long (0 : Int64), .long (3 : Int64)]) (rest := []) (w2 := (wd_mo a b cI cJ cT mo_signs mo_signMany mo_nodeSign mo_nodeOn mo_nodeSize mo_nodeMany mo_due mo_openNode mo_value mo_isLaid mo_changes mo_changeNode mo_changeSign mo_differs mo_results mo_own mo_kinds mo_testInputs mo_testDue mo_tests mo_noticed mo_missed mo_leastFrom mo_blameUpper mo_blameLower)) (tX12_in N g_15) gX12_many_X12_in rfl ⟨rfl, rfl⟩ hdX12_in ⟨Nat.le_of_ble_eq_true rfl, Nat.le_of_ble_eq_true rfl⟩ [] [0, 1, 2, 3, 4, 5, 6, 7, 8, 9, 10, 11, 12, 13, 14, 15, 16, 17, 18, 19, 20, 21] [0, 1, 2, 3, 4, 5, 6, 7, 8, 9, 10, 11, 12, 13, 14, 15, 16, 17, 18, 19, 20, 21] rfl rfl rfl rfl rfl rfl rfl rfl hl.1 rfl (Nat.le_of_ble_eq_true rfl) ⟨Nat.zero_le _, Nat.zero_le _⟩ dX12_many_6 (fun H locs B => ?_)
  refine lv_if_ne (tgt := 15) hx hb dX12_many_9 (by decide) (fun c_2 => ?_) (fun c_2 => ?_)
  · rw [if_neg c_2] at h
    refine lv_aload_n hx hb dX12_many_15 rfl (lv_at hl 0 rfl) ?_
    obtain ⟨⟨mo_value_3, mo_isLaid_4, mo_changes_5, mo_changeNode_6, mo_changeSign_7, mo_differs_8, mo_results_9, mo_own_10, mo_noticed_11⟩, g_14, h⟩ := ob_some h
    try dsimp only at h
    refine kc_VV C B (q0 := 0) (ci := 12) (As := []) (rest := []) (w2 := (wd_mo a b cI cJ cT mo_signs mo_signMany mo_nodeSign mo_nodeOn mo_nodeSize mo_nodeMany mo_due mo_openNode mo_value_3 mo_isLaid_4 mo_changes_5 mo_changeNode_6 mo_changeSign_7 mo_differs_8 mo_results_9 mo_own_10 mo_kinds mo_testInputs mo_testDue mo_tests mo_noticed_11 mo_missed mo_leastFrom mo_blameUpper mo_blameLower)) (tX12_findNoticed (a := a) (b := b) N g_14) gX12_many_X12_findNoticed rfl ⟨rfl, rfl⟩ ⟨rfl, hdX12_findNoticed⟩ ⟨Nat.le_of_ble_eq_true rfl, Nat.le_of_ble_eq_true rfl⟩ rfl rfl [0, 1, 2, 3, 4, 5, 6, 7, 8, 9, 10, 11, 12, 13, 14, 15, 16, 17, 18, 19, 20, 21] [] [0, 1, 2, 3, 4, 5, 6, 7, 8, 9, 10, 11, 12, 13, 14, 15, 16, 17, 18, 19, 20, 21] rfl rfl rfl rfl rfl rfl rfl rfl hl.1 rfl (Nat.le_of_ble_eq_true rfl) ⟨Nat.zero_le _, Nat.zero_le _⟩ dX12_many_16 (fun H locs B => ?_)
    refine lv_aload_n hx hb dX12_many_19 rfl (lv_at hl 0 rfl) ?_
    refine lv_iload_n hx hb dX12_many_20 rfl (lv_at hl 1 rfl) ?_
    obtain ⟨r_12, g_13, h⟩ := ob_some h
    try dsimp only at h
    refine kc_VI C B (q0 := 0) (ci := 12) (As := [.int x1]) (rest := []) (w2 := (wd_mo a b cI cJ cT mo_signs mo_signMany mo_nodeSign mo_nodeOn mo_nodeSize mo_nodeMany mo_due mo_openNode mo_value_3 mo_isLaid_4 mo_changes_5 mo_changeNode_6 mo_changeSign_7 mo_differs_8 mo_results_9 mo_own_10 mo_kinds mo_testInputs mo_testDue mo_tests mo_noticed_11 mo_missed mo_leastFrom mo_blameUpper mo_blameLower)) (tX12_manyOf (a := a) (b := b) N g_13) gX12_many_X12_manyOf rfl ⟨rfl, rfl⟩ ⟨rfl, hdX12_manyOf⟩ ⟨Nat.le_of_ble_eq_true rfl, Nat.le_of_ble_eq_true rfl⟩ rfl rfl [0, 1, 2, 3, 4, 5, 6, 7, 8, 9, 10, 11, 12, 13, 14, 15, 16, 17, 18, 19, 20, 21] [] [0, 1, 2, 3, 4, 5, 6, 7, 8, 9, 10, 11, 12, 13, 14, 15, 16, 17, 18, 19, 20, 21] rfl rfl rfl rfl rfl rfl rfl rfl hl.1 rfl (Nat.le_of_ble_eq_true rfl) ⟨Nat.zero_le _, Nat.zero_le _⟩ dX12_many_21 (fun H locs B => ?_)
    cases h
    exact k_iret C B dX12_many_24
  · rw [if_pos c_2] at h
    refine lv_bipush (v := -2) hx hb dX12_many_12 (by decide) ?_
    cases h
    exact k_iret C B dX12_many_14
end
theorem tX12_many {l : Launch} {D : va_G} {Es : (Nat → Nat) × (Nat → Nat)} {a b : Nat → Nat} {cI cJ cT : ClassId} {mo_signs : Nat → Int32} {mo_signMany : Int32} {mo_nodeSign : Nat → Int32} {mo_nodeOn : Nat → Int32} {mo_nodeSize : Nat → Int32} {mo_nodeMany : Nat → Int32} {mo_due : Nat → Int32} {mo_openNode : Nat → Int32} {mo_value : Nat → Int32} {mo_isLaid : Int32} {mo_changes : Int32} {mo_changeNode : Nat → Int32} {mo_changeSign : Nat → Int32} {mo_differs : Nat → Int32} {mo_results : Nat → Int32} {mo_own : Nat → Int32} {mo_kinds : Nat → Int32} {mo_testInputs : Nat → Int32} {mo_testDue : Nat → Int32} {mo_tests : Int32} {mo_noticed : Nat → Int32} {mo_missed : Nat → Int32} {mo_leastFrom : Nat → Int32} {mo_blameUpper : Nat → Int32} {mo_blameLower : Nat → Int32} {x1 : Int32} {z_r : Int32} {z_mo_value : Nat → Int32} {z_mo_isLaid : Int32} {z_mo_changes : Int32} {z_mo_changeNode : Nat → Int32} {z_mo_changeSign : Nat → Int32} {z_mo_differs : Nat → Int32} {z_mo_results : Nat → Int32} {z_mo_own : Nat → Int32} {z_mo_noticed : Nat → Int32} (N : Nat) (h : fX12_many N mo_nodeSign mo_nodeSize mo_nodeMany mo_kinds mo_testInputs mo_tests x1 mo_value mo_isLaid mo_changes mo_changeNode mo_changeSign mo_differs mo_results mo_own mo_noticed = some (z_r, z_mo_value, z_mo_isLaid, z_mo_changes, z_mo_changeNode, z_mo_changeSign, z_mo_differs, z_mo_results, z_mo_own, z_mo_noticed)) : CtI l yX12_many wsX12_many rmX12_many D (tyl cI cJ cT) Es [.ref (b 0), .int x1] (wd_mo a b cI cJ cT mo_signs mo_signMany mo_nodeSign mo_nodeOn mo_nodeSize mo_nodeMany mo_due mo_openNode mo_value mo_isLaid mo_changes mo_changeNode mo_changeSign mo_differs mo_results mo_own mo_kinds mo_testInputs mo_testDue mo_tests mo_noticed mo_missed mo_leastFrom mo_blameUpper mo_blameLower) z_r (wd_mo a b cI cJ cT mo_signs mo_signMany mo_nodeSign mo_nodeOn mo_nodeSize mo_nodeMany mo_due mo_openNode z_mo_value z_mo_isLaid z_mo_changes z_mo_changeNode z_mo_changeSign z_mo_differs z_mo_results z_mo_own mo_kinds mo_testInputs mo_testDue mo_tests z_mo_noticed mo_missed mo_leastFrom mo_blameUpper mo_blameLower) :=
  CtI.of (own := RX12) (cc := cX12_many) (nL := 2) (ret := (some .int)) (by decide +kernel) rfl rfl (Nat.le_of_ble_eq_true rfl) rfl (fun p e s m below meth c A ls C B hl => qX12_many_0 C (N := N) x1 mo_value mo_isLaid mo_changes mo_changeNode mo_changeSign mo_differs mo_results mo_own mo_noticed h _ _ _ B hl)

abbrev rmX12_lowest : Room := { frames := 0, cells := 0, slots := 0, locals := 0 }
theorem hdX12_lowest : yX12_lowest.cls ≠ "java/lang/invoke/MethodHandle" ∧ yX12_lowest.cls ≠ "java/lang/invoke/VarHandle" ∧ (parseMethodDescriptor yX12_lowest.desc).map (fun d => d.parameters.length) = some 3 := by decide +kernel
section
variable {p : Program} {l : Launch} {e : Env} {s : State} {m : MethodId} {args : Array Value} {below : List Frame} {meth : Method} {c : Code} {D : va_G} {A : Nat → Prop} {Es : (Nat → Nat) × (Nat → Nat)} {a b : Nat → Nat} {cI cJ cT : ClassId}
set_option maxHeartbeats 4000000 in
set_option maxRecDepth 100000 in
theorem qX12_lowest_11 (C : CT p s m args meth c RX12 cX12_lowest 6 (some .int) wsX12_lowest D A (tyl cI cJ cT) Es) {N : Nat} {z_r : Int32} : ∀ (n : Nat) (x0 : Int32) (x1 : Int32) (x2 : Int32) (x3 : Int32) (x4 : Int32), bX12_lowest_11 N n x0 x1 x2 x3 x4 = some z_r → ∀ (H : Heap) (locs : List Loc) (ls : Array Slot), DB D A [] s H locs → lv_has ls 6 [(0, .int x0), (1, .int x1), (2, .int x2), (3, .int x3), (4, .int x4)] → W p l e rmX12_lowest s m args below meth c H locs 0 0 (ZI below args s D A (tyl cI cJ cT) z_r [] 0 0) (F0 m 11 ls []) := by
  have hx := C.1.1
  have hb := C.1.2.1
  have hown := C.1.2.2.2.1
  have hts := C.1.2.2.2.2
  intro n
  induction n with
  | zero => intro x0 x1 x2 x3 x4 h; cases h
  | succ n ih =>
    intro x0 x1 x2 x3 x4 h H locs ls B hl
    rw [bX12_lowest_11] at h
    refine lv_iload hx hb dX12_lowest_11 (lv_at hl 4 rfl) ?_
    refine lv_if_eq (tgt := 32) hx hb dX12_lowest_13 (by decide) (fun c_1 => ?_) (fun c_1 => ?_)
    · rw [if_pos c_1] at h
      refine lv_iload_n hx hb dX12_lowest_32 rfl (lv_at hl 2 rfl) ?_
      refine lv_if_ne (tgt := 42) hx hb dX12_lowest_33 (by decide) (fun c_2 => ?_) (fun c_2 => ?_)
      · rw [if_neg c_2] at h
        refine lv_iload_n hx hb dX12_lowest_42 rfl (lv_at hl 1 rfl) ?_
        refine lv_iload_n hx hb dX12_lowest_43 rfl (lv_at hl 3 rfl) ?_
        obtain ⟨nz_3, h⟩ := nz_some h
        refine lv_idiv hx hb dX12_lowest_44 nz_3 ?_
        cases h
        exact k_iret C B dX12_lowest_45
      · rw [if_pos c_2] at h
        refine lv_iload_n hx hb dX12_lowest_36 rfl (lv_at hl 0 rfl) ?_
        refine lv_iload_n hx hb dX12_lowest_37 rfl (lv_at hl 3 rfl) ?_
        obtain ⟨nz_4, h⟩ := nz_some h
        refine lv_idiv hx hb dX12_lowest_38 nz_4 ?_
        refine lv_goto (tgt := 45) hx hb dX12_lowest_39 (by decide) ?_
        cases h
        exact k_iret C B dX12_lowest_45
    · rw [if_neg c_1] at h
      refine lv_iload_n hx hb dX12_lowest_16 rfl (lv_at hl 3 rfl) ?_
      refine lv_iload hx hb dX12_lowest_17 (lv_at hl 4 rfl) ?_
      obtain ⟨nz_5, h⟩ := nz_some h
      refine lv_irem hx hb dX12_lowest_19 nz_5 ?_
      refine lv_istore (lv' := [(5, .int (x3 - x3 / x4 * x4)), (0, .int x0), (1, .int x1), (2, .int x2), (3, .int x3), (4, .int x4)]) hx hb dX12_lowest_20 hl (by decide) rfl (fun ls hl => ?_)
      refine lv_iload hx hb dX12_lowest_22 (lv_at hl 5 rfl) ?_
      refine lv_istore_n (lv' := [(3, .int x4), (5, .int (x3 - x3 / x4 * x4)), (0, .int x0), (1, .int x1), (2, .int x2), (4, .int x4)]) hx hb dX12_lowest_24 rfl hl (by decide) rfl (fun ls hl => ?_)
      refine lv_iload hx hb dX12_lowest_25 (lv_at hl 1 rfl) ?_
      refine lv_istore (lv' := [(4, .int (x3 - x3 / x4 * x4)), (3, .int x4), (5, .int (x3 - x3 / x4 * x4)), (0, .int x0), (1, .int x1), (2, .int x2)]) hx hb dX12_lowest_27 hl (by decide) rfl (fun ls hl => ?_)
      refine lv_goto (tgt := 11) hx hb dX12_lowest_29 (by decide) ?_
      exact ih x0 x1 x2 x4 (x3 - x3 / x4 * x4) h H locs ls B (lv_sub hl [3, 4, 5, 1, 0] rfl)
set_option maxHeartbeats 4000000 in
set_option maxRecDepth 100000 in
theorem qX12_lowest_0 (C : CT p s m args meth c RX12 cX12_lowest 6 (some .int) wsX12_lowest D A (tyl cI cJ cT) Es) {N : Nat} {z_r : Int32} : ∀ (x0 : Int32) (x1 : Int32) (x2 : Int32), fX12_lowest N x0 x1 x2 = some z_r → ∀ (H : Heap) (locs : List Loc) (ls : Array Slot), DB D A [] s H locs → lv_has ls 6 [(0, .int x0), (1, .int x1), (2, .int x2)] → W p l e rmX12_lowest s m args below meth c H locs 0 0 (ZI below args s D A (tyl cI cJ cT) z_r [] 0 0) (F0 m 0 ls []) := by
  have hx := C.1.1
  have hb := C.1.2.1
  have hown := C.1.2.2.2.1
  have hts := C.1.2.2.2.2
  intro x0 x1 x2 h H locs ls B hl
  rw [fX12_lowest] at h
  refine lv_iload_n hx hb dX12_lowest_0 rfl (lv_at hl 1 rfl) ?_
  refine lv_if_ne (tgt := 6) hx hb dX12_lowest_1 (by decide) (fun c_1 => ?_) (fun c_1 => ?_)
  · rw [if_neg c_1] at h
    refine lv_iload_n hx hb dX12_lowest_6 rfl (lv_at hl 0 rfl) ?_
    refine lv_istore_n (lv' := [(3, .int x0), (0, .int x0), (1, .int x1), (2, .int x2)]) hx hb dX12_lowest_7 rfl hl (by decide) rfl (fun ls hl => ?_)
    refine lv_iload_n hx hb dX12_lowest_8 rfl (lv_at hl 2 rfl) ?_
    refine lv_istore (lv' := [(4, .int x1), (3, .int x0), (0, .int x0), (1, .int x1), (2, .int x2)]) hx hb dX12_lowest_9 hl (by decide) rfl (fun ls hl => ?_)
    exact qX12_lowest_11 C N x0 x1 x2 x0 x1 h H locs ls B (lv_sub hl [2, 3, 4, 1, 0] rfl)
  · rw [if_pos c_1] at h
    refine lv_iload_n hx hb dX12_lowest_4 rfl (lv_at hl 2 rfl) ?_
    cases h
    exact k_iret C B dX12_lowest_5
end
theorem tX12_lowest {l : Launch} {D : va_G} {Es : (Nat → Nat) × (Nat → Nat)} {cI cJ cT : ClassId} {x0 : Int32} {x1 : Int32} {x2 : Int32} {z_r : Int32} (N : Nat) (h : fX12_lowest N x0 x1 x2 = some z_r) : CtI l yX12_lowest wsX12_lowest rmX12_lowest D (tyl cI cJ cT) Es [.int x0, .int x1, .int x2] [] z_r [] :=
  CtI.of (own := RX12) (cc := cX12_lowest) (nL := 6) (ret := (some .int)) (by decide +kernel) rfl rfl (Nat.le_of_ble_eq_true rfl) rfl (fun p e s m below meth c A ls C B hl => qX12_lowest_0 C (N := N) x0 x1 x2 h _ _ _ B hl)

abbrev rmX12_isPart : Room := { frames := 1, cells := 0, slots := 0, locals := 25 }
theorem hdX12_isPart : yX12_isPart.cls ≠ "java/lang/invoke/MethodHandle" ∧ yX12_isPart.cls ≠ "java/lang/invoke/VarHandle" ∧ (parseMethodDescriptor yX12_isPart.desc).map (fun d => d.parameters.length) = some 1 := by decide +kernel
section
variable {p : Program} {l : Launch} {e : Env} {s : State} {m : MethodId} {args : Array Value} {below : List Frame} {meth : Method} {c : Code} {D : va_G} {A : Nat → Prop} {Es : (Nat → Nat) × (Nat → Nat)} {a b : Nat → Nat} {cI cJ cT : ClassId}
set_option maxHeartbeats 4000000 in
set_option maxRecDepth 100000 in
theorem qX12_isPart_0 (C : CT p s m args meth c RX12 cX12_isPart 1 (some .boolean) wsX12_isPart D A (tyl cI cJ cT) Es) {N : Nat} {z_r : Int32} : ∀ (x0 : Int32), fX12_isPart N x0 = some z_r → ∀ (H : Heap) (locs : List Loc) (ls : Array Slot), DB D A [] s H locs → lv_has ls 1 [(0, .int x0)] → W p l e rmX12_isPart s m args below meth c H locs 0 0 (ZI below args s D A (tyl cI cJ cT) z_r [] 0 0) (F0 m 0 ls []) := by
  have hx := C.1.1
  have hb := C.1.2.1
  have hown := C.1.2.2.2.1
  have hts := C.1.2.2.2.2
  intro x0 h H locs ls B hl
  rw [fX12_isPart] at h
  refine lv_iload_n hx hb dX12_isPart_0 rfl (lv_at hl 0 rfl) ?_
  refine lv_i2l (v := (Int32.toInt64 x0)) hx hb dX12_isPart_1 rfl ?_
  refine lv_lconst (v := 0) hx hb dX12_isPart_2 (by decide) ?_
  refine lv_lconst (v := 1) hx hb dX12_isPart_3 (by decide) ?_
  obtain ⟨r_1, g_3, h⟩ := ob_some h
  try dsimp only at h
  refine kc_SI C B (As := [.long (Int32.toInt64 x0), .long (0 : Int64), .long (1 : Int64)]) (rest := []) (w2 := []) (tX12_in N g_3) gX12_isPart_X12_in rfl ⟨rfl, rfl⟩ hdX12_in ⟨Nat.le_of_ble_eq_true rfl, Nat.le_of_ble_eq_true rfl⟩ [] [] [] rfl rfl rfl rfl rfl rfl rfl rfl hl.1 rfl (Nat.le_of_ble_eq_true rfl) ⟨Nat.zero_le _, Nat.zero_le _⟩ dX12_isPart_4 (fun H locs B => ?_)
  obtain ⟨z_2, h⟩ := bo_some h
  cases h
  exact k_zret C B z_2 dX12_isPart_7
end
theorem tX12_isPart {l : Launch} {D : va_G} {Es : (Nat → Nat) × (Nat → Nat)} {cI cJ cT : ClassId} {x0 : Int32} {z_r : Int32} (N : Nat) (h : fX12_isPart N x0 = some z_r) : CtI l yX12_isPart wsX12_isPart rmX12_isPart D (tyl cI cJ cT) Es [.int x0] [] z_r [] :=
  CtI.of (own := RX12) (cc := cX12_isPart) (nL := 1) (ret := (some .boolean)) (by decide +kernel) rfl rfl (Nat.le_of_ble_eq_true rfl) rfl (fun p e s m below meth c A ls C B hl => qX12_isPart_0 C (N := N) x0 h _ _ _ B hl)

abbrev rmX12_score : Room := { frames := 6, cells := 0, slots := 0, locals := 140 }
theorem hdX12_score : yX12_score.cls ≠ "java/lang/invoke/MethodHandle" ∧ yX12_score.cls ≠ "java/lang/invoke/VarHandle" ∧ (parseMethodDescriptor yX12_score.desc).map (fun d => d.parameters.length) = some 1 := by decide +kernel
theorem iX12_score_X12 : ∀ w ∈ wsX120, w ∈ wsX12_score := by decide +kernel
theorem gfX12_score_141 {p : Program} {l : Launch} {e : Env} {R : Room} {s : State} {m : MethodId} {args : Array Value} {below : List Frame} {meth : Method} {c : Code} {H : Heap} {locs : List Loc} {cells slots : Nat} {Q : State → Prop} {D : va_G} {A : Nat → Prop} {tys : List (ClassId × FieldType)} {Es : (Nat → Nat) × (Nat → Nat)} {ws : va_W} {pc : Nat} {ls : Array Slot} {rest : List Value} {a : Nat} (C : CT p s m args meth c RX12 cX12_score 2 (some .int) wsX12_score D A tys Es) (B : DB D A ws s H locs) (q0 : Nat) {fs : List Value} {v : Value} (he : ws[q0]? = some (a, .inr (12, fs))) (hv : fs[10]? = some v) (hdg : decode cX12_score pc = .ok (.getfield 141, 3)) (kk : W p l e R s m args below meth c H locs cells slots Q (F0 m (pc + 3) ls (v :: rest))) : W p l e R s m args below meth c H locs cells slots Q (F0 m pc ls (.ref a :: rest)) :=
  k_get (Cn := RX12) (T := TX12) (N := 25) (index := 141) C B iX12_score_X12 rfl 10 (by decide) (by decide +kernel) q0 he hv hdg kk
section
variable {p : Program} {l : Launch} {e : Env} {s : State} {m : MethodId} {args : Array Value} {below : List Frame} {meth : Method} {c : Code} {D : va_G} {A : Nat → Prop} {Es : (Nat → Nat) × (Nat → Nat)} {a b : Nat → Nat} {cI cJ cT : ClassId}
set_option maxHeartbeats 4000000 in
set_option maxRecDepth 100000 in
theorem qX12_score_0 (C : CT p s m args meth c RX12 cX12_score 2 (some .int) wsX12_score D A (tyl cI cJ cT) Es) {N : Nat} {mo_signs : Nat → Int32} {mo_signMany : Int32} {mo_nodeSign : Nat → Int32} {mo_nodeOn : Nat → Int32} {mo_nodeSize : Nat → Int32} {mo_nodeMany : Nat → Int32} {mo_due : Nat → Int32} {mo_openNode : Nat → Int32} {mo_kinds : Nat → Int32} {mo_testInputs : Nat → Int32} {mo_testDue : Nat → Int32} {mo_tests : Int32} {mo_missed : Nat → Int32} {mo_leastFrom : Nat → Int32} {mo_blameUpper : Nat → Int32} {mo_blameLower : Nat → Int32} {z_r : Int32} {z_mo_value : Nat → Int32} {z_mo_isLaid : Int32} {z_mo_changes : Int32} {z_mo_changeNode : Nat → Int32} {z_mo_changeSign : Nat → Int32} {z_mo_differs : Nat → Int32} {z_mo_results : Nat → Int32} {z_mo_own : Nat → Int32} {z_mo_noticed : Nat → Int32} : ∀ (x1 : Int32) (mo_value : Nat → Int32) (mo_isLaid : Int32) (mo_changes : Int32) (mo_changeNode : Nat → Int32) (mo_changeSign : Nat → Int32) (mo_differs : Nat → Int32) (mo_results : Nat → Int32) (mo_own : Nat → Int32) (mo_noticed : Nat → Int32), fX12_score N mo_nodeSign mo_nodeSize mo_nodeMany mo_kinds mo_testInputs mo_tests x1 mo_value mo_isLaid mo_changes mo_changeNode mo_changeSign mo_differs mo_results mo_own mo_noticed = some (z_r, z_mo_value, z_mo_isLaid, z_mo_changes, z_mo_changeNode, z_mo_changeSign, z_mo_differs, z_mo_results, z_mo_own, z_mo_noticed) → ∀ (H : Heap) (locs : List Loc) (ls : Array Slot), DB D A (wd_mo a b cI cJ cT mo_signs mo_signMany mo_nodeSign mo_nodeOn mo_nodeSize mo_nodeMany mo_due mo_openNode mo_value mo_isLaid mo_changes mo_changeNode mo_changeSign mo_differs mo_results mo_own mo_kinds mo_testInputs mo_testDue mo_tests mo_noticed mo_missed mo_leastFrom mo_blameUpper mo_blameLower) s H locs → lv_has ls 2 [(0, .ref (b 0)), (1, .int x1)] → W p l e rmX12_score s m args below meth c H locs 0 0 (ZI below args s D A (tyl cI cJ cT) z_r (wd_mo a b cI cJ cT mo_signs mo_signMany mo_nodeSign mo_nodeOn mo_nodeSize mo_nodeMany mo_due mo_openNode z_mo_value z_mo_isLaid z_mo_changes z_mo_changeNode z_mo_changeSign z_mo_differs z_mo_results z_mo_own mo_kinds mo_testInputs mo_testDue mo_tests z_mo_noticed mo_missed mo_leastFrom mo_blameUpper mo_blameLower) 0 0) (F0 m 0 ls []) := by
  have hx := C.1.1
  have hb := C.1.2.1
  have hown := C.1.2.2.2.1
  have hts := C.1.2.2.2.2
  intro x1 mo_value mo_isLaid mo_changes mo_changeNode mo_changeSign mo_differs mo_results mo_own mo_noticed h H locs ls B hl
  rw [fX12_score] at h
  refine lv_iload_n hx hb dX12_score_0 rfl (lv_at hl 1 rfl) ?_
  obtain ⟨r_1, g_19, h⟩ := ob_some h
  try dsimp only at h
  refine kc_SI C B (As := [.int x1]) (rest := []) (w2 := (wd_mo a b cI cJ cT mo_signs mo_signMany mo_nodeSign mo_nodeOn mo_nodeSize mo_nodeMany mo_due mo_openNode mo_value mo_isLaid mo_changes mo_changeNode mo_changeSign mo_differs mo_results mo_own mo_kinds mo_testInputs mo_testDue mo_tests mo_noticed mo_missed mo_leastFrom mo_blameUpper mo_blameLower)) (tX12_isPart N g_19) gX12_score_X12_isPart rfl ⟨rfl, rfl⟩ hdX12_isPart ⟨Nat.le_of_ble_eq_true rfl, Nat.le_of_ble_eq_true rfl⟩ [] [0, 1, 2, 3, 4, 5, 6, 7, 8, 9, 10, 11, 12, 13, 14, 15, 16, 17, 18, 19, 20, 21] [0, 1, 2, 3, 4, 5, 6, 7, 8, 9, 10, 11, 12, 13, 14, 15, 16, 17, 18, 19, 20, 21] rfl rfl rfl rfl rfl rfl rfl rfl hl.1 rfl (Nat.le_of_ble_eq_true rfl) ⟨Nat.zero_le _, Nat.zero_le _⟩ dX12_score_1 (fun H locs B => ?_)
  refine lv_if_ne (tgt := 10) hx hb dX12_score_4 (by decide) (fun c_2 => ?_) (fun c_2 => ?_)
  · rw [if_neg c_2] at h
    refine lv_aload_n hx hb dX12_score_10 rfl (lv_at hl 0 rfl) ?_
    obtain ⟨⟨mo_value_3, mo_isLaid_4, mo_changes_5, mo_changeNode_6, mo_changeSign_7, mo_differs_8, mo_results_9, mo_own_10, mo_noticed_11⟩, g_18, h⟩ := ob_some h
    try dsimp only at h
    refine kc_VV C B (q0 := 0) (ci := 12) (As := []) (rest := []) (w2 := (wd_mo a b cI cJ cT mo_signs mo_signMany mo_nodeSign mo_nodeOn mo_nodeSize mo_nodeMany mo_due mo_openNode mo_value_3 mo_isLaid_4 mo_changes_5 mo_changeNode_6 mo_changeSign_7 mo_differs_8 mo_results_9 mo_own_10 mo_kinds mo_testInputs mo_testDue mo_tests mo_noticed_11 mo_missed mo_leastFrom mo_blameUpper mo_blameLower)) (tX12_findNoticed (a := a) (b := b) N g_18) gX12_score_X12_findNoticed rfl ⟨rfl, rfl⟩ ⟨rfl, hdX12_findNoticed⟩ ⟨Nat.le_of_ble_eq_true rfl, Nat.le_of_ble_eq_true rfl⟩ rfl rfl [0, 1, 2, 3, 4, 5, 6, 7, 8, 9, 10, 11, 12, 13, 14, 15, 16, 17, 18, 19, 20, 21] [] [0, 1, 2, 3, 4, 5, 6, 7, 8, 9, 10, 11, 12, 13, 14, 15, 16, 17, 18, 19, 20, 21] rfl rfl rfl rfl rfl rfl rfl rfl hl.1 rfl (Nat.le_of_ble_eq_true rfl) ⟨Nat.zero_le _, Nat.zero_le _⟩ dX12_score_11 (fun H locs B => ?_)
    refine lv_aload_n hx hb dX12_score_14 rfl (lv_at hl 0 rfl) ?_
    refine lv_iconst (v := 1) hx hb dX12_score_15 (by decide) ?_
    obtain ⟨r_12, g_17, h⟩ := ob_some h
    try dsimp only at h
    refine kc_VI C B (q0 := 0) (ci := 12) (As := [.int (1 : Int32)]) (rest := []) (w2 := (wd_mo a b cI cJ cT mo_signs mo_signMany mo_nodeSign mo_nodeOn mo_nodeSize mo_nodeMany mo_due mo_openNode mo_value_3 mo_isLaid_4 mo_changes_5 mo_changeNode_6 mo_changeSign_7 mo_differs_8 mo_results_9 mo_own_10 mo_kinds mo_testInputs mo_testDue mo_tests mo_noticed_11 mo_missed mo_leastFrom mo_blameUpper mo_blameLower)) (tX12_manyOf (a := a) (b := b) N g_17) gX12_score_X12_manyOf rfl ⟨rfl, rfl⟩ ⟨rfl, hdX12_manyOf⟩ ⟨Nat.le_of_ble_eq_true rfl, Nat.le_of_ble_eq_true rfl⟩ rfl rfl [0, 1, 2, 3, 4, 5, 6, 7, 8, 9, 10, 11, 12, 13, 14, 15, 16, 17, 18, 19, 20, 21] [] [0, 1, 2, 3, 4, 5, 6, 7, 8, 9, 10, 11, 12, 13, 14, 15, 16, 17, 18, 19, 20, 21] rfl rfl rfl rfl rfl rfl rfl rfl hl.1 rfl (Nat.le_of_ble_eq_true rfl) ⟨Nat.zero_le _, Nat.zero_le _⟩ dX12_score_16 (fun H locs B => ?_)
    refine lv_aload_n hx hb dX12_score_19 rfl (lv_at hl 0 rfl) ?_
    refine gfX12_score_141 C B 0 rfl rfl dX12_score_20 ?_
    refine lv_aload_n hx hb dX12_score_23 rfl (lv_at hl 0 rfl) ?_
    refine lv_iconst (v := 0) hx hb dX12_score_24 (by decide) ?_
    obtain ⟨r_13, g_16, h⟩ := ob_some h
    try dsimp only at h
    refine kc_VI C B (q0 := 0) (ci := 12) (As := [.int (0 : Int32)]) (rest := [.int mo_changes_5, .int r_12]) (w2 := (wd_mo a b cI cJ cT mo_signs mo_signMany mo_nodeSign mo_nodeOn mo_nodeSize mo_nodeMany mo_due mo_openNode mo_value_3 mo_isLaid_4 mo_changes_5 mo_changeNode_6 mo_changeSign_7 mo_differs_8 mo_results_9 mo_own_10 mo_kinds mo_testInputs mo_testDue mo_tests mo_noticed_11 mo_missed mo_leastFrom mo_blameUpper mo_blameLower)) (tX12_manyOf (a := a) (b := b) N g_16) gX12_score_X12_manyOf rfl ⟨rfl, rfl⟩ ⟨rfl, hdX12_manyOf⟩ ⟨Nat.le_of_ble_eq_true rfl, Nat.le_of_ble_eq_true rfl⟩ rfl rfl [0, 1, 2, 3, 4, 5, 6, 7, 8, 9, 10, 11, 12, 13, 14, 15, 16, 17, 18, 19, 20, 21] [] [0, 1, 2, 3, 4, 5, 6, 7, 8, 9, 10, 11, 12, 13, 14, 15, 16, 17, 18, 19, 20, 21] rfl rfl rfl rfl rfl rfl rfl rfl hl.1 rfl (Nat.le_of_ble_eq_true rfl) ⟨Nat.zero_le _, Nat.zero_le _⟩ dX12_score_25 (fun H locs B => ?_)
    refine lv_isub hx hb dX12_score_28 ?_
    refine lv_iload_n hx hb dX12_score_29 rfl (lv_at hl 1 rfl) ?_
    obtain ⟨r_14, g_15, h⟩ := ob_some h
    try dsimp only at h
    refine kc_SI C B (As := [.int r_12, .int (mo_changes_5 - r_13), .int x1]) (rest := []) (w2 := (wd_mo a b cI cJ cT mo_signs mo_signMany mo_nodeSign mo_nodeOn mo_nodeSize mo_nodeMany mo_due mo_openNode mo_value_3 mo_isLaid_4 mo_changes_5 mo_changeNode_6 mo_changeSign_7 mo_differs_8 mo_results_9 mo_own_10 mo_kinds mo_testInputs mo_testDue mo_tests mo_noticed_11 mo_missed mo_leastFrom mo_blameUpper mo_blameLower)) (tX12_lowest N g_15) gX12_score_X12_lowest rfl ⟨rfl, rfl⟩ hdX12_lowest ⟨Nat.le_of_ble_eq_true rfl, Nat.le_of_ble_eq_true rfl⟩ [] [0, 1, 2, 3, 4, 5, 6, 7, 8, 9, 10, 11, 12, 13, 14, 15, 16, 17, 18, 19, 20, 21] [0, 1, 2, 3, 4, 5, 6, 7, 8, 9, 10, 11, 12, 13, 14, 15, 16, 17, 18, 19, 20, 21] rfl rfl rfl rfl rfl rfl rfl rfl hl.1 rfl (Nat.le_of_ble_eq_true rfl) ⟨Nat.zero_le _, Nat.zero_le _⟩ dX12_score_30 (fun H locs B => ?_)
    cases h
    exact k_iret C B dX12_score_33
  · rw [if_pos c_2] at h
    refine lv_bipush (v := -2) hx hb dX12_score_7 (by decide) ?_
    cases h
    exact k_iret C B dX12_score_9
end
theorem tX12_score {l : Launch} {D : va_G} {Es : (Nat → Nat) × (Nat → Nat)} {a b : Nat → Nat} {cI cJ cT : ClassId} {mo_signs : Nat → Int32} {mo_signMany : Int32} {mo_nodeSign : Nat → Int32} {mo_nodeOn : Nat → Int32} {mo_nodeSize : Nat → Int32} {mo_nodeMany : Nat → Int32} {mo_due : Nat → Int32} {mo_openNode : Nat → Int32} {mo_value : Nat → Int32} {mo_isLaid : Int32} {mo_changes : Int32} {mo_changeNode : Nat → Int32} {mo_changeSign : Nat → Int32} {mo_differs : Nat → Int32} {mo_results : Nat → Int32} {mo_own : Nat → Int32} {mo_kinds : Nat → Int32} {mo_testInputs : Nat → Int32} {mo_testDue : Nat → Int32} {mo_tests : Int32} {mo_noticed : Nat → Int32} {mo_missed : Nat → Int32} {mo_leastFrom : Nat → Int32} {mo_blameUpper : Nat → Int32} {mo_blameLower : Nat → Int32} {x1 : Int32} {z_r : Int32} {z_mo_value : Nat → Int32} {z_mo_isLaid : Int32} {z_mo_changes : Int32} {z_mo_changeNode : Nat → Int32} {z_mo_changeSign : Nat → Int32} {z_mo_differs : Nat → Int32} {z_mo_results : Nat → Int32} {z_mo_own : Nat → Int32} {z_mo_noticed : Nat → Int32} (N : Nat) (h : fX12_score N mo_nodeSign mo_nodeSize mo_nodeMany mo_kinds mo_testInputs mo_tests x1 mo_value mo_isLaid mo_changes mo_changeNode mo_changeSign mo_differs mo_results mo_own mo_noticed = some (z_r, z_mo_value, z_mo_isLaid, z_mo_changes, z_mo_changeNode, z_mo_changeSign, z_mo_differs, z_mo_results, z_mo_own, z_mo_noticed)) : CtI l yX12_score wsX12_score rmX12_score D (tyl cI cJ cT) Es [.ref (b 0), .int x1] (wd_mo a b cI cJ cT mo_signs mo_signMany mo_nodeSign mo_nodeOn mo_nodeSize mo_nodeMany mo_due mo_openNode mo_value mo_isLaid mo_changes mo_changeNode mo_changeSign mo_differs mo_results mo_own mo_kinds mo_testInputs mo_testDue mo_tests mo_noticed mo_missed mo_leastFrom mo_blameUpper mo_blameLower) z_r (wd_mo a b cI cJ cT mo_signs mo_signMany mo_nodeSign mo_nodeOn mo_nodeSize mo_nodeMany mo_due mo_openNode z_mo_value z_mo_isLaid z_mo_changes z_mo_changeNode z_mo_changeSign z_mo_differs z_mo_results z_mo_own mo_kinds mo_testInputs mo_testDue mo_tests z_mo_noticed mo_missed mo_leastFrom mo_blameUpper mo_blameLower) :=
  CtI.of (own := RX12) (cc := cX12_score) (nL := 2) (ret := (some .int)) (by decide +kernel) rfl rfl (Nat.le_of_ble_eq_true rfl) rfl (fun p e s m below meth c A ls C B hl => qX12_score_0 C (N := N) x1 mo_value mo_isLaid mo_changes mo_changeNode mo_changeSign mo_differs mo_results mo_own mo_noticed h _ _ _ B hl)

abbrev rmX12_findMissed : Room := { frames := 6, cells := 0, slots := 0, locals := 140 }
theorem hdX12_findMissed : yX12_findMissed.cls ≠ "java/lang/invoke/MethodHandle" ∧ yX12_findMissed.cls ≠ "java/lang/invoke/VarHandle" ∧ (parseMethodDescriptor yX12_findMissed.desc).map (fun d => d.parameters.length) = some 0 := by decide +kernel
theorem iX12_findMissed_X12 : ∀ w ∈ wsX120, w ∈ wsX12_findMissed := by decide +kernel
theorem gfX12_findMissed_141 {p : Program} {l : Launch} {e : Env} {R : Room} {s : State} {m : MethodId} {args : Array Value} {below : List Frame} {meth : Method} {c : Code} {H : Heap} {locs : List Loc} {cells slots : Nat} {Q : State → Prop} {D : va_G} {A : Nat → Prop} {tys : List (ClassId × FieldType)} {Es : (Nat → Nat) × (Nat → Nat)} {ws : va_W} {pc : Nat} {ls : Array Slot} {rest : List Value} {a : Nat} (C : CT p s m args meth c RX12 cX12_findMissed 3 none wsX12_findMissed D A tys Es) (B : DB D A ws s H locs) (q0 : Nat) {fs : List Value} {v : Value} (he : ws[q0]? = some (a, .inr (12, fs))) (hv : fs[10]? = some v) (hdg : decode cX12_findMissed pc = .ok (.getfield 141, 3)) (kk : W p l e R s m args below meth c H locs cells slots Q (F0 m (pc + 3) ls (v :: rest))) : W p l e R s m args below meth c H locs cells slots Q (F0 m pc ls (.ref a :: rest)) :=
  k_get (Cn := RX12) (T := TX12) (N := 25) (index := 141) C B iX12_findMissed_X12 rfl 10 (by decide) (by decide +kernel) q0 he hv hdg kk
theorem gfX12_findMissed_62 {p : Program} {l : Launch} {e : Env} {R : Room} {s : State} {m : MethodId} {args : Array Value} {below : List Frame} {meth : Method} {c : Code} {H : Heap} {locs : List Loc} {cells slots : Nat} {Q : State → Prop} {D : va_G} {A : Nat → Prop} {tys : List (ClassId × FieldType)} {Es : (Nat → Nat) × (Nat → Nat)} {ws : va_W} {pc : Nat} {ls : Array Slot} {rest : List Value} {a : Nat} (C : CT p s m args meth c RX12 cX12_findMissed 3 none wsX12_findMissed D A tys Es) (B : DB D A ws s H locs) (q0 : Nat) {fs : List Value} {v : Value} (he : ws[q0]? = some (a, .inr (12, fs))) (hv : fs[21]? = some v) (hdg : decode cX12_findMissed pc = .ok (.getfield 62, 3)) (kk : W p l e R s m args below meth c H locs cells slots Q (F0 m (pc + 3) ls (v :: rest))) : W p l e R s m args below meth c H locs cells slots Q (F0 m pc ls (.ref a :: rest)) :=
  k_get (Cn := RX12) (T := TX12) (N := 25) (index := 62) C B iX12_findMissed_X12 rfl 21 (by decide) (by decide +kernel) q0 he hv hdg kk
theorem gfX12_findMissed_59 {p : Program} {l : Launch} {e : Env} {R : Room} {s : State} {m : MethodId} {args : Array Value} {below : List Frame} {meth : Method} {c : Code} {H : Heap} {locs : List Loc} {cells slots : Nat} {Q : State → Prop} {D : va_G} {A : Nat → Prop} {tys : List (ClassId × FieldType)} {Es : (Nat → Nat) × (Nat → Nat)} {ws : va_W} {pc : Nat} {ls : Array Slot} {rest : List Value} {a : Nat} (C : CT p s m args meth c RX12 cX12_findMissed 3 none wsX12_findMissed D A tys Es) (B : DB D A ws s H locs) (q0 : Nat) {fs : List Value} {v : Value} (he : ws[q0]? = some (a, .inr (12, fs))) (hv : fs[20]? = some v) (hdg : decode cX12_findMissed pc = .ok (.getfield 59, 3)) (kk : W p l e R s m args below meth c H locs cells slots Q (F0 m (pc + 3) ls (v :: rest))) : W p l e R s m args below meth c H locs cells slots Q (F0 m pc ls (.ref a :: rest)) :=
  k_get (Cn := RX12) (T := TX12) (N := 25) (index := 59) C B iX12_findMissed_X12 rfl 20 (by decide) (by decide +kernel) q0 he hv hdg kk
theorem gfX12_findMissed_155 {p : Program} {l : Launch} {e : Env} {R : Room} {s : State} {m : MethodId} {args : Array Value} {below : List Frame} {meth : Method} {c : Code} {H : Heap} {locs : List Loc} {cells slots : Nat} {Q : State → Prop} {D : va_G} {A : Nat → Prop} {tys : List (ClassId × FieldType)} {Es : (Nat → Nat) × (Nat → Nat)} {ws : va_W} {pc : Nat} {ls : Array Slot} {rest : List Value} {a : Nat} (C : CT p s m args meth c RX12 cX12_findMissed 3 none wsX12_findMissed D A tys Es) (B : DB D A ws s H locs) (q0 : Nat) {fs : List Value} {v : Value} (he : ws[q0]? = some (a, .inr (12, fs))) (hv : fs[19]? = some v) (hdg : decode cX12_findMissed pc = .ok (.getfield 155, 3)) (kk : W p l e R s m args below meth c H locs cells slots Q (F0 m (pc + 3) ls (v :: rest))) : W p l e R s m args below meth c H locs cells slots Q (F0 m pc ls (.ref a :: rest)) :=
  k_get (Cn := RX12) (T := TX12) (N := 25) (index := 155) C B iX12_findMissed_X12 rfl 19 (by decide) (by decide +kernel) q0 he hv hdg kk
section
variable {p : Program} {l : Launch} {e : Env} {s : State} {m : MethodId} {args : Array Value} {below : List Frame} {meth : Method} {c : Code} {D : va_G} {A : Nat → Prop} {Es : (Nat → Nat) × (Nat → Nat)} {a b : Nat → Nat} {cI cJ cT : ClassId}
set_option maxHeartbeats 4000000 in
set_option maxRecDepth 100000 in
theorem qX12_findMissed_65 (C : CT p s m args meth c RX12 cX12_findMissed 3 none wsX12_findMissed D A (tyl cI cJ cT) Es) {N : Nat} {mo_signs : Nat → Int32} {mo_signMany : Int32} {mo_nodeSign : Nat → Int32} {mo_nodeOn : Nat → Int32} {mo_nodeSize : Nat → Int32} {mo_nodeMany : Nat → Int32} {mo_due : Nat → Int32} {mo_openNode : Nat → Int32} {mo_kinds : Nat → Int32} {mo_testInputs : Nat → Int32} {mo_testDue : Nat → Int32} {mo_tests : Int32} {mo_leastFrom : Nat → Int32} {mo_blameUpper : Nat → Int32} {mo_blameLower : Nat → Int32} {z_mo_value : Nat → Int32} {z_mo_isLaid : Int32} {z_mo_changes : Int32} {z_mo_changeNode : Nat → Int32} {z_mo_changeSign : Nat → Int32} {z_mo_differs : Nat → Int32} {z_mo_results : Nat → Int32} {z_mo_own : Nat → Int32} {z_mo_noticed : Nat → Int32} {z_mo_missed : Nat → Int32} {k6 : Int32 → (Nat → Int32) → (Int32) → (Int32) → (Nat → Int32) → (Nat → Int32) → (Nat → Int32) → (Nat → Int32) → (Nat → Int32) → (Nat → Int32) → (Nat → Int32) → Option ((Nat → Int32) × (Int32) × (Int32) × (Nat → Int32) × (Nat → Int32) × (Nat → Int32) × (Nat → Int32) × (Nat → Int32) × (Nat → Int32) × (Nat → Int32))} (hk6 : ∀ (x1 : Int32) (mo_value : Nat → Int32) (mo_isLaid : Int32) (mo_changes : Int32) (mo_changeNode : Nat → Int32) (mo_changeSign : Nat → Int32) (mo_differs : Nat → Int32) (mo_results : Nat → Int32) (mo_own : Nat → Int32) (mo_noticed : Nat → Int32) (mo_missed : Nat → Int32), k6 x1 mo_value mo_isLaid mo_changes mo_changeNode mo_changeSign mo_differs mo_results mo_own mo_noticed mo_missed = some (z_mo_value, z_mo_isLaid, z_mo_changes, z_mo_changeNode, z_mo_changeSign, z_mo_differs, z_mo_results, z_mo_own, z_mo_noticed, z_mo_missed) → ∀ (H : Heap) (locs : List Loc) (ls : Array Slot), DB D A (wd_mo a b cI cJ cT mo_signs mo_signMany mo_nodeSign mo_nodeOn mo_nodeSize mo_nodeMany mo_due mo_openNode mo_value mo_isLaid mo_changes mo_changeNode mo_changeSign mo_differs mo_results mo_own mo_kinds mo_testInputs mo_testDue mo_tests mo_noticed mo_missed mo_leastFrom mo_blameUpper mo_blameLower) s H locs → lv_has ls 3 [(0, .ref (b 0)), (1, .int x1)] → W p l e rmX12_findMissed s m args below meth c H locs 0 0 (ZV below args s D A (tyl cI cJ cT) (wd_mo a b cI cJ cT mo_signs mo_signMany mo_nodeSign mo_nodeOn mo_nodeSize mo_nodeMany mo_due mo_openNode z_mo_value z_mo_isLaid z_mo_changes z_mo_changeNode z_mo_changeSign z_mo_differs z_mo_results z_mo_own mo_kinds mo_testInputs mo_testDue mo_tests z_mo_noticed z_mo_missed mo_leastFrom mo_blameUpper mo_blameLower) 0 0) (F0 m 6 ls [])) {k25 : Int32 → Int32 → (Nat → Int32) → (Int32) → (Int32) → (Nat → Int32) → (Nat → Int32) → (Nat → Int32) → (Nat → Int32) → (Nat → Int32) → (Nat → Int32) → (Nat → Int32) → Option ((Nat → Int32) × (Int32) × (Int32) × (Nat → Int32) × (Nat → Int32) × (Nat → Int32) × (Nat → Int32) × (Nat → Int32) × (Nat → Int32) × (Nat → Int32))} (hk25 : ∀ (x1 : Int32) (x2 : Int32) (mo_value : Nat → Int32) (mo_isLaid : Int32) (mo_changes : Int32) (mo_changeNode : Nat → Int32) (mo_changeSign : Nat → Int32) (mo_differs : Nat → Int32) (mo_results : Nat → Int32) (mo_own : Nat → Int32) (mo_noticed : Nat → Int32) (mo_missed : Nat → Int32), k25 x1 x2 mo_value mo_isLaid mo_changes mo_changeNode mo_changeSign mo_differs mo_results mo_own mo_noticed mo_missed = some (z_mo_value, z_mo_isLaid, z_mo_changes, z_mo_changeNode, z_mo_changeSign, z_mo_differs, z_mo_results, z_mo_own, z_mo_noticed, z_mo_missed) → ∀ (H : Heap) (locs : List Loc) (ls : Array Slot), DB D A (wd_mo a b cI cJ cT mo_signs mo_signMany mo_nodeSign mo_nodeOn mo_nodeSize mo_nodeMany mo_due mo_openNode mo_value mo_isLaid mo_changes mo_changeNode mo_changeSign mo_differs mo_results mo_own mo_kinds mo_testInputs mo_testDue mo_tests mo_noticed mo_missed mo_leastFrom mo_blameUpper mo_blameLower) s H locs → lv_has ls 3 [(0, .ref (b 0)), (1, .int x1), (2, .int x2)] → W p l e rmX12_findMissed s m args below meth c H locs 0 0 (ZV below args s D A (tyl cI cJ cT) (wd_mo a b cI cJ cT mo_signs mo_signMany mo_nodeSign mo_nodeOn mo_nodeSize mo_nodeMany mo_due mo_openNode z_mo_value z_mo_isLaid z_mo_changes z_mo_changeNode z_mo_changeSign z_mo_differs z_mo_results z_mo_own mo_kinds mo_testInputs mo_testDue mo_tests z_mo_noticed z_mo_missed mo_leastFrom mo_blameUpper mo_blameLower) 0 0) (F0 m 25 ls [])) : ∀ (x1 : Int32) (x2 : Int32) (y1 : Int32) (y2 : Int32) (y3 : Int32) (mo_value : Nat → Int32) (mo_isLaid : Int32) (mo_changes : Int32) (mo_changeNode : Nat → Int32) (mo_changeSign : Nat → Int32) (mo_differs : Nat → Int32) (mo_results : Nat → Int32) (mo_own : Nat → Int32) (mo_noticed : Nat → Int32) (mo_missed : Nat → Int32), bX12_findMissed_65 N mo_nodeSign mo_nodeSize mo_nodeMany mo_kinds mo_testInputs mo_tests k6 k25 x1 x2 y1 y2 y3 mo_value mo_isLaid mo_changes mo_changeNode mo_changeSign mo_differs mo_results mo_own mo_noticed mo_missed = some (z_mo_value, z_mo_isLaid, z_mo_changes, z_mo_changeNode, z_mo_changeSign, z_mo_differs, z_mo_results, z_mo_own, z_mo_noticed, z_mo_missed) → ∀ (H : Heap) (locs : List Loc) (ls : Array Slot), DB D A (wd_mo a b cI cJ cT mo_signs mo_signMany mo_nodeSign mo_nodeOn mo_nodeSize mo_nodeMany mo_due mo_openNode mo_value mo_isLaid mo_changes mo_changeNode mo_changeSign mo_differs mo_results mo_own mo_kinds mo_testInputs mo_testDue mo_tests mo_noticed mo_missed mo_leastFrom mo_blameUpper mo_blameLower) s H locs → lv_has ls 3 [(0, .ref (b 0)), (1, .int x1), (2, .int x2)] → W p l e rmX12_findMissed s m args below meth c H locs 0 0 (ZV below args s D A (tyl cI cJ cT) (wd_mo a b cI cJ cT mo_signs mo_signMany mo_nodeSign mo_nodeOn mo_nodeSize mo_nodeMany mo_due mo_openNode z_mo_value z_mo_isLaid z_mo_changes z_mo_changeNode z_mo_changeSign z_mo_differs z_mo_results z_mo_own mo_kinds mo_testInputs mo_testDue mo_tests z_mo_noticed z_mo_missed mo_leastFrom mo_blameUpper mo_blameLower) 0 0) (F0 m 65 ls [.int y3, .int y2, .int y1, .ref (b 18)]) := by
  have hx := C.1.1
  have hb := C.1.2.1
  have hown := C.1.2.2.2.1
  have hts := C.1.2.2.2.2
  intro x1 x2 y1 y2 y3 mo_value mo_isLaid mo_changes mo_changeNode mo_changeSign mo_differs mo_results mo_own mo_noticed mo_missed h H locs ls B hl
  rw [bX12_findMissed_65] at h
  refine lv_iadd hx hb dX12_findMissed_65 ?_
  obtain ⟨b_1, h⟩ := bnd_some h
  refine k_iast C B 18 0 rfl rfl b_1 dX12_findMissed_66 (fun H locs B => ?_)
  have B : DB D A (wd_mo a b cI cJ cT mo_signs mo_signMany mo_nodeSign mo_nodeOn mo_nodeSize mo_nodeMany mo_due mo_openNode mo_value mo_isLaid mo_changes mo_changeNode mo_changeSign mo_differs mo_results mo_own mo_kinds mo_testInputs mo_testDue mo_tests mo_noticed (upd mo_missed (Int32.toNatClampNeg y1) (y2 + y3)) mo_leastFrom mo_blameUpper mo_blameLower) s H locs := B
  refine lv_iinc (v := (x2 + 1)) (lv' := [(2, .int (x2 + 1)), (0, .ref (b 0)), (1, .int x1)]) hx hb dX12_findMissed_67 hl (k := 2) rfl rfl (by decide) rfl (fun ls hl => ?_)
  refine lv_goto (tgt := 25) hx hb dX12_findMissed_70 (by decide) ?_
  exact hk25 x1 (x2 + 1) mo_value mo_isLaid mo_changes mo_changeNode mo_changeSign mo_differs mo_results mo_own mo_noticed (upd mo_missed (Int32.toNatClampNeg y1) (y2 + y3)) h H locs ls B (lv_sub hl [1, 2, 0] rfl)
set_option maxHeartbeats 4000000 in
set_option maxRecDepth 100000 in
theorem qX12_findMissed_64 (C : CT p s m args meth c RX12 cX12_findMissed 3 none wsX12_findMissed D A (tyl cI cJ cT) Es) {N : Nat} {mo_signs : Nat → Int32} {mo_signMany : Int32} {mo_nodeSign : Nat → Int32} {mo_nodeOn : Nat → Int32} {mo_nodeSize : Nat → Int32} {mo_nodeMany : Nat → Int32} {mo_due : Nat → Int32} {mo_openNode : Nat → Int32} {mo_kinds : Nat → Int32} {mo_testInputs : Nat → Int32} {mo_testDue : Nat → Int32} {mo_tests : Int32} {mo_leastFrom : Nat → Int32} {mo_blameUpper : Nat → Int32} {mo_blameLower : Nat → Int32} {z_mo_value : Nat → Int32} {z_mo_isLaid : Int32} {z_mo_changes : Int32} {z_mo_changeNode : Nat → Int32} {z_mo_changeSign : Nat → Int32} {z_mo_differs : Nat → Int32} {z_mo_results : Nat → Int32} {z_mo_own : Nat → Int32} {z_mo_noticed : Nat → Int32} {z_mo_missed : Nat → Int32} {k6 : Int32 → (Nat → Int32) → (Int32) → (Int32) → (Nat → Int32) → (Nat → Int32) → (Nat → Int32) → (Nat → Int32) → (Nat → Int32) → (Nat → Int32) → (Nat → Int32) → Option ((Nat → Int32) × (Int32) × (Int32) × (Nat → Int32) × (Nat → Int32) × (Nat → Int32) × (Nat → Int32) × (Nat → Int32) × (Nat → Int32) × (Nat → Int32))} (hk6 : ∀ (x1 : Int32) (mo_value : Nat → Int32) (mo_isLaid : Int32) (mo_changes : Int32) (mo_changeNode : Nat → Int32) (mo_changeSign : Nat → Int32) (mo_differs : Nat → Int32) (mo_results : Nat → Int32) (mo_own : Nat → Int32) (mo_noticed : Nat → Int32) (mo_missed : Nat → Int32), k6 x1 mo_value mo_isLaid mo_changes mo_changeNode mo_changeSign mo_differs mo_results mo_own mo_noticed mo_missed = some (z_mo_value, z_mo_isLaid, z_mo_changes, z_mo_changeNode, z_mo_changeSign, z_mo_differs, z_mo_results, z_mo_own, z_mo_noticed, z_mo_missed) → ∀ (H : Heap) (locs : List Loc) (ls : Array Slot), DB D A (wd_mo a b cI cJ cT mo_signs mo_signMany mo_nodeSign mo_nodeOn mo_nodeSize mo_nodeMany mo_due mo_openNode mo_value mo_isLaid mo_changes mo_changeNode mo_changeSign mo_differs mo_results mo_own mo_kinds mo_testInputs mo_testDue mo_tests mo_noticed mo_missed mo_leastFrom mo_blameUpper mo_blameLower) s H locs → lv_has ls 3 [(0, .ref (b 0)), (1, .int x1)] → W p l e rmX12_findMissed s m args below meth c H locs 0 0 (ZV below args s D A (tyl cI cJ cT) (wd_mo a b cI cJ cT mo_signs mo_signMany mo_nodeSign mo_nodeOn mo_nodeSize mo_nodeMany mo_due mo_openNode z_mo_value z_mo_isLaid z_mo_changes z_mo_changeNode z_mo_changeSign z_mo_differs z_mo_results z_mo_own mo_kinds mo_testInputs mo_testDue mo_tests z_mo_noticed z_mo_missed mo_leastFrom mo_blameUpper mo_blameLower) 0 0) (F0 m 6 ls [])) {k25 : Int32 → Int32 → (Nat → Int32) → (Int32) → (Int32) → (Nat → Int32) → (Nat → Int32) → (Nat → Int32) → (Nat → Int32) → (Nat → Int32) → (Nat → Int32) → (Nat → Int32) → Option ((Nat → Int32) × (Int32) × (Int32) × (Nat → Int32) × (Nat → Int32) × (Nat → Int32) × (Nat → Int32) × (Nat → Int32) × (Nat → Int32) × (Nat → Int32))} (hk25 : ∀ (x1 : Int32) (x2 : Int32) (mo_value : Nat → Int32) (mo_isLaid : Int32) (mo_changes : Int32) (mo_changeNode : Nat → Int32) (mo_changeSign : Nat → Int32) (mo_differs : Nat → Int32) (mo_results : Nat → Int32) (mo_own : Nat → Int32) (mo_noticed : Nat → Int32) (mo_missed : Nat → Int32), k25 x1 x2 mo_value mo_isLaid mo_changes mo_changeNode mo_changeSign mo_differs mo_results mo_own mo_noticed mo_missed = some (z_mo_value, z_mo_isLaid, z_mo_changes, z_mo_changeNode, z_mo_changeSign, z_mo_differs, z_mo_results, z_mo_own, z_mo_noticed, z_mo_missed) → ∀ (H : Heap) (locs : List Loc) (ls : Array Slot), DB D A (wd_mo a b cI cJ cT mo_signs mo_signMany mo_nodeSign mo_nodeOn mo_nodeSize mo_nodeMany mo_due mo_openNode mo_value mo_isLaid mo_changes mo_changeNode mo_changeSign mo_differs mo_results mo_own mo_kinds mo_testInputs mo_testDue mo_tests mo_noticed mo_missed mo_leastFrom mo_blameUpper mo_blameLower) s H locs → lv_has ls 3 [(0, .ref (b 0)), (1, .int x1), (2, .int x2)] → W p l e rmX12_findMissed s m args below meth c H locs 0 0 (ZV below args s D A (tyl cI cJ cT) (wd_mo a b cI cJ cT mo_signs mo_signMany mo_nodeSign mo_nodeOn mo_nodeSize mo_nodeMany mo_due mo_openNode z_mo_value z_mo_isLaid z_mo_changes z_mo_changeNode z_mo_changeSign z_mo_differs z_mo_results z_mo_own mo_kinds mo_testInputs mo_testDue mo_tests z_mo_noticed z_mo_missed mo_leastFrom mo_blameUpper mo_blameLower) 0 0) (F0 m 25 ls [])) : ∀ (x1 : Int32) (x2 : Int32) (y1 : Int32) (y2 : Int32) (mo_value : Nat → Int32) (mo_isLaid : Int32) (mo_changes : Int32) (mo_changeNode : Nat → Int32) (mo_changeSign : Nat → Int32) (mo_differs : Nat → Int32) (mo_results : Nat → Int32) (mo_own : Nat → Int32) (mo_noticed : Nat → Int32) (mo_missed : Nat → Int32), bX12_findMissed_64 N mo_nodeSign mo_nodeSize mo_nodeMany mo_kinds mo_testInputs mo_tests k6 k25 x1 x2 y1 y2 mo_value mo_isLaid mo_changes mo_changeNode mo_changeSign mo_differs mo_results mo_own mo_noticed mo_missed = some (z_mo_value, z_mo_isLaid, z_mo_changes, z_mo_changeNode, z_mo_changeSign, z_mo_differs, z_mo_results, z_mo_own, z_mo_noticed, z_mo_missed) → ∀ (H : Heap) (locs : List Loc) (ls : Array Slot), DB D A (wd_mo a b cI cJ cT mo_signs mo_signMany mo_nodeSign mo_nodeOn mo_nodeSize mo_nodeMany mo_due mo_openNode mo_value mo_isLaid mo_changes mo_changeNode mo_changeSign mo_differs mo_results mo_own mo_kinds mo_testInputs mo_testDue mo_tests mo_noticed mo_missed mo_leastFrom mo_blameUpper mo_blameLower) s H locs → lv_has ls 3 [(0, .ref (b 0)), (1, .int x1), (2, .int x2)] → W p l e rmX12_findMissed s m args below meth c H locs 0 0 (ZV below args s D A (tyl cI cJ cT) (wd_mo a b cI cJ cT mo_signs mo_signMany mo_nodeSign mo_nodeOn mo_nodeSize mo_nodeMany mo_due mo_openNode z_mo_value z_mo_isLaid z_mo_changes z_mo_changeNode z_mo_changeSign z_mo_differs z_mo_results z_mo_own mo_kinds mo_testInputs mo_testDue mo_tests z_mo_noticed z_mo_missed mo_leastFrom mo_blameUpper mo_blameLower) 0 0) (F0 m 64 ls [.int y2, .int y1, .ref (b 18)]) := by
  have hx := C.1.1
  have hb := C.1.2.1
  have hown := C.1.2.2.2.1
  have hts := C.1.2.2.2.2
  intro x1 x2 y1 y2 mo_value mo_isLaid mo_changes mo_changeNode mo_changeSign mo_differs mo_results mo_own mo_noticed mo_missed h H locs ls B hl
  rw [bX12_findMissed_64] at h
  refine lv_iconst (v := 0) hx hb dX12_findMissed_64 (by decide) ?_
  exact qX12_findMissed_65 C hk6 hk25 x1 x2 y1 y2 (0 : Int32) mo_value mo_isLaid mo_changes mo_changeNode mo_changeSign mo_differs mo_results mo_own mo_noticed mo_missed h H locs ls B (lv_sub hl [0, 1, 2] rfl)
set_option maxHeartbeats 4000000 in
set_option maxRecDepth 100000 in
theorem qX12_findMissed_25 (C : CT p s m args meth c RX12 cX12_findMissed 3 none wsX12_findMissed D A (tyl cI cJ cT) Es) {N : Nat} {mo_signs : Nat → Int32} {mo_signMany : Int32} {mo_nodeSign : Nat → Int32} {mo_nodeOn : Nat → Int32} {mo_nodeSize : Nat → Int32} {mo_nodeMany : Nat → Int32} {mo_due : Nat → Int32} {mo_openNode : Nat → Int32} {mo_kinds : Nat → Int32} {mo_testInputs : Nat → Int32} {mo_testDue : Nat → Int32} {mo_tests : Int32} {mo_leastFrom : Nat → Int32} {mo_blameUpper : Nat → Int32} {mo_blameLower : Nat → Int32} {z_mo_value : Nat → Int32} {z_mo_isLaid : Int32} {z_mo_changes : Int32} {z_mo_changeNode : Nat → Int32} {z_mo_changeSign : Nat → Int32} {z_mo_differs : Nat → Int32} {z_mo_results : Nat → Int32} {z_mo_own : Nat → Int32} {z_mo_noticed : Nat → Int32} {z_mo_missed : Nat → Int32} {k6 : Int32 → (Nat → Int32) → (Int32) → (Int32) → (Nat → Int32) → (Nat → Int32) → (Nat → Int32) → (Nat → Int32) → (Nat → Int32) → (Nat → Int32) → (Nat → Int32) → Option ((Nat → Int32) × (Int32) × (Int32) × (Nat → Int32) × (Nat → Int32) × (Nat → Int32) × (Nat → Int32) × (Nat → Int32) × (Nat → Int32) × (Nat → Int32))} (hk6 : ∀ (x1 : Int32) (mo_value : Nat → Int32) (mo_isLaid : Int32) (mo_changes : Int32) (mo_changeNode : Nat → Int32) (mo_changeSign : Nat → Int32) (mo_differs : Nat → Int32) (mo_results : Nat → Int32) (mo_own : Nat → Int32) (mo_noticed : Nat → Int32) (mo_missed : Nat → Int32), k6 x1 mo_value mo_isLaid mo_changes mo_changeNode mo_changeSign mo_differs mo_results mo_own mo_noticed mo_missed = some (z_mo_value, z_mo_isLaid, z_mo_changes, z_mo_changeNode, z_mo_changeSign, z_mo_differs, z_mo_results, z_mo_own, z_mo_noticed, z_mo_missed) → ∀ (H : Heap) (locs : List Loc) (ls : Array Slot), DB D A (wd_mo a b cI cJ cT mo_signs mo_signMany mo_nodeSign mo_nodeOn mo_nodeSize mo_nodeMany mo_due mo_openNode mo_value mo_isLaid mo_changes mo_changeNode mo_changeSign mo_differs mo_results mo_own mo_kinds mo_testInputs mo_testDue mo_tests mo_noticed mo_missed mo_leastFrom mo_blameUpper mo_blameLower) s H locs → lv_has ls 3 [(0, .ref (b 0)), (1, .int x1)] → W p l e rmX12_findMissed s m args below meth c H locs 0 0 (ZV below args s D A (tyl cI cJ cT) (wd_mo a b cI cJ cT mo_signs mo_signMany mo_nodeSign mo_nodeOn mo_nodeSize mo_nodeMany mo_due mo_openNode z_mo_value z_mo_isLaid z_mo_changes z_mo_changeNode z_mo_changeSign z_mo_differs z_mo_results z_mo_own mo_kinds mo_testInputs mo_testDue mo_tests z_mo_noticed z_mo_missed mo_leastFrom mo_blameUpper mo_blameLower) 0 0) (F0 m 6 ls [])) : ∀ (n : Nat) (x1 : Int32) (x2 : Int32) (mo_value : Nat → Int32) (mo_isLaid : Int32) (mo_changes : Int32) (mo_changeNode : Nat → Int32) (mo_changeSign : Nat → Int32) (mo_differs : Nat → Int32) (mo_results : Nat → Int32) (mo_own : Nat → Int32) (mo_noticed : Nat → Int32) (mo_missed : Nat → Int32), bX12_findMissed_25 N mo_nodeSign mo_nodeSize mo_nodeMany mo_kinds mo_testInputs mo_tests k6 n x1 x2 mo_value mo_isLaid mo_changes mo_changeNode mo_changeSign mo_differs mo_results mo_own mo_noticed mo_missed = some (z_mo_value, z_mo_isLaid, z_mo_changes, z_mo_changeNode, z_mo_changeSign, z_mo_differs, z_mo_results, z_mo_own, z_mo_noticed, z_mo_missed) → ∀ (H : Heap) (locs : List Loc) (ls : Array Slot), DB D A (wd_mo a b cI cJ cT mo_signs mo_signMany mo_nodeSign mo_nodeOn mo_nodeSize mo_nodeMany mo_due mo_openNode mo_value mo_isLaid mo_changes mo_changeNode mo_changeSign mo_differs mo_results mo_own mo_kinds mo_testInputs mo_testDue mo_tests mo_noticed mo_missed mo_leastFrom mo_blameUpper mo_blameLower) s H locs → lv_has ls 3 [(0, .ref (b 0)), (1, .int x1), (2, .int x2)] → W p l e rmX12_findMissed s m args below meth c H locs 0 0 (ZV below args s D A (tyl cI cJ cT) (wd_mo a b cI cJ cT mo_signs mo_signMany mo_nodeSign mo_nodeOn mo_nodeSize mo_nodeMany mo_due mo_openNode z_mo_value z_mo_isLaid z_mo_changes z_mo_changeNode z_mo_changeSign z_mo_differs z_mo_results z_mo_own mo_kinds mo_testInputs mo_testDue mo_tests z_mo_noticed z_mo_missed mo_leastFrom mo_blameUpper mo_blameLower) 0 0) (F0 m 25 ls []) := by
  have hx := C.1.1
  have hb := C.1.2.1
  have hown := C.1.2.2.2.1
  have hts := C.1.2.2.2.2
  intro n
  induction n with
  | zero => intro x1 x2 mo_value mo_isLaid mo_changes mo_changeNode mo_changeSign mo_differs mo_results mo_own mo_noticed mo_missed h; cases h
  | succ n ih =>
    intro x1 x2 mo_value mo_isLaid mo_changes mo_changeNode mo_changeSign mo_differs mo_results mo_own mo_noticed mo_missed h H locs ls B hl
    rw [bX12_findMissed_25] at h
    refine lv_iload_n hx hb dX12_findMissed_25 rfl (lv_at hl 2 rfl) ?_
    refine lv_aload_n hx hb dX12_findMissed_26 rfl (lv_at hl 0 rfl) ?_
    refine gfX12_findMissed_141 C B 0 rfl rfl dX12_findMissed_27 ?_
    refine lv_icmp_ge (tgt := 73) hx hb dX12_findMissed_30 (by decide) (fun c_1 => ?_) (fun c_1 => ?_)
    · rw [if_pos c_1] at h
      refine lv_iinc (v := (x1 + 1)) (lv' := [(1, .int (x1 + 1)), (0, .ref (b 0)), (2, .int x2)]) hx hb dX12_findMissed_73 hl (k := 1) rfl rfl (by decide) rfl (fun ls hl => ?_)
      refine lv_goto (tgt := 6) hx hb dX12_findMissed_76 (by decide) ?_
      exact hk6 (x1 + 1) mo_value mo_isLaid mo_changes mo_changeNode mo_changeSign mo_differs mo_results mo_own mo_noticed mo_missed h H locs ls B (lv_sub hl [1, 0] rfl)
    · rw [if_neg c_1] at h
      refine lv_aload_n hx hb dX12_findMissed_33 rfl (lv_at hl 0 rfl) ?_
      refine gfX12_findMissed_62 C B 0 rfl rfl dX12_findMissed_34 ?_
      refine lv_iload_n hx hb dX12_findMissed_37 rfl (lv_at hl 1 rfl) ?_
      refine lv_dup2_11 hx hb dX12_findMissed_38 rfl rfl ?_
      obtain ⟨b_2, h⟩ := bnd_some h
      refine k_iald C B 18 0 rfl rfl b_2 dX12_findMissed_39 ?_
      refine lv_aload_n hx hb dX12_findMissed_40 rfl (lv_at hl 0 rfl) ?_
      refine gfX12_findMissed_59 C B 0 rfl rfl dX12_findMissed_41 ?_
      refine lv_iload_n hx hb dX12_findMissed_44 rfl (lv_at hl 2 rfl) ?_
      obtain ⟨b_3, h⟩ := bnd_some h
      refine k_iald C B 17 0 rfl rfl b_3 dX12_findMissed_45 ?_
      refine lv_if_eq (tgt := 64) hx hb dX12_findMissed_46 (by decide) (fun c_4 => ?_) (fun c_4 => ?_)
      · rw [if_pos c_4] at h
        exact qX12_findMissed_64 C hk6 ih x1 x2 x1 (mo_missed (Int32.toNatClampNeg x1)) mo_value mo_isLaid mo_changes mo_changeNode mo_changeSign mo_differs mo_results mo_own mo_noticed mo_missed h H locs ls B (lv_sub hl [0, 1, 2] rfl)
      · rw [if_neg c_4] at h
        refine lv_aload_n hx hb dX12_findMissed_49 rfl (lv_at hl 0 rfl) ?_
        refine gfX12_findMissed_59 C B 0 rfl rfl dX12_findMissed_50 ?_
        refine lv_iload_n hx hb dX12_findMissed_53 rfl (lv_at hl 2 rfl) ?_
        refine k_iald C B 17 0 rfl rfl b_3 dX12_findMissed_54 ?_
        refine lv_iload_n hx hb dX12_findMissed_55 rfl (lv_at hl 1 rfl) ?_
        refine lv_iand hx hb dX12_findMissed_56 ?_
        refine lv_if_ne (tgt := 64) hx hb dX12_findMissed_57 (by decide) (fun c_5 => ?_) (fun c_5 => ?_)
        · rw [if_neg c_5] at h
          exact qX12_findMissed_64 C hk6 ih x1 x2 x1 (mo_missed (Int32.toNatClampNeg x1)) mo_value mo_isLaid mo_changes mo_changeNode mo_changeSign mo_differs mo_results mo_own mo_noticed mo_missed h H locs ls B (lv_sub hl [0, 1, 2] rfl)
        · rw [if_pos c_5] at h
          refine lv_iconst (v := 1) hx hb dX12_findMissed_60 (by decide) ?_
          refine lv_goto (tgt := 65) hx hb dX12_findMissed_61 (by decide) ?_
          exact qX12_findMissed_65 C hk6 ih x1 x2 x1 (mo_missed (Int32.toNatClampNeg x1)) (1 : Int32) mo_value mo_isLaid mo_changes mo_changeNode mo_changeSign mo_differs mo_results mo_own mo_noticed mo_missed h H locs ls B (lv_sub hl [0, 1, 2] rfl)
set_option maxHeartbeats 4000000 in
set_option maxRecDepth 100000 in
theorem qX12_findMissed_6 (C : CT p s m args meth c RX12 cX12_findMissed 3 none wsX12_findMissed D A (tyl cI cJ cT) Es) {N : Nat} {mo_signs : Nat → Int32} {mo_signMany : Int32} {mo_nodeSign : Nat → Int32} {mo_nodeOn : Nat → Int32} {mo_nodeSize : Nat → Int32} {mo_nodeMany : Nat → Int32} {mo_due : Nat → Int32} {mo_openNode : Nat → Int32} {mo_kinds : Nat → Int32} {mo_testInputs : Nat → Int32} {mo_testDue : Nat → Int32} {mo_tests : Int32} {mo_leastFrom : Nat → Int32} {mo_blameUpper : Nat → Int32} {mo_blameLower : Nat → Int32} {z_mo_value : Nat → Int32} {z_mo_isLaid : Int32} {z_mo_changes : Int32} {z_mo_changeNode : Nat → Int32} {z_mo_changeSign : Nat → Int32} {z_mo_differs : Nat → Int32} {z_mo_results : Nat → Int32} {z_mo_own : Nat → Int32} {z_mo_noticed : Nat → Int32} {z_mo_missed : Nat → Int32} : ∀ (n : Nat) (x1 : Int32) (mo_value : Nat → Int32) (mo_isLaid : Int32) (mo_changes : Int32) (mo_changeNode : Nat → Int32) (mo_changeSign : Nat → Int32) (mo_differs : Nat → Int32) (mo_results : Nat → Int32) (mo_own : Nat → Int32) (mo_noticed : Nat → Int32) (mo_missed : Nat → Int32), bX12_findMissed_6 N mo_nodeSign mo_nodeSize mo_nodeMany mo_kinds mo_testInputs mo_tests n x1 mo_value mo_isLaid mo_changes mo_changeNode mo_changeSign mo_differs mo_results mo_own mo_noticed mo_missed = some (z_mo_value, z_mo_isLaid, z_mo_changes, z_mo_changeNode, z_mo_changeSign, z_mo_differs, z_mo_results, z_mo_own, z_mo_noticed, z_mo_missed) → ∀ (H : Heap) (locs : List Loc) (ls : Array Slot), DB D A (wd_mo a b cI cJ cT mo_signs mo_signMany mo_nodeSign mo_nodeOn mo_nodeSize mo_nodeMany mo_due mo_openNode mo_value mo_isLaid mo_changes mo_changeNode mo_changeSign mo_differs mo_results mo_own mo_kinds mo_testInputs mo_testDue mo_tests mo_noticed mo_missed mo_leastFrom mo_blameUpper mo_blameLower) s H locs → lv_has ls 3 [(0, .ref (b 0)), (1, .int x1)] → W p l e rmX12_findMissed s m args below meth c H locs 0 0 (ZV below args s D A (tyl cI cJ cT) (wd_mo a b cI cJ cT mo_signs mo_signMany mo_nodeSign mo_nodeOn mo_nodeSize mo_nodeMany mo_due mo_openNode z_mo_value z_mo_isLaid z_mo_changes z_mo_changeNode z_mo_changeSign z_mo_differs z_mo_results z_mo_own mo_kinds mo_testInputs mo_testDue mo_tests z_mo_noticed z_mo_missed mo_leastFrom mo_blameUpper mo_blameLower) 0 0) (F0 m 6 ls []) := by
  have hx := C.1.1
  have hb := C.1.2.1
  have hown := C.1.2.2.2.1
  have hts := C.1.2.2.2.2
  intro n
  induction n with
  | zero => intro x1 mo_value mo_isLaid mo_changes mo_changeNode mo_changeSign mo_differs mo_results mo_own mo_noticed mo_missed h; cases h
  | succ n ih =>
    intro x1 mo_value mo_isLaid mo_changes mo_changeNode mo_changeSign mo_differs mo_results mo_own mo_noticed mo_missed h H locs ls B hl
    rw [bX12_findMissed_6] at h
    refine lv_iload_n hx hb dX12_findMissed_6 rfl (lv_at hl 1 rfl) ?_
    refine lv_iconst (v := 1) hx hb dX12_findMissed_7 (by decide) ?_
    refine lv_aload_n hx hb dX12_findMissed_8 rfl (lv_at hl 0 rfl) ?_
    refine gfX12_findMissed_155 C B 0 rfl rfl dX12_findMissed_9 ?_
    refine lv_ishl hx hb dX12_findMissed_12 ?_
    refine lv_icmp_ge (tgt := 79) hx hb dX12_findMissed_13 (by decide) (fun c_1 => ?_) (fun c_1 => ?_)
    · rw [if_pos c_1] at h
      cases h
      exact k_vret C B dX12_findMissed_79
    · rw [if_neg c_1] at h
      refine lv_aload_n hx hb dX12_findMissed_16 rfl (lv_at hl 0 rfl) ?_
      refine gfX12_findMissed_62 C B 0 rfl rfl dX12_findMissed_17 ?_
      refine lv_iload_n hx hb dX12_findMissed_20 rfl (lv_at hl 1 rfl) ?_
      refine lv_iconst (v := 0) hx hb dX12_findMissed_21 (by decide) ?_
      obtain ⟨b_2, h⟩ := bnd_some h
      refine k_iast C B 18 0 rfl rfl b_2 dX12_findMissed_22 (fun H locs B => ?_)
      have B : DB D A (wd_mo a b cI cJ cT mo_signs mo_signMany mo_nodeSign mo_nodeOn mo_nodeSize mo_nodeMany mo_due mo_openNode mo_value mo_isLaid mo_changes mo_changeNode mo_changeSign mo_differs mo_results mo_own mo_kinds mo_testInputs mo_testDue mo_tests mo_noticed (upd mo_missed (Int32.toNatClampNeg x1) (0 : Int32)) mo_leastFrom mo_blameUpper mo_blameLower) s H locs := B
      refine lv_iconst (v := 0) hx hb dX12_findMissed_23 (by decide) ?_
      refine lv_istore_n (lv' := [(2, .int (0 : Int32)), (0, .ref (b 0)), (1, .int x1)]) hx hb dX12_findMissed_24 rfl hl (by decide) rfl (fun ls hl => ?_)
      exact qX12_findMissed_25 C ih N x1 (0 : Int32) mo_value mo_isLaid mo_changes mo_changeNode mo_changeSign mo_differs mo_results mo_own mo_noticed (upd mo_missed (Int32.toNatClampNeg x1) (0 : Int32)) h H locs ls B (lv_sub hl [1, 2, 0] rfl)
set_option maxHeartbeats 4000000 in
set_option maxRecDepth 100000 in
theorem qX12_findMissed_0 (C : CT p s m args meth c RX12 cX12_findMissed 3 none wsX12_findMissed D A (tyl cI cJ cT) Es) {N : Nat} {mo_signs : Nat → Int32} {mo_signMany : Int32} {mo_nodeSign : Nat → Int32} {mo_nodeOn : Nat → Int32} {mo_nodeSize : Nat → Int32} {mo_nodeMany : Nat → Int32} {mo_due : Nat → Int32} {mo_openNode : Nat → Int32} {mo_kinds : Nat → Int32} {mo_testInputs : Nat → Int32} {mo_testDue : Nat → Int32} {mo_tests : Int32} {mo_leastFrom : Nat → Int32} {mo_blameUpper : Nat → Int32} {mo_blameLower : Nat → Int32} {z_mo_value : Nat → Int32} {z_mo_isLaid : Int32} {z_mo_changes : Int32} {z_mo_changeNode : Nat → Int32} {z_mo_changeSign : Nat → Int32} {z_mo_differs : Nat → Int32} {z_mo_results : Nat → Int32} {z_mo_own : Nat → Int32} {z_mo_noticed : Nat → Int32} {z_mo_missed : Nat → Int32} : ∀ (mo_value : Nat → Int32) (mo_isLaid : Int32) (mo_changes : Int32) (mo_changeNode : Nat → Int32) (mo_changeSign : Nat → Int32) (mo_differs : Nat → Int32) (mo_results : Nat → Int32) (mo_own : Nat → Int32) (mo_noticed : Nat → Int32) (mo_missed : Nat → Int32), fX12_findMissed N mo_nodeSign mo_nodeSize mo_nodeMany mo_kinds mo_testInputs mo_tests mo_value mo_isLaid mo_changes mo_changeNode mo_changeSign mo_differs mo_results mo_own mo_noticed mo_missed = some (z_mo_value, z_mo_isLaid, z_mo_changes, z_mo_changeNode, z_mo_changeSign, z_mo_differs, z_mo_results, z_mo_own, z_mo_noticed, z_mo_missed) → ∀ (H : Heap) (locs : List Loc) (ls : Array Slot), DB D A (wd_mo a b cI cJ cT mo_signs mo_signMany mo_nodeSign mo_nodeOn mo_nodeSize mo_nodeMany mo_due mo_openNode mo_value mo_isLaid mo_changes mo_changeNode mo_changeSign mo_differs mo_results mo_own mo_kinds mo_testInputs mo_testDue mo_tests mo_noticed mo_missed mo_leastFrom mo_blameUpper mo_blameLower) s H locs → lv_has ls 3 [(0, .ref (b 0))] → W p l e rmX12_findMissed s m args below meth c H locs 0 0 (ZV below args s D A (tyl cI cJ cT) (wd_mo a b cI cJ cT mo_signs mo_signMany mo_nodeSign mo_nodeOn mo_nodeSize mo_nodeMany mo_due mo_openNode z_mo_value z_mo_isLaid z_mo_changes z_mo_changeNode z_mo_changeSign z_mo_differs z_mo_results z_mo_own mo_kinds mo_testInputs mo_testDue mo_tests z_mo_noticed z_mo_missed mo_leastFrom mo_blameUpper mo_blameLower) 0 0) (F0 m 0 ls []) := by
  have hx := C.1.1
  have hb := C.1.2.1
  have hown := C.1.2.2.2.1
  have hts := C.1.2.2.2.2
  intro mo_value mo_isLaid mo_changes mo_changeNode mo_changeSign mo_differs mo_results mo_own mo_noticed mo_missed h H locs ls B hl
  rw [fX12_findMissed] at h
  refine lv_aload_n hx hb dX12_findMissed_0 rfl (lv_at hl 0 rfl) ?_
  obtain ⟨⟨mo_value_1, mo_isLaid_2, mo_changes_3, mo_changeNode_4, mo_changeSign_5, mo_differs_6, mo_results_7, mo_own_8, mo_noticed_9⟩, g_10, h⟩ := ob_some h
  try dsimp only at h
  refine kc_VV C B (q0 := 0) (ci := 12) (As := []) (rest := []) (w2 := (wd_mo a b cI cJ cT mo_signs mo_signMany mo_nodeSign mo_nodeOn mo_nodeSize mo_nodeMany mo_due mo_openNode mo_value_1 mo_isLaid_2 mo_changes_3 mo_changeNode_4 mo_changeSign_5 mo_differs_6 mo_results_7 mo_own_8 mo_kinds mo_testInputs mo_testDue mo_tests mo_noticed_9 mo_missed mo_leastFrom mo_blameUpper mo_blameLower)) (tX12_findNoticed (a := a) (b := b) N g_10) gX12_findMissed_X12_findNoticed rfl ⟨rfl, rfl⟩ ⟨rfl, hdX12_findNoticed⟩ ⟨Nat.le_of_ble_eq_true rfl, Nat.le_of_ble_eq_true rfl⟩ rfl rfl [0, 1, 2, 3, 4, 5, 6, 7, 8, 9, 10, 11, 12, 13, 14, 15, 16, 17, 18, 19, 20, 21] [] [0, 1, 2, 3, 4, 5, 6, 7, 8, 9, 10, 11, 12, 13, 14, 15, 16, 17, 18, 19, 20, 21] rfl rfl rfl rfl rfl rfl rfl rfl hl.1 rfl (Nat.le_of_ble_eq_true rfl) ⟨Nat.zero_le _, Nat.zero_le _⟩ dX12_findMissed_1 (fun H locs B => ?_)
  refine lv_iconst (v := 0) hx hb dX12_findMissed_4 (by decide) ?_
  refine lv_istore_n (lv' := [(1, .int (0 : Int32)), (0, .ref (b 0))]) hx hb dX12_findMissed_5 rfl hl (by decide) rfl (fun ls hl => ?_)
  exact qX12_findMissed_6 C N (0 : Int32) mo_value_1 mo_isLaid_2 mo_changes_3 mo_changeNode_4 mo_changeSign_5 mo_differs_6 mo_results_7 mo_own_8 mo_noticed_9 mo_missed h H locs ls B (lv_sub hl [1, 0] rfl)
end
theorem tX12_findMissed {l : Launch} {D : va_G} {Es : (Nat → Nat) × (Nat → Nat)} {a b : Nat → Nat} {cI cJ cT : ClassId} {mo_signs : Nat → Int32} {mo_signMany : Int32} {mo_nodeSign : Nat → Int32} {mo_nodeOn : Nat → Int32} {mo_nodeSize : Nat → Int32} {mo_nodeMany : Nat → Int32} {mo_due : Nat → Int32} {mo_openNode : Nat → Int32} {mo_value : Nat → Int32} {mo_isLaid : Int32} {mo_changes : Int32} {mo_changeNode : Nat → Int32} {mo_changeSign : Nat → Int32} {mo_differs : Nat → Int32} {mo_results : Nat → Int32} {mo_own : Nat → Int32} {mo_kinds : Nat → Int32} {mo_testInputs : Nat → Int32} {mo_testDue : Nat → Int32} {mo_tests : Int32} {mo_noticed : Nat → Int32} {mo_missed : Nat → Int32} {mo_leastFrom : Nat → Int32} {mo_blameUpper : Nat → Int32} {mo_blameLower : Nat → Int32} {z_mo_value : Nat → Int32} {z_mo_isLaid : Int32} {z_mo_changes : Int32} {z_mo_changeNode : Nat → Int32} {z_mo_changeSign : Nat → Int32} {z_mo_differs : Nat → Int32} {z_mo_results : Nat → Int32} {z_mo_own : Nat → Int32} {z_mo_noticed : Nat → Int32} {z_mo_missed : Nat → Int32} (N : Nat) (h : fX12_findMissed N mo_nodeSign mo_nodeSize mo_nodeMany mo_kinds mo_testInputs mo_tests mo_value mo_isLaid mo_changes mo_changeNode mo_changeSign mo_differs mo_results mo_own mo_noticed mo_missed = some (z_mo_value, z_mo_isLaid, z_mo_changes, z_mo_changeNode, z_mo_changeSign, z_mo_differs, z_mo_results, z_mo_own, z_mo_noticed, z_mo_missed)) : CtV l yX12_findMissed wsX12_findMissed rmX12_findMissed D (tyl cI cJ cT) Es [.ref (b 0)] (wd_mo a b cI cJ cT mo_signs mo_signMany mo_nodeSign mo_nodeOn mo_nodeSize mo_nodeMany mo_due mo_openNode mo_value mo_isLaid mo_changes mo_changeNode mo_changeSign mo_differs mo_results mo_own mo_kinds mo_testInputs mo_testDue mo_tests mo_noticed mo_missed mo_leastFrom mo_blameUpper mo_blameLower) (wd_mo a b cI cJ cT mo_signs mo_signMany mo_nodeSign mo_nodeOn mo_nodeSize mo_nodeMany mo_due mo_openNode z_mo_value z_mo_isLaid z_mo_changes z_mo_changeNode z_mo_changeSign z_mo_differs z_mo_results z_mo_own mo_kinds mo_testInputs mo_testDue mo_tests z_mo_noticed z_mo_missed mo_leastFrom mo_blameUpper mo_blameLower) :=
  CtV.of (own := RX12) (cc := cX12_findMissed) (nL := 3) (ret := none) (by decide +kernel) rfl rfl (Nat.le_of_ble_eq_true rfl) rfl (fun p e s m below meth c A ls C B hl => qX12_findMissed_0 C (N := N) mo_value mo_isLaid mo_changes mo_changeNode mo_changeSign mo_differs mo_results mo_own mo_noticed mo_missed h _ _ _ B hl)

abbrev rmX12_fewest : Room := { frames := 7, cells := 0, slots := 0, locals := 162 }
theorem hdX12_fewest : yX12_fewest.cls ≠ "java/lang/invoke/MethodHandle" ∧ yX12_fewest.cls ≠ "java/lang/invoke/VarHandle" ∧ (parseMethodDescriptor yX12_fewest.desc).map (fun d => d.parameters.length) = some 1 := by decide +kernel
theorem iX12_fewest_X12 : ∀ w ∈ wsX120, w ∈ wsX12_fewest := by decide +kernel
theorem gfX12_fewest_155 {p : Program} {l : Launch} {e : Env} {R : Room} {s : State} {m : MethodId} {args : Array Value} {below : List Frame} {meth : Method} {c : Code} {H : Heap} {locs : List Loc} {cells slots : Nat} {Q : State → Prop} {D : va_G} {A : Nat → Prop} {tys : List (ClassId × FieldType)} {Es : (Nat → Nat) × (Nat → Nat)} {ws : va_W} {pc : Nat} {ls : Array Slot} {rest : List Value} {a : Nat} (C : CT p s m args meth c RX12 cX12_fewest 4 (some .int) wsX12_fewest D A tys Es) (B : DB D A ws s H locs) (q0 : Nat) {fs : List Value} {v : Value} (he : ws[q0]? = some (a, .inr (12, fs))) (hv : fs[19]? = some v) (hdg : decode cX12_fewest pc = .ok (.getfield 155, 3)) (kk : W p l e R s m args below meth c H locs cells slots Q (F0 m (pc + 3) ls (v :: rest))) : W p l e R s m args below meth c H locs cells slots Q (F0 m pc ls (.ref a :: rest)) :=
  k_get (Cn := RX12) (T := TX12) (N := 25) (index := 155) C B iX12_fewest_X12 rfl 19 (by decide) (by decide +kernel) q0 he hv hdg kk
theorem gfX12_fewest_62 {p : Program} {l : Launch} {e : Env} {R : Room} {s : State} {m : MethodId} {args : Array Value} {below : List Frame} {meth : Method} {c : Code} {H : Heap} {locs : List Loc} {cells slots : Nat} {Q : State → Prop} {D : va_G} {A : Nat → Prop} {tys : List (ClassId × FieldType)} {Es : (Nat → Nat) × (Nat → Nat)} {ws : va_W} {pc : Nat} {ls : Array Slot} {rest : List Value} {a : Nat} (C : CT p s m args meth c RX12 cX12_fewest 4 (some .int) wsX12_fewest D A tys Es) (B : DB D A ws s H locs) (q0 : Nat) {fs : List Value} {v : Value} (he : ws[q0]? = some (a, .inr (12, fs))) (hv : fs[21]? = some v) (hdg : decode cX12_fewest pc = .ok (.getfield 62, 3)) (kk : W p l e R s m args below meth c H locs cells slots Q (F0 m (pc + 3) ls (v :: rest))) : W p l e R s m args below meth c H locs cells slots Q (F0 m pc ls (.ref a :: rest)) :=
  k_get (Cn := RX12) (T := TX12) (N := 25) (index := 62) C B iX12_fewest_X12 rfl 21 (by decide) (by decide +kernel) q0 he hv hdg kk
section
variable {p : Program} {l : Launch} {e : Env} {s : State} {m : MethodId} {args : Array Value} {below : List Frame} {meth : Method} {c : Code} {D : va_G} {A : Nat → Prop} {Es : (Nat → Nat) × (Nat → Nat)} {a b : Nat → Nat} {cI cJ cT : ClassId}
set_option maxHeartbeats 4000000 in
set_option maxRecDepth 100000 in
theorem qX12_fewest_19 (C : CT p s m args meth c RX12 cX12_fewest 4 (some .int) wsX12_fewest D A (tyl cI cJ cT) Es) {N : Nat} {mo_signs : Nat → Int32} {mo_signMany : Int32} {mo_nodeSign : Nat → Int32} {mo_nodeOn : Nat → Int32} {mo_nodeSize : Nat → Int32} {mo_nodeMany : Nat → Int32} {mo_due : Nat → Int32} {mo_openNode : Nat → Int32} {mo_kinds : Nat → Int32} {mo_testInputs : Nat → Int32} {mo_testDue : Nat → Int32} {mo_tests : Int32} {mo_leastFrom : Nat → Int32} {mo_blameUpper : Nat → Int32} {mo_blameLower : Nat → Int32} {z_r : Int32} {z_mo_value : Nat → Int32} {z_mo_isLaid : Int32} {z_mo_changes : Int32} {z_mo_changeNode : Nat → Int32} {z_mo_changeSign : Nat → Int32} {z_mo_differs : Nat → Int32} {z_mo_results : Nat → Int32} {z_mo_own : Nat → Int32} {z_mo_noticed : Nat → Int32} {z_mo_missed : Nat → Int32} : ∀ (n : Nat) (x1 : Int32) (x2 : Int32) (x3 : Int32) (mo_value : Nat → Int32) (mo_isLaid : Int32) (mo_changes : Int32) (mo_changeNode : Nat → Int32) (mo_changeSign : Nat → Int32) (mo_differs : Nat → Int32) (mo_results : Nat → Int32) (mo_own : Nat → Int32) (mo_noticed : Nat → Int32) (mo_missed : Nat → Int32), bX12_fewest_19 N mo_nodeSign mo_nodeSize mo_nodeMany mo_kinds mo_testInputs mo_tests n x1 x2 x3 mo_value mo_isLaid mo_changes mo_changeNode mo_changeSign mo_differs mo_results mo_own mo_noticed mo_missed = some (z_r, z_mo_value, z_mo_isLaid, z_mo_changes, z_mo_changeNode, z_mo_changeSign, z_mo_differs, z_mo_results, z_mo_own, z_mo_noticed, z_mo_missed) → ∀ (H : Heap) (locs : List Loc) (ls : Array Slot), DB D A (wd_mo a b cI cJ cT mo_signs mo_signMany mo_nodeSign mo_nodeOn mo_nodeSize mo_nodeMany mo_due mo_openNode mo_value mo_isLaid mo_changes mo_changeNode mo_changeSign mo_differs mo_results mo_own mo_kinds mo_testInputs mo_testDue mo_tests mo_noticed mo_missed mo_leastFrom mo_blameUpper mo_blameLower) s H locs → lv_has ls 4 [(0, .ref (b 0)), (1, .int x1), (2, .int x2), (3, .int x3)] → W p l e rmX12_fewest s m args below meth c H locs 0 0 (ZI below args s D A (tyl cI cJ cT) z_r (wd_mo a b cI cJ cT mo_signs mo_signMany mo_nodeSign mo_nodeOn mo_nodeSize mo_nodeMany mo_due mo_openNode z_mo_value z_mo_isLaid z_mo_changes z_mo_changeNode z_mo_changeSign z_mo_differs z_mo_results z_mo_own mo_kinds mo_testInputs mo_testDue mo_tests z_mo_noticed z_mo_missed mo_leastFrom mo_blameUpper mo_blameLower) 0 0) (F0 m 19 ls []) := by
  have hx := C.1.1
  have hb := C.1.2.1
  have hown := C.1.2.2.2.1
  have hts := C.1.2.2.2.2
  intro n
  induction n with
  | zero => intro x1 x2 x3 mo_value mo_isLaid mo_changes mo_changeNode mo_changeSign mo_differs mo_results mo_own mo_noticed mo_missed h; cases h
  | succ n ih =>
    intro x1 x2 x3 mo_value mo_isLaid mo_changes mo_changeNode mo_changeSign mo_differs mo_results mo_own mo_noticed mo_missed h H locs ls B hl
    rw [bX12_fewest_19] at h
    refine lv_iload_n hx hb dX12_fewest_19 rfl (lv_at hl 3 rfl) ?_
    refine lv_iconst (v := 1) hx hb dX12_fewest_20 (by decide) ?_
    refine lv_aload_n hx hb dX12_fewest_21 rfl (lv_at hl 0 rfl) ?_
    refine gfX12_fewest_155 C B 0 rfl rfl dX12_fewest_22 ?_
    refine lv_ishl hx hb dX12_fewest_25 ?_
    refine lv_icmp_ge (tgt := 65) hx hb dX12_fewest_26 (by decide) (fun c_1 => ?_) (fun c_1 => ?_)
    · rw [if_pos c_1] at h
      refine lv_iload_n hx hb dX12_fewest_65 rfl (lv_at hl 1 rfl) ?_
      refine lv_if_ne (tgt := 73) hx hb dX12_fewest_66 (by decide) (fun c_2 => ?_) (fun c_2 => ?_)
      · rw [if_neg c_2] at h
        refine lv_iload_n hx hb dX12_fewest_73 rfl (lv_at hl 2 rfl) ?_
        obtain ⟨r_3, g_4, h⟩ := ob_some h
        try dsimp only at h
        refine kc_SI C B (As := [.int x2]) (rest := []) (w2 := (wd_mo a b cI cJ cT mo_signs mo_signMany mo_nodeSign mo_nodeOn mo_nodeSize mo_nodeMany mo_due mo_openNode mo_value mo_isLaid mo_changes mo_changeNode mo_changeSign mo_differs mo_results mo_own mo_kinds mo_testInputs mo_testDue mo_tests mo_noticed mo_missed mo_leastFrom mo_blameUpper mo_blameLower)) (tX12_ones N g_4) gX12_fewest_X12_ones rfl ⟨rfl, rfl⟩ hdX12_ones ⟨Nat.le_of_ble_eq_true rfl, Nat.le_of_ble_eq_true rfl⟩ [] [0, 1, 2, 3, 4, 5, 6, 7, 8, 9, 10, 11, 12, 13, 14, 15, 16, 17, 18, 19, 20, 21] [0, 1, 2, 3, 4, 5, 6, 7, 8, 9, 10, 11, 12, 13, 14, 15, 16, 17, 18, 19, 20, 21] rfl rfl rfl rfl rfl rfl rfl rfl hl.1 rfl (Nat.le_of_ble_eq_true rfl) ⟨Nat.zero_le _, Nat.zero_le _⟩ dX12_fewest_74 (fun H locs B => ?_)
        cases h
        exact k_iret C B dX12_fewest_77
      · rw [if_pos c_2] at h
        refine lv_iload_n hx hb dX12_fewest_69 rfl (lv_at hl 2 rfl) ?_
        refine lv_goto (tgt := 77) hx hb dX12_fewest_70 (by decide) ?_
        cases h
        exact k_iret C B dX12_fewest_77
    · rw [if_neg c_1] at h
      refine lv_aload_n hx hb dX12_fewest_29 rfl (lv_at hl 0 rfl) ?_
      refine gfX12_fewest_62 C B 0 rfl rfl dX12_fewest_30 ?_
      refine lv_iload_n hx hb dX12_fewest_33 rfl (lv_at hl 3 rfl) ?_
      obtain ⟨b_5, h⟩ := bnd_some h
      refine k_iald C B 18 0 rfl rfl b_5 dX12_fewest_34 ?_
      refine lv_if_ne (tgt := 57) hx hb dX12_fewest_35 (by decide) (fun c_6 => ?_) (fun c_6 => ?_)
      · rw [if_neg c_6] at h
        refine lv_iload_n hx hb dX12_fewest_57 rfl (lv_at hl 2 rfl) ?_
        refine lv_istore_n (lv' := [(2, .int x2), (0, .ref (b 0)), (1, .int x1), (3, .int x3)]) hx hb dX12_fewest_58 rfl hl (by decide) rfl (fun ls hl => ?_)
        refine lv_iinc (v := (x3 + 1)) (lv' := [(3, .int (x3 + 1)), (2, .int x2), (0, .ref (b 0)), (1, .int x1)]) hx hb dX12_fewest_59 hl (k := 3) rfl rfl (by decide) rfl (fun ls hl => ?_)
        refine lv_goto (tgt := 19) hx hb dX12_fewest_62 (by decide) ?_
        exact ih x1 x2 (x3 + 1) mo_value mo_isLaid mo_changes mo_changeNode mo_changeSign mo_differs mo_results mo_own mo_noticed mo_missed h H locs ls B (lv_sub hl [2, 3, 1, 0] rfl)
      · rw [if_pos c_6] at h
        refine lv_iload_n hx hb dX12_fewest_38 rfl (lv_at hl 2 rfl) ?_
        refine lv_if_lt (tgt := 53) hx hb dX12_fewest_39 (by decide) (fun c_7 => ?_) (fun c_7 => ?_)
        · rw [if_pos c_7] at h
          refine lv_iload_n hx hb dX12_fewest_53 rfl (lv_at hl 3 rfl) ?_
          refine lv_goto (tgt := 58) hx hb dX12_fewest_54 (by decide) ?_
          refine lv_istore_n (lv' := [(2, .int x3), (0, .ref (b 0)), (1, .int x1), (3, .int x3)]) hx hb dX12_fewest_58 rfl hl (by decide) rfl (fun ls hl => ?_)
          refine lv_iinc (v := (x3 + 1)) (lv' := [(3, .int (x3 + 1)), (2, .int x3), (0, .ref (b 0)), (1, .int x1)]) hx hb dX12_fewest_59 hl (k := 3) rfl rfl (by decide) rfl (fun ls hl => ?_)
          refine lv_goto (tgt := 19) hx hb dX12_fewest_62 (by decide) ?_
          exact ih x1 x3 (x3 + 1) mo_value mo_isLaid mo_changes mo_changeNode mo_changeSign mo_differs mo_results mo_own mo_noticed mo_missed h H locs ls B (lv_sub hl [2, 3, 1, 0] rfl)
        · rw [if_neg c_7] at h
          refine lv_iload_n hx hb dX12_fewest_42 rfl (lv_at hl 3 rfl) ?_
          obtain ⟨r_8, g_12, h⟩ := ob_some h
          try dsimp only at h
          refine kc_SI C B (As := [.int x3]) (rest := []) (w2 := (wd_mo a b cI cJ cT mo_signs mo_signMany mo_nodeSign mo_nodeOn mo_nodeSize mo_nodeMany mo_due mo_openNode mo_value mo_isLaid mo_changes mo_changeNode mo_changeSign mo_differs mo_results mo_own mo_kinds mo_testInputs mo_testDue mo_tests mo_noticed mo_missed mo_leastFrom mo_blameUpper mo_blameLower)) (tX12_ones N g_12) gX12_fewest_X12_ones rfl ⟨rfl, rfl⟩ hdX12_ones ⟨Nat.le_of_ble_eq_true rfl, Nat.le_of_ble_eq_true rfl⟩ [] [0, 1, 2, 3, 4, 5, 6, 7, 8, 9, 10, 11, 12, 13, 14, 15, 16, 17, 18, 19, 20, 21] [0, 1, 2, 3, 4, 5, 6, 7, 8, 9, 10, 11, 12, 13, 14, 15, 16, 17, 18, 19, 20, 21] rfl rfl rfl rfl rfl rfl rfl rfl hl.1 rfl (Nat.le_of_ble_eq_true rfl) ⟨Nat.zero_le _, Nat.zero_le _⟩ dX12_fewest_43 (fun H locs B => ?_)
          refine lv_iload_n hx hb dX12_fewest_46 rfl (lv_at hl 2 rfl) ?_
          obtain ⟨r_9, g_11, h⟩ := ob_some h
          try dsimp only at h
          refine kc_SI C B (As := [.int x2]) (rest := [.int r_8]) (w2 := (wd_mo a b cI cJ cT mo_signs mo_signMany mo_nodeSign mo_nodeOn mo_nodeSize mo_nodeMany mo_due mo_openNode mo_value mo_isLaid mo_changes mo_changeNode mo_changeSign mo_differs mo_results mo_own mo_kinds mo_testInputs mo_testDue mo_tests mo_noticed mo_missed mo_leastFrom mo_blameUpper mo_blameLower)) (tX12_ones N g_11) gX12_fewest_X12_ones rfl ⟨rfl, rfl⟩ hdX12_ones ⟨Nat.le_of_ble_eq_true rfl, Nat.le_of_ble_eq_true rfl⟩ [] [0, 1, 2, 3, 4, 5, 6, 7, 8, 9, 10, 11, 12, 13, 14, 15, 16, 17, 18, 19, 20, 21] [0, 1, 2, 3, 4, 5, 6, 7, 8, 9, 10, 11, 12, 13, 14, 15, 16, 17, 18, 19, 20, 21] rfl rfl rfl rfl rfl rfl rfl rfl hl.1 rfl (Nat.le_of_ble_eq_true rfl) ⟨Nat.zero_le _, Nat.zero_le _⟩ dX12_fewest_47 (fun H locs B => ?_)
          refine lv_icmp_ge (tgt := 57) hx hb dX12_fewest_50 (by decide) (fun c_10 => ?_) (fun c_10 => ?_)
          · rw [if_pos c_10] at h
            refine lv_iload_n hx hb dX12_fewest_57 rfl (lv_at hl 2 rfl) ?_
            refine lv_istore_n (lv' := [(2, .int x2), (0, .ref (b 0)), (1, .int x1), (3, .int x3)]) hx hb dX12_fewest_58 rfl hl (by decide) rfl (fun ls hl => ?_)
            refine lv_iinc (v := (x3 + 1)) (lv' := [(3, .int (x3 + 1)), (2, .int x2), (0, .ref (b 0)), (1, .int x1)]) hx hb dX12_fewest_59 hl (k := 3) rfl rfl (by decide) rfl (fun ls hl => ?_)
            refine lv_goto (tgt := 19) hx hb dX12_fewest_62 (by decide) ?_
            exact ih x1 x2 (x3 + 1) mo_value mo_isLaid mo_changes mo_changeNode mo_changeSign mo_differs mo_results mo_own mo_noticed mo_missed h H locs ls B (lv_sub hl [2, 3, 1, 0] rfl)
          · rw [if_neg c_10] at h
            refine lv_iload_n hx hb dX12_fewest_53 rfl (lv_at hl 3 rfl) ?_
            refine lv_goto (tgt := 58) hx hb dX12_fewest_54 (by decide) ?_
            refine lv_istore_n (lv' := [(2, .int x3), (0, .ref (b 0)), (1, .int x1), (3, .int x3)]) hx hb dX12_fewest_58 rfl hl (by decide) rfl (fun ls hl => ?_)
            refine lv_iinc (v := (x3 + 1)) (lv' := [(3, .int (x3 + 1)), (2, .int x3), (0, .ref (b 0)), (1, .int x1)]) hx hb dX12_fewest_59 hl (k := 3) rfl rfl (by decide) rfl (fun ls hl => ?_)
            refine lv_goto (tgt := 19) hx hb dX12_fewest_62 (by decide) ?_
            exact ih x1 x3 (x3 + 1) mo_value mo_isLaid mo_changes mo_changeNode mo_changeSign mo_differs mo_results mo_own mo_noticed mo_missed h H locs ls B (lv_sub hl [2, 3, 1, 0] rfl)
set_option maxHeartbeats 4000000 in
set_option maxRecDepth 100000 in
theorem qX12_fewest_0 (C : CT p s m args meth c RX12 cX12_fewest 4 (some .int) wsX12_fewest D A (tyl cI cJ cT) Es) {N : Nat} {mo_signs : Nat → Int32} {mo_signMany : Int32} {mo_nodeSign : Nat → Int32} {mo_nodeOn : Nat → Int32} {mo_nodeSize : Nat → Int32} {mo_nodeMany : Nat → Int32} {mo_due : Nat → Int32} {mo_openNode : Nat → Int32} {mo_kinds : Nat → Int32} {mo_testInputs : Nat → Int32} {mo_testDue : Nat → Int32} {mo_tests : Int32} {mo_leastFrom : Nat → Int32} {mo_blameUpper : Nat → Int32} {mo_blameLower : Nat → Int32} {z_r : Int32} {z_mo_value : Nat → Int32} {z_mo_isLaid : Int32} {z_mo_changes : Int32} {z_mo_changeNode : Nat → Int32} {z_mo_changeSign : Nat → Int32} {z_mo_differs : Nat → Int32} {z_mo_results : Nat → Int32} {z_mo_own : Nat → Int32} {z_mo_noticed : Nat → Int32} {z_mo_missed : Nat → Int32} : ∀ (x1 : Int32) (mo_value : Nat → Int32) (mo_isLaid : Int32) (mo_changes : Int32) (mo_changeNode : Nat → Int32) (mo_changeSign : Nat → Int32) (mo_differs : Nat → Int32) (mo_results : Nat → Int32) (mo_own : Nat → Int32) (mo_noticed : Nat → Int32) (mo_missed : Nat → Int32), fX12_fewest N mo_nodeSign mo_nodeSize mo_nodeMany mo_kinds mo_testInputs mo_tests x1 mo_value mo_isLaid mo_changes mo_changeNode mo_changeSign mo_differs mo_results mo_own mo_noticed mo_missed = some (z_r, z_mo_value, z_mo_isLaid, z_mo_changes, z_mo_changeNode, z_mo_changeSign, z_mo_differs, z_mo_results, z_mo_own, z_mo_noticed, z_mo_missed) → ∀ (H : Heap) (locs : List Loc) (ls : Array Slot), DB D A (wd_mo a b cI cJ cT mo_signs mo_signMany mo_nodeSign mo_nodeOn mo_nodeSize mo_nodeMany mo_due mo_openNode mo_value mo_isLaid mo_changes mo_changeNode mo_changeSign mo_differs mo_results mo_own mo_kinds mo_testInputs mo_testDue mo_tests mo_noticed mo_missed mo_leastFrom mo_blameUpper mo_blameLower) s H locs → lv_has ls 4 [(0, .ref (b 0)), (1, .int x1)] → W p l e rmX12_fewest s m args below meth c H locs 0 0 (ZI below args s D A (tyl cI cJ cT) z_r (wd_mo a b cI cJ cT mo_signs mo_signMany mo_nodeSign mo_nodeOn mo_nodeSize mo_nodeMany mo_due mo_openNode z_mo_value z_mo_isLaid z_mo_changes z_mo_changeNode z_mo_changeSign z_mo_differs z_mo_results z_mo_own mo_kinds mo_testInputs mo_testDue mo_tests z_mo_noticed z_mo_missed mo_leastFrom mo_blameUpper mo_blameLower) 0 0) (F0 m 0 ls []) := by
  have hx := C.1.1
  have hb := C.1.2.1
  have hown := C.1.2.2.2.1
  have hts := C.1.2.2.2.2
  intro x1 mo_value mo_isLaid mo_changes mo_changeNode mo_changeSign mo_differs mo_results mo_own mo_noticed mo_missed h H locs ls B hl
  rw [fX12_fewest] at h
  refine lv_iload_n hx hb dX12_fewest_0 rfl (lv_at hl 1 rfl) ?_
  obtain ⟨r_1, g_14, h⟩ := ob_some h
  try dsimp only at h
  refine kc_SI C B (As := [.int x1]) (rest := []) (w2 := (wd_mo a b cI cJ cT mo_signs mo_signMany mo_nodeSign mo_nodeOn mo_nodeSize mo_nodeMany mo_due mo_openNode mo_value mo_isLaid mo_changes mo_changeNode mo_changeSign mo_differs mo_results mo_own mo_kinds mo_testInputs mo_testDue mo_tests mo_noticed mo_missed mo_leastFrom mo_blameUpper mo_blameLower)) (tX12_isPart N g_14) gX12_fewest_X12_isPart rfl ⟨rfl, rfl⟩ hdX12_isPart ⟨Nat.le_of_ble_eq_true rfl, Nat.le_of_ble_eq_true rfl⟩ [] [0, 1, 2, 3, 4, 5, 6, 7, 8, 9, 10, 11, 12, 13, 14, 15, 16, 17, 18, 19, 20, 21] [0, 1, 2, 3, 4, 5, 6, 7, 8, 9, 10, 11, 12, 13, 14, 15, 16, 17, 18, 19, 20, 21] rfl rfl rfl rfl rfl rfl rfl rfl hl.1 rfl (Nat.le_of_ble_eq_true rfl) ⟨Nat.zero_le _, Nat.zero_le _⟩ dX12_fewest_1 (fun H locs B => ?_)
  refine lv_if_ne (tgt := 10) hx hb dX12_fewest_4 (by decide) (fun c_2 => ?_) (fun c_2 => ?_)
  · rw [if_neg c_2] at h
    refine lv_aload_n hx hb dX12_fewest_10 rfl (lv_at hl 0 rfl) ?_
    obtain ⟨⟨mo_value_3, mo_isLaid_4, mo_changes_5, mo_changeNode_6, mo_changeSign_7, mo_differs_8, mo_results_9, mo_own_10, mo_noticed_11, mo_missed_12⟩, g_13, h⟩ := ob_some h
    try dsimp only at h
    refine kc_VV C B (q0 := 0) (ci := 12) (As := []) (rest := []) (w2 := (wd_mo a b cI cJ cT mo_signs mo_signMany mo_nodeSign mo_nodeOn mo_nodeSize mo_nodeMany mo_due mo_openNode mo_value_3 mo_isLaid_4 mo_changes_5 mo_changeNode_6 mo_changeSign_7 mo_differs_8 mo_results_9 mo_own_10 mo_kinds mo_testInputs mo_testDue mo_tests mo_noticed_11 mo_missed_12 mo_leastFrom mo_blameUpper mo_blameLower)) (tX12_findMissed (a := a) (b := b) N g_13) gX12_fewest_X12_findMissed rfl ⟨rfl, rfl⟩ ⟨rfl, hdX12_findMissed⟩ ⟨Nat.le_of_ble_eq_true rfl, Nat.le_of_ble_eq_true rfl⟩ rfl rfl [0, 1, 2, 3, 4, 5, 6, 7, 8, 9, 10, 11, 12, 13, 14, 15, 16, 17, 18, 19, 20, 21] [] [0, 1, 2, 3, 4, 5, 6, 7, 8, 9, 10, 11, 12, 13, 14, 15, 16, 17, 18, 19, 20, 21] rfl rfl rfl rfl rfl rfl rfl rfl hl.1 rfl (Nat.le_of_ble_eq_true rfl) ⟨Nat.zero_le _, Nat.zero_le _⟩ dX12_fewest_11 (fun H locs B => ?_)
    refine lv_bipush (v := -6) hx hb dX12_fewest_14 (by decide) ?_
    refine lv_istore_n (lv' := [(2, .int (-6 : Int32)), (0, .ref (b 0)), (1, .int x1)]) hx hb dX12_fewest_16 rfl hl (by decide) rfl (fun ls hl => ?_)
    refine lv_iconst (v := 0) hx hb dX12_fewest_17 (by decide) ?_
    refine lv_istore_n (lv' := [(3, .int (0 : Int32)), (2, .int (-6 : Int32)), (0, .ref (b 0)), (1, .int x1)]) hx hb dX12_fewest_18 rfl hl (by decide) rfl (fun ls hl => ?_)
    exact qX12_fewest_19 C N x1 (-6 : Int32) (0 : Int32) mo_value_3 mo_isLaid_4 mo_changes_5 mo_changeNode_6 mo_changeSign_7 mo_differs_8 mo_results_9 mo_own_10 mo_noticed_11 mo_missed_12 h H locs ls B (lv_sub hl [2, 3, 1, 0] rfl)
  · rw [if_pos c_2] at h
    refine lv_bipush (v := -2) hx hb dX12_fewest_7 (by decide) ?_
    cases h
    exact k_iret C B dX12_fewest_9
end
theorem tX12_fewest {l : Launch} {D : va_G} {Es : (Nat → Nat) × (Nat → Nat)} {a b : Nat → Nat} {cI cJ cT : ClassId} {mo_signs : Nat → Int32} {mo_signMany : Int32} {mo_nodeSign : Nat → Int32} {mo_nodeOn : Nat → Int32} {mo_nodeSize : Nat → Int32} {mo_nodeMany : Nat → Int32} {mo_due : Nat → Int32} {mo_openNode : Nat → Int32} {mo_value : Nat → Int32} {mo_isLaid : Int32} {mo_changes : Int32} {mo_changeNode : Nat → Int32} {mo_changeSign : Nat → Int32} {mo_differs : Nat → Int32} {mo_results : Nat → Int32} {mo_own : Nat → Int32} {mo_kinds : Nat → Int32} {mo_testInputs : Nat → Int32} {mo_testDue : Nat → Int32} {mo_tests : Int32} {mo_noticed : Nat → Int32} {mo_missed : Nat → Int32} {mo_leastFrom : Nat → Int32} {mo_blameUpper : Nat → Int32} {mo_blameLower : Nat → Int32} {x1 : Int32} {z_r : Int32} {z_mo_value : Nat → Int32} {z_mo_isLaid : Int32} {z_mo_changes : Int32} {z_mo_changeNode : Nat → Int32} {z_mo_changeSign : Nat → Int32} {z_mo_differs : Nat → Int32} {z_mo_results : Nat → Int32} {z_mo_own : Nat → Int32} {z_mo_noticed : Nat → Int32} {z_mo_missed : Nat → Int32} (N : Nat) (h : fX12_fewest N mo_nodeSign mo_nodeSize mo_nodeMany mo_kinds mo_testInputs mo_tests x1 mo_value mo_isLaid mo_changes mo_changeNode mo_changeSign mo_differs mo_results mo_own mo_noticed mo_missed = some (z_r, z_mo_value, z_mo_isLaid, z_mo_changes, z_mo_changeNode, z_mo_changeSign, z_mo_differs, z_mo_results, z_mo_own, z_mo_noticed, z_mo_missed)) : CtI l yX12_fewest wsX12_fewest rmX12_fewest D (tyl cI cJ cT) Es [.ref (b 0), .int x1] (wd_mo a b cI cJ cT mo_signs mo_signMany mo_nodeSign mo_nodeOn mo_nodeSize mo_nodeMany mo_due mo_openNode mo_value mo_isLaid mo_changes mo_changeNode mo_changeSign mo_differs mo_results mo_own mo_kinds mo_testInputs mo_testDue mo_tests mo_noticed mo_missed mo_leastFrom mo_blameUpper mo_blameLower) z_r (wd_mo a b cI cJ cT mo_signs mo_signMany mo_nodeSign mo_nodeOn mo_nodeSize mo_nodeMany mo_due mo_openNode z_mo_value z_mo_isLaid z_mo_changes z_mo_changeNode z_mo_changeSign z_mo_differs z_mo_results z_mo_own mo_kinds mo_testInputs mo_testDue mo_tests z_mo_noticed z_mo_missed mo_leastFrom mo_blameUpper mo_blameLower) :=
  CtI.of (own := RX12) (cc := cX12_fewest) (nL := 4) (ret := (some .int)) (by decide +kernel) rfl rfl (Nat.le_of_ble_eq_true rfl) rfl (fun p e s m below meth c A ls C B hl => qX12_fewest_0 C (N := N) x1 mo_value mo_isLaid mo_changes mo_changeNode mo_changeSign mo_differs mo_results mo_own mo_noticed mo_missed h _ _ _ B hl)
