/-! two worlds side by side: the class's and the reference's -/
section K2
variable {p : Program} {l : Launch} {e : Env} {R : Room} {s : State} {m : MethodId} {args : Array Value} {below : List Frame} {meth : Method} {c : Code} {H : Heap} {locs : List Loc} {cells slots : Nat} {Q : State → Prop}
variable {own : String} {cc : ByteArray} {nL : Nat} {ret : Option FieldType} {Ts : List Cond} {D : va_G} {A : Nat → Prop} {tys : List (ClassId × FieldType)} {Es : (Nat → Nat) × (Nat → Nat)} {u v : va_W}
variable {pc : Nat} {ls : Array Slot} {rest : List Value} {a : Nat}
def D2 (D : va_G) (A : Nat → Prop) (u v : va_W) (s : State) (H : Heap) (locs : List Loc) : Prop := DB D A u s H locs ∧ va_P D vwCl v H ∧ va_D A v ∧ ∀ p q : Nat × va_E, p ∈ u → q ∈ v → p.1 ≠ q.1
theorem D2_u {wc w1 w2 : va_W} {isC isR is2 : List Nat} {H1 : Heap} {locs1 : List Loc} (B2 : D2 D A u v s H locs) (hC : isC.map (fun i => u[i]?) = wc.map some) (h2 : is2.map (fun i => (isR.filterMap (fun i => u[i]?) ++ w1)[i]?) = w2.map some) (hk1 : ∀ q : Nat, q < H.size → ¬ va_A wc H.size q → H1[q]? = H[q]?) (hD1 : va_D (va_A wc H.size) w1) (hB : DB D A w2 s H1 locs1) : D2 D A w2 v s H1 locs1 := by
  have notA : ∀ q : Nat × va_E, q ∈ v → q.1 < H.size ∧ ¬ va_A wc H.size q.1 := fun q hq => by
    obtain ⟨k, hk⟩ := List.getElem?_of_mem hq
    have hl := (B2.2.1 k q hk).lt
    refine ⟨hl, fun h => ?_⟩
    rcases h with ⟨k2, e2, h⟩ | h
    · obtain ⟨i, hi⟩ := kb_map hC k2 (q.1, e2) h
      exact B2.2.2.2 (q.1, e2) q (List.mem_of_getElem? hi) hq rfl
    · omega
  refine ⟨hB, fun k q hq => ?_, B2.2.2.1, fun x q hx hq hxq => ?_⟩
  · obtain ⟨g1, g2⟩ := notA q (List.mem_of_getElem? hq)
    exact (B2.2.1 k q hq).kept (hk1 q.1 g1 g2)
  · have h1 : some x ∈ w2.map some := List.mem_map.mpr ⟨x, hx, rfl⟩
    rw [← h2] at h1
    obtain ⟨i, -, hi⟩ := List.mem_map.mp h1
    rcases List.mem_append.mp (List.mem_of_getElem? hi) with h | h
    · obtain ⟨j, -, hj⟩ := List.mem_filterMap.mp h
      exact B2.2.2.2 x q (List.mem_of_getElem? hj) hq hxq
    · obtain ⟨k, hk⟩ := List.getElem?_of_mem h
      exact (notA q hq).2 (by rw [← hxq]; exact hD1.2 k x hk)
theorem kcU (C : CT p s m args meth c own cc nL ret Ts D A tys Es) (B2 : D2 D A u v s H locs) {y : MethodName} {bytes : ByteArray} {maxL index n : Nat} {rt : Option FieldType} {wsy wsy' : List Cond} {rm : Room} {q0 ci b : Nat} {Cn : String} {T : u_T} {N : Nat} {fs : List Value} {As st0 : List Value} {res : Int32} {wc w1 w2 : va_W}
    (hM : CtI l y wsy rm D tys Es (.ref b :: As) wc res w1) (hG : GoodIn Ts (wsV own index Cn y wsy)) (hw : wsy = Cond.code y bytes maxL rt :: wsy') (hrm : rm.cells = 0 ∧ rm.slots = 0) (hd : y.cls = Cn ∧ y.cls ≠ "java/lang/invoke/MethodHandle" ∧ y.cls ≠ "java/lang/invoke/VarHandle" ∧ (parseMethodDescriptor y.desc).map (fun d => d.parameters.length) = some n) (hR : rm.frames + 1 ≤ R.frames ∧ 8 + (maxL + 11) + rm.locals ≤ R.locals)
    (hc : vwCl[ci]? = some (Cn, T, N)) (he : wc[q0]? = some (b, .inr (ci, fs))) (isC isR is2 : List Nat) (hC : isC.map (fun i => u[i]?) = wc.map some) (hnC : va_nd isC = true) (hRr : isR.map (fun i => u[i]?) = (isR.filterMap (fun i => u[i]?)).map some) (hn : va_nd isR = true) (hdis : isR.all (fun i => !(isC.contains i)) = true) (h2 : is2.map (fun i => (isR.filterMap (fun i => u[i]?) ++ w1)[i]?) = w2.map some) (hn2 : va_nd is2 = true)
    (hAs : As.length = n) (hls : ls.size = nL) (hst : st0 = As.reverse ++ .ref b :: rest) (hW : (rest.map fun v => v.category).sum ≤ 8) (hcs : cells ≤ R.cells ∧ slots ≤ R.slots) (hdg : decode cc pc = .ok (.invokevirtual index, 3))
    (kk : ∀ (H1 : Heap) (locs1 : List Loc), D2 D A w2 v s H1 locs1 → W p l e R s m args below meth c H1 locs1 cells slots Q (F0 m (pc + 3) ls (.int res :: rest))) : W p l e R s m args below meth c H locs cells slots Q (F0 m pc ls st0) := by
  have B := B2.1
  have hPc : va_P D vwCl wc H := kb_P B.1 isC hC
  have hDc : va_D A wc := B.2.1.sub isC hnC hC
  have hFc := va_free (wc := wc) B.2.1 B.2.2 C.2.2.2.2 isC hC
  refine va_calli (va_runV (As := As) (rest := rest) C.1 (hM H.size) (cwV n C.1.2.2.2.2 hG hw hrm.1 hrm.2 hd hR) ⟨fun a U g mk q => by obtain ⟨q0, q1, qP, qK, qD, qZ⟩ := q; exact ⟨q0, q1, qP, va_K.moved (u := U) (U := U.calling g mk a) (Vm.Alike.refl U.vm) qK, qD, sz_E.same (u := U) (U := U.calling g mk a) rfl (Vm.Alike.refl U.vm) qZ⟩, va_recv C.2.2.1 hPc hc he, fun U hU hW => ⟨rfl, by rw [hU], by rw [hU]; exact hPc, va_K.moved hW.alike C.2.2.1, hDc.weaken (fun _ _ _ _ => trivial), by rw [hU]; exact ((C.2.2.2.1.kept B.2.2.2.1).narrow hFc).warm hW⟩⟩ rfl hAs hls hst (lv_room hW) hdg hcs) B.2.2 (fun q _ h => hFc q h) hFc (fun r u1 t H1 locs1 ht hvm hw2 hB hz1 hk1 hS => ?_)
  subst hw2
  obtain ⟨hP1, hK1, hD1⟩ := hB
  rw [ht] at hP1
  obtain ⟨hP, hD⟩ := va_join (w1 := w1) B.1 B.2.1 isC isR hC hRr hn (kb_dis hdis) hk1 hFc hP1 hD1
  exact kk H1 locs1 (D2_u B2 hC h2 hk1 hD1 ⟨kb_P hP is2 h2, hD.sub is2 hn2 h2, hS⟩)
theorem kcUq (C : CT p s m args meth c own cc nL ret Ts D A tys Es) (B2 : D2 D A u v s H locs) {y : MethodName} {bytes : ByteArray} {maxL index n mc ms : Nat} {rt : Option FieldType} {wsy wsy' : List Cond} {rm : Room} {q0 ci b : Nat} {Cn : String} {T : u_T} {N : Nat} {fs : List Value} {As st0 : List Value} {res : Int32} {wc : va_W} {w1 w2 : Nat → va_W}
    (hM : CtIq l y wsy rm D tys Es (.ref b :: As) wc res w1 mc ms) (hG : GoodIn Ts (wsV own index Cn y wsy)) (hw : wsy = Cond.code y bytes maxL rt :: wsy') (hrm : rm.cells = mc ∧ rm.slots = ms) (hd : y.cls = Cn ∧ y.cls ≠ "java/lang/invoke/MethodHandle" ∧ y.cls ≠ "java/lang/invoke/VarHandle" ∧ (parseMethodDescriptor y.desc).map (fun d => d.parameters.length) = some n) (hR : rm.frames + 1 ≤ R.frames ∧ 8 + (maxL + 11) + rm.locals ≤ R.locals)
    (hc : vwCl[ci]? = some (Cn, T, N)) (he : wc[q0]? = some (b, .inr (ci, fs))) (isC isR is2 : List Nat) (hC : isC.map (fun i => u[i]?) = wc.map some) (hnC : va_nd isC = true) (hRr : isR.map (fun i => u[i]?) = (isR.filterMap (fun i => u[i]?)).map some) (hn : va_nd isR = true) (hdis : isR.all (fun i => !(isC.contains i)) = true) (h2 : ∀ q : Nat, is2.map (fun i => (isR.filterMap (fun i => u[i]?) ++ w1 q)[i]?) = (w2 q).map some) (hn2 : va_nd is2 = true)
    (hAs : As.length = n) (hls : ls.size = nL) (hst : st0 = As.reverse ++ .ref b :: rest) (hW : (rest.map fun v => v.category).sum ≤ 8) (hcs : cells + mc ≤ R.cells ∧ slots + ms ≤ R.slots) (hdg : decode cc pc = .ok (.invokevirtual index, 3))
    (kk : ∀ (q : Nat) (H1 : Heap) (locs1 : List Loc), D2 D A (w2 q) v s H1 locs1 → W p l e R s m args below meth c H1 locs1 (cells + mc) (slots + ms) Q (F0 m (pc + 3) ls (.int res :: rest))) : W p l e R s m args below meth c H locs cells slots Q (F0 m pc ls st0) := by
  have B := B2.1
  have hPc : va_P D vwCl wc H := kb_P B.1 isC hC
  have hDc : va_D A wc := B.2.1.sub isC hnC hC
  have hFc := va_free (wc := wc) B.2.1 B.2.2 C.2.2.2.2 isC hC
  refine va_calli (va_runV (As := As) (rest := rest) C.1 (hM H.size) (cwV n C.1.2.2.2.2 hG hw hrm.1 hrm.2 hd hR) ⟨fun a U g mk q => by obtain ⟨q0, q1, qP, qK, qD, qZ⟩ := q; exact ⟨q0, q1, qP, va_K.moved (u := U) (U := U.calling g mk a) (Vm.Alike.refl U.vm) qK, qD, sz_E.same (u := U) (U := U.calling g mk a) rfl (Vm.Alike.refl U.vm) qZ⟩, va_recv C.2.2.1 hPc hc he, fun U hU hW => ⟨rfl, by rw [hU], by rw [hU]; exact hPc, va_K.moved hW.alike C.2.2.1, hDc.weaken (fun _ _ _ _ => trivial), by rw [hU]; exact ((C.2.2.2.1.kept B.2.2.2.1).narrow hFc).warm hW⟩⟩ rfl hAs hls hst (lv_room hW) hdg hcs) B.2.2 (fun q _ h => hFc q h) hFc (fun r u1 t H1 locs1 ht hvm hw2 hB hz1 hk1 hS => ?_)
  subst hw2
  obtain ⟨hP1, hK1, hD1⟩ := hB
  rw [ht] at hP1
  obtain ⟨hP, hD⟩ := va_join (w1 := w1 u1) B.1 B.2.1 isC isR hC hRr hn (kb_dis hdis) hk1 hFc hP1 hD1
  exact kk u1 H1 locs1 (D2_u B2 hC (h2 u1) hk1 hD1 ⟨kb_P hP is2 (h2 u1), hD.sub is2 hn2 (h2 u1), hS⟩)
theorem kcV (C : CT p s m args meth c own cc nL ret Ts D A tys Es) (B2 : D2 D A u v s H locs) {y : MethodName} {bytes : ByteArray} {maxL index n : Nat} {rt : Option FieldType} {wsy wsy' : List Cond} {rm : Room} {q0 ci b : Nat} {Cn : String} {T : u_T} {N : Nat} {fs : List Value} {As st0 : List Value} {res : Int32} {w1 : va_W}
    (hM : CtI l y wsy rm D tys Es (.ref b :: As) v res w1) (hG : GoodIn Ts (wsV own index Cn y wsy)) (hw : wsy = Cond.code y bytes maxL rt :: wsy') (hrm : rm.cells = 0 ∧ rm.slots = 0) (hd : y.cls = Cn ∧ y.cls ≠ "java/lang/invoke/MethodHandle" ∧ y.cls ≠ "java/lang/invoke/VarHandle" ∧ (parseMethodDescriptor y.desc).map (fun d => d.parameters.length) = some n) (hR : rm.frames + 1 ≤ R.frames ∧ 8 + (maxL + 11) + rm.locals ≤ R.locals)
    (hc : vwCl[ci]? = some (Cn, T, N)) (he : v[q0]? = some (b, .inr (ci, fs)))
    (hAs : As.length = n) (hls : ls.size = nL) (hst : st0 = As.reverse ++ .ref b :: rest) (hW : (rest.map fun v => v.category).sum ≤ 8) (hcs : cells ≤ R.cells ∧ slots ≤ R.slots) (hdg : decode cc pc = .ok (.invokevirtual index, 3))
    (kk : ∀ (H1 : Heap) (locs1 : List Loc), D2 D A u w1 s H1 locs1 → W p l e R s m args below meth c H1 locs1 cells slots Q (F0 m (pc + 3) ls (.int res :: rest))) : W p l e R s m args below meth c H locs cells slots Q (F0 m pc ls st0) := by
  obtain ⟨B, hPc, hDc, hX⟩ := B2
  have hFc : ∀ q, va_A v H.size q → A q := fun q h => by
    rcases h with ⟨k, e2, h⟩ | h
    · exact hDc.2 k _ h
    · exact C.2.2.2.2 q (Nat.le_trans B.2.2.1 h)
  refine va_calli (va_runV (As := As) (rest := rest) C.1 (hM H.size) (cwV n C.1.2.2.2.2 hG hw hrm.1 hrm.2 hd hR) ⟨fun a U g mk q => by obtain ⟨q0, q1, qP, qK, qD, qZ⟩ := q; exact ⟨q0, q1, qP, va_K.moved (u := U) (U := U.calling g mk a) (Vm.Alike.refl U.vm) qK, qD, sz_E.same (u := U) (U := U.calling g mk a) rfl (Vm.Alike.refl U.vm) qZ⟩, va_recv C.2.2.1 hPc hc he, fun U hU hW => ⟨rfl, by rw [hU], by rw [hU]; exact hPc, va_K.moved hW.alike C.2.2.1, hDc.weaken (fun _ _ _ _ => trivial), by rw [hU]; exact ((C.2.2.2.1.kept B.2.2.2.1).narrow hFc).warm hW⟩⟩ rfl hAs hls hst (lv_room hW) hdg hcs) B.2.2 (fun q _ h => hFc q h) hFc (fun r u1 t H1 locs1 ht hvm hw2 hB hz1 hk1 hS => ?_)
  subst hw2
  obtain ⟨hP1, hK1, hD1⟩ := hB
  rw [ht] at hP1
  have notA : ∀ q : Nat × va_E, q ∈ u → q.1 < H.size ∧ ¬ va_A v H.size q.1 := fun q hq => by
    obtain ⟨k, hk⟩ := List.getElem?_of_mem hq
    have hl := (B.1 k q hk).lt
    refine ⟨hl, fun h => ?_⟩
    rcases h with ⟨k2, e2, h⟩ | h
    · exact hX q (q.1, e2) hq (List.mem_of_getElem? h) rfl
    · omega
  refine kk H1 locs1 ⟨⟨fun k q hq => ?_, B.2.1, hS⟩, hP1, hD1.weaken (fun k q _ h => hFc q.1 h), fun x q hx hq hxq => ?_⟩
  · obtain ⟨g1, g2⟩ := notA q (List.mem_of_getElem? hq)
    exact (B.1 k q hq).kept (hk1 q.1 g1 g2)
  · obtain ⟨k, hk⟩ := List.getElem?_of_mem hq
    exact (notA x hx).2 (by rw [hxq]; exact hD1.2 k q hk)
end K2
