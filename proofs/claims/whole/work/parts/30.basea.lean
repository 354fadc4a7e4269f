
section KA
variable {p : Program} {l : Launch} {e : Env} {R : Room} {s : State} {m : MethodId} {args : Array Value} {below : List Frame} {meth : Method} {c : Code} {H : Heap} {locs : List Loc} {cells slots : Nat} {Q : State → Prop}
variable {own : String} {cc : ByteArray} {nL : Nat} {ret : Option FieldType} {Ts : List Cond} {D : va_G} {A : Nat → Prop} {tys : List (ClassId × FieldType)} {Es : (Nat → Nat) × (Nat → Nat)} {ws : va_W}
variable {pc : Nat} {ls : Array Slot} {rest : List Value} {a : Nat}
theorem DB.sub {ws' : va_W} (B : DB D A ws s H locs) (is : List Nat) (hn : va_nd is = true) (h : is.map (fun i => ws[i]?) = ws'.map some) : DB D A ws' s H locs := ⟨kb_P B.1 is h, B.2.1.sub is hn h, B.2.2⟩
/-- how many cells and slots Fewer.settle makes -/
def stA (fresh cnt : Int32) (wl : Nat) : Nat × Nat := if fresh = 0 then (if ((1 : Int32) <<< (cnt &&& 31)) ≤ Int32.ofNat wl then (0, 0) else (1, ((1 : Int32) <<< (cnt &&& 31)).toNatClampNeg)) else (0, 0)
def alg {α : Type} (n : Int32) (k : Option α) : Option α := if n < 0 then none else if 134217728 < n.toNatClampNeg then none else k
theorem alg_some {α : Type} {n : Int32} {k : Option α} {r : α} (h : alg n k = some r) : ¬ n < 0 ∧ n.toNatClampNeg ≤ 134217728 ∧ k = some r := by
  unfold alg at h
  split at h
  · cases h
  · next h1 =>
    split at h
    · cases h
    · next h2 => exact ⟨h1, by omega, h⟩
theorem k_cA {cI cJ cT cA : ClassId} (h : va_K D vwCl (tyl cI cJ cT ++ [(cA, .int)]) s) : cA = cI := by
  have h0 : va_RA s cI .int := (h.2 0 (cI, .int) rfl).2
  have h1 : va_RA s cA .int := (h.2 3 (cA, .int) rfl).2
  exact Option.some.inj (h1.symm.trans h0)
theorem k_cL {cI cJ cT cA : ClassId} (h : va_K D vwCl (tyl cI cJ cT ++ [(cA, .long)]) s) : cA = cJ := by
  have h0 : va_RA s cJ .long := (h.2 1 (cJ, .long) rfl).2
  have h1 : va_RA s cA .long := (h.2 3 (cA, .long) rfl).2
  exact Option.some.inj (h1.symm.trans h0)
theorem k_newI {cI cJ cT : ClassId} (C : CT p s m args meth c own cc nL ret Ts D A (tyl cI cJ cT) Es) (B : DB D A ws s H locs) (harr : Cond.arrayClass .int ∈ Ts) {n : Int32} {N' : Nat} (hn : ¬ n < 0) (hN : n.toNatClampNeg = N') (hbytes : N' * 4 ≤ 536870912) (hcells : cells + 1 ≤ R.cells) (hslots : slots + N' ≤ R.slots) (hdg : decode cc pc = .ok (.newarray .int, 2))
    (kk : ∀ (q : Nat) (H1 : Heap), DB D A (ws ++ [(q, .inl (cI, N', .inl (fun _ => 0)))]) s H1 locs → W p l e R s m args below meth c H1 locs (cells + 1) (slots + N') Q (F0 m (pc + 2) ls (.ref q :: rest))) : W p l e R s m args below meth c H locs cells slots Q (F0 m pc ls (.int n :: rest)) := by
  refine va_newa (atype := .int) (ty := .int) (a0 := (N', .inl (fun _ => 0))) C.1.1 C.1.2.1 (C.1.2.2.2.2 _ harr) rfl C.2.2.1 B.1 B.2.1 B.2.2 C.2.2.2.2 (fun cA => rfl) hn hN hbytes hcells hslots hdg (fun q cA H1 hK hP hD hS => ?_)
  have e := k_cA hK
  subst e
  exact kk q H1 ⟨hP, hD, hS⟩
theorem k_newL {cI cJ cT : ClassId} (C : CT p s m args meth c own cc nL ret Ts D A (tyl cI cJ cT) Es) (B : DB D A ws s H locs) (harr : Cond.arrayClass .long ∈ Ts) {n : Int32} {N' : Nat} (hn : ¬ n < 0) (hN : n.toNatClampNeg = N') (hbytes : N' * 8 ≤ 536870912) (hcells : cells + 1 ≤ R.cells) (hslots : slots + N' ≤ R.slots) (hdg : decode cc pc = .ok (.newarray .long, 2))
    (kk : ∀ (q : Nat) (H1 : Heap), DB D A (ws ++ [(q, .inl (cJ, N', .inr (.inl (fun _ => 0))))]) s H1 locs → W p l e R s m args below meth c H1 locs (cells + 1) (slots + N') Q (F0 m (pc + 2) ls (.ref q :: rest))) : W p l e R s m args below meth c H locs cells slots Q (F0 m pc ls (.int n :: rest)) := by
  refine va_newa (atype := .long) (ty := .long) (a0 := (N', .inr (.inl (fun _ => 0)))) C.1.1 C.1.2.1 (C.1.2.2.2.2 _ harr) rfl C.2.2.1 B.1 B.2.1 B.2.2 C.2.2.2.2 (fun cA => rfl) hn hN hbytes hcells hslots hdg (fun q cA H1 hK hP hD hS => ?_)
  have e := k_cL hK
  subst e
  exact kk q H1 ⟨hP, hD, hS⟩
def ZIq (below : List Frame) (args : Array Value) (s : State) (D : va_G) (A : Nat → Prop) (tys : List (ClassId × FieldType)) (res : Int32) (w1 : Nat → va_W) (mc ms : Nat) : State → Prop := MQ below (va_Qi (fun (r : Int32) (_ : Nat) => r = res) (fun q t => va_P D vwCl (w1 q) t.heap ∧ va_K D vwCl tys t ∧ va_D A (w1 q)) A) args s mc ms A
def ZVq (below : List Frame) (args : Array Value) (s : State) (D : va_G) (A : Nat → Prop) (tys : List (ClassId × FieldType)) (w1 : Nat → va_W) (mc ms : Nat) : State → Prop := MQ below (va_Qv (fun (_ : Nat) => True) (fun q t => va_P D vwCl (w1 q) t.heap ∧ va_K D vwCl tys t ∧ va_D A (w1 q)) A) args s mc ms A
def CtIq (l : Launch) (y : MethodName) (wsy : List Cond) (rm : Room) (D : va_G) (tys : List (ClassId × FieldType)) (Es : (Nat → Nat) × (Nat → Nat)) (av : List Value) (wc : va_W) (res : Int32) (w1 : Nat → va_W) (mc ms : Nat) : Prop := ∀ sz : Nat, Met l y wsy rm (va_Pc av (fun U => U.heap.size = sz ∧ va_P D vwCl wc U.heap ∧ va_K D vwCl tys U ∧ va_D (fun _ => True) wc ∧ sz_E Es (va_A wc sz) U U.heap)) (va_Qi (fun (r : Int32) (_ : Nat) => r = res) (fun q t => va_P D vwCl (w1 q) t.heap ∧ va_K D vwCl tys t ∧ va_D (va_A wc sz) (w1 q)) (va_A wc sz)) mc ms (va_A wc sz)
def CtVq (l : Launch) (y : MethodName) (wsy : List Cond) (rm : Room) (D : va_G) (tys : List (ClassId × FieldType)) (Es : (Nat → Nat) × (Nat → Nat)) (av : List Value) (wc : va_W) (w1 : Nat → va_W) (mc ms : Nat) : Prop := ∀ sz : Nat, Met l y wsy rm (va_Pc av (fun U => U.heap.size = sz ∧ va_P D vwCl wc U.heap ∧ va_K D vwCl tys U ∧ va_D (fun _ => True) wc ∧ sz_E Es (va_A wc sz) U U.heap)) (va_Qv (fun (_ : Nat) => True) (fun q t => va_P D vwCl (w1 q) t.heap ∧ va_K D vwCl tys t ∧ va_D (va_A wc sz) (w1 q)) (va_A wc sz)) mc ms (va_A wc sz)
theorem k_iretq {v : Int32} {w1 : Nat → va_W} {q : Nat} (C : CT p s m args meth c own cc nL (some .int) Ts D A tys Es) (B : DB D A (w1 q) s H locs) (hdg : decode cc pc = .ok (.ireturn, 1)) : W p l e R s m args below meth c H locs cells slots (ZIq below args s D A tys v w1 cells slots) (F0 m pc ls [.int v]) := W.iret C.1.1 C.1.2.1 C.2.1.1 (fun t ht hW => ⟨⟨v, q, rfl, rfl, by rw [ht]; exact B.1, va_K.moved hW.alike C.2.2.1, B.2.1⟩, B.2.2.F ht⟩) B.2.2.2.2 hdg C.2.1.2
theorem k_vretq {w1 : Nat → va_W} {q : Nat} (C : CT p s m args meth c own cc nL none Ts D A tys Es) (B : DB D A (w1 q) s H locs) (hdg : decode cc pc = .ok (.return_, 1)) : W p l e R s m args below meth c H locs cells slots (ZVq below args s D A tys w1 cells slots) (F0 m pc ls []) := W.vret C.1.1 C.1.2.1 C.2.1.1 (fun t ht hW => ⟨⟨q, rfl, trivial, by rw [ht]; exact B.1, va_K.moved hW.alike C.2.2.1, B.2.1⟩, B.2.2.F ht⟩) B.2.2.2.2 hdg C.2.1.2
theorem CtIq.of {y : MethodName} {wsy wsy' : List Cond} {rm : Room} {av : List Value} {wc : va_W} {w1 : Nat → va_W} {mc ms : Nat} {res : Int32} {lv : List (Nat × Value)} (hy : plainName y.cls = true) (ho : y.cls = own) (hw : wsy = Cond.code y cc nL ret :: wsy') (hlen : (lg_sl av).length ≤ nL) (hlv : lv_args 0 av = lv)
    (body : ∀ (p : Program) (e : Env) (s : State) (m : MethodId) (below : List Frame) (meth : Method) (c : Code) (A : Nat → Prop) (ls : Array Slot), CT p s m av.toArray meth c own cc nL ret wsy D A tys Es → DB D A wc s s.heap [] → lv_has ls nL lv → W p l e rm s m av.toArray below meth c s.heap [] 0 0 (ZIq below av.toArray s D A tys res w1 mc ms) (F0 m 0 ls [])) : CtIq l y wsy rm D tys Es av wc res w1 mc ms := by
  intro sz
  refine Met.ofW (cc := cc) (maxL := nL) (ret := ret) hy hw ?_
  intro p e s m args below meth c s₁ B hml hv
  obtain ⟨rfl, hsz, hP, hK, hD0, hZ⟩ := hv
  subst hsz
  have hl := lv_entry av (n := nL) hlen
  rw [lg_entry_eq]
  rw [hlv] at hl
  have hown := findClass_of_methodNamed B.named
  rw [ho] at hown
  exact body p e s m below meth c (va_A wc s.heap.size) _ ⟨⟨B.exec, B.bytes, hml, hown, atoms_spec (ws := wsy) B.pre⟩, ⟨B.returns, B.notSynchronized⟩, hK, hZ, fun q h => Or.inr h⟩ ⟨hP, hD0.self, va_S.rf⟩ hl
theorem CtVq.of {y : MethodName} {wsy wsy' : List Cond} {rm : Room} {av : List Value} {wc : va_W} {w1 : Nat → va_W} {mc ms : Nat}  {lv : List (Nat × Value)} (hy : plainName y.cls = true) (ho : y.cls = own) (hw : wsy = Cond.code y cc nL ret :: wsy') (hlen : (lg_sl av).length ≤ nL) (hlv : lv_args 0 av = lv)
    (body : ∀ (p : Program) (e : Env) (s : State) (m : MethodId) (below : List Frame) (meth : Method) (c : Code) (A : Nat → Prop) (ls : Array Slot), CT p s m av.toArray meth c own cc nL ret wsy D A tys Es → DB D A wc s s.heap [] → lv_has ls nL lv → W p l e rm s m av.toArray below meth c s.heap [] 0 0 (ZVq below av.toArray s D A tys w1 mc ms) (F0 m 0 ls [])) : CtVq l y wsy rm D tys Es av wc w1 mc ms := by
  intro sz
  refine Met.ofW (cc := cc) (maxL := nL) (ret := ret) hy hw ?_
  intro p e s m args below meth c s₁ B hml hv
  obtain ⟨rfl, hsz, hP, hK, hD0, hZ⟩ := hv
  subst hsz
  have hl := lv_entry av (n := nL) hlen
  rw [lg_entry_eq]
  rw [hlv] at hl
  have hown := findClass_of_methodNamed B.named
  rw [ho] at hown
  exact body p e s m below meth c (va_A wc s.heap.size) _ ⟨⟨B.exec, B.bytes, hml, hown, atoms_spec (ws := wsy) B.pre⟩, ⟨B.returns, B.notSynchronized⟩, hK, hZ, fun q h => Or.inr h⟩ ⟨hP, hD0.self, va_S.rf⟩ hl
theorem kc_VIq (C : CT p s m args meth c own cc nL ret Ts D A tys Es) (B : DB D A ws s H locs) {y : MethodName} {bytes : ByteArray} {maxL index n mc ms : Nat} {rt : Option FieldType} {wsy wsy' : List Cond} {rm : Room} {q0 ci b : Nat} {Cn : String} {T : u_T} {N : Nat} {fs : List Value} {As st0 : List Value} {res : Int32} {wc : va_W} {w1 w2 : Nat → va_W}
    (hM : CtIq l y wsy rm D tys Es (.ref b :: As) wc res w1 mc ms) (hG : GoodIn Ts (wsV own index Cn y wsy)) (hw : wsy = Cond.code y bytes maxL rt :: wsy') (hrm : rm.cells = mc ∧ rm.slots = ms) (hd : y.cls = Cn ∧ y.cls ≠ "java/lang/invoke/MethodHandle" ∧ y.cls ≠ "java/lang/invoke/VarHandle" ∧ (parseMethodDescriptor y.desc).map (fun d => d.parameters.length) = some n) (hR : rm.frames + 1 ≤ R.frames ∧ 8 + (maxL + 11) + rm.locals ≤ R.locals)
    (hc : vwCl[ci]? = some (Cn, T, N)) (he : wc[q0]? = some (b, .inr (ci, fs))) (isC isR is2 : List Nat) (hC : isC.map (fun i => ws[i]?) = wc.map some) (hnC : va_nd isC = true) (hRr : isR.map (fun i => ws[i]?) = (isR.filterMap (fun i => ws[i]?)).map some) (hn : va_nd isR = true) (hdis : isR.all (fun i => !(isC.contains i)) = true) (h2 : ∀ q : Nat, is2.map (fun i => (isR.filterMap (fun i => ws[i]?) ++ w1 q)[i]?) = (w2 q).map some) (hn2 : va_nd is2 = true)
    (hAs : As.length = n) (hls : ls.size = nL) (hst : st0 = As.reverse ++ .ref b :: rest) (hW : (rest.map fun v => v.category).sum ≤ 8) (hcs : cells + mc ≤ R.cells ∧ slots + ms ≤ R.slots) (hdg : decode cc pc = .ok (.invokevirtual index, 3))
    (kk : ∀ (q : Nat) (H1 : Heap) (locs1 : List Loc), DB D A (w2 q) s H1 locs1 → W p l e R s m args below meth c H1 locs1 (cells + mc) (slots + ms) Q (F0 m (pc + 3) ls (.int res :: rest))) : W p l e R s m args below meth c H locs cells slots Q (F0 m pc ls st0) := by
  have hPc : va_P D vwCl wc H := kb_P B.1 isC hC
  have hDc : va_D A wc := B.2.1.sub isC hnC hC
  have hFc := va_free (wc := wc) B.2.1 B.2.2 C.2.2.2.2 isC hC
  refine va_calli (va_runV (As := As) (rest := rest) C.1 (hM H.size) (cwV n C.1.2.2.2.2 hG hw hrm.1 hrm.2 hd hR) ⟨fun a U g mk q => by obtain ⟨q0, q1, qP, qK, qD, qZ⟩ := q; exact ⟨q0, q1, qP, va_K.moved (u := U) (U := U.calling g mk a) (Vm.Alike.refl U.vm) qK, qD, sz_E.same (u := U) (U := U.calling g mk a) rfl (Vm.Alike.refl U.vm) qZ⟩, va_recv C.2.2.1 hPc hc he, fun U hU hW => ⟨rfl, by rw [hU], by rw [hU]; exact hPc, va_K.moved hW.alike C.2.2.1, hDc.weaken (fun _ _ _ _ => trivial), by rw [hU]; exact ((C.2.2.2.1.kept B.2.2.2.1).narrow hFc).warm hW⟩⟩ rfl hAs hls hst (lv_room hW) hdg hcs) B.2.2 (fun q _ h => hFc q h) hFc (fun r u t H1 locs1 ht hvm hw2 hB hz1 hk1 hS => ?_)
  subst hw2
  obtain ⟨hP1, hK1, hD1⟩ := hB
  rw [ht] at hP1
  obtain ⟨hP, hD⟩ := va_join (w1 := w1 u) B.1 B.2.1 isC isR hC hRr hn (kb_dis hdis) hk1 hFc hP1 hD1
  exact kk u H1 locs1 ⟨kb_P hP is2 (h2 u), hD.sub is2 hn2 (h2 u), hS⟩
theorem kc_VVq (C : CT p s m args meth c own cc nL ret Ts D A tys Es) (B : DB D A ws s H locs) {y : MethodName} {bytes : ByteArray} {maxL index n mc ms : Nat} {rt : Option FieldType} {wsy wsy' : List Cond} {rm : Room} {q0 ci b : Nat} {Cn : String} {T : u_T} {N : Nat} {fs : List Value} {As st0 : List Value}  {wc : va_W} {w1 w2 : Nat → va_W}
    (hM : CtVq l y wsy rm D tys Es (.ref b :: As) wc w1 mc ms) (hG : GoodIn Ts (wsV own index Cn y wsy)) (hw : wsy = Cond.code y bytes maxL rt :: wsy') (hrm : rm.cells = mc ∧ rm.slots = ms) (hd : y.cls = Cn ∧ y.cls ≠ "java/lang/invoke/MethodHandle" ∧ y.cls ≠ "java/lang/invoke/VarHandle" ∧ (parseMethodDescriptor y.desc).map (fun d => d.parameters.length) = some n) (hR : rm.frames + 1 ≤ R.frames ∧ 8 + (maxL + 11) + rm.locals ≤ R.locals)
    (hc : vwCl[ci]? = some (Cn, T, N)) (he : wc[q0]? = some (b, .inr (ci, fs))) (isC isR is2 : List Nat) (hC : isC.map (fun i => ws[i]?) = wc.map some) (hnC : va_nd isC = true) (hRr : isR.map (fun i => ws[i]?) = (isR.filterMap (fun i => ws[i]?)).map some) (hn : va_nd isR = true) (hdis : isR.all (fun i => !(isC.contains i)) = true) (h2 : ∀ q : Nat, is2.map (fun i => (isR.filterMap (fun i => ws[i]?) ++ w1 q)[i]?) = (w2 q).map some) (hn2 : va_nd is2 = true)
    (hAs : As.length = n) (hls : ls.size = nL) (hst : st0 = As.reverse ++ .ref b :: rest) (hW : (rest.map fun v => v.category).sum ≤ 8) (hcs : cells + mc ≤ R.cells ∧ slots + ms ≤ R.slots) (hdg : decode cc pc = .ok (.invokevirtual index, 3))
    (kk : ∀ (q : Nat) (H1 : Heap) (locs1 : List Loc), DB D A (w2 q) s H1 locs1 → W p l e R s m args below meth c H1 locs1 (cells + mc) (slots + ms) Q (F0 m (pc + 3) ls (rest))) : W p l e R s m args below meth c H locs cells slots Q (F0 m pc ls st0) := by
  have hPc : va_P D vwCl wc H := kb_P B.1 isC hC
  have hDc : va_D A wc := B.2.1.sub isC hnC hC
  have hFc := va_free (wc := wc) B.2.1 B.2.2 C.2.2.2.2 isC hC
  refine va_callv (va_runV (As := As) (rest := rest) C.1 (hM H.size) (cwV n C.1.2.2.2.2 hG hw hrm.1 hrm.2 hd hR) ⟨fun a U g mk q => by obtain ⟨q0, q1, qP, qK, qD, qZ⟩ := q; exact ⟨q0, q1, qP, va_K.moved (u := U) (U := U.calling g mk a) (Vm.Alike.refl U.vm) qK, qD, sz_E.same (u := U) (U := U.calling g mk a) rfl (Vm.Alike.refl U.vm) qZ⟩, va_recv C.2.2.1 hPc hc he, fun U hU hW => ⟨rfl, by rw [hU], by rw [hU]; exact hPc, va_K.moved hW.alike C.2.2.1, hDc.weaken (fun _ _ _ _ => trivial), by rw [hU]; exact ((C.2.2.2.1.kept B.2.2.2.1).narrow hFc).warm hW⟩⟩ rfl hAs hls hst (lv_room hW) hdg hcs) B.2.2 (fun q _ h => hFc q h) hFc (fun u t H1 locs1 ht hvm hw2 hB hz1 hk1 hS => ?_)
  obtain ⟨hP1, hK1, hD1⟩ := hB
  rw [ht] at hP1
  obtain ⟨hP, hD⟩ := va_join (w1 := w1 u) B.1 B.2.1 isC isR hC hRr hn (kb_dis hdis) hk1 hFc hP1 hD1
  exact kk u H1 locs1 ⟨kb_P hP is2 (h2 u), hD.sub is2 hn2 (h2 u), hS⟩
end KA
