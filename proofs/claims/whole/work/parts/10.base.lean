abbrev vwCl : List vw_C := [(RX0, TX0, 5), (RX1, TX1, 5), (RX2, TX2, 8), (RX3, TX3, 5), (RX4, TX4, 7), (RX5, TX5, 3), (RX6, TX6, 3), (RX7, TX7, 4), (RX8, TX8, 4), (RX9, TX9, 7), (RX10, TX10, 4), (RX11, TX11, 11), (RX12, TX12, 25)]

/-! base: the string constants, one bundle of a method's standing context (CT), one of its world (DB), contracts of a known answer -/
def sz_len : List Nat := [5, 3, 3]
def sz_byt : List (List Int32) := [[43, 45, 42, 109, 77], [60, 62, 61], [97, 98, 99]]
def sz_E (Es : (Nat → Nat) × (Nat → Nat)) (A : Nat → Prop) (U : State) (H : Heap) : Prop :=
  vk_S 3 sz_len sz_byt Es.1 Es.2 A U H ∧ (va_Z "java/lang/String" "COMPACT_STRINGS" "Z" (.int 1) A U H ∧ va_Zq "jdk/internal/util/Preconditions" "SIOOBE_FORMATTER" "Ljava/util/function/BiFunction;" A U H) ∧
  vk_R RX1 68 "+-*mM" (Es.1 0) U ∧ vk_R RX1 74 "<>=" (Es.1 1) U ∧ vk_R RX1 76 "abc" (Es.1 2) U ∧
  vk_R RX9 48 "+-*mM" (Es.1 0) U ∧ vk_R RX9 55 "<>=" (Es.1 1) U ∧ vk_R RX9 61 "abc" (Es.1 2) U
theorem sz_E.warm {Es : (Nat → Nat) × (Nat → Nat)} {A : Nat → Prop} {s U : State} {H : Heap} (hW : s.WarmedH U.vm) (h : sz_E Es A s H) : sz_E Es A U H :=
  ⟨vk_S.moved hW.alike h.1, ⟨va_Z.moved hW.alike h.2.1.1, va_Zq.moved hW.alike h.2.1.2⟩, vk_R.warm hW h.2.2.1, vk_R.warm hW h.2.2.2.1, vk_R.warm hW h.2.2.2.2.1, vk_R.warm hW h.2.2.2.2.2.1, vk_R.warm hW h.2.2.2.2.2.2.1, vk_R.warm hW h.2.2.2.2.2.2.2⟩
theorem sz_E.same {Es : (Nat → Nat) × (Nat → Nat)} {A : Nat → Prop} {u U : State} {H : Heap} (hv : U.vm = u.vm) (ha : u.vm.Alike U.vm) (h : sz_E Es A u H) : sz_E Es A U H :=
  ⟨vk_S.moved ha h.1, ⟨va_Z.moved ha h.2.1.1, va_Zq.moved ha h.2.1.2⟩, vk_R.same hv h.2.2.1, vk_R.same hv h.2.2.2.1, vk_R.same hv h.2.2.2.2.1, vk_R.same hv h.2.2.2.2.2.1, vk_R.same hv h.2.2.2.2.2.2.1, vk_R.same hv h.2.2.2.2.2.2.2⟩
theorem sz_E.kept {Es : (Nat → Nat) × (Nat → Nat)} {A : Nat → Prop} {U : State} {H H1 : Heap} (h : sz_E Es A U H) (hq : ∀ a : Nat, a < H.size → ¬ A a → H1[a]? = H[a]?) : sz_E Es A U H1 := ⟨h.1.kept hq, ⟨h.2.1.1.kept hq, h.2.1.2.kept hq⟩, h.2.2⟩
theorem sz_E.narrow {Es : (Nat → Nat) × (Nat → Nat)} {A B : Nat → Prop} {U : State} {H : Heap} (h : sz_E Es A U H) (hAB : ∀ q, B q → A q) : sz_E Es B U H := ⟨h.1.narrow hAB, ⟨h.2.1.1.narrow hAB, h.2.1.2.narrow hAB⟩, h.2.2⟩
theorem kb_map {ws wc : va_W} {is : List Nat} (hs : is.map (fun i => ws[i]?) = wc.map some) (k : Nat) (q : Nat × va_E) (hq : wc[k]? = some q) : ∃ i : Nat, ws[i]? = some q := by
  have h1 : (is.map (fun i => ws[i]?))[k]? = some (some q) := by rw [hs, List.getElem?_map, hq]; rfl
  rw [List.getElem?_map] at h1
  cases hi : is[k]? with
  | none => rw [hi] at h1; cases h1
  | some i => rw [hi] at h1; exact ⟨i, Option.some.inj h1⟩
theorem kb_P {D : va_G} {cl : List vw_C} {ws wc : va_W} {H : Heap} (hP : va_P D cl ws H) (is : List Nat) (hs : is.map (fun i => ws[i]?) = wc.map some) : va_P D cl wc H := fun k q hq => by
  obtain ⟨i, hi⟩ := kb_map hs k q hq
  exact hP i q hi
theorem kb_dis {isC isR : List Nat} (h : isR.all (fun i => !(isC.contains i)) = true) : ∀ i ∈ isR, i ∉ isC := fun i hi hc => by
  have h1 := List.all_eq_true.mp h i hi
  rw [List.contains_iff_mem.mpr hc] at h1
  cases h1
def tyl (cI cJ cT : ClassId) : List (ClassId × FieldType) := [(cI, .int), (cJ, .long), (cT, .object "NoticeTests$Text")]
def tx2 (t0 t1 : Nat) : Nat → Option Nat := va_up (va_up (fun _ => none) 0 (some t0)) 1 (some t1)
def sby (k j : Nat) : Int32 := (sz_byt.getD k []).getD j 0
def sln (k : Nat) : Nat := sz_len.getD k 0
def i2c_ (x : Int32) : Int32 := (x.toUInt32 % 65536).toInt32
def i2b_ (x : Int32) : Int32 := x.toInt8.toInt32
def iush (x y : Int32) : Int32 := (x.toUInt32 >>> (y.toUInt32 &&& Int32.toUInt32 31)).toInt32
def lush (x : Int64) (y : Int32) : Int64 := (x.toUInt64 >>> (y.toInt64.toUInt64 &&& Int64.toUInt64 63)).toInt64
theorem vp_lit {i : Int32} {n : Nat} (h : ¬ (i < 0 ∨ n ≤ i.toNatClampNeg)) : vp_in i n := h
theorem tb_ne {x k : Int32} {a : Int} (h : ¬ x = k) (hk : k.toInt = a) : x.toInt ≠ a := fun q => h (Int32.toInt_inj.mp (q.trans hk.symm))
theorem tb_out {x : Int32} (lo hi : Int) (h : ¬ (lo ≤ x.toInt ∧ x.toInt ≤ hi)) : x.toInt < lo ∨ hi < x.toInt := by omega
theorem cp_0 : (0 : Int32).toNatClampNeg = 0 := by decide
def cpg {α : Type} (n : Int32) (l0 l1 : Nat) (k : Option α) : Option α := if n < 0 then none else if l0 < n.toNatClampNeg then none else if l1 < n.toNatClampNeg then none else k
theorem cpg_some {α : Type} {n : Int32} {l0 l1 : Nat} {k : Option α} {r : α} (h : cpg n l0 l1 k = some r) : ¬ n < 0 ∧ n.toNatClampNeg ≤ l0 ∧ n.toNatClampNeg ≤ l1 ∧ k = some r := by
  unfold cpg at h
  split at h
  · cases h
  · next h1 =>
    split at h
    · cases h
    · next h2 =>
      split at h
      · cases h
      · next h3 => exact ⟨h1, by omega, by omega, h⟩
/-! bounds as a guard -/
def bnd {α : Type} (i : Int32) (n : Nat) (k : Option α) : Option α := if i < 0 then none else if n ≤ i.toNatClampNeg then none else k
theorem bnd_some {α : Type} {i : Int32} {n : Nat} {k : Option α} {r : α} (h : bnd i n k = some r) : vp_in i n ∧ k = some r := by
  unfold bnd at h
  split at h
  · cases h
  · next h1 =>
    split at h
    · cases h
    · next h2 => exact ⟨fun q => q.elim h1 h2, h⟩
theorem bnd_in {α : Type} {i : Int32} {n : Nat} {k : Option α} (h : vp_in i n) : bnd i n k = k := by
  unfold bnd
  rw [if_neg (fun q => h (Or.inl q)), if_neg (fun q => h (Or.inr q))]
def nz {α : Type} (i : Int32) (k : Option α) : Option α := if i = 0 then none else k
theorem nz_some {α : Type} {i : Int32} {k : Option α} {r : α} (h : nz i k = some r) : ¬ i = 0 ∧ k = some r := by
  unfold nz at h
  split at h
  · cases h
  · next h1 => exact ⟨h1, h⟩
theorem nz_ne {α : Type} {i : Int32} {k : Option α} (h : ¬ i = 0) : nz i k = k := by
  unfold nz
  rw [if_neg h]
def bo {α : Type} (i : Int32) (k : Option α) : Option α := if i = 0 then k else if i = 1 then k else none
theorem bo_some {α : Type} {i : Int32} {k : Option α} {r : α} (h : bo i k = some r) : narrow .boolean (.int i) = .int i ∧ k = some r := by
  unfold bo at h
  split at h
  · next h1 => exact ⟨by rw [h1]; rfl, h⟩
  · split at h
    · next h1 => exact ⟨by rw [h1]; rfl, h⟩
    · cases h
theorem bo_0 {α : Type} {k : Option α} : bo 0 k = k := rfl
theorem bo_1 {α : Type} {k : Option α} : bo 1 k = k := rfl
def sg {α : Type} (i : Nat) (k : Option α) : Option α := if i < 3 then k else none
theorem sg_some {α : Type} {i : Nat} {k : Option α} {r : α} (h : sg i k = some r) : i < 3 ∧ k = some r := by
  unfold sg at h
  split at h
  · next h1 => exact ⟨h1, h⟩
  · cases h
theorem sg_lt {α : Type} {i : Nat} {k : Option α} (h : i < 3) : sg i k = k := by
  unfold sg
  rw [if_pos h]
def chg {α : Type} (i : Int32) (k : Option α) : Option α := if i2c_ i = i then k else none
theorem chg_some {α : Type} {i : Int32} {k : Option α} {r : α} (h : chg i k = some r) : narrow .char (.int i) = .int i ∧ k = some r := by
  unfold chg at h
  split at h
  · next h1 => exact ⟨by rw [← h1]; exact pk_nc i, h⟩
  · cases h
theorem chg_eq {α : Type} {i : Int32} {k : Option α} (h : i2c_ i = i) : chg i k = k := by
  unfold chg
  rw [if_pos h]
theorem ob_some {α β : Type} {x : Option α} {f : α → Option β} {r : β} (h : x.bind f = some r) : ∃ q, x = some q ∧ f q = some r := by
  cases x with
  | none => cases h
  | some q => exact ⟨q, rfl, h⟩
section KB
variable {p : Program} {l : Launch} {e : Env} {R : Room} {s : State} {m : MethodId} {args : Array Value} {below : List Frame} {meth : Method} {c : Code} {H : Heap} {locs : List Loc} {cells slots : Nat} {Q : State → Prop}
variable {own : String} {cc : ByteArray} {nL : Nat} {ret : Option FieldType} {Ts : List Cond} {D : va_G} {A : Nat → Prop} {tys : List (ClassId × FieldType)} {Es : (Nat → Nat) × (Nat → Nat)} {ws : va_W}
variable {pc : Nat} {ls : Array Slot} {rest : List Value} {a : Nat}
def CT (p : Program) (s : State) (m : MethodId) (args : Array Value) (meth : Method) (c : Code) (own : String) (cc : ByteArray) (nL : Nat) (ret : Option FieldType) (Ts : List Cond) (D : va_G) (A : Nat → Prop) (tys : List (ClassId × FieldType)) (Es : (Nat → Nat) × (Nat → Nat)) : Prop :=
  CallFix p m c cc nL s args Ts own ∧ (meth.sig.returnType = ret ∧ meth.locks = false) ∧ va_K D vwCl tys s ∧ sz_E Es A s s.heap ∧ ∀ q : Nat, s.heap.size ≤ q → A q
def DB (D : va_G) (A : Nat → Prop) (ws : va_W) (s : State) (H : Heap) (locs : List Loc) : Prop := va_P D vwCl ws H ∧ va_D A ws ∧ va_S A s.heap H locs
theorem k_iald (C : CT p s m args meth c own cc nL ret Ts D A tys Es) (B : DB D A ws s H locs) (q0 t0 : Nat) {cA : ClassId} {n : Nat} {f : Nat → Int32} {i : Int32} (ha : ws[q0]? = some (a, .inl (cA, n, .inl f))) (ht : tys[t0]? = some (cA, .int)) (hin : vp_in i n) (hdg : decode cc pc = .ok (.iaload, 1))
    (kk : W p l e R s m args below meth c H locs cells slots Q (F0 m (pc + 1) ls (.int (f i.toNatClampNeg) :: rest))) : W p l e R s m args below meth c H locs cells slots Q (F0 m pc ls (.int i :: .ref a :: rest)) := va_iald C.1.1 C.1.2.1 C.2.2.1 B.1 q0 t0 ha ht hin hdg kk
theorem k_lald (C : CT p s m args meth c own cc nL ret Ts D A tys Es) (B : DB D A ws s H locs) (q0 t0 : Nat) {cA : ClassId} {n : Nat} {f : Nat → Int64} {i : Int32} (ha : ws[q0]? = some (a, .inl (cA, n, .inr (.inl f)))) (ht : tys[t0]? = some (cA, .long)) (hin : vp_in i n) (hdg : decode cc pc = .ok (.laload, 1))
    (kk : W p l e R s m args below meth c H locs cells slots Q (F0 m (pc + 1) ls (.long (f i.toNatClampNeg) :: rest))) : W p l e R s m args below meth c H locs cells slots Q (F0 m pc ls (.int i :: .ref a :: rest)) := va_lald C.1.1 C.1.2.1 C.2.2.1 B.1 q0 t0 ha ht hin hdg kk
theorem k_iast (C : CT p s m args meth c own cc nL ret Ts D A tys Es) (B : DB D A ws s H locs) (q0 t0 : Nat) {cA : ClassId} {n : Nat} {f : Nat → Int32} {i x : Int32} (ha : ws[q0]? = some (a, .inl (cA, n, .inl f))) (ht : tys[t0]? = some (cA, .int)) (hin : vp_in i n) (hdg : decode cc pc = .ok (.iastore, 1))
    (kk : ∀ (H1 : Heap) (locs1 : List Loc), DB D A (ws.set q0 (a, .inl (cA, n, .inl (upd f i.toNatClampNeg x)))) s H1 locs1 → W p l e R s m args below meth c H1 locs1 cells slots Q (F0 m (pc + 1) ls rest)) : W p l e R s m args below meth c H locs cells slots Q (F0 m pc ls (.int x :: .int i :: .ref a :: rest)) := va_iast C.1.1 C.1.2.1 C.2.2.1 B.1 B.2.1 B.2.2 q0 t0 ha ht hin hdg (fun H1 l1 h1 h2 h3 => kk H1 l1 ⟨h1, h2, h3⟩)
theorem k_last (C : CT p s m args meth c own cc nL ret Ts D A tys Es) (B : DB D A ws s H locs) (q0 t0 : Nat) {cA : ClassId} {n : Nat} {f : Nat → Int64} {i : Int32} {x : Int64} (ha : ws[q0]? = some (a, .inl (cA, n, .inr (.inl f)))) (ht : tys[t0]? = some (cA, .long)) (hin : vp_in i n) (hdg : decode cc pc = .ok (.lastore, 1))
    (kk : ∀ (H1 : Heap) (locs1 : List Loc), DB D A (ws.set q0 (a, .inl (cA, n, .inr (.inl (vp_updL f i.toNatClampNeg x))))) s H1 locs1 → W p l e R s m args below meth c H1 locs1 cells slots Q (F0 m (pc + 1) ls rest)) : W p l e R s m args below meth c H locs cells slots Q (F0 m pc ls (.long x :: .int i :: .ref a :: rest)) := va_last C.1.1 C.1.2.1 C.2.2.1 B.1 B.2.1 B.2.2 q0 t0 ha ht hin hdg (fun H1 l1 h1 h2 h3 => kk H1 l1 ⟨h1, h2, h3⟩)
theorem k_alen (C : CT p s m args meth c own cc nL ret Ts D A tys Es) (B : DB D A ws s H locs) (q0 t0 : Nat) {cA : ClassId} {x : vp_A} {ty : FieldType} (ha : ws[q0]? = some (a, .inl (cA, x))) (ht : tys[t0]? = some (cA, ty)) (hdg : decode cc pc = .ok (.arraylength, 1))
    (kk : W p l e R s m args below meth c H locs cells slots Q (F0 m (pc + 1) ls (.int (Int32.ofNat x.1) :: rest))) : W p l e R s m args below meth c H locs cells slots Q (F0 m pc ls (.ref a :: rest)) := va_alen C.1.1 C.1.2.1 C.2.2.1 B.1 q0 t0 ha ht rfl hdg kk
theorem k_get (C : CT p s m args meth c own cc nL ret Ts D A tys Es) (B : DB D A ws s H locs) {Cn : String} {T : u_T} {N ci index : Nat} (hin : ∀ w ∈ u_ws Cn T N, w ∈ Ts) (hc : vwCl[ci]? = some (Cn, T, N)) (k : Nat) (hk : k < N) (hm : Cond.fieldLink own index (T k).1 (T k).2.1 (T k).2.2.1 ∈ Ts) (q0 : Nat) {fs : List Value} {v : Value} (he : ws[q0]? = some (a, .inr (ci, fs))) (hv : fs[k]? = some v) (hdg : decode cc pc = .ok (.getfield index, 3))
    (kk : W p l e R s m args below meth c H locs cells slots Q (F0 m (pc + 3) ls (v :: rest))) : W p l e R s m args below meth c H locs cells slots Q (F0 m pc ls (.ref a :: rest)) := va_get C.1.1 C.1.2.1 C.1.2.2.2.2 hin C.1.2.2.2.1 C.2.2.1 B.1 q0 he hc k hk (C.1.2.2.2.2 _ hm) (fun _ h => h) hv hdg kk
theorem k_put (C : CT p s m args meth c own cc nL ret Ts D A tys Es) (B : DB D A ws s H locs) {Cn : String} {T : u_T} {N ci index : Nat} (hin : ∀ w ∈ u_ws Cn T N, w ∈ Ts) (hc : vwCl[ci]? = some (Cn, T, N)) (ty0 : Nat → FieldType) (hty : ∀ k, k < N → parseFieldDescriptor (T k).2.2.1 = some (ty0 k)) (hnm : ∀ a, a < N → ∀ b, b < N → a ≠ b → (T a).2.1 ≠ (T b).2.1) (k : Nat) (hk : k < N) (hm : Cond.fieldLink own index (T k).1 (T k).2.1 (T k).2.2.1 ∈ Ts) (hfin : (T k).2.2.2 = false) (q0 : Nat) {fs : List Value} {v : Value} {ty : FieldType} (hd : parseFieldDescriptor (T k).2.2.1 = some ty) (hn : narrow ty v = v) (hfit : fits ty v = true) (he : ws[q0]? = some (a, .inr (ci, fs))) (hl : k < fs.length) (hdg : decode cc pc = .ok (.putfield index, 3))
    (kk : ∀ (H1 : Heap) (locs1 : List Loc), DB D A (ws.set q0 (a, .inr (ci, fs.set k v))) s H1 locs1 → W p l e R s m args below meth c H1 locs1 cells slots Q (F0 m (pc + 3) ls rest)) : W p l e R s m args below meth c H locs cells slots Q (F0 m pc ls (v :: .ref a :: rest)) := va_put C.1.1 C.1.2.1 C.1.2.2.2.2 hin ty0 hty hnm C.1.2.2.2.1 C.2.2.1 B.1 B.2.1 B.2.2 q0 he hc k hk (C.1.2.2.2.2 _ hm) (fun _ h => h) hfin hd hn hfit hl hdg (fun H1 l1 h1 h2 h3 => kk H1 l1 ⟨h1, h2, h3⟩)

theorem k_ald0 (C : CT p s m args meth c own cc nL ret Ts D A tys Es) (B : DB D A ws s H locs) (q0 : Nat) {cT : ClassId} {u0 u1 : Nat} {i : Int32} (ha : ws[q0]? = some (a, .inl (cT, 2, .inr (.inr (.inr (.inr (tx2 u0 u1))))))) (ht : tys[2]? = some (cT, .object "NoticeTests$Text")) (hi : i = 0) (hdg : decode cc pc = .ok (.aaload, 1))
    (kk : W p l e R s m args below meth c H locs cells slots Q (F0 m (pc + 1) ls (.ref u0 :: rest))) : W p l e R s m args below meth c H locs cells slots Q (F0 m pc ls (.int i :: .ref a :: rest)) := by
  subst hi
  exact va_aldq C.1.1 C.1.2.1 C.2.2.1 B.1 q0 2 ha ht (vp_lit (by decide)) hdg kk
theorem k_ald1 (C : CT p s m args meth c own cc nL ret Ts D A tys Es) (B : DB D A ws s H locs) (q0 : Nat) {cT : ClassId} {u0 u1 : Nat} {i : Int32} (ha : ws[q0]? = some (a, .inl (cT, 2, .inr (.inr (.inr (.inr (tx2 u0 u1))))))) (ht : tys[2]? = some (cT, .object "NoticeTests$Text")) (hi : i = 1) (hdg : decode cc pc = .ok (.aaload, 1))
    (kk : W p l e R s m args below meth c H locs cells slots Q (F0 m (pc + 1) ls (.ref u1 :: rest))) : W p l e R s m args below meth c H locs cells slots Q (F0 m pc ls (.int i :: .ref a :: rest)) := by
  subst hi
  exact va_aldq C.1.1 C.1.2.1 C.2.2.1 B.1 q0 2 ha ht (vp_lit (by decide)) hdg kk
def ZI (below : List Frame) (args : Array Value) (s : State) (D : va_G) (A : Nat → Prop) (tys : List (ClassId × FieldType)) (res : Int32) (w1 : va_W) (mc ms : Nat) : State → Prop := MQ below (va_Qi (fun (r : Int32) (_ : Unit) => r = res) (fun _ t => va_P D vwCl w1 t.heap ∧ va_K D vwCl tys t ∧ va_D A w1) A) args s mc ms A
def CtI (l : Launch) (y : MethodName) (wsy : List Cond) (rm : Room) (D : va_G) (tys : List (ClassId × FieldType)) (Es : (Nat → Nat) × (Nat → Nat)) (av : List Value) (wc : va_W) (res : Int32) (w1 : va_W) : Prop := ∀ sz : Nat, Met l y wsy rm (va_Pc av (fun U => U.heap.size = sz ∧ va_P D vwCl wc U.heap ∧ va_K D vwCl tys U ∧ va_D (fun _ => True) wc ∧ sz_E Es (va_A wc sz) U U.heap)) (va_Qi (fun (r : Int32) (_ : Unit) => r = res) (fun _ t => va_P D vwCl w1 t.heap ∧ va_K D vwCl tys t ∧ va_D (va_A wc sz) w1) (va_A wc sz)) 0 0 (va_A wc sz)
def ZL (below : List Frame) (args : Array Value) (s : State) (D : va_G) (A : Nat → Prop) (tys : List (ClassId × FieldType)) (res : Int64) (w1 : va_W) (mc ms : Nat) : State → Prop := MQ below (va_Ql (fun (r : Int64) (_ : Unit) => r = res) (fun _ t => va_P D vwCl w1 t.heap ∧ va_K D vwCl tys t ∧ va_D A w1) A) args s mc ms A
def CtL (l : Launch) (y : MethodName) (wsy : List Cond) (rm : Room) (D : va_G) (tys : List (ClassId × FieldType)) (Es : (Nat → Nat) × (Nat → Nat)) (av : List Value) (wc : va_W) (res : Int64) (w1 : va_W) : Prop := ∀ sz : Nat, Met l y wsy rm (va_Pc av (fun U => U.heap.size = sz ∧ va_P D vwCl wc U.heap ∧ va_K D vwCl tys U ∧ va_D (fun _ => True) wc ∧ sz_E Es (va_A wc sz) U U.heap)) (va_Ql (fun (r : Int64) (_ : Unit) => r = res) (fun _ t => va_P D vwCl w1 t.heap ∧ va_K D vwCl tys t ∧ va_D (va_A wc sz) w1) (va_A wc sz)) 0 0 (va_A wc sz)
def ZV (below : List Frame) (args : Array Value) (s : State) (D : va_G) (A : Nat → Prop) (tys : List (ClassId × FieldType)) (w1 : va_W) (mc ms : Nat) : State → Prop := MQ below (va_Qv (fun (_ : Unit) => True) (fun _ t => va_P D vwCl w1 t.heap ∧ va_K D vwCl tys t ∧ va_D A w1) A) args s mc ms A
def CtV (l : Launch) (y : MethodName) (wsy : List Cond) (rm : Room) (D : va_G) (tys : List (ClassId × FieldType)) (Es : (Nat → Nat) × (Nat → Nat)) (av : List Value) (wc : va_W) (w1 : va_W) : Prop := ∀ sz : Nat, Met l y wsy rm (va_Pc av (fun U => U.heap.size = sz ∧ va_P D vwCl wc U.heap ∧ va_K D vwCl tys U ∧ va_D (fun _ => True) wc ∧ sz_E Es (va_A wc sz) U U.heap)) (va_Qv (fun (_ : Unit) => True) (fun _ t => va_P D vwCl w1 t.heap ∧ va_K D vwCl tys t ∧ va_D (va_A wc sz) w1) (va_A wc sz)) 0 0 (va_A wc sz)
theorem k_iret {v : Int32} (C : CT p s m args meth c own cc nL (some .int) Ts D A tys Es) (B : DB D A ws s H locs) (hdg : decode cc pc = .ok (.ireturn, 1)) : W p l e R s m args below meth c H locs cells slots (ZI below args s D A tys v ws cells slots) (F0 m pc ls [.int v]) := W.iret C.1.1 C.1.2.1 C.2.1.1 (fun t ht hW => ⟨⟨v, (), rfl, rfl, by rw [ht]; exact B.1, va_K.moved hW.alike C.2.2.1, B.2.1⟩, B.2.2.F ht⟩) B.2.2.2.2 hdg C.2.1.2
theorem k_zret {v : Int32} {ty : FieldType} (C : CT p s m args meth c own cc nL (some ty) Ts D A tys Es) (B : DB D A ws s H locs) (hn : narrow ty (.int v) = .int v) (hdg : decode cc pc = .ok (.ireturn, 1)) : W p l e R s m args below meth c H locs cells slots (ZI below args s D A tys v ws cells slots) (F0 m pc ls [.int v]) := W.zret C.1.1 C.1.2.1 C.2.1.1 hn (fun t ht hW => ⟨⟨v, (), rfl, rfl, by rw [ht]; exact B.1, va_K.moved hW.alike C.2.2.1, B.2.1⟩, B.2.2.F ht⟩) B.2.2.2.2 hdg C.2.1.2
theorem k_lret {v : Int64} (C : CT p s m args meth c own cc nL (some .long) Ts D A tys Es) (B : DB D A ws s H locs) (hdg : decode cc pc = .ok (.lreturn, 1)) : W p l e R s m args below meth c H locs cells slots (ZL below args s D A tys v ws cells slots) (F0 m pc ls [.long v]) := W.lret C.1.1 C.1.2.1 C.2.1.1 (fun t ht hW => ⟨⟨v, (), rfl, rfl, by rw [ht]; exact B.1, va_K.moved hW.alike C.2.2.1, B.2.1⟩, B.2.2.F ht⟩) B.2.2.2.2 hdg C.2.1.2
theorem k_vret (C : CT p s m args meth c own cc nL none Ts D A tys Es) (B : DB D A ws s H locs) (hdg : decode cc pc = .ok (.return_, 1)) : W p l e R s m args below meth c H locs cells slots (ZV below args s D A tys ws cells slots) (F0 m pc ls []) := W.vret C.1.1 C.1.2.1 C.2.1.1 (fun t ht hW => ⟨⟨(), rfl, trivial, by rw [ht]; exact B.1, va_K.moved hW.alike C.2.2.1, B.2.1⟩, B.2.2.F ht⟩) B.2.2.2.2 hdg C.2.1.2
theorem CtI.of {y : MethodName} {wsy wsy' : List Cond} {rm : Room} {av : List Value} {wc w1 : va_W} {res : Int32} {lv : List (Nat × Value)} (hy : plainName y.cls = true) (ho : y.cls = own) (hw : wsy = Cond.code y cc nL ret :: wsy') (hlen : (lg_sl av).length ≤ nL) (hlv : lv_args 0 av = lv)
    (body : ∀ (p : Program) (e : Env) (s : State) (m : MethodId) (below : List Frame) (meth : Method) (c : Code) (A : Nat → Prop) (ls : Array Slot), CT p s m av.toArray meth c own cc nL ret wsy D A tys Es → DB D A wc s s.heap [] → lv_has ls nL lv → W p l e rm s m av.toArray below meth c s.heap [] 0 0 (ZI below av.toArray s D A tys res w1 0 0) (F0 m 0 ls [])) : CtI l y wsy rm D tys Es av wc res w1 := by
  intro sz
  refine Met.ofW (cc := cc) (maxL := nL) (ret := ret) hy hw ?_
  intro p e s m args below meth c s₁ B hml hv
  obtain ⟨rfl, hsz, hP, hK, hD0, hZ⟩ := hv
  subst hsz
  have hl := lv_entry av (n := nL) hlen
  rw [lg_entry_eq]
  rw [hlv] at hl
  have hown := findClass_of_methodNamed B.named
  rw [ho] at hown
  exact body p e s m below meth c (va_A wc s.heap.size) _ ⟨⟨B.exec, B.bytes, hml, hown, atoms_spec (ws := wsy) B.pre⟩, ⟨B.returns, B.notSynchronized⟩, hK, hZ, fun q h => Or.inr h⟩ ⟨hP, hD0.self, va_S.rf⟩ hl
theorem CtL.of {y : MethodName} {wsy wsy' : List Cond} {rm : Room} {av : List Value} {wc w1 : va_W} {res : Int64} {lv : List (Nat × Value)} (hy : plainName y.cls = true) (ho : y.cls = own) (hw : wsy = Cond.code y cc nL ret :: wsy') (hlen : (lg_sl av).length ≤ nL) (hlv : lv_args 0 av = lv)
    (body : ∀ (p : Program) (e : Env) (s : State) (m : MethodId) (below : List Frame) (meth : Method) (c : Code) (A : Nat → Prop) (ls : Array Slot), CT p s m av.toArray meth c own cc nL ret wsy D A tys Es → DB D A wc s s.heap [] → lv_has ls nL lv → W p l e rm s m av.toArray below meth c s.heap [] 0 0 (ZL below av.toArray s D A tys res w1 0 0) (F0 m 0 ls [])) : CtL l y wsy rm D tys Es av wc res w1 := by
  intro sz
  refine Met.ofW (cc := cc) (maxL := nL) (ret := ret) hy hw ?_
  intro p e s m args below meth c s₁ B hml hv
  obtain ⟨rfl, hsz, hP, hK, hD0, hZ⟩ := hv
  subst hsz
  have hl := lv_entry av (n := nL) hlen
  rw [lg_entry_eq]
  rw [hlv] at hl
  have hown := findClass_of_methodNamed B.named
  rw [ho] at hown
  exact body p e s m below meth c (va_A wc s.heap.size) _ ⟨⟨B.exec, B.bytes, hml, hown, atoms_spec (ws := wsy) B.pre⟩, ⟨B.returns, B.notSynchronized⟩, hK, hZ, fun q h => Or.inr h⟩ ⟨hP, hD0.self, va_S.rf⟩ hl
theorem CtV.of {y : MethodName} {wsy wsy' : List Cond} {rm : Room} {av : List Value} {wc w1 : va_W}  {lv : List (Nat × Value)} (hy : plainName y.cls = true) (ho : y.cls = own) (hw : wsy = Cond.code y cc nL ret :: wsy') (hlen : (lg_sl av).length ≤ nL) (hlv : lv_args 0 av = lv)
    (body : ∀ (p : Program) (e : Env) (s : State) (m : MethodId) (below : List Frame) (meth : Method) (c : Code) (A : Nat → Prop) (ls : Array Slot), CT p s m av.toArray meth c own cc nL ret wsy D A tys Es → DB D A wc s s.heap [] → lv_has ls nL lv → W p l e rm s m av.toArray below meth c s.heap [] 0 0 (ZV below av.toArray s D A tys w1 0 0) (F0 m 0 ls [])) : CtV l y wsy rm D tys Es av wc w1 := by
  intro sz
  refine Met.ofW (cc := cc) (maxL := nL) (ret := ret) hy hw ?_
  intro p e s m args below meth c s₁ B hml hv
  obtain ⟨rfl, hsz, hP, hK, hD0, hZ⟩ := hv
  subst hsz
  have hl := lv_entry av (n := nL) hlen
  rw [lg_entry_eq]
  rw [hlv] at hl
  have hown := findClass_of_methodNamed B.named
  rw [ho] at hown
  exact body p e s m below meth c (va_A wc s.heap.size) _ ⟨⟨B.exec, B.bytes, hml, hown, atoms_spec (ws := wsy) B.pre⟩, ⟨B.returns, B.notSynchronized⟩, hK, hZ, fun q h => Or.inr h⟩ ⟨hP, hD0.self, va_S.rf⟩ hl
def CtA (l : Launch) (y : MethodName) (wsy : List Cond) (rm : Room) (D : va_G) (tys : List (ClassId × FieldType)) (Es : (Nat → Nat) × (Nat → Nat)) (av : List Value) (wc : va_W) (res : Nat) (w1 : va_W) : Prop := ∀ sz : Nat, Met l y wsy rm (va_Pc av (fun U => U.heap.size = sz ∧ va_P D vwCl wc U.heap ∧ va_K D vwCl tys U ∧ va_D (fun _ => True) wc ∧ sz_E Es (va_A wc sz) U U.heap)) (va_Qr (fun (_ : Unit) => True) (fun _ r t => r = Es.1 res ∧ va_P D vwCl w1 t.heap ∧ va_K D vwCl tys t ∧ va_D (va_A wc sz) w1) (va_A wc sz)) 0 0 (va_A wc sz)
def ZA (below : List Frame) (args : Array Value) (s : State) (D : va_G) (A : Nat → Prop) (tys : List (ClassId × FieldType)) (Es : (Nat → Nat) × (Nat → Nat)) (res : Nat) (w1 : va_W) (mc ms : Nat) : State → Prop := MQ below (va_Qr (fun (_ : Unit) => True) (fun _ r t => r = Es.1 res ∧ va_P D vwCl w1 t.heap ∧ va_K D vwCl tys t ∧ va_D A w1) A) args s mc ms A
theorem k_aret {v : Nat} {cn : String} (C : CT p s m args meth c own cc nL (some (.object cn)) Ts D A tys Es) (B : DB D A ws s H locs) (hdg : decode cc pc = .ok (.areturn, 1)) : W p l e R s m args below meth c H locs cells slots (ZA below args s D A tys Es v ws cells slots) (F0 m pc ls [.ref (Es.1 v)]) := W.aret C.1.1 C.1.2.1 C.2.1.1 (Or.inl ⟨_, rfl⟩) (Or.inr ⟨_, rfl⟩) (fun t ht hW => ⟨⟨(), _, rfl, trivial, rfl, by rw [ht]; exact B.1, va_K.moved hW.alike C.2.2.1, B.2.1⟩, B.2.2.F ht⟩) B.2.2.2.2 hdg C.2.1.2
theorem CtA.of {y : MethodName} {wsy wsy' : List Cond} {rm : Room} {av : List Value} {wc w1 : va_W} {res : Nat}  {lv : List (Nat × Value)} (hy : plainName y.cls = true) (ho : y.cls = own) (hw : wsy = Cond.code y cc nL ret :: wsy') (hlen : (lg_sl av).length ≤ nL) (hlv : lv_args 0 av = lv)
    (body : ∀ (p : Program) (e : Env) (s : State) (m : MethodId) (below : List Frame) (meth : Method) (c : Code) (A : Nat → Prop) (ls : Array Slot), CT p s m av.toArray meth c own cc nL ret wsy D A tys Es → DB D A wc s s.heap [] → lv_has ls nL lv → W p l e rm s m av.toArray below meth c s.heap [] 0 0 (ZA below av.toArray s D A tys Es res w1 0 0) (F0 m 0 ls [])) : CtA l y wsy rm D tys Es av wc res w1 := by
  intro sz
  refine Met.ofW (cc := cc) (maxL := nL) (ret := ret) hy hw ?_
  intro p e s m args below meth c s₁ B hml hv
  obtain ⟨rfl, hsz, hP, hK, hD0, hZ⟩ := hv
  subst hsz
  have hl := lv_entry av (n := nL) hlen
  rw [lg_entry_eq]
  rw [hlv] at hl
  have hown := findClass_of_methodNamed B.named
  rw [ho] at hown
  exact body p e s m below meth c (va_A wc s.heap.size) _ ⟨⟨B.exec, B.bytes, hml, hown, atoms_spec (ws := wsy) B.pre⟩, ⟨B.returns, B.notSynchronized⟩, hK, hZ, fun q h => Or.inr h⟩ ⟨hP, hD0.self, va_S.rf⟩ hl
theorem kc_VI (C : CT p s m args meth c own cc nL ret Ts D A tys Es) (B : DB D A ws s H locs) {y : MethodName} {bytes : ByteArray} {maxL index n : Nat} {rt : Option FieldType} {wsy wsy' : List Cond} {rm : Room} {q0 ci b : Nat} {Cn : String} {T : u_T} {N : Nat} {fs : List Value} {As st0 : List Value} {res : Int32} {wc w1 w2 : va_W}
    (hM : CtI l y wsy rm D tys Es (.ref b :: As) wc res w1) (hG : GoodIn Ts (wsV own index Cn y wsy)) (hw : wsy = Cond.code y bytes maxL rt :: wsy') (hrm : rm.cells = 0 ∧ rm.slots = 0) (hd : y.cls = Cn ∧ y.cls ≠ "java/lang/invoke/MethodHandle" ∧ y.cls ≠ "java/lang/invoke/VarHandle" ∧ (parseMethodDescriptor y.desc).map (fun d => d.parameters.length) = some n) (hR : rm.frames + 1 ≤ R.frames ∧ 8 + (maxL + 11) + rm.locals ≤ R.locals)
    (hc : vwCl[ci]? = some (Cn, T, N)) (he : wc[q0]? = some (b, .inr (ci, fs))) (isC isR is2 : List Nat) (hC : isC.map (fun i => ws[i]?) = wc.map some) (hnC : va_nd isC = true) (hRr : isR.map (fun i => ws[i]?) = (isR.filterMap (fun i => ws[i]?)).map some) (hn : va_nd isR = true) (hdis : isR.all (fun i => !(isC.contains i)) = true) (h2 : is2.map (fun i => (isR.filterMap (fun i => ws[i]?) ++ w1)[i]?) = w2.map some) (hn2 : va_nd is2 = true)
    (hAs : As.length = n) (hls : ls.size = nL) (hst : st0 = As.reverse ++ .ref b :: rest) (hW : (rest.map fun v => v.category).sum ≤ 8) (hcs : cells ≤ R.cells ∧ slots ≤ R.slots) (hdg : decode cc pc = .ok (.invokevirtual index, 3))
    (kk : ∀ (H1 : Heap) (locs1 : List Loc), DB D A w2 s H1 locs1 → W p l e R s m args below meth c H1 locs1 cells slots Q (F0 m (pc + 3) ls (.int res :: rest))) : W p l e R s m args below meth c H locs cells slots Q (F0 m pc ls st0) := by
  have hPc : va_P D vwCl wc H := kb_P B.1 isC hC
  have hDc : va_D A wc := B.2.1.sub isC hnC hC
  have hFc := va_free (wc := wc) B.2.1 B.2.2 C.2.2.2.2 isC hC
  refine va_calli (va_runV (As := As) (rest := rest) C.1 (hM H.size) (cwV n C.1.2.2.2.2 hG hw hrm.1 hrm.2 hd hR) ⟨fun a U g mk q => by obtain ⟨q0, q1, qP, qK, qD, qZ⟩ := q; exact ⟨q0, q1, qP, va_K.moved (u := U) (U := U.calling g mk a) (Vm.Alike.refl U.vm) qK, qD, sz_E.same (u := U) (U := U.calling g mk a) rfl (Vm.Alike.refl U.vm) qZ⟩, va_recv C.2.2.1 hPc hc he, fun U hU hW => ⟨rfl, by rw [hU], by rw [hU]; exact hPc, va_K.moved hW.alike C.2.2.1, hDc.weaken (fun _ _ _ _ => trivial), by rw [hU]; exact ((C.2.2.2.1.kept B.2.2.2.1).narrow hFc).warm hW⟩⟩ rfl hAs hls hst (lv_room hW) hdg hcs) B.2.2 (fun q _ h => hFc q h) hFc (fun r u t H1 locs1 ht hvm hw2 hB hz1 hk1 hS => ?_)
  subst hw2
  obtain ⟨hP1, hK1, hD1⟩ := hB
  rw [ht] at hP1
  obtain ⟨hP, hD⟩ := va_join (w1 := w1) B.1 B.2.1 isC isR hC hRr hn (kb_dis hdis) hk1 hFc hP1 hD1
  exact kk H1 locs1 ⟨kb_P hP is2 h2, hD.sub is2 hn2 h2, hS⟩
theorem kc_VL (C : CT p s m args meth c own cc nL ret Ts D A tys Es) (B : DB D A ws s H locs) {y : MethodName} {bytes : ByteArray} {maxL index n : Nat} {rt : Option FieldType} {wsy wsy' : List Cond} {rm : Room} {q0 ci b : Nat} {Cn : String} {T : u_T} {N : Nat} {fs : List Value} {As st0 : List Value} {res : Int64} {wc w1 w2 : va_W}
    (hM : CtL l y wsy rm D tys Es (.ref b :: As) wc res w1) (hG : GoodIn Ts (wsV own index Cn y wsy)) (hw : wsy = Cond.code y bytes maxL rt :: wsy') (hrm : rm.cells = 0 ∧ rm.slots = 0) (hd : y.cls = Cn ∧ y.cls ≠ "java/lang/invoke/MethodHandle" ∧ y.cls ≠ "java/lang/invoke/VarHandle" ∧ (parseMethodDescriptor y.desc).map (fun d => d.parameters.length) = some n) (hR : rm.frames + 1 ≤ R.frames ∧ 8 + (maxL + 11) + rm.locals ≤ R.locals)
    (hc : vwCl[ci]? = some (Cn, T, N)) (he : wc[q0]? = some (b, .inr (ci, fs))) (isC isR is2 : List Nat) (hC : isC.map (fun i => ws[i]?) = wc.map some) (hnC : va_nd isC = true) (hRr : isR.map (fun i => ws[i]?) = (isR.filterMap (fun i => ws[i]?)).map some) (hn : va_nd isR = true) (hdis : isR.all (fun i => !(isC.contains i)) = true) (h2 : is2.map (fun i => (isR.filterMap (fun i => ws[i]?) ++ w1)[i]?) = w2.map some) (hn2 : va_nd is2 = true)
    (hAs : As.length = n) (hls : ls.size = nL) (hst : st0 = As.reverse ++ .ref b :: rest) (hW : (rest.map fun v => v.category).sum ≤ 8) (hcs : cells ≤ R.cells ∧ slots ≤ R.slots) (hdg : decode cc pc = .ok (.invokevirtual index, 3))
    (kk : ∀ (H1 : Heap) (locs1 : List Loc), DB D A w2 s H1 locs1 → W p l e R s m args below meth c H1 locs1 cells slots Q (F0 m (pc + 3) ls (.long res :: rest))) : W p l e R s m args below meth c H locs cells slots Q (F0 m pc ls st0) := by
  have hPc : va_P D vwCl wc H := kb_P B.1 isC hC
  have hDc : va_D A wc := B.2.1.sub isC hnC hC
  have hFc := va_free (wc := wc) B.2.1 B.2.2 C.2.2.2.2 isC hC
  refine va_calll (va_runV (As := As) (rest := rest) C.1 (hM H.size) (cwV n C.1.2.2.2.2 hG hw hrm.1 hrm.2 hd hR) ⟨fun a U g mk q => by obtain ⟨q0, q1, qP, qK, qD, qZ⟩ := q; exact ⟨q0, q1, qP, va_K.moved (u := U) (U := U.calling g mk a) (Vm.Alike.refl U.vm) qK, qD, sz_E.same (u := U) (U := U.calling g mk a) rfl (Vm.Alike.refl U.vm) qZ⟩, va_recv C.2.2.1 hPc hc he, fun U hU hW => ⟨rfl, by rw [hU], by rw [hU]; exact hPc, va_K.moved hW.alike C.2.2.1, hDc.weaken (fun _ _ _ _ => trivial), by rw [hU]; exact ((C.2.2.2.1.kept B.2.2.2.1).narrow hFc).warm hW⟩⟩ rfl hAs hls hst (lv_room hW) hdg hcs) B.2.2 (fun q _ h => hFc q h) hFc (fun r u t H1 locs1 ht hvm hw2 hB hz1 hk1 hS => ?_)
  subst hw2
  obtain ⟨hP1, hK1, hD1⟩ := hB
  rw [ht] at hP1
  obtain ⟨hP, hD⟩ := va_join (w1 := w1) B.1 B.2.1 isC isR hC hRr hn (kb_dis hdis) hk1 hFc hP1 hD1
  exact kk H1 locs1 ⟨kb_P hP is2 h2, hD.sub is2 hn2 h2, hS⟩
theorem kc_VV (C : CT p s m args meth c own cc nL ret Ts D A tys Es) (B : DB D A ws s H locs) {y : MethodName} {bytes : ByteArray} {maxL index n : Nat} {rt : Option FieldType} {wsy wsy' : List Cond} {rm : Room} {q0 ci b : Nat} {Cn : String} {T : u_T} {N : Nat} {fs : List Value} {As st0 : List Value}  {wc w1 w2 : va_W}
    (hM : CtV l y wsy rm D tys Es (.ref b :: As) wc w1) (hG : GoodIn Ts (wsV own index Cn y wsy)) (hw : wsy = Cond.code y bytes maxL rt :: wsy') (hrm : rm.cells = 0 ∧ rm.slots = 0) (hd : y.cls = Cn ∧ y.cls ≠ "java/lang/invoke/MethodHandle" ∧ y.cls ≠ "java/lang/invoke/VarHandle" ∧ (parseMethodDescriptor y.desc).map (fun d => d.parameters.length) = some n) (hR : rm.frames + 1 ≤ R.frames ∧ 8 + (maxL + 11) + rm.locals ≤ R.locals)
    (hc : vwCl[ci]? = some (Cn, T, N)) (he : wc[q0]? = some (b, .inr (ci, fs))) (isC isR is2 : List Nat) (hC : isC.map (fun i => ws[i]?) = wc.map some) (hnC : va_nd isC = true) (hRr : isR.map (fun i => ws[i]?) = (isR.filterMap (fun i => ws[i]?)).map some) (hn : va_nd isR = true) (hdis : isR.all (fun i => !(isC.contains i)) = true) (h2 : is2.map (fun i => (isR.filterMap (fun i => ws[i]?) ++ w1)[i]?) = w2.map some) (hn2 : va_nd is2 = true)
    (hAs : As.length = n) (hls : ls.size = nL) (hst : st0 = As.reverse ++ .ref b :: rest) (hW : (rest.map fun v => v.category).sum ≤ 8) (hcs : cells ≤ R.cells ∧ slots ≤ R.slots) (hdg : decode cc pc = .ok (.invokevirtual index, 3))
    (kk : ∀ (H1 : Heap) (locs1 : List Loc), DB D A w2 s H1 locs1 → W p l e R s m args below meth c H1 locs1 cells slots Q (F0 m (pc + 3) ls (rest))) : W p l e R s m args below meth c H locs cells slots Q (F0 m pc ls st0) := by
  have hPc : va_P D vwCl wc H := kb_P B.1 isC hC
  have hDc : va_D A wc := B.2.1.sub isC hnC hC
  have hFc := va_free (wc := wc) B.2.1 B.2.2 C.2.2.2.2 isC hC
  refine va_callv (va_runV (As := As) (rest := rest) C.1 (hM H.size) (cwV n C.1.2.2.2.2 hG hw hrm.1 hrm.2 hd hR) ⟨fun a U g mk q => by obtain ⟨q0, q1, qP, qK, qD, qZ⟩ := q; exact ⟨q0, q1, qP, va_K.moved (u := U) (U := U.calling g mk a) (Vm.Alike.refl U.vm) qK, qD, sz_E.same (u := U) (U := U.calling g mk a) rfl (Vm.Alike.refl U.vm) qZ⟩, va_recv C.2.2.1 hPc hc he, fun U hU hW => ⟨rfl, by rw [hU], by rw [hU]; exact hPc, va_K.moved hW.alike C.2.2.1, hDc.weaken (fun _ _ _ _ => trivial), by rw [hU]; exact ((C.2.2.2.1.kept B.2.2.2.1).narrow hFc).warm hW⟩⟩ rfl hAs hls hst (lv_room hW) hdg hcs) B.2.2 (fun q _ h => hFc q h) hFc (fun u t H1 locs1 ht hvm hw2 hB hz1 hk1 hS => ?_)
  obtain ⟨hP1, hK1, hD1⟩ := hB
  rw [ht] at hP1
  obtain ⟨hP, hD⟩ := va_join (w1 := w1) B.1 B.2.1 isC isR hC hRr hn (kb_dis hdis) hk1 hFc hP1 hD1
  exact kk H1 locs1 ⟨kb_P hP is2 h2, hD.sub is2 hn2 h2, hS⟩
theorem kc_VA (C : CT p s m args meth c own cc nL ret Ts D A tys Es) (B : DB D A ws s H locs) {y : MethodName} {bytes : ByteArray} {maxL index n : Nat} {rt : Option FieldType} {wsy wsy' : List Cond} {rm : Room} {q0 ci b : Nat} {Cn : String} {T : u_T} {N : Nat} {fs : List Value} {As st0 : List Value} {res : Nat} {wc w1 w2 : va_W}
    (hM : CtA l y wsy rm D tys Es (.ref b :: As) wc res w1) (hG : GoodIn Ts (wsV own index Cn y wsy)) (hw : wsy = Cond.code y bytes maxL rt :: wsy') (hrm : rm.cells = 0 ∧ rm.slots = 0) (hd : y.cls = Cn ∧ y.cls ≠ "java/lang/invoke/MethodHandle" ∧ y.cls ≠ "java/lang/invoke/VarHandle" ∧ (parseMethodDescriptor y.desc).map (fun d => d.parameters.length) = some n) (hR : rm.frames + 1 ≤ R.frames ∧ 8 + (maxL + 11) + rm.locals ≤ R.locals)
    (hc : vwCl[ci]? = some (Cn, T, N)) (he : wc[q0]? = some (b, .inr (ci, fs))) (isC isR is2 : List Nat) (hC : isC.map (fun i => ws[i]?) = wc.map some) (hnC : va_nd isC = true) (hRr : isR.map (fun i => ws[i]?) = (isR.filterMap (fun i => ws[i]?)).map some) (hn : va_nd isR = true) (hdis : isR.all (fun i => !(isC.contains i)) = true) (h2 : is2.map (fun i => (isR.filterMap (fun i => ws[i]?) ++ w1)[i]?) = w2.map some) (hn2 : va_nd is2 = true)
    (hAs : As.length = n) (hls : ls.size = nL) (hst : st0 = As.reverse ++ .ref b :: rest) (hW : (rest.map fun v => v.category).sum ≤ 8) (hcs : cells ≤ R.cells ∧ slots ≤ R.slots) (hdg : decode cc pc = .ok (.invokevirtual index, 3))
    (kk : ∀ (H1 : Heap) (locs1 : List Loc), DB D A w2 s H1 locs1 → W p l e R s m args below meth c H1 locs1 cells slots Q (F0 m (pc + 3) ls (.ref (Es.1 res) :: rest))) : W p l e R s m args below meth c H locs cells slots Q (F0 m pc ls st0) := by
  have hPc : va_P D vwCl wc H := kb_P B.1 isC hC
  have hDc : va_D A wc := B.2.1.sub isC hnC hC
  have hFc := va_free (wc := wc) B.2.1 B.2.2 C.2.2.2.2 isC hC
  refine va_callr (va_runV (As := As) (rest := rest) C.1 (hM H.size) (cwV n C.1.2.2.2.2 hG hw hrm.1 hrm.2 hd hR) ⟨fun a U g mk q => by obtain ⟨q0, q1, qP, qK, qD, qZ⟩ := q; exact ⟨q0, q1, qP, va_K.moved (u := U) (U := U.calling g mk a) (Vm.Alike.refl U.vm) qK, qD, sz_E.same (u := U) (U := U.calling g mk a) rfl (Vm.Alike.refl U.vm) qZ⟩, va_recv C.2.2.1 hPc hc he, fun U hU hW => ⟨rfl, by rw [hU], by rw [hU]; exact hPc, va_K.moved hW.alike C.2.2.1, hDc.weaken (fun _ _ _ _ => trivial), by rw [hU]; exact ((C.2.2.2.1.kept B.2.2.2.1).narrow hFc).warm hW⟩⟩ rfl hAs hls hst (lv_room hW) hdg hcs) B.2.2 (fun q _ h => hFc q h) hFc (fun u ra t H1 locs1 ht hvm hw2 hB hz1 hk1 hS => ?_)
  obtain ⟨hr9, hP1, hK1, hD1⟩ := hB
  subst hr9
  rw [ht] at hP1
  obtain ⟨hP, hD⟩ := va_join (w1 := w1) B.1 B.2.1 isC isR hC hRr hn (kb_dis hdis) hk1 hFc hP1 hD1
  exact kk H1 locs1 ⟨kb_P hP is2 h2, hD.sub is2 hn2 h2, hS⟩
theorem kc_SI (C : CT p s m args meth c own cc nL ret Ts D A tys Es) (B : DB D A ws s H locs) {y : MethodName} {bytes : ByteArray} {maxL index n : Nat} {rt : Option FieldType} {wsy wsy' : List Cond} {rm : Room} {As st0 : List Value} {res : Int32} {wc w1 w2 : va_W}
    (hM : CtI l y wsy rm D tys Es As wc res w1) (hG : GoodIn Ts (va_wsS own index y wsy)) (hw : wsy = Cond.code y bytes maxL rt :: wsy') (hrm : rm.cells = 0 ∧ rm.slots = 0) (hd : y.cls ≠ "java/lang/invoke/MethodHandle" ∧ y.cls ≠ "java/lang/invoke/VarHandle" ∧ (parseMethodDescriptor y.desc).map (fun d => d.parameters.length) = some n) (hR : rm.frames + 1 ≤ R.frames ∧ 8 + (maxL + 11) + rm.locals ≤ R.locals)
    (isC isR is2 : List Nat) (hC : isC.map (fun i => ws[i]?) = wc.map some) (hnC : va_nd isC = true) (hRr : isR.map (fun i => ws[i]?) = (isR.filterMap (fun i => ws[i]?)).map some) (hn : va_nd isR = true) (hdis : isR.all (fun i => !(isC.contains i)) = true) (h2 : is2.map (fun i => (isR.filterMap (fun i => ws[i]?) ++ w1)[i]?) = w2.map some) (hn2 : va_nd is2 = true)
    (hAs : As.length = n) (hls : ls.size = nL) (hst : st0 = As.reverse ++ rest) (hW : (rest.map fun v => v.category).sum ≤ 8) (hcs : cells ≤ R.cells ∧ slots ≤ R.slots) (hdg : decode cc pc = .ok (.invokestatic index, 3))
    (kk : ∀ (H1 : Heap) (locs1 : List Loc), DB D A w2 s H1 locs1 → W p l e R s m args below meth c H1 locs1 cells slots Q (F0 m (pc + 3) ls (.int res :: rest))) : W p l e R s m args below meth c H locs cells slots Q (F0 m pc ls st0) := by
  have hPc : va_P D vwCl wc H := kb_P B.1 isC hC
  have hDc : va_D A wc := B.2.1.sub isC hnC hC
  have hFc := va_free (wc := wc) B.2.1 B.2.2 C.2.2.2.2 isC hC
  refine va_calli (va_runS (As := As) (rest := rest) C.1 (hM H.size) (va_cwS n C.1.2.2.2.2 hG hw hrm.1 hrm.2 hd hR) ⟨fun a U g mk q => by obtain ⟨q0, q1, qP, qK, qD, qZ⟩ := q; exact ⟨q0, q1, qP, va_K.moved (u := U) (U := U.calling g mk a) (Vm.Alike.refl U.vm) qK, qD, sz_E.same (u := U) (U := U.calling g mk a) rfl (Vm.Alike.refl U.vm) qZ⟩, fun U hU hW => ⟨rfl, by rw [hU], by rw [hU]; exact hPc, va_K.moved hW.alike C.2.2.1, hDc.weaken (fun _ _ _ _ => trivial), by rw [hU]; exact ((C.2.2.2.1.kept B.2.2.2.1).narrow hFc).warm hW⟩⟩ rfl hAs hls hst (lv_room hW) hdg hcs) B.2.2 (fun q _ h => hFc q h) hFc (fun r u t H1 locs1 ht hvm hw2 hB hz1 hk1 hS => ?_)
  subst hw2
  obtain ⟨hP1, hK1, hD1⟩ := hB
  rw [ht] at hP1
  obtain ⟨hP, hD⟩ := va_join (w1 := w1) B.1 B.2.1 isC isR hC hRr hn (kb_dis hdis) hk1 hFc hP1 hD1
  exact kk H1 locs1 ⟨kb_P hP is2 h2, hD.sub is2 hn2 h2, hS⟩
theorem kc_SL (C : CT p s m args meth c own cc nL ret Ts D A tys Es) (B : DB D A ws s H locs) {y : MethodName} {bytes : ByteArray} {maxL index n : Nat} {rt : Option FieldType} {wsy wsy' : List Cond} {rm : Room} {As st0 : List Value} {res : Int64} {wc w1 w2 : va_W}
    (hM : CtL l y wsy rm D tys Es As wc res w1) (hG : GoodIn Ts (va_wsS own index y wsy)) (hw : wsy = Cond.code y bytes maxL rt :: wsy') (hrm : rm.cells = 0 ∧ rm.slots = 0) (hd : y.cls ≠ "java/lang/invoke/MethodHandle" ∧ y.cls ≠ "java/lang/invoke/VarHandle" ∧ (parseMethodDescriptor y.desc).map (fun d => d.parameters.length) = some n) (hR : rm.frames + 1 ≤ R.frames ∧ 8 + (maxL + 11) + rm.locals ≤ R.locals)
    (isC isR is2 : List Nat) (hC : isC.map (fun i => ws[i]?) = wc.map some) (hnC : va_nd isC = true) (hRr : isR.map (fun i => ws[i]?) = (isR.filterMap (fun i => ws[i]?)).map some) (hn : va_nd isR = true) (hdis : isR.all (fun i => !(isC.contains i)) = true) (h2 : is2.map (fun i => (isR.filterMap (fun i => ws[i]?) ++ w1)[i]?) = w2.map some) (hn2 : va_nd is2 = true)
    (hAs : As.length = n) (hls : ls.size = nL) (hst : st0 = As.reverse ++ rest) (hW : (rest.map fun v => v.category).sum ≤ 8) (hcs : cells ≤ R.cells ∧ slots ≤ R.slots) (hdg : decode cc pc = .ok (.invokestatic index, 3))
    (kk : ∀ (H1 : Heap) (locs1 : List Loc), DB D A w2 s H1 locs1 → W p l e R s m args below meth c H1 locs1 cells slots Q (F0 m (pc + 3) ls (.long res :: rest))) : W p l e R s m args below meth c H locs cells slots Q (F0 m pc ls st0) := by
  have hPc : va_P D vwCl wc H := kb_P B.1 isC hC
  have hDc : va_D A wc := B.2.1.sub isC hnC hC
  have hFc := va_free (wc := wc) B.2.1 B.2.2 C.2.2.2.2 isC hC
  refine va_calll (va_runS (As := As) (rest := rest) C.1 (hM H.size) (va_cwS n C.1.2.2.2.2 hG hw hrm.1 hrm.2 hd hR) ⟨fun a U g mk q => by obtain ⟨q0, q1, qP, qK, qD, qZ⟩ := q; exact ⟨q0, q1, qP, va_K.moved (u := U) (U := U.calling g mk a) (Vm.Alike.refl U.vm) qK, qD, sz_E.same (u := U) (U := U.calling g mk a) rfl (Vm.Alike.refl U.vm) qZ⟩, fun U hU hW => ⟨rfl, by rw [hU], by rw [hU]; exact hPc, va_K.moved hW.alike C.2.2.1, hDc.weaken (fun _ _ _ _ => trivial), by rw [hU]; exact ((C.2.2.2.1.kept B.2.2.2.1).narrow hFc).warm hW⟩⟩ rfl hAs hls hst (lv_room hW) hdg hcs) B.2.2 (fun q _ h => hFc q h) hFc (fun r u t H1 locs1 ht hvm hw2 hB hz1 hk1 hS => ?_)
  subst hw2
  obtain ⟨hP1, hK1, hD1⟩ := hB
  rw [ht] at hP1
  obtain ⟨hP, hD⟩ := va_join (w1 := w1) B.1 B.2.1 isC isR hC hRr hn (kb_dis hdis) hk1 hFc hP1 hD1
  exact kk H1 locs1 ⟨kb_P hP is2 h2, hD.sub is2 hn2 h2, hS⟩
theorem kc_SV (C : CT p s m args meth c own cc nL ret Ts D A tys Es) (B : DB D A ws s H locs) {y : MethodName} {bytes : ByteArray} {maxL index n : Nat} {rt : Option FieldType} {wsy wsy' : List Cond} {rm : Room} {As st0 : List Value}  {wc w1 w2 : va_W}
    (hM : CtV l y wsy rm D tys Es As wc w1) (hG : GoodIn Ts (va_wsS own index y wsy)) (hw : wsy = Cond.code y bytes maxL rt :: wsy') (hrm : rm.cells = 0 ∧ rm.slots = 0) (hd : y.cls ≠ "java/lang/invoke/MethodHandle" ∧ y.cls ≠ "java/lang/invoke/VarHandle" ∧ (parseMethodDescriptor y.desc).map (fun d => d.parameters.length) = some n) (hR : rm.frames + 1 ≤ R.frames ∧ 8 + (maxL + 11) + rm.locals ≤ R.locals)
    (isC isR is2 : List Nat) (hC : isC.map (fun i => ws[i]?) = wc.map some) (hnC : va_nd isC = true) (hRr : isR.map (fun i => ws[i]?) = (isR.filterMap (fun i => ws[i]?)).map some) (hn : va_nd isR = true) (hdis : isR.all (fun i => !(isC.contains i)) = true) (h2 : is2.map (fun i => (isR.filterMap (fun i => ws[i]?) ++ w1)[i]?) = w2.map some) (hn2 : va_nd is2 = true)
    (hAs : As.length = n) (hls : ls.size = nL) (hst : st0 = As.reverse ++ rest) (hW : (rest.map fun v => v.category).sum ≤ 8) (hcs : cells ≤ R.cells ∧ slots ≤ R.slots) (hdg : decode cc pc = .ok (.invokestatic index, 3))
    (kk : ∀ (H1 : Heap) (locs1 : List Loc), DB D A w2 s H1 locs1 → W p l e R s m args below meth c H1 locs1 cells slots Q (F0 m (pc + 3) ls (rest))) : W p l e R s m args below meth c H locs cells slots Q (F0 m pc ls st0) := by
  have hPc : va_P D vwCl wc H := kb_P B.1 isC hC
  have hDc : va_D A wc := B.2.1.sub isC hnC hC
  have hFc := va_free (wc := wc) B.2.1 B.2.2 C.2.2.2.2 isC hC
  refine va_callv (va_runS (As := As) (rest := rest) C.1 (hM H.size) (va_cwS n C.1.2.2.2.2 hG hw hrm.1 hrm.2 hd hR) ⟨fun a U g mk q => by obtain ⟨q0, q1, qP, qK, qD, qZ⟩ := q; exact ⟨q0, q1, qP, va_K.moved (u := U) (U := U.calling g mk a) (Vm.Alike.refl U.vm) qK, qD, sz_E.same (u := U) (U := U.calling g mk a) rfl (Vm.Alike.refl U.vm) qZ⟩, fun U hU hW => ⟨rfl, by rw [hU], by rw [hU]; exact hPc, va_K.moved hW.alike C.2.2.1, hDc.weaken (fun _ _ _ _ => trivial), by rw [hU]; exact ((C.2.2.2.1.kept B.2.2.2.1).narrow hFc).warm hW⟩⟩ rfl hAs hls hst (lv_room hW) hdg hcs) B.2.2 (fun q _ h => hFc q h) hFc (fun u t H1 locs1 ht hvm hw2 hB hz1 hk1 hS => ?_)
  obtain ⟨hP1, hK1, hD1⟩ := hB
  rw [ht] at hP1
  obtain ⟨hP, hD⟩ := va_join (w1 := w1) B.1 B.2.1 isC isR hC hRr hn (kb_dis hdis) hk1 hFc hP1 hD1
  exact kk H1 locs1 ⟨kb_P hP is2 h2, hD.sub is2 hn2 h2, hS⟩
theorem kc_SA (C : CT p s m args meth c own cc nL ret Ts D A tys Es) (B : DB D A ws s H locs) {y : MethodName} {bytes : ByteArray} {maxL index n : Nat} {rt : Option FieldType} {wsy wsy' : List Cond} {rm : Room} {As st0 : List Value} {res : Nat} {wc w1 w2 : va_W}
    (hM : CtA l y wsy rm D tys Es As wc res w1) (hG : GoodIn Ts (va_wsS own index y wsy)) (hw : wsy = Cond.code y bytes maxL rt :: wsy') (hrm : rm.cells = 0 ∧ rm.slots = 0) (hd : y.cls ≠ "java/lang/invoke/MethodHandle" ∧ y.cls ≠ "java/lang/invoke/VarHandle" ∧ (parseMethodDescriptor y.desc).map (fun d => d.parameters.length) = some n) (hR : rm.frames + 1 ≤ R.frames ∧ 8 + (maxL + 11) + rm.locals ≤ R.locals)
    (isC isR is2 : List Nat) (hC : isC.map (fun i => ws[i]?) = wc.map some) (hnC : va_nd isC = true) (hRr : isR.map (fun i => ws[i]?) = (isR.filterMap (fun i => ws[i]?)).map some) (hn : va_nd isR = true) (hdis : isR.all (fun i => !(isC.contains i)) = true) (h2 : is2.map (fun i => (isR.filterMap (fun i => ws[i]?) ++ w1)[i]?) = w2.map some) (hn2 : va_nd is2 = true)
    (hAs : As.length = n) (hls : ls.size = nL) (hst : st0 = As.reverse ++ rest) (hW : (rest.map fun v => v.category).sum ≤ 8) (hcs : cells ≤ R.cells ∧ slots ≤ R.slots) (hdg : decode cc pc = .ok (.invokestatic index, 3))
    (kk : ∀ (H1 : Heap) (locs1 : List Loc), DB D A w2 s H1 locs1 → W p l e R s m args below meth c H1 locs1 cells slots Q (F0 m (pc + 3) ls (.ref (Es.1 res) :: rest))) : W p l e R s m args below meth c H locs cells slots Q (F0 m pc ls st0) := by
  have hPc : va_P D vwCl wc H := kb_P B.1 isC hC
  have hDc : va_D A wc := B.2.1.sub isC hnC hC
  have hFc := va_free (wc := wc) B.2.1 B.2.2 C.2.2.2.2 isC hC
  refine va_callr (va_runS (As := As) (rest := rest) C.1 (hM H.size) (va_cwS n C.1.2.2.2.2 hG hw hrm.1 hrm.2 hd hR) ⟨fun a U g mk q => by obtain ⟨q0, q1, qP, qK, qD, qZ⟩ := q; exact ⟨q0, q1, qP, va_K.moved (u := U) (U := U.calling g mk a) (Vm.Alike.refl U.vm) qK, qD, sz_E.same (u := U) (U := U.calling g mk a) rfl (Vm.Alike.refl U.vm) qZ⟩, fun U hU hW => ⟨rfl, by rw [hU], by rw [hU]; exact hPc, va_K.moved hW.alike C.2.2.1, hDc.weaken (fun _ _ _ _ => trivial), by rw [hU]; exact ((C.2.2.2.1.kept B.2.2.2.1).narrow hFc).warm hW⟩⟩ rfl hAs hls hst (lv_room hW) hdg hcs) B.2.2 (fun q _ h => hFc q h) hFc (fun u ra t H1 locs1 ht hvm hw2 hB hz1 hk1 hS => ?_)
  obtain ⟨hr9, hP1, hK1, hD1⟩ := hB
  subst hr9
  rw [ht] at hP1
  obtain ⟨hP, hD⟩ := va_join (w1 := w1) B.1 B.2.1 isC isR hC hRr hn (kb_dis hdis) hk1 hFc hP1 hD1
  exact kk H1 locs1 ⟨kb_P hP is2 h2, hD.sub is2 hn2 h2, hS⟩
theorem kc_TI (C : CT p s m args meth c own cc nL ret Ts D A tys Es) (B : DB D A ws s H locs) {y : MethodName} {bytes : ByteArray} {maxL index n : Nat} {rt : Option FieldType} {wsy wsy' : List Cond} {rm : Room} {kn : Nat} {As st0 : List Value} {res : Int32} {wc w1 w2 : va_W}
    (hM : CtI l y wsy rm D tys Es (.ref (Es.1 kn) :: As) wc res w1) (hG : GoodIn Ts (wsV own index "java/lang/String" y wsy)) (hw : wsy = Cond.code y bytes maxL rt :: wsy') (hrm : rm.cells = 0 ∧ rm.slots = 0) (hd : y.cls = "java/lang/String" ∧ y.cls ≠ "java/lang/invoke/MethodHandle" ∧ y.cls ≠ "java/lang/invoke/VarHandle" ∧ (parseMethodDescriptor y.desc).map (fun d => d.parameters.length) = some n) (hR : rm.frames + 1 ≤ R.frames ∧ 8 + (maxL + 11) + rm.locals ≤ R.locals)
    (hkn : kn < 3) (isC isR is2 : List Nat) (hC : isC.map (fun i => ws[i]?) = wc.map some) (hnC : va_nd isC = true) (hRr : isR.map (fun i => ws[i]?) = (isR.filterMap (fun i => ws[i]?)).map some) (hn : va_nd isR = true) (hdis : isR.all (fun i => !(isC.contains i)) = true) (h2 : is2.map (fun i => (isR.filterMap (fun i => ws[i]?) ++ w1)[i]?) = w2.map some) (hn2 : va_nd is2 = true)
    (hAs : As.length = n) (hls : ls.size = nL) (hst : st0 = As.reverse ++ .ref (Es.1 kn) :: rest) (hW : (rest.map fun v => v.category).sum ≤ 8) (hcs : cells ≤ R.cells ∧ slots ≤ R.slots) (hdg : decode cc pc = .ok (.invokevirtual index, 3))
    (kk : ∀ (H1 : Heap) (locs1 : List Loc), DB D A w2 s H1 locs1 → W p l e R s m args below meth c H1 locs1 cells slots Q (F0 m (pc + 3) ls (.int res :: rest))) : W p l e R s m args below meth c H locs cells slots Q (F0 m pc ls st0) := by
  have hPc : va_P D vwCl wc H := kb_P B.1 isC hC
  have hDc : va_D A wc := B.2.1.sub isC hnC hC
  have hFc := va_free (wc := wc) B.2.1 B.2.2 C.2.2.2.2 isC hC
  refine va_calli (va_runV (As := As) (rest := rest) C.1 (hM H.size) (cwV n C.1.2.2.2.2 hG hw hrm.1 hrm.2 hd hR) ⟨fun a U g mk q => by obtain ⟨q0, q1, qP, qK, qD, qZ⟩ := q; exact ⟨q0, q1, qP, va_K.moved (u := U) (U := U.calling g mk a) (Vm.Alike.refl U.vm) qK, qD, sz_E.same (u := U) (U := U.calling g mk a) rfl (Vm.Alike.refl U.vm) qZ⟩, vk_recv C.2.2.2.1.1 hkn B.2.2, fun U hU hW => ⟨rfl, by rw [hU], by rw [hU]; exact hPc, va_K.moved hW.alike C.2.2.1, hDc.weaken (fun _ _ _ _ => trivial), by rw [hU]; exact ((C.2.2.2.1.kept B.2.2.2.1).narrow hFc).warm hW⟩⟩ rfl hAs hls hst (lv_room hW) hdg hcs) B.2.2 (fun q _ h => hFc q h) hFc (fun r u t H1 locs1 ht hvm hw2 hB hz1 hk1 hS => ?_)
  subst hw2
  obtain ⟨hP1, hK1, hD1⟩ := hB
  rw [ht] at hP1
  obtain ⟨hP, hD⟩ := va_join (w1 := w1) B.1 B.2.1 isC isR hC hRr hn (kb_dis hdis) hk1 hFc hP1 hD1
  exact kk H1 locs1 ⟨kb_P hP is2 h2, hD.sub is2 hn2 h2, hS⟩
end KB
