/-! the start: strings, statics, classes; a constructor beside another world -/
theorem eq_R {args : Array Value} {s : State} {t u : Term} {a : Nat} (h : (Cond.eq t u).before args s = true) (ht : t.eval args s none [] s = some (.ref a)) : u.eval args s none [] s = some (.ref a) := by
  cases hv : u.eval args s none [] s with
  | none => simp [Cond.before, Cond.holds, Cond.value, ht, hv] at h
  | some w =>
    simp only [Cond.before, Cond.holds, Cond.value, ht, hv] at h
    cases w <;> simp_all
def tm3 (i : Nat) : Term := Term.string RX1 (if i = 0 then 68 else if i = 1 then 74 else 76)
theorem st_Es {args : Array Value} {s : State} (hts : ∀ w ∈ lw_tbl, w.before args s = true) (hg : (Jvm.Cond.and given_1 narrow_1).before args s = true) : ∃ Es : (Nat → Nat) × (Nat → Nat), sz_E Es (fun q => s.heap.size ≤ q) s s.heap := by
  have hA : ∀ a : Nat, a < s.heap.size → ¬ (fun q : Nat => s.heap.size ≤ q) a := fun a h => Nat.not_le.mpr h
  have hs := flat_of_before _ hg
  obtain ⟨adK, adV, hS, hE⟩ := vk_Sof (args := args) (s := s) (N := 3) (tm := tm3) (len := sz_len) (byt := sz_byt) (A := fun q => s.heap.size ≤ q)
    (fun i hi => by rcases (show i = 0 ∨ i = 1 ∨ i = 2 by omega) with rfl | rfl | rfl <;> decide)
    (fun i hi => by rcases (show i = 0 ∨ i = 1 ∨ i = 2 by omega) with rfl | rfl | rfl <;> exact hs _ (by decide +kernel))
    (fun i hi => by rcases (show i = 0 ∨ i = 1 ∨ i = 2 by omega) with rfl | rfl | rfl <;> exact hs _ (by decide +kernel))
    (fun i hi => by rcases (show i = 0 ∨ i = 1 ∨ i = 2 by omega) with rfl | rfl | rfl <;> exact hs _ (by decide +kernel))
    (fun i hi => by rcases (show i = 0 ∨ i = 1 ∨ i = 2 by omega) with rfl | rfl | rfl <;> exact hs _ (by decide +kernel))
    (fun i hi j hj => by
      rcases (show i = 0 ∨ i = 1 ∨ i = 2 by omega) with rfl | rfl | rfl
      · have hj : j < 5 := hj
        rcases (show j = 0 ∨ j = 1 ∨ j = 2 ∨ j = 3 ∨ j = 4 by omega) with rfl | rfl | rfl | rfl | rfl <;> exact hs _ (by decide +kernel)
      · have hj : j < 3 := hj
        rcases (show j = 0 ∨ j = 1 ∨ j = 2 by omega) with rfl | rfl | rfl <;> exact hs _ (by decide +kernel)
      · have hj : j < 3 := hj
        rcases (show j = 0 ∨ j = 1 ∨ j = 2 by omega) with rfl | rfl | rfl <;> exact hs _ (by decide +kernel))
    (fun i j hi hj hij => by
      rcases (show i = 0 ∨ i = 1 ∨ i = 2 by omega) with rfl | rfl | rfl <;> rcases (show j = 0 ∨ j = 1 ∨ j = 2 by omega) with rfl | rfl | rfl
      · exact absurd rfl hij
      · exact Or.inl (hs _ (by decide +kernel))
      · exact Or.inl (hs _ (by decide +kernel))
      · exact Or.inr (hs _ (by decide +kernel))
      · exact absurd rfl hij
      · exact Or.inl (hs _ (by decide +kernel))
      · exact Or.inr (hs _ (by decide +kernel))
      · exact Or.inr (hs _ (by decide +kernel))
      · exact absurd rfl hij) hA
  have e0 : (Term.string RX1 68).eval args s none [] s = some (.ref (adK 0)) := hE 0 (by decide)
  have e1 : (Term.string RX1 74).eval args s none [] s = some (.ref (adK 1)) := hE 1 (by decide)
  have e2 : (Term.string RX1 76).eval args s none [] s = some (.ref (adK 2)) := hE 2 (by decide)
  have f0 : (Term.string RX9 48).eval args s none [] s = some (.ref (adK 0)) := eq_R (t := Term.string RX1 68) (hs _ (by decide +kernel)) e0
  have f1 : (Term.string RX9 55).eval args s none [] s = some (.ref (adK 1)) := eq_R (t := Term.string RX1 74) (hs _ (by decide +kernel)) e1
  have f2 : (Term.string RX9 61).eval args s none [] s = some (.ref (adK 2)) := eq_R (t := Term.string RX1 76) (hs _ (by decide +kernel)) e2
  refine ⟨(adK, adV), hS, ⟨va_Zof (hts (.laysStatic "java/lang/String" "COMPACT_STRINGS" "Z") (by decide +kernel)) (hts (.initialized "java/lang/String") (by decide +kernel)) (va_eqi (hs _ (by decide +kernel))) hA, va_Zqof (hts (.laysStatic "jdk/internal/util/Preconditions" "SIOOBE_FORMATTER" "Ljava/util/function/BiFunction;") (by decide +kernel)) (hts (.initialized "jdk/internal/util/Preconditions") (by decide +kernel)) (hs _ (by decide +kernel)) hA⟩, ?_, ?_, ?_, ?_, ?_, ?_⟩
  · exact vk_R.of (hts (.stringRef RX1 68 "+-*mM") (by decide +kernel)) e0
  · exact vk_R.of (hts (.stringRef RX1 74 "<>=") (by decide +kernel)) e1
  · exact vk_R.of (hts (.stringRef RX1 76 "abc") (by decide +kernel)) e2
  · exact vk_R.of (hts (.stringRef RX9 48 "+-*mM") (by decide +kernel)) f0
  · exact vk_R.of (hts (.stringRef RX9 55 "<>=") (by decide +kernel)) f1
  · exact vk_R.of (hts (.stringRef RX9 61 "abc") (by decide +kernel)) f2
theorem st_nw {args : Array Value} {s : State} (hts : ∀ w ∈ lw_tbl, w.before args s = true) : nw_E s :=
  ⟨va_Nw.of rfl (hts (.methodLinkNest RX11 11 yX5_init "NoticeTests") (by decide +kernel)), va_Nw.of rfl (hts (.methodLinkNest RX11 25 yX10_init "NoticeTests") (by decide +kernel)), va_AO.of (hts (.arrayOver (.object "NoticeTests$Text")) (by decide +kernel))⟩
theorem st_ar {args : Array Value} {s : State} {ty : FieldType} (hty : ∀ C : String, ty ≠ .object C) (h : (Cond.arrayClass ty).before args s = true) : ∃ cA : ClassId, ArrOfT s cA ty ∧ va_RA s cA ty := by
  obtain ⟨cA, kA, comp, h1, h2, h3⟩ := Cond.arrayClass_spec h
  refine ⟨cA, fun n z => ⟨fun k h => (by cases h), kA, h2, comp, h3⟩, ?_⟩
  cases ty with
  | object C => exact absurd rfl (hty C)
  | _ => exact h1
theorem st_aT {args : Array Value} {s : State} {C : String} (h : (Cond.arrayOver (.object C)).before args s = true) : ∃ cA : ClassId, ArrOfT s cA (.object C) ∧ va_RA s cA (.object C) := by
  obtain ⟨comp, cA, kA, f1, -, f2, f3, f4⟩ := Cond.arrayOver_spec h
  exact ⟨cA, fun n z => ⟨(fun k h => by cases h), kA, f2, comp, f3⟩, kA, comp, f2, f3, f1, f4⟩
theorem st_K {args : Array Value} {s : State} (hts : ∀ w ∈ lw_tbl, w.before args s = true) : ∃ (D : va_G) (cI cJ cT : ClassId), va_K D vwCl (tyl cI cJ cT) s := by
  have hL : ∀ w ∈ wsL_law, w.before args s = true := fun w hw => hts w (wsL_law_in w hw)
  obtain ⟨c0, i0, K0⟩ := u_known (C := RX0) (T := TX0) (N := 5) (n := 5) hL inlX0 (hts (.instantiable RX0 5) (by decide +kernel))
  obtain ⟨c1, i1, K1⟩ := u_known (C := RX1) (T := TX1) (N := 5) (n := 5) hL inlX1 (hts (.instantiable RX1 5) (by decide +kernel))
  obtain ⟨c2, i2, K2⟩ := u_known (C := RX2) (T := TX2) (N := 8) (n := 8) hL inlX2 (hts (.instantiable RX2 8) (by decide +kernel))
  obtain ⟨c3, i3, K3⟩ := u_known (C := RX3) (T := TX3) (N := 5) (n := 5) hL inlX3 (hts (.instantiable RX3 5) (by decide +kernel))
  obtain ⟨c4, i4, K4⟩ := u_known (C := RX4) (T := TX4) (N := 7) (n := 7) hL inlX4 (hts (.instantiable RX4 7) (by decide +kernel))
  obtain ⟨c5, i5, K5⟩ := u_known (C := RX5) (T := TX5) (N := 3) (n := 3) hL inlX5 (hts (.instantiable RX5 3) (by decide +kernel))
  obtain ⟨c6, i6, K6⟩ := u_known (C := RX6) (T := TX6) (N := 3) (n := 3) hL inlX6 (hts (.instantiable RX6 3) (by decide +kernel))
  obtain ⟨c7, i7, K7⟩ := u_known (C := RX7) (T := TX7) (N := 4) (n := 4) hL inlX7 (hts (.instantiable RX7 4) (by decide +kernel))
  obtain ⟨c8, i8, K8⟩ := u_known (C := RX8) (T := TX8) (N := 4) (n := 4) hL inlX8 (hts (.instantiable RX8 4) (by decide +kernel))
  obtain ⟨c9, i9, K9⟩ := u_known (C := RX9) (T := TX9) (N := 7) (n := 7) hL inlX9 (hts (.instantiable RX9 7) (by decide +kernel))
  obtain ⟨c10, i10, K10⟩ := u_known (C := RX10) (T := TX10) (N := 4) (n := 4) hL inlX10 (hts (.instantiable RX10 4) (by decide +kernel))
  obtain ⟨c11, i11, K11⟩ := u_known (C := RX11) (T := TX11) (N := 11) (n := 11) hL inlX11 (hts (.instantiable RX11 11) (by decide +kernel))
  obtain ⟨c12, i12, K12⟩ := u_known (C := RX12) (T := TX12) (N := 25) (n := 25) hL inlX12 (hts (.instantiable RX12 25) (by decide +kernel))
  obtain ⟨cI, a1, a2⟩ := st_ar (ty := .int) (fun C h => by cases h) (hts (.arrayClass .int) (by decide +kernel))
  obtain ⟨cJ, b1, b2⟩ := st_ar (ty := .long) (fun C h => by cases h) (hts (.arrayClass .long) (by decide +kernel))
  obtain ⟨cT, t1, t2⟩ := st_aT (C := "NoticeTests$Text") (hts (.arrayOver (.object "NoticeTests$Text")) (by decide +kernel))
  refine ⟨(fun k => ([c0, c1, c2, c3, c4, c5, c6, c7, c8, c9, c10, c11, c12] : List ClassId).getD k c0, fun k => ([i0, i1, i2, i3, i4, i5, i6, i7, i8, i9, i10, i11, i12] : List (Nat → Nat)).getD k i0), cI, cJ, cT, fun k q hq => ?_, fun k q hq => ?_⟩
  · match k, hq with
    | 0, hq => cases hq; exact K0
    | 1, hq => cases hq; exact K1
    | 2, hq => cases hq; exact K2
    | 3, hq => cases hq; exact K3
    | 4, hq => cases hq; exact K4
    | 5, hq => cases hq; exact K5
    | 6, hq => cases hq; exact K6
    | 7, hq => cases hq; exact K7
    | 8, hq => cases hq; exact K8
    | 9, hq => cases hq; exact K9
    | 10, hq => cases hq; exact K10
    | 11, hq => cases hq; exact K11
    | 12, hq => cases hq; exact K12
    | k + 13, hq => exact absurd (show (none : Option vw_C) = some q from hq) (fun h => by cases h)
  · match k, hq with
    | 0, hq => cases hq; exact ⟨a1, a2⟩
    | 1, hq => cases hq; exact ⟨b1, b2⟩
    | 2, hq => cases hq; exact ⟨t1, t2⟩
    | k + 3, hq => exact absurd (show (none : Option (ClassId × FieldType)) = some q from hq) (fun h => by cases h)
section K3
variable {p : Program} {l : Launch} {e : Env} {R : Room} {s : State} {m : MethodId} {args : Array Value} {below : List Frame} {meth : Method} {c : Code} {H : Heap} {locs : List Loc} {cells slots : Nat} {Q : State → Prop}
variable {own : String} {cc : ByteArray} {nL : Nat} {ret : Option FieldType} {Ts : List Cond} {D : va_G} {A : Nat → Prop} {tys : List (ClassId × FieldType)} {Es : (Nat → Nat) × (Nat → Nat)} {u v : va_W}
variable {pc : Nat} {ls : Array Slot} {rest : List Value} {a : Nat}
theorem D2_app (B : DB D A (u ++ v) s H locs) : D2 D A u v s H locs := by
  have hu : ∀ (k : Nat) (q : Nat × va_E), u[k]? = some q → (u ++ v)[k]? = some q := fun k q h => by
    rw [List.getElem?_append_left (List.getElem?_eq_some_iff.mp h).1]; exact h
  have hv : ∀ (k : Nat) (q : Nat × va_E), v[k]? = some q → (u ++ v)[u.length + k]? = some q := fun k q h => by
    rw [List.getElem?_append_right (by omega), show u.length + k - u.length = k by omega]; exact h
  refine ⟨⟨fun k q h => B.1 k q (hu k q h), ⟨fun i j x y hi hj hxy => B.2.1.1 i j x y (hu i x hi) (hu j y hj) hxy, fun k q h => B.2.1.2 k q (hu k q h)⟩, B.2.2⟩, fun k q h => B.1 _ q (hv k q h), ⟨fun i j x y hi hj hxy => ?_, fun k q h => B.2.1.2 _ q (hv k q h)⟩, fun x y hx hy hxy => ?_⟩
  · have := B.2.1.1 _ _ x y (hv i x hi) (hv j y hj) hxy
    omega
  · obtain ⟨i, hi⟩ := List.getElem?_of_mem hx
    obtain ⟨j, hj⟩ := List.getElem?_of_mem hy
    have h1 := B.2.1.1 i _ x y (hu i x hi) (hv j y hj) hxy
    have hl := (List.getElem?_eq_some_iff.mp hi).1
    omega
theorem kcVN (C : CT p s m args meth c own cc nL ret Ts D A tys Es) (B2 : D2 D A u v s H locs) (hNw : nw_E s) {y : MethodName} {bytes : ByteArray} {maxL index n mc ms : Nat} {wsy wsy' : List Cond} {rm : Room} {b : Nat} {As st0 : List Value} {w1 : (Nat → Nat) → va_W} {Pu : (Nat → Nat) → Prop}
    (hM : CtN l y wsy rm D tys Es (.ref b :: As) v w1 Pu mc ms) (hG : GoodIn Ts wsy) (hw : wsy = Cond.code y bytes maxL none :: wsy') (hrm : rm.cells = mc ∧ rm.slots = ms) (hini : Cond.initialized y.cls ∈ Ts) (hlk : Cond.methodLink own index y ∈ Ts) (hin : Cond.instanceMethod y ∈ Ts) (hy1 : y.name = "<init>") (hd : y.cls ≠ "java/lang/invoke/MethodHandle" ∧ y.cls ≠ "java/lang/invoke/VarHandle" ∧ (parseMethodDescriptor y.desc).map (fun d => d.parameters.length) = some n) (hR : rm.frames + 1 ≤ R.frames ∧ 8 + (maxL + 11) + rm.locals ≤ R.locals)
    (hAs : As.length = n) (hls : ls.size = nL) (hst : st0 = As.reverse ++ .ref b :: rest) (hW : (rest.map fun v => v.category).sum ≤ 8) (hcs : cells + mc ≤ R.cells ∧ slots + ms ≤ R.slots) (hdg : decode cc pc = .ok (.invokespecial index, 3))
    (kk : ∀ (u1 : Nat → Nat) (H1 : Heap) (locs1 : List Loc), Pu u1 → D2 D A u (w1 u1) s H1 locs1 → W p l e R s m args below meth c H1 locs1 (cells + mc) (slots + ms) Q (F0 m (pc + 3) ls rest)) : W p l e R s m args below meth c H locs cells slots Q (F0 m pc ls st0) := by
  obtain ⟨B, hPc, hDc, hX⟩ := B2
  have hFc : ∀ q, va_A v H.size q → A q := fun q h => by
    rcases h with ⟨k, e2, h⟩ | h
    · exact hDc.2 k _ h
    · exact C.2.2.2.2 q (Nat.le_trans B.2.2.1 h)
  refine va_callv (va_runI (As := As) (rest := rest) C.1 (hM H.size) (cwI n C.1.2.2.2.2 hG hw hrm.1 hrm.2 (C.1.2.2.2.2 _ hini) (C.1.2.2.2.2 _ hlk) (C.1.2.2.2.2 _ hin) hy1 hd hR) ⟨fun a U g mk q => by obtain ⟨q0, q1, qP, qK, qD, qZ, qN⟩ := q; exact ⟨q0, q1, qP, va_K.moved (u := U) (U := U.calling g mk a) (Vm.Alike.refl U.vm) qK, qD, sz_E.same (u := U) (U := U.calling g mk a) rfl (Vm.Alike.refl U.vm) qZ, nw_E.same (u := U) (U := U.calling g mk a) rfl qN⟩, fun U hU hW => ⟨rfl, by rw [hU], by rw [hU]; exact hPc, va_K.moved hW.alike C.2.2.1, hDc.weaken (fun _ _ _ _ => trivial), by rw [hU]; exact ((C.2.2.2.1.kept B.2.2.2.1).narrow hFc).warm hW, hNw.warm hW⟩⟩ rfl hAs hls hst (lv_room hW) hdg hcs) B.2.2 (fun q _ h => hFc q h) hFc (fun u1 t H1 locs1 ht hvm hw2 hB hz1 hk1 hS => ?_)
  obtain ⟨hP1, hK1, hD1⟩ := hB
  rw [ht] at hP1
  have notA : ∀ q : Nat × va_E, q ∈ u → q.1 < H.size ∧ ¬ va_A v H.size q.1 := fun q hq => by
    obtain ⟨k, hk⟩ := List.getElem?_of_mem hq
    have hl := (B.1 k q hk).lt
    refine ⟨hl, fun h => ?_⟩
    rcases h with ⟨k2, e2, h⟩ | h
    · exact hX q (q.1, e2) hq (List.mem_of_getElem? h) rfl
    · omega
  refine kk u1 H1 locs1 hw2 ⟨⟨fun k q hq => ?_, B.2.1, hS⟩, hP1, hD1.weaken (fun k q _ h => hFc q.1 h), fun x q hx hq hxq => ?_⟩
  · obtain ⟨g1, g2⟩ := notA q (List.mem_of_getElem? hq)
    exact (B.1 k q hq).kept (hk1 q.1 g1 g2)
  · obtain ⟨k, hk⟩ := List.getElem?_of_mem hq
    exact (notA x hx).2 (by rw [hxq]; exact hD1.2 k q hk)
end K3
