/-! the list of changes: class and reference; their rows of results -/
def clf (N : Nat) (sg : Nat → Int32) : Nat → Nat → (Nat → Int32) → (Nat → Int32) → Int32 → Option ((Nat → Int32) × (Nat → Int32) × Int32)
  | 0, _, nd, sn, m => some (nd, sn, m)
  | d + 1, i, nd, sn, m => Option.bind (fX1_listOfNode N (nI i) (sg i) nd sn m) (fun r => clf N sg d (i + 1) r.1 r.2.1 r.2.2)
theorem cl_loop {N k : Nat} {sg ns nm : Nat → Int32} (hN : 60 ≤ N) (h : WF sg k) (hk : k ≤ 24) (hs : ∀ i, i < k → ∃ c, 33 ≤ c ∧ c < 127 ∧ sg i = nI c) (hns : ∀ i, i < k → ns i = sg i) (hnm : nm 0 = nI k) : ∀ (d i nB m : Nat) (nd sn mn ms : Nat → Int32), i + d = k → d < nB → m ≤ 4 * i → CE sg k m nd sn mn ms →
    ∃ m' nd' sn' mn' ms', m' ≤ 96 ∧ clf N sg d i nd sn (nI m) = some (nd', sn', nI m') ∧ (∀ nz vs il df rs ow, bX12_layChanges_15 N ns nz nm kn0 nB (nI i) vs il (nI m) mn ms df rs ow = bX12_layChanges_38 N ns nz nm kn0 N 0 vs il (nI m') mn' ms' df rs ow) ∧ CE sg k m' nd' sn' mn' ms' := by
  intro d
  induction d with
  | zero =>
    intro i nB m nd sn mn ms hi hB hm hC
    obtain ⟨nB, rfl⟩ : ∃ z, nB = z + 1 := ⟨nB - 1, by omega⟩
    have e : i = k := by omega
    subst e
    refine ⟨m, nd, sn, mn, ms, by omega, rfl, fun nz vs il df rs ow => ?_, hC⟩
    rw [bX12_layChanges_15, show nm (Int32.toNatClampNeg 0) = nI i from hnm, if_pos (nI_le (Nat.le_refl _) (by omega))]
  | succ d ih =>
    intro i nB m nd sn mn ms hi hB hm hC
    obtain ⟨nB, rfl⟩ : ∃ z, nB = z + 1 := ⟨nB - 1, by omega⟩
    obtain ⟨m1, nd1, sn1, mn1, ms1, q1, q2, q3, q4⟩ := st_node (N := N) (ns := ns) hN h hk (show i < k by omega) (hs i (by omega)) (hns i (by omega)) (show m ≤ 92 by omega) hC
    obtain ⟨m', nd', sn', mn', ms', r1, r2, r3, r4⟩ := ih (i + 1) nB m1 nd1 sn1 mn1 ms1 (by omega) (by omega) (by omega) q4
    refine ⟨m', nd', sn', mn', ms', r1, ?_, fun nz vs il df rs ow => ?_, r4⟩
    · rw [clf, q2]; exact r2
    · rw [bX12_layChanges_15, show nm (Int32.toNatClampNeg 0) = nI k from hnm, if_neg (nI_ge (by omega) (by omega)), q3, Option.bind_some, nI_1]; exact r3 nz vs il df rs ow
theorem cl_run {N k : Nat} {sg wa pn : Nat → Int32} {wl wm wh who lo mi hi : Nat → Int64} {ft : Nat → Int32} (hk : k ≤ 24) : ∀ (d i nA : Nat) (nd sn nd' sn' : Nat → Int32) (m m' : Int32), i + d = k → d < nA → clf N sg d i nd sn m = some (nd', sn', m') →
    bX1_list_7 N sg wa pn (nI k) nA (nI i) wl wm wh who lo mi hi nd sn ft m = bX1_list_34 N sg wa pn (nI k) N 0 wl wm wh who lo mi hi nd' sn' ft m' := by
  intro d
  induction d with
  | zero =>
    intro i nA nd sn nd' sn' m m' hi hA hc
    obtain ⟨nA, rfl⟩ : ∃ z, nA = z + 1 := ⟨nA - 1, by omega⟩
    have e : i = k := by omega
    subst e
    cases hc
    rw [bX1_list_7, if_pos (nI_le (Nat.le_refl _) (by omega))]
  | succ d ih =>
    intro i nA nd sn nd' sn' m m' hi hA hc
    obtain ⟨nA, rfl⟩ : ∃ z, nA = z + 1 := ⟨nA - 1, by omega⟩
    rw [clf] at hc
    obtain ⟨⟨a, b, c⟩, g1, g2⟩ := ob_some hc
    rw [bX1_list_7, if_neg (nI_ge (by omega) (by omega)), un_bnd (by omega) (by decide), un_cl (by omega), g1, Option.bind_some, nI_1]
    exact ih (i + 1) nA _ _ _ _ _ _ (by omega) (by omega) g2
/-- a change's signs, its results -/
def chS (sg nd sn : Nat → Int32) (j i : Nat) : Int32 := if nI i = nd j then sn j else sg i
def own (sg : Nat → Int32) (x : Nat) : Nat := val sg sg x 0
def gR (sg nd sn : Nat → Int32) (j x : Nat) : Nat := val sg (chS sg nd sn j) x 0
theorem own_lt {sg : Nat → Int32} (x : Nat) : own sg x < 8 := val_lt
theorem gR_lt {sg nd sn : Nat → Int32} {j : Nat} (x : Nat) : gR sg nd sn j x < 8 := val_lt
def LC (N : Nat) (sg : Nat → Int32) (k m : Nat) (nd sn : Nat → Int32) : Prop := ∀ (ns nm mn ms : Nat → Int32), (∀ i, i < k → ns i = sg i) → nm 0 = nI k → ∃ mn' ms', (∀ nz vs il df rs ow, bX12_layChanges_15 N ns nz nm kn0 N 0 vs il 0 mn ms df rs ow = bX12_layChanges_38 N ns nz nm kn0 N 0 vs il (nI m) mn' ms' df rs ow) ∧ CE sg k m nd sn mn' ms'
def CH (sg : Nat → Int32) (k m : Nat) (nd sn : Nat → Int32) : Prop := ∀ j, j < m → ∃ i c, i < k ∧ 33 ≤ c ∧ c < 127 ∧ nd j = nI i ∧ sn j = nI c ∧ pw (nI c) = pw (sg i)
def RW (sg : Nat → Int32) (m : Nat) (nd sn ft : Nat → Int32) (lo mi hi : Nat → Int64) : Prop := ∀ j, j < m → RV lo mi hi (2 + j) (gR sg nd sn j) ∧ ft j = nI (cntB (dif (gR sg nd sn j) (own sg)) 512)
theorem SC_own {sg : Nat → Int32} {k : Nat} (hs : ∀ i, i < k → ∃ c, 33 ≤ c ∧ c < 127 ∧ sg i = nI c) : SC sg sg k := fun i hi => ⟨rfl, hs i hi⟩
theorem SC_chg {sg nd sn : Nat → Int32} {k m j : Nat} (hk : k ≤ 24) (hs : ∀ i, i < k → ∃ c, 33 ≤ c ∧ c < 127 ∧ sg i = nI c) (hc : CH sg k m nd sn) (hj : j < m) : SC sg (chS sg nd sn j) k := fun i hi => by
  obtain ⟨i1, c, h1, h2, h3, h4, h5, h6⟩ := hc j hj
  unfold chS
  by_cases q : nI i = nd j
  · rw [if_pos q]
    rw [h4] at q
    have e : i = i1 := (nI_eq (by omega) (by omega)).mp q
    subst e
    exact ⟨by rw [h5, h6], c, h2, h3, h5⟩
  · rw [if_neg q]; exact ⟨rfl, hs i hi⟩
theorem rw_loop {N k m : Nat} {sg wa ow pl sp pn nd sn : Nat → Int32} (hN : 600 ≤ N) (h : WF sg k) (hk : k ≤ 24) (hs : ∀ i, i < k → ∃ c, 33 ≤ c ∧ c < 127 ∧ sg i = nI c) (hT : TXs sg k 0 wa ow pl sp pn) (hm : m ≤ 96) (hc : CH sg k m nd sn) : ∀ (d j n : Nat), j + d = m → d < n → ∀ (wl wm wh who lo mi hi : Nat → Int64) (ft : Nat → Int32), RV lo mi hi 0 (own sg) → RW sg j nd sn ft lo mi hi →
    ∃ wl' wm' wh' who' lo' mi' hi' ft', bX1_list_34 N sg wa pn (nI k) n (nI j) wl wm wh who lo mi hi nd sn ft (nI m) = some (wl', wm', wh', who', lo', mi', hi', nd, sn, ft', nI m) ∧ RW sg m nd sn ft' lo' mi' hi' ∧ (∀ c, c < 16 → lo' c = lo c ∧ mi' c = mi c ∧ hi' c = hi c) := by
  intro d
  induction d with
  | zero =>
    intro j n hj hn wl wm wh who lo mi hi ft h0 hR
    obtain ⟨n, rfl⟩ : ∃ z, n = z + 1 := ⟨n - 1, by omega⟩
    have e : j = m := by omega
    subst e
    refine ⟨wl, wm, wh, who, lo, mi, hi, ft, ?_, hR, fun c _ => ⟨rfl, rfl, rfl⟩⟩
    rw [bX1_list_34, if_pos (nI_le (Nat.le_refl _) (by omega))]
  | succ d ih =>
    intro j n hj hn wl wm wh who lo mi hi ft h0 hR
    obtain ⟨n, rfl⟩ : ∃ z, n = z + 1 := ⟨n - 1, by omega⟩
    obtain ⟨wl1, wm1, wh1, who1, lo1, mi1, hi1, q1, q2, q3⟩ := st_row (N := N) (row := 2 + j) (ch := nd j) (sgn := sn j) (wl := wl) (wm := wm) (wh := wh) (who := who) (lo := lo) (mi := mi) (hi := hi) (by omega) h hk (SC_chg hk hs hc (show j < m by omega)) hT (fun i hi => rfl) (by omega)
    have h01 : RV lo1 mi1 hi1 0 (own sg) := h0.keep (fun w hw => q3 _ (Or.inl (by omega)))
    have hR1 : ∀ j', j' < j → RV lo1 mi1 hi1 (2 + j') (gR sg nd sn j') := fun j' hj' => (hR j' hj').1.keep (fun w hw => q3 _ (Or.inl (by omega)))
    have hum := st_unlikeMany (N := N) (by omega) q2 h01 (fun x => val_lt) own_lt (show 2 + j < 98 by omega) (show 0 < 98 by omega)
    rw [bX1_list_34, if_neg (nI_ge (by omega) (by omega)), un_bnd (by omega) (by decide), un_cl (by omega), show (2 : Int32) + nI j = nI (2 + j) from nI_add 2 j, q1, Option.bind_some]
    dsimp only
    rw [show (0 : Int32) = nI 0 from rfl, hum, Option.bind_some, nI_1]
    obtain ⟨wl', wm', wh', who', lo', mi', hi', ft', r1, r2, r3⟩ := ih (j + 1) n (by omega) (by omega) wl1 wm1 wh1 who1 lo1 mi1 hi1 (upd ft j (nI (cntB (dif (gR sg nd sn j) (own sg)) 512))) h01 (fun j' hj' => by
      by_cases e : j' = j
      · subst e; exact ⟨q2, pk_us⟩
      · exact ⟨hR1 j' (by omega), by rw [pk_un e]; exact (hR j' (by omega)).2⟩)
    refine ⟨wl', wm', wh', who', lo', mi', hi', ft', r1, r2, fun c hc => ?_⟩
    obtain ⟨a1, a2, a3⟩ := r3 c hc
    obtain ⟨b1, b2, b3⟩ := q3 c (Or.inl (by omega))
    exact ⟨a1.trans b1, a2.trans b2, a3.trans b3⟩
theorem st_list {N k : Nat} {sg wa ow pl sp pn nd sn ft : Nat → Int32} {wl wm wh who lo mi hi : Nat → Int64} {cnt : Int32} (hN : 600 ≤ N) (h : WF sg k) (hk : k ≤ 24) (hs : ∀ i, i < k → ∃ c, 33 ≤ c ∧ c < 127 ∧ sg i = nI c) (hT : TXs sg k 0 wa ow pl sp pn) (h0 : RV lo mi hi 0 (own sg)) :
    ∃ wl' wm' wh' who' lo' mi' hi' nd' sn' ft' m, fX1_list N sg wa pn (nI k) wl wm wh who lo mi hi nd sn ft cnt = some (wl', wm', wh', who', lo', mi', hi', nd', sn', ft', nI m) ∧ m ≤ 96 ∧ CH sg k m nd' sn' ∧ LC N sg k m nd' sn' ∧ RW sg m nd' sn' ft' lo' mi' hi' ∧ (∀ c, c < 16 → lo' c = lo c ∧ mi' c = mi c ∧ hi' c = hi c) := by
  have key := fun (ns nm mn ms : Nat → Int32) (h1 : ∀ i, i < k → ns i = sg i) (h2 : nm 0 = nI k) => cl_loop (N := N) (by omega) h hk hs h1 h2 k 0 N 0 nd sn mn ms (by omega) (by omega) (by omega) (fun j hj => absurd hj (Nat.not_lt_zero j))
  obtain ⟨m, nd', sn', mn0, ms0, a1, a2, _, a4⟩ := key sg (fun _ => nI k) sg sg (fun _ _ => rfl) rfl
  have hc : CH sg k m nd' sn' := fun j hj => (a4 j hj).2.2
  obtain ⟨wl', wm', wh', who', lo', mi', hi', ft', r1, r2, r3⟩ := rw_loop (N := N) hN h hk hs hT a1 hc m 0 N (by omega) (by omega) wl wm wh who lo mi hi ft h0 (fun j hj => absurd hj (Nat.not_lt_zero j))
  refine ⟨wl', wm', wh', who', lo', mi', hi', nd', sn', ft', m, ?_, a1, hc, fun ns nm mn ms h1 h2 => ?_, r2, r3⟩
  · rw [fX1_list, show (0 : Int32) = nI 0 from rfl, cl_run hk k 0 N nd sn nd' sn' _ _ (by omega) (by omega) a2]; exact r1
  · obtain ⟨m2, nd2, sn2, mn', ms', b1, b2, b3, b4⟩ := key ns nm mn ms h1 h2
    have e := a2.symm.trans b2
    have e1 : nd' = nd2 := congrArg Prod.fst (Option.some.inj e)
    have e2 : sn' = sn2 := congrArg (fun z => z.2.1) (Option.some.inj e)
    have e3 : nI m = nI m2 := congrArg (fun z => z.2.2) (Option.some.inj e)
    have e4 : m = m2 := (nI_eq (by omega) (by omega)).mp e3
    subst e1; subst e2; subst e4
    exact ⟨mn', ms', b3, b4⟩
