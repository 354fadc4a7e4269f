/-! which tests notice which change -/
def RX (lo mi hi : Nat → Int64) (m : Nat) (F : Nat → Nat) (G : Nat → Nat → Nat) : Prop := m ≤ 96 ∧ (∀ x, F x < 8) ∧ (∀ j x, G j x < 8) ∧ RV lo mi hi 0 F ∧ ∀ j, j < m → RV lo mi hi (2 + j) (G j)
def LX (m : Nat) (F : Nat → Nat) (G : Nat → Nat → Nat) (ca : Int32) (rs ow : Nat → Int32) : Prop := ca = nI m ∧ (∀ x, x < 512 → ow x = nI (F x)) ∧ ∀ j, j < m → ∀ x, x < 512 → rs (512 * j + x) = nI (G j x)
theorem st_tn {N m j T : Nat} {lo mi hi : Nat → Int64} {F : Nat → Nat} {G : Nat → Nat → Nat} {ti td : Nat → Nat} {ci cd mt md : Nat → Int32} (hN : 60 ≤ N) (hR : RX lo mi hi m F G) (hj : j < m) (hT : TE T ti td ci cd mt md) : fX4_testsThatNotice N lo mi hi ci (nI T) (nI j) = some (nI (ntF F (G j) ti T)) := by
  obtain ⟨h1, h2, h3, h4, h5⟩ := hR
  obtain ⟨t1, t2⟩ := hT
  rw [fX4_testsThatNotice]
  refine lpd (m := T) (g := fun n t (s : Nat) => bX4_testsThatNotice_4 N lo mi hi ci (nI T) n (nI j) (nI s) (nI t)) (ntF F (G j) ti) (fun n => ?_) (fun n t ht => ?_) T 0 N (by omega) (by omega)
  · rw [bX4_testsThatNotice_4, if_pos (nI_le (Nat.le_refl _) (by omega))]
  · obtain ⟨a1, a2, a3, a4, a5, a6⟩ := t2 t ht
    rw [bX4_testsThatNotice_4, if_neg (nI_ge ht (by omega)), un_bnd (show t < 14 by omega) (by decide), un_cl (by omega), a1, show (2 : Int32) + nI j = nI (2 + j) from nI_add 2 j, show fX7_isUnlikeAt N lo mi hi (nI (2 + j)) 0 (nI (ti t)) = _ from st_isUnlike (h5 j hj) h4 (h3 j) h2 (by omega) (by decide) a3, Option.bind_some, nI_1, ntF]
    by_cases q : G j (ti t) = F (ti t)
    · rw [if_pos q, if_pos q, if_pos rfl]; rfl
    · rw [if_neg q, if_neg q, if_neg (by decide), sh1 t (by omega), nx_or', or_pow (ntF_lt t)]
theorem st_settle {N m T : Nat} {lo mi hi : Nat → Int64} {F : Nat → Nat} {G : Nat → Nat → Nat} {ti td : Nat → Nat} {ci cd mt md bs : Nat → Int32} (hN : 600 ≤ N) (hR : RX lo mi hi m F G) (hT : TE T ti td ci cd mt md) : ∃ bs', fX4_settle N lo mi hi (nI m) ci (nI T) bs = some bs' ∧ ∀ j, j < m → bs' j = nI (ntF F (G j) ti T) := by
  have h1 := hR.1
  rw [fX4_settle]
  refine lp (g := fun n j s => bX4_settle_2 N lo mi hi (nI m) ci (nI T) n (nI j) s) (fun j s => ∀ i, i < j → s i = nI (ntF F (G i) ti T)) (fun s => some s) (fun n s hs => ?_) (fun n j s hj hs => ?_) m 0 N bs (by omega) (by omega) (fun i hi => absurd hi (Nat.not_lt_zero i))
  · rw [bX4_settle_2, if_pos (nI_le (Nat.le_refl _) (by omega))]
  · refine ⟨upd s j (nI (ntF F (G j) ti T)), ?_, fun i hi => ?_⟩
    · rw [bX4_settle_2, if_neg (nI_ge hj (by omega)), st_tn (by omega) hR hj hT, Option.bind_some, un_bnd (show j < 96 by omega) (by decide), un_cl (by omega), nI_1]
    · by_cases e : i = j
      · subst e; exact pk_us
      · rw [pk_un e]; exact hs i (by omega)
theorem fn_in {N m j T : Nat} {F : Nat → Nat} {G : Nat → Nat → Nat} {ti td : Nat → Nat} {ci cd mt md ns nz nm vs mn ms df rs ow : Nat → Int32} {il ca : Int32} {k6 : Int32 → (Nat → Int32) → (Int32) → (Int32) → (Nat → Int32) → (Nat → Int32) → (Nat → Int32) → (Nat → Int32) → (Nat → Int32) → (Nat → Int32) → Option ((Nat → Int32) × (Int32) × (Int32) × (Nat → Int32) × (Nat → Int32) × (Nat → Int32) × (Nat → Int32) × (Nat → Int32) × (Nat → Int32))} (hN : 60 ≤ N) (hm : m ≤ 96) (hF : ∀ x, F x < 8) (hG : ∀ j x, G j x < 8) (hL : LX m F G ca rs ow) (hj : j < m) (hT : TE T ti td ci cd mt md) (nt : Nat → Int32) (h0 : nt j = 0) : ∃ nt', bX12_findNoticed_23 N ns nz nm kn0 mt (nI T) k6 N (nI j) 0 vs il ca mn ms df rs ow nt = k6 (nI (j + 1)) vs il ca mn ms df rs ow nt' ∧ (nt' j = nI (ntF F (G j) ti T) ∧ ∀ i, i < j → nt' i = nt i) := by
  obtain ⟨l1, l2, l3⟩ := hL
  obtain ⟨t1, t2⟩ := hT
  refine lp (g := fun n t s => bX12_findNoticed_23 N ns nz nm kn0 mt (nI T) k6 n (nI j) (nI t) vs il ca mn ms df rs ow s) (fun t s => s j = nI (ntF F (G j) ti t) ∧ ∀ i, i < j → s i = nt i) (fun s => k6 (nI (j + 1)) vs il ca mn ms df rs ow s) (fun n s hs => ?_) (fun n t s ht hs => ?_) T 0 N nt (by omega) (by omega) ⟨h0, fun i _ => rfl⟩
  · rw [bX12_findNoticed_23, if_pos (nI_le (Nat.le_refl _) (by omega)), nI_1]
  · obtain ⟨a1, a2, a3, a4, a5, a6⟩ := t2 t ht
    refine ⟨upd s j (nI (ntF F (G j) ti (t + 1))), ?_, pk_us, fun i hi => by rw [pk_un (by omega)]; exact hs.2 i hi⟩
    rw [bX12_findNoticed_23, if_neg (nI_ge ht (by omega)), un_bnd (show j < 96 by omega) (by decide), un_bnd (show t < 14 by omega) (by decide), un_cl (show t < 2 ^ 31 by omega), un_cl (show j < 2 ^ 31 by omega), a2, show (512 : Int32) * nI j + nI (ti t) = nI (512 * j + ti t) by rw [show (512 : Int32) = nI 512 from rfl, pk_mul, nI_add], un_bnd (show 512 * j + ti t < 49152 by omega) (by decide), un_bnd a3 (by decide), un_cl (show 512 * j + ti t < 2 ^ 31 by omega), un_cl (show ti t < 2 ^ 31 by omega), l2 _ a3, l3 j hj _ a3, hs.1, ntF]
    have f1 := hF (ti t)
    have f2 := hG j (ti t)
    by_cases q : G j (ti t) = F (ti t)
    · rw [if_pos q, if_pos (by rw [q]), bX12_findNoticed_76, un_bnd (show j < 96 by omega) (by decide), un_cl (show j < 2 ^ 31 by omega), show (0 : Int32) = nI 0 from rfl, nx_or', Nat.or_zero, nI_1]; rfl
    · rw [if_neg q, if_neg (fun e => q ((nI_eq (by omega) (by omega)).mp e)), bX12_findNoticed_76, un_bnd (show j < 96 by omega) (by decide), un_cl (show j < 2 ^ 31 by omega), sh1 t (by omega), nx_or', or_pow (ntF_lt t), nI_1]
theorem fn_out {N m T : Nat} {F : Nat → Nat} {G : Nat → Nat → Nat} {ti td : Nat → Nat} {ci cd mt md ns nz nm vs mn ms df rs ow nt : Nat → Int32} {il : Int32} (hN : 600 ≤ N) (hm : m ≤ 96) (hF : ∀ x, F x < 8) (hG : ∀ j x, G j x < 8) (hL : LX m F G (nI m) rs ow) (hT : TE T ti td ci cd mt md) : ∃ nt', bX12_findNoticed_6 N ns nz nm kn0 mt (nI T) N 0 vs il (nI m) mn ms df rs ow nt = some (vs, il, nI m, mn, ms, df, rs, ow, nt') ∧ ∀ j, j < m → nt' j = nI (ntF F (G j) ti T) := by
  refine lp (g := fun n j s => bX12_findNoticed_6 N ns nz nm kn0 mt (nI T) n (nI j) vs il (nI m) mn ms df rs ow s) (fun j s => ∀ i, i < j → s i = nI (ntF F (G i) ti T)) (fun s => some (vs, il, nI m, mn, ms, df, rs, ow, s)) (fun n s hs => ?_) (fun n j s hj hs => ?_) m 0 N nt (by omega) (by omega) (fun i hi => absurd hi (Nat.not_lt_zero i))
  · rw [bX12_findNoticed_6, if_pos (nI_le (Nat.le_refl _) (by omega))]
  · obtain ⟨nt', q1, q2, q3⟩ := fn_in (N := N) (ns := ns) (nz := nz) (nm := nm) (vs := vs) (mn := mn) (ms := ms) (df := df) (il := il) (k6 := bX12_findNoticed_6 N ns nz nm kn0 mt (nI T) n) (by omega) hm hF hG hL hj hT (upd s j 0) pk_us
    refine ⟨nt', ?_, fun i hi => ?_⟩
    · rw [bX12_findNoticed_6, if_neg (nI_ge hj (by omega)), un_bnd (show j < 96 by omega) (by decide), un_cl (by omega), q1]
    · by_cases e : i = j
      · subst e; exact q2
      · rw [q3 i (by omega), pk_un e]; exact hs i (by omega)
/-- what the class holds of text 0 and its changes, and the reference's text 0 -/
def LH (N : Nat) (sg : Nat → Int32) (k m : Nat) (nd sn ft : Nat → Int32) (lo mi hi : Nat → Int64) (ns nz nm : Nat → Int32) : Prop := WF sg k ∧ k ≤ 24 ∧ (∀ i, i < k → ∃ c, 33 ≤ c ∧ c < 127 ∧ sg i = nI c) ∧ MT sg k 0 ns nz nm ∧ m ≤ 96 ∧ CH sg k m nd sn ∧ LC N sg k m nd sn ∧ RW sg m nd sn ft lo mi hi ∧ RV lo mi hi 0 (own sg)
def IL (sg : Nat → Int32) (m : Nat) (nd sn ft : Nat → Int32) (il ca : Int32) (mn ms df rs ow : Nat → Int32) : Prop := il = 0 ∨ (il = 1 ∧ LD sg m nd sn ft ca mn ms df rs ow)
theorem LH.rx {N k m : Nat} {sg nd sn ft ns nz nm : Nat → Int32} {lo mi hi : Nat → Int64} (h : LH N sg k m nd sn ft lo mi hi ns nz nm) : RX lo mi hi m (own sg) (gR sg nd sn) := by
  obtain ⟨h1, h2, h3, h4, h5, h6, h7, h8, h9⟩ := h
  exact ⟨h5, own_lt, fun j => gR_lt, h9, fun j hj => (h8 j hj).1⟩
theorem LD.lx {m : Nat} {sg nd sn ft mn ms df rs ow : Nat → Int32} {ca : Int32} (h : LD sg m nd sn ft ca mn ms df rs ow) : LX m (own sg) (gR sg nd sn) ca rs ow := ⟨h.1, h.2.2.1, h.2.2.2⟩
theorem st_lay2 {N k m : Nat} {sg nd sn ft ns nz nm vs mn ms df rs ow : Nat → Int32} {lo mi hi : Nat → Int64} {il ca : Int32} (hN : 600 ≤ N) (h : LH N sg k m nd sn ft lo mi hi ns nz nm) (hI : IL sg m nd sn ft il ca mn ms df rs ow) : ∃ vs' mn' ms' df' rs' ow', fX12_layChanges N ns nz nm kn0 vs il ca mn ms df rs ow = some (vs', 1, nI m, mn', ms', df', rs', ow') ∧ LD sg m nd sn ft (nI m) mn' ms' df' rs' ow' := by
  obtain ⟨h1, h2, h3, h4, h5, h6, h7, h8, h9⟩ := h
  obtain ⟨vs', ca', mn', ms', df', rs', ow', q1, q2⟩ := st_lay (N := N) (vs := vs) hN h1 h2 h3 h4 h5 h6 h7 h8 hI
  have e := q2.1
  subst e
  exact ⟨vs', mn', ms', df', rs', ow', q1, q2⟩
theorem st_fN {N k m T : Nat} {sg nd sn ft ns nz nm vs mn ms df rs ow nt ci cd mt md : Nat → Int32} {ti td : Nat → Nat} {lo mi hi : Nat → Int64} {il ca : Int32} (hN : 600 ≤ N) (h : LH N sg k m nd sn ft lo mi hi ns nz nm) (hI : IL sg m nd sn ft il ca mn ms df rs ow) (hT : TE T ti td ci cd mt md) : ∃ vs' mn' ms' df' rs' ow' nt', fX12_findNoticed N ns nz nm kn0 mt (nI T) vs il ca mn ms df rs ow nt = some (vs', 1, nI m, mn', ms', df', rs', ow', nt') ∧ LD sg m nd sn ft (nI m) mn' ms' df' rs' ow' ∧ ∀ j, j < m → nt' j = nI (ntF (own sg) (gR sg nd sn j) ti T) := by
  obtain ⟨vs', mn', ms', df', rs', ow', q1, q2⟩ := st_lay2 (vs := vs) hN h hI
  obtain ⟨nt', r1, r2⟩ := fn_out (N := N) (ns := ns) (nz := nz) (nm := nm) (vs := vs') (mn := mn') (ms := ms') (df := df') (nt := nt) (il := 1) hN h.rx.1 own_lt (fun j => gR_lt) q2.lx hT
  exact ⟨vs', mn', ms', df', rs', ow', nt', by rw [fX12_findNoticed, q1, Option.bind_some]; exact r1, q2, r2⟩
