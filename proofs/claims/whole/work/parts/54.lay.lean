/-! the reference's table of changes and results -/
def MT (sg : Nat → Int32) (k xi : Nat) (ns nz nm : Nat → Int32) : Prop := (∀ i, i < k → ns (24 * xi + i) = sg i) ∧ (∀ i, i < k → nz (24 * xi + i) = nI (en sg i - i)) ∧ nm xi = nI k
def LD (sg : Nat → Int32) (m : Nat) (nd sn ft : Nat → Int32) (ca : Int32) (mn ms df rs ow : Nat → Int32) : Prop := ca = nI m ∧ (∀ j, j < m → mn j = nd j ∧ ms j = sn j ∧ df j = ft j) ∧ (∀ x, x < 512 → ow x = nI (own sg x)) ∧ (∀ j, j < m → ∀ x, x < 512 → rs (512 * j + x) = nI (gR sg nd sn j x))
theorem nI_m6 : ∀ i, i < 48 → ¬ nI i = (-6 : Int32) := by decide +kernel
theorem st_ownM {N k x xi : Nat} {sg ns nz nm vs : Nat → Int32} (hN : 60 ≤ N) (h : WF sg k) (hk : k ≤ 24) (hs : ∀ i, i < k → ∃ c, 33 ≤ c ∧ c < 127 ∧ sg i = nI c) (hxi : xi < 2) (hx : x < 512) (hM : MT sg k xi ns nz nm) : ∃ vs', fX12_work N ns nz nm (nI xi) (nI x) (-6) 0 vs = some vs' ∧ (∀ c, c < k → vs' c = nI (val sg sg x c)) :=
  st_workM hN h hk (SC_own hs) hxi hx hM.1 hM.2.1 hM.2.2 (fun i hi => by rw [if_neg (nI_m6 i (by omega))])
theorem lay38 {N k : Nat} {sg ns nz nm mn ms df rs : Nat → Int32} {il ca : Int32} (hN : 600 ≤ N) (h : WF sg k) (hk : k ≤ 24) (hs : ∀ i, i < k → ∃ c, 33 ≤ c ∧ c < 127 ∧ sg i = nI c) (hM : MT sg k 0 ns nz nm) : ∀ (d x n : Nat), x + d = 512 → d < n → ∀ (vs ow : Nat → Int32), (∀ y, y < x → ow y = nI (own sg y)) →
    ∃ vs' ow', bX12_layChanges_38 N ns nz nm kn0 n (nI x) vs il ca mn ms df rs ow = bX12_layChanges_74 N ns nz nm kn0 N 0 vs' il ca mn ms df rs ow' ∧ (∀ y, y < 512 → ow' y = nI (own sg y)) := by
  intro d
  induction d with
  | zero =>
    intro x n hx hn vs ow ho
    obtain ⟨n, rfl⟩ : ∃ z, n = z + 1 := ⟨n - 1, by omega⟩
    have e : x = 512 := by omega
    subst e
    refine ⟨vs, ow, ?_, ho⟩
    rw [bX12_layChanges_38, if_pos (by decide)]
  | succ d ih =>
    intro x n hx hn vs ow ho
    obtain ⟨n, rfl⟩ : ∃ z, n = z + 1 := ⟨n - 1, by omega⟩
    obtain ⟨vs1, q1, q2⟩ := st_ownM (N := N) (vs := vs) (by omega) h hk hs (show 0 < 2 by omega) (show x < 512 by omega) hM
    have h1 := h.1
    obtain ⟨vs', ow', r1, r2⟩ := ih (x + 1) n (by omega) (by omega) vs1 (upd ow x (vs1 0)) (fun y hy => by
      by_cases e : y = x
      · subst e; rw [pk_us, q2 0 (by omega)]; rfl
      · rw [pk_un e]; exact ho y (by omega))
    refine ⟨vs', ow', ?_, r2⟩
    rw [bX12_layChanges_38, if_neg (show ¬ (512 : Int32) ≤ nI x from nI_ge (b := 512) (by omega) (by decide)), show fX12_work N ns nz nm 0 (nI x) (-6) 0 vs = some vs1 from q1, Option.bind_some, un_bnd (by omega) (by decide), un_cl (by omega), nI_1]
    exact r1
theorem lay91 {N k m j : Nat} {sg ns nz nm nd sn mn ms ow : Nat → Int32} {il ca : Int32} {k74 : Int32 → (Nat → Int32) → (Int32) → (Int32) → (Nat → Int32) → (Nat → Int32) → (Nat → Int32) → (Nat → Int32) → (Nat → Int32) → Option ((Nat → Int32) × (Int32) × (Int32) × (Nat → Int32) × (Nat → Int32) × (Nat → Int32) × (Nat → Int32) × (Nat → Int32))} (hN : 600 ≤ N) (h : WF sg k) (hk : k ≤ 24) (hs : ∀ i, i < k → ∃ c, 33 ≤ c ∧ c < 127 ∧ sg i = nI c) (hM : MT sg k 0 ns nz nm) (hm : m ≤ 96) (hc : CH sg k m nd sn) (hj : j < m) (hn1 : mn j = nd j) (hn2 : ms j = sn j) (ho : ∀ y, y < 512 → ow y = nI (own sg y)) : ∀ (d x n : Nat), x + d = 512 → d < n → ∀ (vs df rs : Nat → Int32), df j = nI (cntB (dif (gR sg nd sn j) (own sg)) x) → (∀ y, y < x → rs (512 * j + y) = nI (gR sg nd sn j y)) →
    ∃ vs' df' rs', bX12_layChanges_91 N ns nz nm kn0 k74 n (nI j) (nI x) vs il ca mn ms df rs ow = k74 (nI (j + 1)) vs' il ca mn ms df' rs' ow ∧ df' j = nI (cntB (dif (gR sg nd sn j) (own sg)) 512) ∧ (∀ y, y < 512 → rs' (512 * j + y) = nI (gR sg nd sn j y)) ∧ (∀ i, i < j → df' i = df i) ∧ (∀ c, c < 512 * j → rs' c = rs c) := by
  intro d
  induction d with
  | zero =>
    intro x n hx hn vs df rs hd hr
    obtain ⟨n, rfl⟩ : ∃ z, n = z + 1 := ⟨n - 1, by omega⟩
    have e : x = 512 := by omega
    subst e
    refine ⟨vs, df, rs, ?_, hd, hr, fun _ _ => rfl, fun _ _ => rfl⟩
    rw [bX12_layChanges_91, if_pos (by decide), nI_1]
  | succ d ih =>
    intro x n hx hn vs df rs hd hr
    obtain ⟨n, rfl⟩ : ∃ z, n = z + 1 := ⟨n - 1, by omega⟩
    obtain ⟨vs1, q1, q2⟩ := st_workM (N := N) (vs := vs) (by omega) h hk (SC_chg hk hs hc hj) (show 0 < 2 by omega) (show x < 512 by omega) hM.1 hM.2.1 hM.2.2 (ch := nd j) (sgn := sn j) (fun i hi => rfl)
    have h1 := h.1
    have e0 : vs1 0 = nI (gR sg nd sn j x) := q2 0 (by omega)
    obtain ⟨vs', df', rs', r1, r2, r3, r4, r5⟩ := ih (x + 1) n (by omega) (by omega) vs1 (upd df j (nI (cntB (dif (gR sg nd sn j) (own sg)) (x + 1)))) (upd rs (512 * j + x) (vs1 0)) pk_us (fun y hy => by
      by_cases e : y = x
      · subst e; rw [pk_us, e0]
      · rw [pk_un (by omega)]; exact hr y (by omega))
    refine ⟨vs', df', rs', ?_, r2, r3, fun i hi => (r4 i hi).trans (pk_un (by omega)), fun c hc => (r5 c hc).trans (pk_un (by omega))⟩
    rw [← r1, bX12_layChanges_91, if_neg (show ¬ (512 : Int32) ≤ nI x from nI_ge (b := 512) (by omega) (by decide)), un_bnd (show j < 96 by omega) (by decide), un_cl (by omega), hn1, hn2, show fX12_work N ns nz nm 0 (nI x) (nd j) (sn j) vs = some vs1 from q1, Option.bind_some, show (512 : Int32) * nI j + nI x = nI (512 * j + x) by rw [show (512 : Int32) = nI 512 from rfl, pk_mul, nI_add], un_bnd (show 512 * j + x < 49152 by omega) (by decide), un_bnd (show x < 512 by omega) (by decide), un_cl (show 512 * j + x < 2 ^ 31 by omega), un_cl (show x < 2 ^ 31 by omega), ho x (by omega), show vs1 (Int32.toNatClampNeg 0) = vs1 0 from rfl]
    have hcn : cntB (dif (gR sg nd sn j) (own sg)) (x + 1) = cntB (dif (gR sg nd sn j) (own sg)) x + (if dif (gR sg nd sn j) (own sg) x = true then 1 else 0) := rfl
    by_cases q : vs1 0 = nI (own sg x)
    · have e1 : gR sg nd sn j x = own sg x := (nI_eq (by have := @gR_lt sg nd sn j x; omega) (by have := @own_lt sg x; omega)).mp (by rw [← e0, q])
      rw [if_pos q, bX12_layChanges_161, un_bnd (show j < 96 by omega) (by decide), un_cl (by omega), hd, hcn, if_neg (by unfold dif; rw [e1]; simp), nI_1, show (0 : Int32) = nI 0 from rfl, nI_add]
    · have e1 : ¬ gR sg nd sn j x = own sg x := fun e => q (by rw [e0, e])
      rw [if_neg q, bX12_layChanges_161, un_bnd (show j < 96 by omega) (by decide), un_cl (by omega), hd, hcn, if_pos (by unfold dif; rw [decide_eq_true e1]), nI_1, show (1 : Int32) = nI 1 from rfl, nI_add]
theorem lay74 {N k m : Nat} {sg ns nz nm nd sn mn ms ow : Nat → Int32} {il : Int32} (hN : 600 ≤ N) (h : WF sg k) (hk : k ≤ 24) (hs : ∀ i, i < k → ∃ c, 33 ≤ c ∧ c < 127 ∧ sg i = nI c) (hM : MT sg k 0 ns nz nm) (hm : m ≤ 96) (hc : CH sg k m nd sn) (hn : ∀ j, j < m → mn j = nd j ∧ ms j = sn j) (ho : ∀ y, y < 512 → ow y = nI (own sg y)) : ∀ (d j n : Nat), j + d = m → d < n → ∀ (vs df rs : Nat → Int32), (∀ i, i < j → df i = nI (cntB (dif (gR sg nd sn i) (own sg)) 512)) → (∀ i, i < j → ∀ y, y < 512 → rs (512 * i + y) = nI (gR sg nd sn i y)) →
    ∃ vs' df' rs', bX12_layChanges_74 N ns nz nm kn0 n (nI j) vs il (nI m) mn ms df rs ow = some (vs', 1, nI m, mn, ms, df', rs', ow) ∧ (∀ i, i < m → df' i = nI (cntB (dif (gR sg nd sn i) (own sg)) 512)) ∧ (∀ i, i < m → ∀ y, y < 512 → rs' (512 * i + y) = nI (gR sg nd sn i y)) := by
  intro d
  induction d with
  | zero =>
    intro j n hj hn' vs df rs hd hr
    obtain ⟨n, rfl⟩ : ∃ z, n = z + 1 := ⟨n - 1, by omega⟩
    have e : j = m := by omega
    subst e
    refine ⟨vs, df, rs, ?_, hd, hr⟩
    rw [bX12_layChanges_74, if_pos (nI_le (Nat.le_refl _) (by omega))]
  | succ d ih =>
    intro j n hj hn' vs df rs hd hr
    obtain ⟨n, rfl⟩ : ∃ z, n = z + 1 := ⟨n - 1, by omega⟩
    obtain ⟨n1, n2⟩ := hn j (by omega)
    rw [bX12_layChanges_74, if_neg (nI_ge (by omega) (by omega)), un_bnd (show j < 96 by omega) (by decide), un_cl (by omega)]
    obtain ⟨vs1, df1, rs1, q1, q2, q3, q4, q5⟩ := lay91 (N := N) (il := il) (ca := nI m) (k74 := bX12_layChanges_74 N ns nz nm kn0 n) hN h hk hs hM hm hc (show j < m by omega) n1 n2 ho 512 0 N (by omega) (by omega) vs (upd df j 0) rs pk_us (fun y hy => absurd hy (Nat.not_lt_zero y))
    rw [show (0 : Int32) = nI 0 from rfl] at q1 ⊢
    rw [q1]
    refine ih (j + 1) n (by omega) (by omega) vs1 df1 rs1 (fun i hi => ?_) (fun i hi y hy => ?_)
    · by_cases e : i = j
      · subst e; exact q2
      · rw [q4 i (by omega), pk_un e]; exact hd i (by omega)
    · by_cases e : i = j
      · subst e; exact q3 y hy
      · rw [q5 _ (by omega)]; exact hr i (by omega) y hy
theorem st_lay {N k m : Nat} {sg ns nz nm nd sn ft vs mn ms df rs ow : Nat → Int32} {lo mi hi : Nat → Int64} {il ca : Int32} (hN : 600 ≤ N) (h : WF sg k) (hk : k ≤ 24) (hs : ∀ i, i < k → ∃ c, 33 ≤ c ∧ c < 127 ∧ sg i = nI c) (hM : MT sg k 0 ns nz nm) (hm : m ≤ 96) (hc : CH sg k m nd sn) (hl : LC N sg k m nd sn) (hR : RW sg m nd sn ft lo mi hi) (hI : il = 0 ∨ (il = 1 ∧ LD sg m nd sn ft ca mn ms df rs ow)) :
    ∃ vs' ca' mn' ms' df' rs' ow', fX12_layChanges N ns nz nm kn0 vs il ca mn ms df rs ow = some (vs', 1, ca', mn', ms', df', rs', ow') ∧ LD sg m nd sn ft ca' mn' ms' df' rs' ow' := by
  rcases hI with hI | ⟨hI, hL⟩
  · rw [fX12_layChanges, if_pos hI]
    obtain ⟨mn', ms', q1, q2⟩ := hl ns nm mn ms (fun i hi => by have := hM.1 i hi; rwa [Nat.mul_zero, Nat.zero_add] at this) hM.2.2
    rw [q1]
    obtain ⟨vs1, ow', r1, r2⟩ := lay38 (N := N) (il := il) (ca := nI m) (mn := mn') (ms := ms') (df := df) (rs := rs) hN h hk hs hM 512 0 N (by omega) (by omega) vs ow (fun y hy => absurd hy (Nat.not_lt_zero y))
    rw [show (0 : Int32) = nI 0 from rfl] at r1 ⊢
    rw [r1]
    have hn : ∀ j, j < m → mn' j = nd j ∧ ms' j = sn j := fun j hj => ⟨(q2 j hj).1.symm, (q2 j hj).2.1.symm⟩
    obtain ⟨vs', df', rs', t1, t2, t3⟩ := lay74 (N := N) (il := il) hN h hk hs hM hm hc hn r2 m 0 N (by omega) (by omega) vs1 df rs (fun i hi => absurd hi (Nat.not_lt_zero i)) (fun i hi => absurd hi (Nat.not_lt_zero i))
    refine ⟨vs', nI m, mn', ms', df', rs', ow', t1, rfl, fun j hj => ⟨(hn j hj).1, (hn j hj).2, ?_⟩, r2, t3⟩
    rw [t2 j hj, (hR j hj).2]
  · subst hI
    rw [fX12_layChanges, if_neg (by decide)]
    exact ⟨vs, ca, mn, ms, df, rs, ow, rfl, hL⟩
