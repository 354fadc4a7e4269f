/-! blame, rank -/
def cR (F ti td R : Nat → Nat) (b : Bool) (i : Nat) : Nat → Nat
  | 0 => 0
  | t + 1 => cR F ti td R b i t + (if qfl F ti td t = b then R t / 2 ^ i % 2 else 0)
theorem cR_le {F ti td R : Nat → Nat} {b : Bool} {i : Nat} : ∀ t, cR F ti td R b i t ≤ t := by
  intro t
  induction t with
  | zero => exact Nat.le_refl _
  | succ t ih =>
    rw [cR]
    split <;> omega
def bU (f p u : Nat) : Nat := if f = 0 then 0 else if p = 0 then u else u * p
def bL (f p u v : Nat) : Nat := if f = 0 then 1 else if p = 0 then f else if u * p + v * f = 0 then 1 else u * p + v * f
theorem bUL_lt {f p u v : Nat} (hf : f ≤ 14) (hp : p ≤ 14) (hu : u ≤ 14) (hv : v ≤ 14) : bU f p u < 1024 ∧ bL f p u v < 1024 ∧ 0 < bL f p u v := by
  have h1 : u * p ≤ 14 * 14 := Nat.mul_le_mul hu hp
  have h2 : v * f ≤ 14 * 14 := Nat.mul_le_mul hv hf
  unfold bU bL
  split
  · omega
  · split
    · omega
    · split <;> omega
/-- what blame is, for each node, by the class and by the reference -/
def BL (F ti td R : Nat → Nat) (T k : Nat) (up lo : Nat → Int32) : Prop := ∀ i, i < k → up i = nI (bU (cntB (qfl F ti td) T) (T - cntB (qfl F ti td) T) (cR F ti td R true i T)) ∧ lo i = nI (bL (cntB (qfl F ti td) T) (T - cntB (qfl F ti td) T) (cR F ti td R true i T) (cR F ti td R false i T))
theorem cntRC {N T i : Nat} {F ti td R : Nat → Nat} {ci cd mt md rb : Nat → Int32} {lo mi hi : Nat → Int64} {b : Bool} (hN : 600 ≤ N) (h : RV lo mi hi 0 F) (hF : ∀ x, F x < 8) (hT : TE T ti td ci cd mt md) (i24 : i < 24) (hR : ∀ t, t < T → rb t = nI (R t) ∧ R t < 2 ^ 24) : fX0_countRuns N lo mi hi ci cd (nI T) rb (nI i) (if b = true then 1 else 0) = some (nI (cR F ti td R b i T)) := by
  have h14 := hT.1
  rw [fX0_countRuns]
  refine lpd (m := T) (g := fun n j (s : Nat) => bX0_countRuns_5 N lo mi hi ci cd (nI T) rb n (nI i) (if b = true then 1 else 0) (nI s) (nI j)) (fun t => cR F ti td R b i t) (fun n => ?_) (fun n j hj => ?_) T 0 N (by omega) (by omega)
  · rw [bX0_countRuns_5, if_pos (nI_le (Nat.le_refl _) (by omega))]
  · obtain ⟨r1, r2⟩ := hR j hj
    rw [bX0_countRuns_5, if_neg (nI_ge hj (by omega)), show fX8_failsFor N lo mi hi ci cd (nI j) 0 = _ from ffC h hF (by decide) hT hj, Option.bind_some, un_bnd (show j < 14 by omega) (by decide), un_cl (by omega), r1, bitC (by omega) (by omega), bX0_countRuns_45, bX0_countRuns_45, nI_1 j, nI_add]
    show _ = bX0_countRuns_5 N lo mi hi ci cd (nI T) rb n (nI i) (if b = true then 1 else 0) (nI (cR F ti td R b i (j + 1))) (nI (j + 1))
    rw [cR]
    cases b <;> cases qfl F ti td j <;> rfl
theorem wnC {N T i : Nat} {F ti td R : Nat → Nat} {ci cd mt md rb up lw : Nat → Int32} {lo mi hi : Nat → Int64} (hN : 600 ≤ N) (h : RV lo mi hi 0 F) (hF : ∀ x, F x < 8) (hT : TE T ti td ci cd mt md) (i24 : i < 24) (hR : ∀ t, t < T → rb t = nI (R t) ∧ R t < 2 ^ 24) : fX0_weighNode N lo mi hi ci cd (nI T) rb (nI i) (nI (cntB (qfl F ti td) T)) (nI (T - cntB (qfl F ti td) T)) up lw = some (upd up i (nI (bU (cntB (qfl F ti td) T) (T - cntB (qfl F ti td) T) (cR F ti td R true i T))), upd lw i (nI (bL (cntB (qfl F ti td) T) (T - cntB (qfl F ti td) T) (cR F ti td R true i T) (cR F ti td R false i T)))) := by
  have h14 := hT.1
  have u1 := cR_le (F := F) (ti := ti) (td := td) (R := R) (b := true) (i := i) T
  have u2 := cR_le (F := F) (ti := ti) (td := td) (R := R) (b := false) (i := i) T
  have u3 := cntB_le (q := qfl F ti td) T
  rw [fX0_weighNode, show fX0_countRuns N lo mi hi ci cd (nI T) rb (nI i) 1 = _ from cntRC (b := true) hN h hF hT i24 hR, show fX0_countRuns N lo mi hi ci cd (nI T) rb (nI i) 0 = _ from cntRC (b := false) hN h hF hT i24 hR, Option.bind_some, Option.bind_some]
  generalize cR F ti td R true i T = u at *
  generalize cR F ti td R false i T = v at *
  generalize cntB (qfl F ti td) T = f at *
  have hp : T - f ≤ 14 := by omega
  generalize T - f = p at *
  have m1 : u * p ≤ 14 * 14 := Nat.mul_le_mul (by omega) hp
  have m2 : v * f ≤ 14 * 14 := Nat.mul_le_mul (by omega) (by omega)
  have put : ∀ a b : Nat, b < 2 ^ 31 → fX0_put N (nI i) (nI a) (nI b) up lw = some (upd up i (nI a), upd lw i (nI (if b = 0 then 1 else b))) := fun a b hb => by
    rw [fX0_put, un_bnd i24 (by decide), bX0_put_21, bX0_put_21, un_bnd i24 (by decide), un_bnd i24 (by decide), un_cl (by omega)]
    by_cases q : b = 0
    · rw [if_pos ((nI_z hb).mpr q), if_pos q]; rfl
    · rw [if_neg (fun c => q ((nI_z hb).mp c)), if_neg q]
  unfold bU bL
  by_cases q : f = 0
  · rw [if_pos ((nI_z (by omega)).mpr q), if_pos q, if_pos q, show fX0_put N (nI i) 0 1 up lw = _ from put 0 1 (by decide), Option.bind_some]; rfl
  rw [if_neg (fun c => q ((nI_z (by omega)).mp c)), if_neg q, if_neg q]
  by_cases q2 : p = 0
  · rw [if_pos ((nI_z (by omega)).mpr q2), if_pos q2, if_pos q2, put u f (by omega), Option.bind_some, if_neg q]
  rw [if_neg (fun c => q2 ((nI_z (by omega)).mp c)), if_neg q2, if_neg q2, pk_mul, pk_mul, nI_add, put _ _ (by omega), Option.bind_some]
theorem weighC {N T k : Nat} {ti td R : Nat → Nat} {sg wa ow pl sp pn ci cd mt md up lw rb : Nat → Int32} {lo mi hi wl wm wh who : Nat → Int64} (hN : 600 ≤ N) (hX : TX sg k wa ow pl sp pn) (h : RV lo mi hi 0 (own sg)) (hT : TE T ti td ci cd mt md) (hR : ∀ t, t < T → RS sg k (ti t) k (R t)) : ∃ wl' wm' wh' who' up' lw' rb', fX0_weigh N sg wa ow pl pn (nI k) lo mi hi ci cd (nI T) wl wm wh who up lw rb = some (wl', wm', wh', who', up', lw', rb') ∧ BL (own sg) ti td R T k up' lw' := by
  have h14 := hT.1
  have hk := hX.2.1
  have hb : ∀ t, t < T → R t < 2 ^ 24 := fun t ht => Nat.lt_of_lt_of_le (RS_lt (hR t ht)) (Nat.pow_le_pow_right (by decide) hk)
  obtain ⟨⟨wl', wm', wh', who', rb'⟩, e1, e2⟩ := lp (m := T) (g := fun n j (s : (Nat → Int64) × (Nat → Int64) × (Nat → Int64) × (Nat → Int64) × (Nat → Int32)) => bX0_weigh_2 N sg wa ow pl pn (nI k) lo mi hi ci cd (nI T) n (nI j) s.1 s.2.1 s.2.2.1 s.2.2.2.1 up lw s.2.2.2.2) (fun j s => ∀ t, t < j → s.2.2.2.2 t = nI (R t)) (fun s => Option.bind (fX8_failing N lo mi hi ci cd (nI T)) (fun r_2 => bX0_weigh_52 N sg wa ow pl pn (nI k) lo mi hi ci cd (nI T) N r_2 0 s.1 s.2.1 s.2.2.1 s.2.2.2.1 up lw s.2.2.2.2)) (fun n s hs => by
    rw [bX0_weigh_2, if_pos (nI_le (Nat.le_refl _) (by omega))]) (fun n j s hj hs => by
    obtain ⟨a1, a2, a3, a4, a5⟩ := s
    dsimp only at hs ⊢
    obtain ⟨t1, t2, t3, -⟩ := hT.2 j hj
    obtain ⟨b1, b2, b3, b4, q1⟩ := runC (N := N) (wl := a1) (wm := a2) (wh := a3) (who := a4) (by omega) hX t3 (hR j hj)
    rw [bX0_weigh_2, if_neg (nI_ge hj (by omega)), un_bnd (show j < 14 by omega) (by decide), un_cl (by omega), t1, q1, Option.bind_some]
    dsimp only
    rw [nI_1 j]
    refine ⟨(b1, b2, b3, b4, upd a5 j (nI (R j))), rfl, fun t ht => ?_⟩
    dsimp only
    by_cases q : t = j
    · subst q; rw [pk_us]
    · rw [pk_un q]; exact hs t (by omega)) T 0 N (wl, wm, wh, who, rb) (by omega) (by omega) (fun t ht => absurd ht (Nat.not_lt_zero _))
  dsimp only at e1 e2
  rw [fX0_weigh, show bX0_weigh_2 N sg wa ow pl pn (nI k) lo mi hi ci cd (nI T) N 0 wl wm wh who up lw rb = _ from e1, faiC hN h own_lt hT, Option.bind_some]
  have u3 := cntB_le (q := qfl (own sg) ti td) T
  obtain ⟨⟨up', lw'⟩, f1, f2⟩ := lp (m := k) (g := fun n j (s : (Nat → Int32) × (Nat → Int32)) => bX0_weigh_52 N sg wa ow pl pn (nI k) lo mi hi ci cd (nI T) n (nI (cntB (qfl (own sg) ti td) T)) (nI j) wl' wm' wh' who' s.1 s.2 rb') (fun j s => BL (own sg) ti td R T j s.1 s.2) (fun s => some (wl', wm', wh', who', s.1, s.2, rb')) (fun n s hs => by
    rw [bX0_weigh_52, if_pos (nI_le (Nat.le_refl _) (by omega))]) (fun n j s hj hs => by
    rw [bX0_weigh_52, if_neg (nI_ge hj (by omega)), pk_sub u3, wnC (R := R) hN h own_lt hT (by omega) (fun t ht => ⟨e2 t ht, hb t ht⟩), Option.bind_some]
    dsimp only
    rw [nI_1 j]
    refine ⟨(upd s.1 j _, upd s.2 j _), rfl, fun i hi => ?_⟩
    dsimp only
    by_cases q : i = j
    · subst q; rw [pk_us, pk_us]; exact ⟨rfl, rfl⟩
    · rw [pk_un q, pk_un q]; exact hs i (by omega)) k 0 N (up, lw) (by omega) (by omega) (fun i hi => absurd hi (Nat.not_lt_zero _))
  exact ⟨wl', wm', wh', who', up', lw', rb', f1, f2⟩
theorem bl70 {N T k t s : Nat} {F ti td R : Nat → Nat} {ci cd mt md ns nz nm vs mn ms df rs ow up lw : Nat → Int32} {x1 x2 il ca : Int32} {k46 : Int32 → Int32 → Int32 → (Nat → Int32) → (Int32) → (Int32) → (Nat → Int32) → (Nat → Int32) → (Nat → Int32) → (Nat → Int32) → (Nat → Int32) → (Nat → Int32) → (Nat → Int32) → Option ((Nat → Int32) × (Int32) × (Int32) × (Nat → Int32) × (Nat → Int32) × (Nat → Int32) × (Nat → Int32) × (Nat → Int32) × (Nat → Int32) × (Nat → Int32))} (hN : 600 ≤ N) (hk : k ≤ 24) (hnm : nm 0 = nI k) (ho : ∀ x, x < 512 → ow x = nI (F x)) (hF : ∀ x, F x < 8) (hT : TE T ti td ci cd mt md) (ht : t < T) (hs : R t = s) (hl : s < 2 ^ 24) (hP : ∀ i, i < k → up i = nI (cR F ti td R true i t) ∧ lw i = nI (cR F ti td R false i t)) :
    ∃ up' lw', bX12_findBlame_70 N ns nz nm kn0 mt md (nI T) k46 N x1 x2 (nI t) (nI s) 0 vs il ca mn ms df rs ow up lw = k46 x1 x2 (nI (t + 1)) vs il ca mn ms df rs ow up' lw' ∧ ∀ i, i < k → up' i = nI (cR F ti td R true i (t + 1)) ∧ lw' i = nI (cR F ti td R false i (t + 1)) := by
  obtain ⟨⟨up', lw'⟩, f1, f2⟩ := lp (m := k) (g := fun n j (z : (Nat → Int32) × (Nat → Int32)) => bX12_findBlame_70 N ns nz nm kn0 mt md (nI T) k46 n x1 x2 (nI t) (nI s) (nI j) vs il ca mn ms df rs ow z.1 z.2) (fun j z => ∀ i, i < k → (i < j → z.1 i = nI (cR F ti td R true i (t + 1)) ∧ z.2 i = nI (cR F ti td R false i (t + 1))) ∧ (j ≤ i → z.1 i = nI (cR F ti td R true i t) ∧ z.2 i = nI (cR F ti td R false i t))) (fun z => k46 x1 x2 (nI (t + 1)) vs il ca mn ms df rs ow z.1 z.2) (fun n z hz => by
    rw [bX12_findBlame_70, show nm (Int32.toNatClampNeg 0) = nI k from hnm, if_pos (nI_le (Nat.le_refl _) (by omega)), nI_1 t]) (fun n j z hj hz => by
    obtain ⟨u, l⟩ := z
    dsimp only at hz ⊢
    have fin : ∀ a b : Nat, a = (if qfl F ti td t = true then s / 2 ^ j % 2 else 0) → b = (if qfl F ti td t = false then s / 2 ^ j % 2 else 0) → ∀ i, i < k → (i < j + 1 → upd u j (u j + nI a) i = nI (cR F ti td R true i (t + 1)) ∧ upd l j (l j + nI b) i = nI (cR F ti td R false i (t + 1))) ∧ (j + 1 ≤ i → upd u j (u j + nI a) i = nI (cR F ti td R true i t) ∧ upd l j (l j + nI b) i = nI (cR F ti td R false i t)) := fun a b ha hb i hi => by
      by_cases q : i = j
      · subst q
        obtain ⟨q1, q2⟩ := (hz i hi).2 (Nat.le_refl _)
        rw [pk_us, pk_us, q1, q2, nI_add, nI_add, cR, cR, hs, ← ha, ← hb]
        exact ⟨fun _ => ⟨rfl, rfl⟩, fun q => by omega⟩
      · rw [pk_un q, pk_un q]
        exact ⟨fun q2 => (hz i hi).1 (by omega), fun q2 => (hz i hi).2 (by omega)⟩
    have bn : ∀ {α : Type} (z : Option α), bnd (nI j) 24 z = z := fun z => un_bnd (show j < 24 by omega) (by decide)
    rw [bX12_findBlame_70, show nm (Int32.toNatClampNeg 0) = nI k from hnm, if_neg (nI_ge hj (by omega)), dfM ho hF hT ht, Option.bind_some, if10]
    simp only [bX12_findBlame_112, bX12_findBlame_113, bX12_findBlame_146, bX12_findBlame_147, bn, dfM ho hF hT ht, Option.bind_some, if10]
    rw [un_cl (show j < 2 ^ 31 by omega), bitM (by omega) (by omega), nI_1 j]
    rcases (show s / 2 ^ j % 2 = 0 ∨ s / 2 ^ j % 2 = 1 by omega) with e | e
    · rw [e]
      simp only [if_neg (show ¬ nI 0 = 1 by decide)]
      exact ⟨(_, _), rfl, fin 0 0 (by rw [e]; split <;> rfl) (by rw [e]; split <;> rfl)⟩
    · rw [e]
      simp only [if_pos (show nI 1 = 1 from rfl)]
      by_cases q : qfl F ti td t = true
      · simp only [if_pos q]
        exact ⟨(_, _), rfl, fin 1 0 (by rw [if_pos q, e]) (by rw [if_neg (by rw [q]; decide)])⟩
      · simp only [if_neg q]
        exact ⟨(_, _), rfl, fin 0 1 (by rw [if_neg q]) (by rw [if_pos (Bool.eq_false_iff.mpr q), e])⟩) k 0 N (up, lw) (by omega) (by omega) (fun i hi => ⟨fun q => absurd q (Nat.not_lt_zero _), fun _ => hP i hi⟩)
  exact ⟨up', lw', f1, fun i hi => (f2 i hi).1 hi⟩
