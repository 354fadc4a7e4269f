/-! steps: change, by, many, score, of -/
theorem isChC {N n : Nat} {x : Int32} : fX11_isChange N (nI n) x = some (if x < 0 ∨ nI n ≤ x then 0 else 1) := by
  rw [fX11_isChange]
  by_cases q : x < 0
  · rw [if_pos q, if_pos (Or.inl q)]
  · rw [if_neg q]
    by_cases q2 : nI n ≤ x
    · rw [if_pos q2, if_pos (Or.inr q2)]
    · rw [if_neg q2, if_neg (fun h => h.elim q q2)]
theorem isTeC {N n : Nat} {x : Int32} : fX11_isTest N (nI n) x = some (if x < 0 ∨ nI n ≤ x then 0 else 1) := @isChC N n x
theorem isInC {N : Nat} {x : Int32} : fX11_isInputs N x = some (if x < 0 ∨ nI 512 ≤ x then 0 else 1) := @isChC N 512 x
theorem isNoC {N n : Nat} {x y : Int32} : fX11_isNodeOfFirst N (nI n) y x = some (if x < 0 ∨ nI n ≤ x then 0 else 1) := @isChC N n x
theorem part_cases (x : Int32) : (x < 0 ∨ nI 2 ≤ x) ∨ (¬ (x < 0 ∨ nI 2 ≤ x) ∧ (x = 0 ∨ x = 1)) := by
  by_cases q : x < 0 ∨ nI 2 ≤ x
  · exact Or.inl q
  · refine Or.inr ⟨q, ?_⟩
    rcases pk_ix x (n := 2) (by decide) with h | h | ⟨j, h1, h2⟩
    · exact absurd (Or.inl h) q
    · exact absurd (Or.inr h) q
    · have : j = 0 ∨ j = 1 := by omega
      rcases this with e | e
      · subst e; exact Or.inl h2
      · subst e; exact Or.inr h2
theorem part_no {x : Int32} (h : x < 0 ∨ nI 2 ≤ x) : ¬ x = 0 ∧ ¬ x = 1 := ⟨fun e => by subst e; revert h; decide, fun e => by subst e; revert h; decide⟩
theorem isPaC {N : Nat} {x : Int32} : fX11_isPart N x = some (if x < 0 ∨ nI 2 ≤ x then 0 else 1) := by
  rw [fX11_isPart]
  rcases part_cases x with h | ⟨h, h2⟩
  · rw [if_pos h, if_neg (part_no h).1, if_neg (part_no h).2]
  · rw [if_neg h]
    rcases h2 with e | e
    · rw [if_pos e]
    · subst e; rfl
theorem isTxC {N : Nat} {x : Int32} : fX11_isText N x = some (if x < 0 ∨ nI 2 ≤ x then 0 else 1) := @isPaC N x
theorem inx {x : Int32} {n : Nat} (hn : n < 2 ^ 31) (q : ¬ (x < 0 ∨ nI n ≤ x)) : ∃ j, j < n ∧ x = nI j := by
  rcases pk_ix x hn with h | h | h
  · exact absurd (Or.inl h) q
  · exact absurd (Or.inr h) q
  · exact h
def BS (sg : Nat → Int32) (m : Nat) (nd sn : Nat → Int32) (ti : Nat → Nat) (T : Nat) (bs : Nat → Int32) : Prop := ∀ j, j < m → bs j = nI (ntF (own sg) (gR sg nd sn j) ti T)
theorem s_change {N k m T : Nat} {sg nd sn ft ns nz nm vs mn ms df rs ow nt ci cd mt md bs : Nat → Int32} {ti td : Nat → Nat} {lo mi hi : Nat → Int64} {il ca x1 x2 : Int32} (hN : 600 ≤ N) (h : LH N sg k m nd sn ft lo mi hi ns nz nm) (hI : IL sg m nd sn ft il ca mn ms df rs ow) (hT : TE T ti td ci cd mt md) (hB : BS sg m nd sn ti T bs) :
    ∃ r vs' mn' ms' df' rs' ow' nt', fX11_change N nd sn ft (nI m) bs x1 x2 = some r ∧ fX12_change N ns nz nm kn0 mt (nI T) x1 x2 vs il ca mn ms df rs ow nt = some (r, vs', 1, nI m, mn', ms', df', rs', ow', nt') ∧ LD sg m nd sn ft (nI m) mn' ms' df' rs' ow' := by
  obtain ⟨vs', mn', ms', df', rs', ow', nt', q1, q2, q3⟩ := st_fN (vs := vs) (nt := nt) hN h hI hT
  have hm := h.rx.1
  have hA : ∀ j, j < m → nt' j = bs j := fun j hj => by rw [q3 j hj, hB j hj]
  rw [fX11_change, fX12_change, q1, Option.bind_some]
  dsimp only
  by_cases c1 : x1 = -1
  · rw [if_pos c1, if_pos c1]; exact ⟨_, vs', mn', ms', df', rs', ow', nt', rfl, rfl, q2⟩
  · rw [if_neg c1, if_neg c1, isChC, isChM (by omega), Option.bind_some, Option.bind_some, if01, if01]
    by_cases c2 : x1 < 0 ∨ nI m ≤ x1
    · rw [if_pos c2, if_pos c2]; exact ⟨_, vs', mn', ms', df', rs', ow', nt', rfl, rfl, q2⟩
    · rw [if_neg c2, if_neg c2]
      obtain ⟨j, hj, rfl⟩ := inx (by omega) c2
      have bn : ∀ {α : Type} (z : Option α), bnd (nI j) 96 z = z := fun z => un_bnd (show j < 96 by omega) (by decide)
      simp only [bn]
      obtain ⟨e1, e2, e3⟩ := q2.2.1 j hj
      rw [un_cl (show j < 2 ^ 31 by omega), e1, e2, e3, hA j hj, behC hN hm (by omega), behM hN hm hj hA, Option.bind_some, Option.bind_some]
      by_cases d0 : x2 = 0
      · rw [if_pos d0, if_pos d0]; exact ⟨_, vs', mn', ms', df', rs', ow', nt', rfl, rfl, q2⟩
      rw [if_neg d0, if_neg d0]
      by_cases d1 : x2 = 1
      · rw [if_pos d1, if_pos d1]; exact ⟨_, vs', mn', ms', df', rs', ow', nt', rfl, rfl, q2⟩
      rw [if_neg d1, if_neg d1]
      by_cases d2 : x2 = 2
      · rw [if_pos d2, if_pos d2]; exact ⟨_, vs', mn', ms', df', rs', ow', nt', rfl, rfl, q2⟩
      rw [if_neg d2, if_neg d2]
      by_cases d3 : x2 = 3
      · rw [if_pos d3, if_pos d3]
        by_cases b0 : bs j = 0
        · rw [if_pos b0, if_pos b0]; exact ⟨_, vs', mn', ms', df', rs', ow', nt', rfl, rfl, q2⟩
        · rw [if_neg b0, if_neg b0]; exact ⟨_, vs', mn', ms', df', rs', ow', nt', rfl, rfl, q2⟩
      rw [if_neg d3, if_neg d3]
      by_cases d4 : x2 = 4
      · rw [if_pos d4, if_pos d4]; exact ⟨_, vs', mn', ms', df', rs', ow', nt', rfl, rfl, q2⟩
      rw [if_neg d4, if_neg d4]
      by_cases d5 : x2 = 5
      · rw [if_pos d5, if_pos d5]; exact ⟨_, vs', mn', ms', df', rs', ow', nt', rfl, rfl, q2⟩
      rw [if_neg d5, if_neg d5]; exact ⟨_, vs', mn', ms', df', rs', ow', nt', rfl, rfl, q2⟩
theorem s_by {N k m : Nat} {sg nd sn ft ns nz nm vs mn ms df rs ow : Nat → Int32} {lo mi hi : Nat → Int64} {il ca x1 x2 : Int32} (hN : 600 ≤ N) (h : LH N sg k m nd sn ft lo mi hi ns nz nm) (hI : IL sg m nd sn ft il ca mn ms df rs ow) :
    ∃ r vs' mn' ms' df' rs' ow', fX11_by N lo mi hi (nI m) x1 x2 = some r ∧ fX12_by N ns nz nm kn0 x1 x2 vs il ca mn ms df rs ow = some (r, vs', 1, nI m, mn', ms', df', rs', ow') ∧ LD sg m nd sn ft (nI m) mn' ms' df' rs' ow' := by
  obtain ⟨vs', mn', ms', df', rs', ow', q1, q2⟩ := st_lay2 (vs := vs) hN h hI
  have hm := h.rx.1
  rw [fX11_by, fX12_by, q1, Option.bind_some]
  dsimp only
  rw [isChC, isChM (by omega), Option.bind_some, Option.bind_some, if01, if01]
  by_cases c2 : x1 < 0 ∨ nI m ≤ x1
  · rw [if_pos c2, if_pos c2]; exact ⟨_, vs', mn', ms', df', rs', ow', rfl, rfl, q2⟩
  · rw [if_neg c2, if_neg c2, isInC, arInM, Option.bind_some, Option.bind_some, if01, if01]
    obtain ⟨j, hj, rfl⟩ := inx (by omega) c2
    by_cases c3 : x2 < 0 ∨ nI 512 ≤ x2
    · rw [if_pos c3, if_pos c3]; exact ⟨_, vs', mn', ms', df', rs', ow', rfl, rfl, q2⟩
    · rw [if_neg c3, if_neg c3]
      obtain ⟨x, hx, rfl⟩ := inx (by decide) c3
      rw [show (2 : Int32) + nI j = nI (2 + j) from nI_add 2 j, st_at (h.rx.2.2.2.2 j hj) (fun x => gR_lt x) (by omega) hx, Option.bind_some, show (512 : Int32) * nI j + nI x = nI (512 * j + x) by rw [show (512 : Int32) = nI 512 from rfl, pk_mul, nI_add], un_bnd (show 512 * j + x < 49152 by omega) (by decide), un_cl (show 512 * j + x < 2 ^ 31 by omega), q2.2.2.2 j hj x hx]
      exact ⟨_, vs', mn', ms', df', rs', ow', rfl, rfl, q2⟩
theorem s_many {N k m T : Nat} {sg nd sn ft ns nz nm vs mn ms df rs ow nt ci cd mt md bs : Nat → Int32} {ti td : Nat → Nat} {lo mi hi : Nat → Int64} {il ca x1 : Int32} (hN : 600 ≤ N) (h : LH N sg k m nd sn ft lo mi hi ns nz nm) (hI : IL sg m nd sn ft il ca mn ms df rs ow) (hT : TE T ti td ci cd mt md) (hB : BS sg m nd sn ti T bs) :
    ∃ r vs' il' ca' mn' ms' df' rs' ow' nt', fX11_many N ft (nI m) bs x1 = some r ∧ fX12_many N ns nz nm kn0 mt (nI T) x1 vs il ca mn ms df rs ow nt = some (r, vs', il', ca', mn', ms', df', rs', ow', nt') ∧ IL sg m nd sn ft il' ca' mn' ms' df' rs' ow' := by
  have hm := h.rx.1
  rw [fX11_many, fX12_many, inH (n := 4) (by rfl) (by decide), Option.bind_some, if01]
  by_cases c : x1 < 0 ∨ nI 4 ≤ x1
  · rw [if_pos c, if_neg (fun e => by subst e; revert c; decide), if_neg (fun e => by subst e; revert c; decide), if_neg (fun e => by subst e; revert c; decide), if_neg (fun e => by subst e; revert c; decide)]
    exact ⟨_, vs, il, ca, mn, ms, df, rs, ow, nt, rfl, rfl, hI⟩
  · obtain ⟨vs', mn', ms', df', rs', ow', nt', q1, q2, q3⟩ := st_fN (vs := vs) (nt := nt) hN h hI hT
    have hA : ∀ j, j < m → nt' j = bs j := fun j hj => by rw [q3 j hj, hB j hj]
    have hD : ∀ j, j < m → df' j = ft j := fun j hj => (q2.2.1 j hj).2.2
    rw [if_neg c, q1, Option.bind_some]
    dsimp only
    rw [manM hN hm hA hD, Option.bind_some, silC hN hm, Option.bind_some, notC hN hm, Option.bind_some, hidC hN hm, Option.bind_some, froC hN hm, Option.bind_some]
    obtain ⟨j, hj, rfl⟩ := inx (by decide) c
    have e : j = 0 ∨ j = 1 ∨ j = 2 ∨ j = 3 := by omega
    have hq : cntB (qw ft bs m (nI j)) m = if j = 0 then cntB (qs ft) m else if j = 1 then cntB (qn bs) m else if j = 2 then cntB (qh ft bs) m else cntB (qf bs m) m := by
      rcases e with e | e | e | e <;> subst e <;> rfl
    rw [hq]
    rcases e with e | e | e | e <;> subst e <;> exact ⟨_, vs', 1, nI m, mn', ms', df', rs', ow', nt', rfl, rfl, Or.inr ⟨rfl, q2⟩⟩
theorem s_score {N k m T : Nat} {sg nd sn ft ns nz nm vs mn ms df rs ow nt ci cd mt md bs : Nat → Int32} {ti td : Nat → Nat} {lo mi hi : Nat → Int64} {il ca x1 : Int32} (hN : 600 ≤ N) (h : LH N sg k m nd sn ft lo mi hi ns nz nm) (hI : IL sg m nd sn ft il ca mn ms df rs ow) (hT : TE T ti td ci cd mt md) (hB : BS sg m nd sn ti T bs) :
    ∃ r vs' il' ca' mn' ms' df' rs' ow' nt', fX11_score N ft (nI m) bs x1 = some r ∧ fX12_score N ns nz nm kn0 mt (nI T) x1 vs il ca mn ms df rs ow nt = some (r, vs', il', ca', mn', ms', df', rs', ow', nt') ∧ IL sg m nd sn ft il' ca' mn' ms' df' rs' ow' := by
  have hm := h.rx.1
  rw [fX11_score, fX12_score, isPaC, isPaM, Option.bind_some, Option.bind_some, if01, if01]
  rcases part_cases x1 with c | ⟨c, hp⟩
  · rw [if_pos c, if_pos c]
    exact ⟨_, vs, il, ca, mn, ms, df, rs, ow, nt, rfl, rfl, hI⟩
  · obtain ⟨vs', mn', ms', df', rs', ow', nt', q1, q2, q3⟩ := st_fN (vs := vs) (nt := nt) hN h hI hT
    have hA : ∀ j, j < m → nt' j = bs j := fun j hj => by rw [q3 j hj, hB j hj]
    have hD : ∀ j, j < m → df' j = ft j := fun j hj => (q2.2.1 j hj).2.2
    have a1 := @cntB_le (qn bs) m
    have a2 := @cntB_le (qs ft) m
    have dj : cntB (qn bs) m + cntB (qs ft) m ≤ m := cnt_disj m (fun j hj g1 g2 => by
      have g1' := of_decide_eq_true g1
      have g2' := of_decide_eq_true g2
      have hR := (h.2.2.2.2.2.2.2.1 j hj).2
      rw [hB j hj] at g1'
      have nl := @ntF_lt (own sg) (gR sg nd sn j) ti T
      have p1 := p14 hT.1
      obtain ⟨t, t1, t2⟩ := ntF_pos T (fun e => g1' (by rw [e]; rfl))
      have cp := cnt_pos (q := dif (gR sg nd sn j) (own sg)) 512 (ti t) (hT.2 t t1).2.2.1 (decide_eq_true t2)
      have cl := @cntB_le (dif (gR sg nd sn j) (own sg)) 512
      rw [hR] at g2'
      exact absurd g2' (nI_ne0 cp (by omega)))
    rw [if_neg c, if_neg c, q1, Option.bind_some]
    dsimp only
    rw [manM hN hm hA hD, Option.bind_some, manM hN hm hA hD, Option.bind_some, silC hN hm, notC hN hm, Option.bind_some, Option.bind_some, show qw ft bs m 1 = qn bs from rfl, show qw ft bs m 0 = qs ft from rfl, pk_sub a2]
    obtain ⟨r, r1, r2⟩ := st_low (N := N) (u := cntB (qn bs) m) (l := m - cntB (qs ft) m) hN (by omega) (by omega) (by omega) hp
    rw [r1, r2, Option.bind_some, Option.bind_some]
    exact ⟨_, vs', 1, nI m, mn', ms', df', rs', ow', nt', rfl, rfl, Or.inr ⟨rfl, q2⟩⟩
theorem of_loop {N m T t : Nat} {B : Nat → Nat} {ns nz nm vs mn ms df rs ow nt mt md : Nat → Int32} {il x2 : Int32} {R : Option (Int32 × (Nat → Int32) × (Int32) × (Int32) × (Nat → Int32) × (Nat → Int32) × (Nat → Int32) × (Nat → Int32) × (Nat → Int32) × (Nat → Int32))} (hN : 600 ≤ N) (hm : m ≤ 96) (ht : t < 14) (hb : ∀ j, j < m → nt j = nI (B j) ∧ B j < 16384) (hR : ∀ n, bX12_of_19 N ns nz nm kn0 mt md (nI T) (n + 1) (nI t) x2 (nI (smB B t m)) (nI m) vs il (nI m) mn ms df rs ow nt = R) : bX12_of_19 N ns nz nm kn0 mt md (nI T) N (nI t) x2 0 0 vs il (nI m) mn ms df rs ow nt = R := by
  refine lpd (m := m) (g := fun n j (s : Nat) => bX12_of_19 N ns nz nm kn0 mt md (nI T) n (nI t) x2 (nI s) (nI j) vs il (nI m) mn ms df rs ow nt) (smB B t) hR (fun n j hj => ?_) m 0 N (by omega) (by omega)
  obtain ⟨b1, b2⟩ := hb j hj
  rw [bX12_of_19, if_neg (nI_ge hj (by omega)), un_bnd (show j < 96 by omega) (by decide), un_cl (by omega), b1, bitM (by omega) (by omega), bX12_of_42, nI_1 j, nI_add, smB]
theorem s_of {N k m T : Nat} {sg nd sn ft ns nz nm vs mn ms df rs ow nt ci cd mt md bs : Nat → Int32} {ti td : Nat → Nat} {lo mi hi : Nat → Int64} {il ca x1 x2 : Int32} (hN : 600 ≤ N) (h : LH N sg k m nd sn ft lo mi hi ns nz nm) (hI : IL sg m nd sn ft il ca mn ms df rs ow) (hT : TE T ti td ci cd mt md) (hB : BS sg m nd sn ti T bs) :
    ∃ r vs' il' ca' mn' ms' df' rs' ow' nt', fX11_of N lo mi hi (nI m) ci cd (nI T) bs x1 x2 = some r ∧ fX12_of N ns nz nm kn0 mt md (nI T) x1 x2 vs il ca mn ms df rs ow nt = some (r, vs', il', ca', mn', ms', df', rs', ow', nt') ∧ IL sg m nd sn ft il' ca' mn' ms' df' rs' ow' := by
  have hm := h.rx.1
  have h14 := hT.1
  rw [fX11_of, fX12_of, isTeC, isTeM (by omega), Option.bind_some, Option.bind_some, if01, if01]
  by_cases c : x1 < 0 ∨ nI T ≤ x1
  · rw [if_pos c, if_pos c]
    exact ⟨_, vs, il, ca, mn, ms, df, rs, ow, nt, rfl, rfl, hI⟩
  · obtain ⟨vs', mn', ms', df', rs', ow', nt', q1, q2, q3⟩ := st_fN (vs := vs) (nt := nt) hN h hI hT
    obtain ⟨t, ht, rfl⟩ := inx (by omega) c
    have hb : ∀ j, j < m → nt' j = nI (ntF (own sg) (gR sg nd sn j) ti T) ∧ ntF (own sg) (gR sg nd sn j) ti T < 16384 := fun j hj => ⟨q3 j hj, by have := @ntF_lt (own sg) (gR sg nd sn j) ti T; have := p14 h14; omega⟩
    have hb' : ∀ j, j < m → bs j = nI (ntF (own sg) (gR sg nd sn j) ti T) ∧ ntF (own sg) (gR sg nd sn j) ti T < 16384 := fun j hj => ⟨hB j hj, (hb j hj).2⟩
    obtain ⟨a1, a2, a3, a4, a5, a6⟩ := hT.2 t ht
    have bn : ∀ {α : Type} (z : Option α), bnd (nI t) 14 z = z := fun z => un_bnd (show t < 14 by omega) (by decide)
    rw [if_neg c, if_neg c, q1, Option.bind_some]
    dsimp only
    rw [of_loop (B := fun j => ntF (own sg) (gR sg nd sn j) ti T) hN hm (by omega) hb (fun n => by rw [bX12_of_19, if_pos (nI_le (Nat.le_refl _) (by omega))])]
    simp only [bn]
    rw [un_cl (show t < 2 ^ 31 by omega), a1, a2, a4, a5, dfM q2.2.2.1 own_lt hT ht, show fX8_failsFor N lo mi hi ci cd (nI t) 0 = _ from ffC h.rx.2.2.2.1 own_lt (by decide) hT ht, howC (B := fun j => ntF (own sg) (gR sg nd sn j) ti T) hN hm (by omega) hb', Option.bind_some, Option.bind_some, Option.bind_some, if10, if10]
    have fin : ∀ r : Int32, ∃ r' vs'' il' ca' mn'' ms'' df'' rs'' ow'' nt'', some r = some r' ∧ some (r, vs', (1 : Int32), nI m, mn', ms', df', rs', ow', nt') = some (r', vs'', il', ca', mn'', ms'', df'', rs'', ow'', nt'') ∧ IL sg m nd sn ft il' ca' mn'' ms'' df'' rs'' ow'' := fun r => ⟨r, vs', 1, nI m, mn', ms', df', rs', ow', nt', rfl, rfl, Or.inr ⟨rfl, q2⟩⟩
    by_cases d0 : x2 = 0
    · rw [if_pos d0, if_pos d0]; exact fin _
    rw [if_neg d0, if_neg d0]
    by_cases d1 : x2 = 1
    · rw [if_pos d1, if_pos d1]; exact fin _
    rw [if_neg d1, if_neg d1]
    by_cases d2 : x2 = 2
    · rw [if_pos d2, if_pos d2]
      by_cases b0 : qfl (own sg) ti td t = true
      · rw [if_pos b0, if_pos b0]; exact fin _
      · rw [if_neg b0, if_neg b0]; exact fin _
    rw [if_neg d2, if_neg d2]
    by_cases d3 : x2 = 3
    · rw [if_pos d3, if_pos d3]; exact fin _
    rw [if_neg d3, if_neg d3]; exact fin _
