/-! steps: test, drop, node, result, told -/
theorem lt_iff_nle {a b : Int32} : a < b ↔ ¬ b ≤ a := by rw [Int32.lt_iff_toInt_lt, Int32.le_iff_toInt_le]; omega
theorem s_test {N m T : Nat} {sg nd sn ci cd mt md bs : Nat → Int32} {ti td : Nat → Nat} {lo mi hi : Nat → Int64} {fr x1 x2 : Int32} (hN : 600 ≤ N) (h : RX lo mi hi m (own sg) (gR sg nd sn)) (hT : TE T ti td ci cd mt md) (hB : BS sg m nd sn ti T bs) :
    ∃ r T' ti' td' ci' cd' mt' md' bs' fr', fX11_test N lo mi hi (nI m) x1 x2 ci cd (nI T) bs fr = some (r, ci', cd', nI T', bs', fr') ∧ fX12_test N x1 x2 mt md (nI T) = some (r, mt', md', nI T') ∧ TE T' ti' td' ci' cd' mt' md' ∧ BS sg m nd sn ti' T' bs' ∧ (fr' = 0 ∨ (fr' = fr ∧ T' = T ∧ bs' = bs)) := by
  have h14 := hT.1
  rw [fX11_test, fX12_test, isInC, arInM, Option.bind_some, Option.bind_some, if01, if01]
  by_cases c1 : x1 < 0 ∨ nI 512 ≤ x1
  · rw [if_pos c1, if_pos c1]; exact ⟨_, T, ti, td, ci, cd, mt, md, bs, fr, rfl, rfl, hT, hB, Or.inr ⟨rfl, rfl, rfl⟩⟩
  rw [if_neg c1, if_neg c1, inH (n := 8) (by rfl) (by decide), Option.bind_some, if01]
  obtain ⟨x, hx, rfl⟩ := inx (by decide) c1
  by_cases c2 : x2 < 0 ∨ nI 8 ≤ x2
  · rw [if_pos c2]
    have e : (if x2 < 0 then (some ((-2 : Int32), ci, cd, nI T, bs, fr)) else (if x2 < (8 : Int32) then (if nI T < (14 : Int32) then (Option.bind (fX8_append N (nI x) x2 ci cd (nI T)) (fun (te_inputs_6, te_dues_7, te_count_8) => Option.bind (fX11_settleNotices N lo mi hi (nI m) te_inputs_6 te_count_8 bs fr) (fun (no_bits_9, fw_fresh_10) => some ((te_count_8 - (1 : Int32)), te_inputs_6, te_dues_7, te_count_8, no_bits_9, fw_fresh_10)))) else (some ((-4 : Int32), ci, cd, nI T, bs, fr))) else (some ((-2 : Int32), ci, cd, nI T, bs, fr)))) = some ((-2 : Int32), ci, cd, nI T, bs, fr) := by
      rcases c2 with c2 | c2
      · rw [if_pos c2]
      · by_cases c3 : x2 < 0
        · rw [if_pos c3]
        · rw [if_neg c3, if_neg (show ¬ x2 < (8 : Int32) from fun q => (lt_iff_nle.mp q) c2)]
    rw [e]
    exact ⟨_, T, ti, td, ci, cd, mt, md, bs, fr, rfl, rfl, hT, hB, Or.inr ⟨rfl, rfl, rfl⟩⟩
  rw [if_neg c2, if_neg (fun q => c2 (Or.inl q)), if_pos (show x2 < (8 : Int32) from lt_iff_nle.mpr (fun q => c2 (Or.inr q)))]
  obtain ⟨y, hy, rfl⟩ := inx (by decide) c2
  by_cases c3 : T = 14
  · subst c3
    rw [if_neg (by decide), if_pos (by rfl)]
    exact ⟨_, 14, ti, td, ci, cd, mt, md, bs, fr, rfl, rfl, hT, hB, Or.inr ⟨rfl, rfl, rfl⟩⟩
  have hTl : T < 14 := by omega
  rw [if_pos (show nI T < (14 : Int32) from nI_lt (b := 14) hTl (by decide)), if_neg (show ¬ nI T = (14 : Int32) from fun e => c3 ((nI_eq (b := 14) (by omega) (by decide)).mp e)), un_bnd hTl (by decide), un_cl (by omega), fX8_append, if_neg (show ¬ (14 : Int32) ≤ nI T from nI_ge (b := 14) hTl (by decide)), un_bnd hTl (by decide), un_cl (by omega), Option.bind_some]
  dsimp only
  have hT' : TE (T + 1) (fun t => if t = T then x else ti t) (fun t => if t = T then y else td t) (upd ci T (nI x)) (upd cd T (nI y)) (upd mt T (nI x)) (upd md T (nI y)) := ⟨by omega, fun t ht => by
    by_cases e : t = T
    · subst e; dsimp only; rw [pk_us, pk_us, pk_us, pk_us, if_pos rfl, if_pos rfl]; exact ⟨rfl, rfl, hx, rfl, rfl, hy⟩
    · dsimp only; rw [pk_un e, pk_un e, pk_un e, pk_un e, if_neg e, if_neg e]; exact hT.2 t (by omega)⟩
  obtain ⟨bs', q1, q2⟩ := st_settle (bs := bs) hN h hT'
  rw [fX11_settleNotices, nI_1, q1, Option.bind_some, fX2_forget, Option.bind_some, Option.bind_some]
  exact ⟨_, T + 1, _, _, _, _, _, _, bs', 0, rfl, rfl, hT', q2, Or.inl rfl⟩
def shf (i : Nat) (f : Nat → Nat) (t : Nat) : Nat := if t < i then f t else f (t + 1)
theorem rm_loop {N T : Nat} {w : Int32} (hT : T < 14) : ∀ (d j nA nB : Nat) (ci cd mt md : Nat → Int32), j + d = T → d < nA → d < nB →
    ∃ ci' cd' mt' md', bX8_remove_2 N nA (nI j) ci cd (nI (T + 1)) = some (ci', cd', nI T) ∧ bX12_drop_19 N nB w (nI j) mt md (nI (T + 1)) = some (w, mt', md', nI T) ∧ ∀ t, (t < j → ci' t = ci t ∧ cd' t = cd t ∧ mt' t = mt t ∧ md' t = md t) ∧ (j ≤ t → t < T → ci' t = ci (t + 1) ∧ cd' t = cd (t + 1) ∧ mt' t = mt (t + 1) ∧ md' t = md (t + 1)) := by
  intro d
  induction d with
  | zero =>
    intro j nA nB ci cd mt md hj hA hB
    obtain ⟨nA, rfl⟩ : ∃ z, nA = z + 1 := ⟨nA - 1, by omega⟩
    obtain ⟨nB, rfl⟩ : ∃ z, nB = z + 1 := ⟨nB - 1, by omega⟩
    have e : j = T := by omega
    subst e
    refine ⟨ci, cd, mt, md, ?_, ?_, fun t => ⟨fun _ => ⟨rfl, rfl, rfl, rfl⟩, fun h1 h2 => by omega⟩⟩
    · rw [bX8_remove_2, nI_1, if_pos (nI_le (Nat.le_refl _) (by omega)), nI_pred]
    · rw [bX12_drop_19, nI_pred, if_pos (nI_le (Nat.le_refl _) (by omega))]
  | succ d ih =>
    intro j nA nB ci cd mt md hj hA hB
    obtain ⟨nA, rfl⟩ : ∃ z, nA = z + 1 := ⟨nA - 1, by omega⟩
    obtain ⟨nB, rfl⟩ : ∃ z, nB = z + 1 := ⟨nB - 1, by omega⟩
    obtain ⟨ci', cd', mt', md', r1, r2, r3⟩ := ih (j + 1) nA nB (upd ci j (ci (j + 1))) (upd cd j (cd (j + 1))) (upd mt j (mt (j + 1))) (upd md j (md (j + 1))) (by omega) (by omega) (by omega)
    refine ⟨ci', cd', mt', md', ?_, ?_, fun t => ⟨fun h1 => ?_, fun h1 h2 => ?_⟩⟩
    · rw [bX8_remove_2, nI_1, if_neg (nI_ge (by omega) (by omega)), un_bnd (show j + 1 < 14 by omega) (by decide), un_bnd (show j < 14 by omega) (by decide), un_cl (show j < 2 ^ 31 by omega), un_cl (show j + 1 < 2 ^ 31 by omega)]; exact r1
    · rw [bX12_drop_19, nI_pred, if_neg (nI_ge (by omega) (by omega)), nI_1, un_bnd (show j + 1 < 14 by omega) (by decide), un_bnd (show j < 14 by omega) (by decide), un_cl (show j < 2 ^ 31 by omega), un_cl (show j + 1 < 2 ^ 31 by omega)]; exact r2
    · obtain ⟨a, b, c, e⟩ := (r3 t).1 (by omega)
      rw [pk_un (show t ≠ j by omega)] at a b c e
      exact ⟨a, b, c, e⟩
    · by_cases q : t = j
      · subst q
        obtain ⟨a, b, c, e⟩ := (r3 t).1 (by omega)
        rw [pk_us] at a b c e
        exact ⟨a, b, c, e⟩
      · obtain ⟨a, b, c, e⟩ := (r3 t).2 (by omega) h2
        rw [pk_un (show t + 1 ≠ j by omega)] at a b c e
        exact ⟨a, b, c, e⟩
theorem s_drop {N m T : Nat} {sg nd sn ci cd mt md bs : Nat → Int32} {ti td : Nat → Nat} {lo mi hi : Nat → Int64} {fr x1 : Int32} (hN : 600 ≤ N) (h : RX lo mi hi m (own sg) (gR sg nd sn)) (hT : TE T ti td ci cd mt md) (hB : BS sg m nd sn ti T bs) :
    ∃ r T' ti' td' ci' cd' mt' md' bs' fr', fX11_drop N lo mi hi (nI m) x1 ci cd (nI T) bs fr = some (r, ci', cd', nI T', bs', fr') ∧ fX12_drop N x1 mt md (nI T) = some (r, mt', md', nI T') ∧ TE T' ti' td' ci' cd' mt' md' ∧ BS sg m nd sn ti' T' bs' ∧ (fr' = 0 ∨ (fr' = fr ∧ T' = T ∧ bs' = bs)) := by
  have h14 := hT.1
  rw [fX11_drop, fX12_drop, isTeC, isTeM (by omega), Option.bind_some, Option.bind_some, if01, if01]
  by_cases c1 : x1 < 0 ∨ nI T ≤ x1
  · rw [if_pos c1, if_pos c1]; exact ⟨_, T, ti, td, ci, cd, mt, md, bs, fr, rfl, rfl, hT, hB, Or.inr ⟨rfl, rfl, rfl⟩⟩
  rw [if_neg c1, if_neg c1]
  obtain ⟨i, hi, rfl⟩ := inx (by omega) c1
  obtain ⟨T, rfl⟩ : ∃ z, T = z + 1 := ⟨T - 1, by omega⟩
  obtain ⟨ci', cd', mt', md', r1, r2, r3⟩ := rm_loop (N := N) (w := mt i) (show T < 14 by omega) (T - i) i N N ci cd mt md (by omega) (by omega) (by omega)
  rw [un_bnd (show i < 14 by omega) (by decide), un_bnd (show i < 14 by omega) (by decide), un_cl (by omega), fX8_remove, r1, r2, Option.bind_some]
  dsimp only
  have hT' : TE T (shf i ti) (shf i td) ci' cd' mt' md' := ⟨by omega, fun t ht => by
    unfold shf
    by_cases e : t < i
    · obtain ⟨a, b, c, f⟩ := (r3 t).1 e
      rw [a, b, c, f, if_pos e, if_pos e]; exact hT.2 t (by omega)
    · obtain ⟨a, b, c, f⟩ := (r3 t).2 (by omega) ht
      rw [a, b, c, f, if_neg e, if_neg e]; exact hT.2 (t + 1) (by omega)⟩
  obtain ⟨bs', q1, q2⟩ := st_settle (bs := bs) hN h hT'
  obtain ⟨a1, a2, a3, a4, a5, a6⟩ := hT.2 i hi
  rw [fX11_settleNotices, q1, Option.bind_some, fX2_forget, Option.bind_some, Option.bind_some, a1, a2]
  exact ⟨_, T, _, _, ci', cd', mt', md', bs', 0, rfl, rfl, hT', q2, Or.inl rfl⟩
def TX (sg : Nat → Int32) (k : Nat) (wa ow pl sp pn : Nat → Int32) : Prop := WF sg k ∧ k ≤ 24 ∧ (∀ i, i < k → ∃ c, 33 ≤ c ∧ c < 127 ∧ sg i = nI c) ∧ TXs sg k 0 wa ow pl sp pn ∧ ow 0 = -6
def MN (k xi : Nat) (ow no : Nat → Int32) : Prop := ∀ i, i < k → no (24 * xi + i) = ow i
theorem i24 {t j : Nat} : (24 : Int32) * nI t + nI j = nI (24 * t + j) := by rw [show (24 : Int32) = nI 24 from rfl, pk_mul, nI_add]
theorem nodeM {N k t : Nat} {sg wa ow pl sp pn ns no nz nm : Nat → Int32} {x2 x3 : Int32} (ht : t < 2) (hX : TX sg k wa ow pl sp pn) (hM : MT sg k t ns nz nm) (hN : MN k t ow no) : fX12_node N ns no nz nm (nI t) x2 x3 = (if x2 < 0 then (some (-1 : Int32)) else if x2 < nI k then (if x3 = 0 then bnd x2 24 (some (sg (Int32.toNatClampNeg x2))) else if x3 = 1 then bnd x2 24 (some (ow (Int32.toNatClampNeg x2))) else if x3 = 2 then bnd x2 24 (some (sp (Int32.toNatClampNeg x2))) else some (-2)) else some (-1)) := by
  obtain ⟨h1, h2, h3, h4, h5⟩ := hX
  rw [fX12_node, isNoM ht (by omega) hM.2.2, Option.bind_some, if01]
  by_cases c : x2 < 0 ∨ nI k ≤ x2
  · rw [if_pos c]
    rcases c with c | c
    · rw [if_pos c]
    · by_cases c3 : x2 < 0
      · rw [if_pos c3]
      · rw [if_neg c3, if_neg (fun q => (lt_iff_nle.mp q) c)]
  · rw [if_neg c, if_neg (fun q => c (Or.inl q)), if_pos (lt_iff_nle.mpr (fun q => c (Or.inr q)))]
    obtain ⟨j, hj, rfl⟩ := inx (by omega) c
    have bn : ∀ {α : Type} (z : Option α), bnd (nI j) 24 z = z := fun z => un_bnd (show j < 24 by omega) (by decide)
    have bm : ∀ {α : Type} (z : Option α), bnd (nI (24 * t + j)) 48 z = z := fun z => un_bnd (show 24 * t + j < 48 by omega) (by decide)
    rw [i24]
    simp only [bn, bm]
    rw [un_cl (show 24 * t + j < 2 ^ 31 by omega), un_cl (show j < 2 ^ 31 by omega), hM.1 j hj, hN j hj, hM.2.1 j hj, (h4 j (Nat.zero_le _) hj).2.1]
theorem s_node {N k0 k1 : Nat} {s0 w0 o0 l0 p0 n0 s1 w1 o1 l1 p1 n1 ns no nz nm : Nat → Int32} {x1 x2 x3 : Int32} (h0 : TX s0 k0 w0 o0 l0 p0 n0) (m0 : MT s0 k0 0 ns nz nm) (u0 : MN k0 0 o0 no) (h1 : TX s1 k1 w1 o1 l1 p1 n1) (m1 : MT s1 k1 1 ns nz nm) (u1 : MN k1 1 o1 no) :
    ∃ r, fX11_node N s0 o0 p0 (nI k0) s1 o1 p1 (nI k1) x1 x2 x3 = some r ∧ fX12_node N ns no nz nm x1 x2 x3 = some r := by
  have hsome : ∀ {k : Nat} {a b c : Nat → Int32}, k ≤ 24 → ∃ r, (if x2 < 0 then (some (-1 : Int32)) else if x2 < nI k then (if x3 = 0 then bnd x2 24 (some (a (Int32.toNatClampNeg x2))) else if x3 = 1 then bnd x2 24 (some (b (Int32.toNatClampNeg x2))) else if x3 = 2 then bnd x2 24 (some (c (Int32.toNatClampNeg x2))) else some (-2)) else some (-1)) = some r := fun {k a b c} hk => by
    by_cases c1 : x2 < 0
    · rw [if_pos c1]; exact ⟨_, rfl⟩
    rw [if_neg c1]
    by_cases c2 : x2 < nI k
    · rw [if_pos c2]
      obtain ⟨j, hj, rfl⟩ := inx (x := x2) (n := k) (by omega) (fun q => q.elim c1 (lt_iff_nle.mp c2))
      have bn : ∀ {α : Type} (z : Option α), bnd (nI j) 24 z = z := fun z => un_bnd (show j < 24 by omega) (by decide)
      simp only [bn]
      by_cases d0 : x3 = 0
      · rw [if_pos d0]; exact ⟨_, rfl⟩
      rw [if_neg d0]
      by_cases d1 : x3 = 1
      · rw [if_pos d1]; exact ⟨_, rfl⟩
      rw [if_neg d1]
      by_cases d2 : x3 = 2
      · rw [if_pos d2]; exact ⟨_, rfl⟩
      rw [if_neg d2]; exact ⟨_, rfl⟩
    · rw [if_neg c2]; exact ⟨_, rfl⟩
  rw [fX11_node, isTxC, Option.bind_some, if01]
  rcases part_cases x1 with c | ⟨c, e | e⟩
  · rw [if_pos c, fX12_node, fX12_isNode, inH (n := 2) (by rfl) (by decide), Option.bind_some, if_pos c, if_pos rfl, Option.bind_some, if_pos rfl]
    exact ⟨_, rfl, rfl⟩
  · subst e
    rw [if_neg c, if_pos rfl, if_pos rfl, if_pos rfl, if_pos rfl, show fX12_node N ns no nz nm 0 x2 x3 = _ from nodeM (t := 0) (by decide) h0 m0 u0]
    obtain ⟨r, hr⟩ := hsome (k := k0) (a := s0) (b := o0) (c := p0) h0.2.1
    exact ⟨r, hr, hr⟩
  · subst e
    simp only [if_neg (show ¬ (1 : Int32) = 0 by decide), if_pos (show (1 : Int32) = 1 from rfl)]
    rw [if_neg c, show fX12_node N ns no nz nm 1 x2 x3 = _ from nodeM (t := 1) (by decide) h1 m1 u1]
    obtain ⟨r, hr⟩ := hsome (k := k1) (a := s1) (b := o1) (c := p1) h1.2.1
    exact ⟨r, hr, hr⟩
theorem s_result {N k0 k1 : Nat} {s0 w0 o0 l0 p0 n0 s1 w1 o1 l1 p1 n1 ns nz nm vs : Nat → Int32} {lo mi hi : Nat → Int64} {x1 x2 : Int32} (hN : 600 ≤ N) (h0 : TX s0 k0 w0 o0 l0 p0 n0) (m0 : MT s0 k0 0 ns nz nm) (h1 : TX s1 k1 w1 o1 l1 p1 n1) (m1 : MT s1 k1 1 ns nz nm) (r0 : RV lo mi hi 0 (own s0)) (r1 : RV lo mi hi 1 (own s1)) :
    ∃ r vs', fX11_result N lo mi hi x1 x2 = some r ∧ fX12_result N ns nz nm x1 x2 vs = some (r, vs') := by
  rw [fX11_result, fX12_result, isTxC, inH (n := 2) (by rfl) (by decide), Option.bind_some, Option.bind_some, if01, if01]
  rcases part_cases x1 with c | ⟨c, e⟩
  · rw [if_pos c, if_pos c]; exact ⟨_, vs, rfl, rfl⟩
  rw [if_neg c, if_neg c, isInC, arInM, Option.bind_some, Option.bind_some, if01, if01]
  by_cases c3 : x2 < 0 ∨ nI 512 ≤ x2
  · rw [if_pos c3, if_pos c3]; exact ⟨_, vs, rfl, rfl⟩
  rw [if_neg c3, if_neg c3]
  obtain ⟨x, hx, rfl⟩ := inx (by decide) c3
  rcases e with e | e
  · subst e
    obtain ⟨vs', q1, q2⟩ := st_ownM (N := N) (vs := vs) (by omega) h0.1 h0.2.1 h0.2.2.1 (show 0 < 2 by decide) hx m0
    rw [show fX12_work N ns nz nm 0 (nI x) (-6) 0 vs = some vs' from q1, Option.bind_some, show fX7_at N lo mi hi 0 (nI x) = _ from st_at r0 own_lt (by decide) hx, Option.bind_some]
    exact ⟨_, vs', rfl, by rw [show vs' (Int32.toNatClampNeg 0) = vs' 0 from rfl, q2 0 h0.1.1]; rfl⟩
  · subst e
    obtain ⟨vs', q1, q2⟩ := st_ownM (N := N) (vs := vs) (by omega) h1.1 h1.2.1 h1.2.2.1 (show 1 < 2 by decide) hx m1
    rw [show fX12_work N ns nz nm 1 (nI x) (-6) 0 vs = some vs' from q1, Option.bind_some, show fX7_at N lo mi hi 1 (nI x) = _ from st_at r1 own_lt (by decide) hx, Option.bind_some]
    exact ⟨_, vs', rfl, by rw [show vs' (Int32.toNatClampNeg 0) = vs' 0 from rfl, q2 0 h1.1.1]; rfl⟩
theorem s_told {N k m T k1 kp : Nat} {sg nd sn ft ns nz nm vs mn ms df rs ow ci cd mt md : Nat → Int32} {ti td : Nat → Nat} {lo mi hi : Nat → Int64} {il ca x1 : Int32} (hN : 600 ≤ N) (h : LH N sg k m nd sn ft lo mi hi ns nz nm) (hI : IL sg m nd sn ft il ca mn ms df rs ow) (hT : TE T ti td ci cd mt md) (h1 : nm 1 = nI k1) :
    ∃ r vs' il' ca' mn' ms' df' rs' ow', fX11_told N (nI kp) (nI k) (nI k1) lo mi hi ci cd (nI T) x1 = some r ∧ fX12_told N (nI kp) ns nz nm kn0 mt md (nI T) x1 vs il ca mn ms df rs ow = some (r, vs', il', ca', mn', ms', df', rs', ow') ∧ IL sg m nd sn ft il' ca' mn' ms' df' rs' ow' := by
  obtain ⟨vs', mn', ms', df', rs', ow', q1, q2⟩ := st_faiM (vs := vs) hN h hI hT
  rw [fX11_told, fX12_told, q1, Option.bind_some, faiC hN h.rx.2.2.2.1 own_lt hT, Option.bind_some]
  dsimp only
  rw [show nm (Int32.toNatClampNeg 0) = nI k from h.2.2.2.1.2.2, show nm (Int32.toNatClampNeg 1) = nI k1 from h1]
  have fin : ∀ r : Int32, ∃ r' vs'' il' ca' mn'' ms'' df'' rs'' ow'', some r = some r' ∧ some (r, vs, il, ca, mn, ms, df, rs, ow) = some (r', vs'', il', ca', mn'', ms'', df'', rs'', ow'') ∧ IL sg m nd sn ft il' ca' mn'' ms'' df'' rs'' ow'' := fun r => ⟨r, vs, il, ca, mn, ms, df, rs, ow, rfl, rfl, hI⟩
  by_cases d0 : x1 = 0
  · rw [if_pos d0, if_pos d0]; exact fin _
  rw [if_neg d0, if_neg d0]
  by_cases d1 : x1 = 1
  · rw [if_pos d1, if_pos d1]; exact fin _
  rw [if_neg d1, if_neg d1]
  by_cases d2 : x1 = 2
  · rw [if_pos d2, if_pos d2]; exact fin _
  rw [if_neg d2, if_neg d2]
  by_cases d3 : x1 = 3
  · rw [if_pos d3, if_pos d3]; exact fin _
  rw [if_neg d3, if_neg d3]
  by_cases d4 : x1 = 4
  · rw [if_pos d4, if_pos d4]; exact ⟨_, vs', 1, nI m, mn', ms', df', rs', ow', rfl, rfl, Or.inr ⟨rfl, q2⟩⟩
  rw [if_neg d4, if_neg d4]; exact fin _
