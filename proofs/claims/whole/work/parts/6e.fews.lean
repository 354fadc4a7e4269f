/-! the steps fewest and soon -/
def Bn (sg nd sn : Nat → Int32) (ti : Nat → Nat) (T j : Nat) : Nat := ntF (own sg) (gR sg nd sn j) ti T
def Wn (sg : Nat → Int32) (m : Nat) (nd sn : Nat → Int32) (ti : Nat → Nat) (T : Nat) : Nat → Nat := Zt (Bn sg nd sn ti T) m T
theorem so24 {N T : Nat} {W : Nat → Nat} {ns nz nm mt vs mn ms df rs ow nt mi : Nat → Int32} {il ca x1 : Int32} (hN : 20000 ≤ N) (hT : T ≤ 14) (hW : WO W T) (hM : ∀ s, s < 2 ^ T → mi s = nI (W ((2 ^ T - 1) ^^^ s))) : ∀ c n lf, c ≤ 2 ^ T - 1 → c < n → (∀ x, c ≤ x → x < 2 ^ T → lf x = nI (lfv W T ((2 ^ T - 1) ^^^ x))) →
    ∃ lf', bX12_soon_24 N ns nz nm kn0 mt (nI T) n x1 (nI c - 1) vs il ca mn ms df rs ow nt mi lf = some (if x1 = -1 then nI (lfv W T (2 ^ T - 1)) else if x1 < 0 ∨ nI T ≤ x1 then -6 else nI (bt (vv W T) (ro (vv W T) T (Int32.toNatClampNeg x1)) T).1, vs, il, ca, mn, ms, df, rs, ow, nt, mi, lf') := by
  have hS := p14 hT
  have hp := Nat.two_pow_pos T
  intro c
  induction c with
  | zero =>
    intro n lf hc hn hL
    obtain ⟨n, rfl⟩ : ∃ z, n = z + 1 := ⟨n - 1, by omega⟩
    refine ⟨lf, ?_⟩
    rw [bX12_soon_24, if_pos (show nI 0 - 1 < 0 by decide)]
    by_cases d1 : x1 = -1
    · rw [if_pos d1, if_pos d1, show lf (Int32.toNatClampNeg 0) = lf 0 from rfl, hL 0 (Nat.le_refl _) hp, Nat.xor_zero]
    rw [if_neg d1, if_neg d1, isTeM (by omega), Option.bind_some, if01]
    by_cases d2 : x1 < 0 ∨ nI T ≤ x1
    · rw [if_pos d2, if_pos d2]
    rw [if_neg d2, if_neg d2]
    obtain ⟨i, hi, rfl⟩ := inx (by omega) d2
    rw [so180 hN hT hW hM (fun x hx => hL x (Nat.zero_le _) hx) hi, un_cl (by omega)]
  | succ c ih =>
    intro n lf hc hn hL
    obtain ⟨n, rfl⟩ : ∃ z, n = z + 1 := ⟨n - 1, by omega⟩
    rw [bX12_soon_24, nI_pred, if_neg (nI_pos (by omega)), un_bnd (show c < 16384 by omega) (by decide), un_cl (by omega)]
    obtain ⟨lf', e1, e2⟩ := lf38 (k24 := bX12_soon_24 N ns nz nm kn0 mt (nI T) n) (ns := ns) (nz := nz) (nm := nm) (mt := mt) (vs := vs) (mn := mn) (ms := ms) (df := df) (rs := rs) (ow := ow) (nt := nt) (il := il) (ca := ca) (x1 := x1) (lf := upd lf c (-1)) hN hT hW hM (s := c) (by omega) (fun x h1 h2 => by rw [pk_un (by omega)]; exact hL x (by omega) h2) pk_us
    rw [e1, show nI c + (-1) = nI c - 1 from (Int32.sub_eq_add_neg (nI c) 1).symm]
    exact ih n lf' (by omega) (by omega) e2
theorem fmS {N k m T : Nat} {sg nd sn ft ns nz nm vs mn ms df rs ow nt mi ci cd mt md : Nat → Int32} {ti td : Nat → Nat} {lo mid hi : Nat → Int64} {il ca : Int32} (hN : 20000 ≤ N) (h : LH N sg k m nd sn ft lo mid hi ns nz nm) (hI : IL sg m nd sn ft il ca mn ms df rs ow) (hT : TE T ti td ci cd mt md) : ∃ vs' mn' ms' df' rs' ow' nt' mi', fX12_findMissed N ns nz nm kn0 mt (nI T) vs il ca mn ms df rs ow nt mi = some (vs', 1, nI m, mn', ms', df', rs', ow', nt', mi') ∧ LD sg m nd sn ft (nI m) mn' ms' df' rs' ow' ∧ ∀ s, s < 2 ^ T → mi' s = nI (Wn sg m nd sn ti T ((2 ^ T - 1) ^^^ s)) := by
  obtain ⟨vs', mn', ms', df', rs', ow', nt', q1, q2, q3⟩ := st_fN (vs := vs) (nt := nt) (by omega) h hI hT
  have hb : ∀ j, j < m → nt' j = nI (Bn sg nd sn ti T j) ∧ Bn sg nd sn ti T j < 2 ^ T := fun j hj => ⟨q3 j hj, ntF_lt T⟩
  obtain ⟨mi', e1, e2⟩ := fmM (mi := mi) (ns := ns) (nz := nz) (nm := nm) (mt := mt) (vs := vs') (mn := mn') (ms := ms') (df := df') (rs := rs') (ow := ow') (il := 1) hN h.rx.1 hT.1 hb
  exact ⟨vs', mn', ms', df', rs', ow', nt', mi', by rw [fX12_findMissed, q1, Option.bind_some]; exact e1, q2, fun s hs => by rw [e2 s hs, Ms_W hT.1 (fun j hj => (hb j hj).2) hs]; rfl⟩
theorem WO_n {sg nd sn : Nat → Int32} {ti : Nat → Nat} {m T : Nat} (hm : m ≤ 96) (hT : T ≤ 14) : WO (Wn sg m nd sn ti T) T := WO_Z hT hm (fun j _ => ntF_lt T)
/-- what the class holds of the fewest: its answers, and how long its row is -/
def FW (sg : Nat → Int32) (m : Nat) (nd sn : Nat → Int32) (ti : Nat → Nat) (T : Nat) (od : Nat → Int32) (sm st fr : Int32) : Prop := FR (Wn sg m nd sn ti T) T od sm st fr
theorem s_fewest {N k m T e : Nat} {sg nd sn ft ns nz nm vs mn ms df rs ow nt mi ci cd mt md bs wa od : Nat → Int32} {ti td : Nat → Nat} {lo mid hi : Nat → Int64} {il ca x1 sm st fr : Int32} (hN : 20000 ≤ N) (h : LH N sg k m nd sn ft lo mid hi ns nz nm) (hI : IL sg m nd sn ft il ca mn ms df rs ow) (hT : TE T ti td ci cd mt md) (hB : BS sg m nd sn ti T bs) (he : e ≤ 14) (hF : FW sg m nd sn ti T od sm st fr) :
    ∃ r wa' e' od' sm' st' fr' vs' il' ca' mn' ms' df' rs' ow' nt' mi', fX11_fewest N (nI m) (nI T) bs x1 wa (2 ^ e) od sm st fr = some (r, wa', 2 ^ e', od', sm', st', fr') ∧ fX12_fewest N ns nz nm kn0 mt (nI T) x1 vs il ca mn ms df rs ow nt mi = some (r, vs', il', ca', mn', ms', df', rs', ow', nt', mi') ∧ IL sg m nd sn ft il' ca' mn' ms' df' rs' ow' ∧ FW sg m nd sn ti T od' sm' st' fr' ∧ (((x1 = 0 ∨ x1 = 1) ∧ e' = (if fr = 0 then (if 2 ^ T ≤ 2 ^ e then e else T) else e)) ∨ (¬ (x1 = 0 ∨ x1 = 1) ∧ e' = e)) := by
  have h14 := hT.1
  have hS := p14 h14
  have hm := h.rx.1
  have hW := WO_n (sg := sg) (nd := nd) (sn := sn) (ti := ti) hm h14
  rw [fX11_fewest, fX12_fewest, isPaM, Option.bind_some, if01]
  rcases part_cases x1 with c | ⟨c, d⟩
  · rw [if_pos c, if_neg (part_no c).1, if_neg (part_no c).2]
    exact ⟨_, wa, e, od, sm, st, fr, vs, il, ca, mn, ms, df, rs, ow, nt, mi, rfl, rfl, hI, hF, Or.inr ⟨fun q => q.elim (part_no c).1 (part_no c).2, rfl⟩⟩
  have hb : ∀ j, j < m → bs j = nI (Bn sg nd sn ti T j) ∧ Bn sg nd sn ti T j < 2 ^ T := fun j hj => ⟨hB j hj, ntF_lt T⟩
  obtain ⟨wa', e', od', sm', st', a1, a2, a3⟩ := seC (wa := wa) hN hm h14 he hb hW hF
  obtain ⟨vs', mn', ms', df', rs', ow', nt', mi', q1, q2, q3⟩ := fmS (vs := vs) (nt := nt) (mi := mi) hN h hI hT
  rw [if_neg c, q1, Option.bind_some]
  dsimp only
  rw [fwM (m := m) hN h14 hW q3, fX2_leastSet, a1, Option.bind_some]
  dsimp only
  rw [Option.bind_some, Option.bind_some]
  dsimp only
  have fl := fsS_lt (z := zW (Wn sg m nd sn ti T) T) (T := T) (2 ^ T) (Nat.le_refl _)
  have est : st' = nI (fsS (zW (Wn sg m nd sn ti T) T) T (2 ^ T)) := by
    rcases a3 with z | z
    · exact absurd z (by decide)
    · exact z.2.1
  rw [est, bcC (show fsS (zW (Wn sg m nd sn ti T) T) T (2 ^ T) < 16384 by omega), Option.bind_some]
  rw [est] at a3
  rcases d with d | d
  · subst d
    rw [if_pos rfl, if_pos rfl]
    exact ⟨_, wa', e', od', sm', _, 1, vs', 1, nI m, mn', ms', df', rs', ow', nt', mi', rfl, rfl, Or.inr ⟨rfl, q2⟩, a3, Or.inl ⟨Or.inl rfl, a2⟩⟩
  · subst d
    rw [if_neg (show ¬ (1 : Int32) = 0 by decide), if_neg (show ¬ (1 : Int32) = 0 by decide), if_pos (show (1 : Int32) = 1 from rfl)]
    exact ⟨_, wa', e', od', sm', _, 1, vs', 1, nI m, mn', ms', df', rs', ow', nt', mi', rfl, rfl, Or.inr ⟨rfl, q2⟩, a3, Or.inl ⟨Or.inr rfl, a2⟩⟩
theorem s_soon {N k m T e : Nat} {sg nd sn ft ns nz nm vs mn ms df rs ow nt mi lf ci cd mt md bs wa od : Nat → Int32} {ti td : Nat → Nat} {lo mid hi : Nat → Int64} {il ca x1 sm st fr : Int32} (hN : 20000 ≤ N) (h : LH N sg k m nd sn ft lo mid hi ns nz nm) (hI : IL sg m nd sn ft il ca mn ms df rs ow) (hT : TE T ti td ci cd mt md) (hB : BS sg m nd sn ti T bs) (he : e ≤ 14) (hF : FW sg m nd sn ti T od sm st fr) :
    ∃ r wa' e' od' sm' st' fr' vs' il' ca' mn' ms' df' rs' ow' nt' mi' lf', fX11_soon N (nI m) (nI T) bs x1 wa (2 ^ e) od sm st fr = some (r, wa', 2 ^ e', od', sm', st', fr') ∧ fX12_soon N ns nz nm kn0 mt (nI T) x1 vs il ca mn ms df rs ow nt mi lf = some (r, vs', il', ca', mn', ms', df', rs', ow', nt', mi', lf') ∧ IL sg m nd sn ft il' ca' mn' ms' df' rs' ow' ∧ FW sg m nd sn ti T od' sm' st' fr' ∧ (((x1 = -1 ∨ ¬ (x1 < 0 ∨ nI T ≤ x1)) ∧ e' = (if fr = 0 then (if 2 ^ T ≤ 2 ^ e then e else T) else e)) ∨ (¬ (x1 = -1 ∨ ¬ (x1 < 0 ∨ nI T ≤ x1)) ∧ e' = e)) := by
  have h14 := hT.1
  have hS := p14 h14
  have hp := Nat.two_pow_pos T
  have hm := h.rx.1
  have hW := WO_n (sg := sg) (nd := nd) (sn := sn) (ti := ti) hm h14
  have hb : ∀ j, j < m → bs j = nI (Bn sg nd sn ti T j) ∧ Bn sg nd sn ti T j < 2 ^ T := fun j hj => ⟨hB j hj, ntF_lt T⟩
  obtain ⟨wa', e', od', sm', st', a1, a2, a3⟩ := seC (wa := wa) hN hm h14 he hb hW hF
  obtain ⟨vs', mn', ms', df', rs', ow', nt', mi', q1, q2, q3⟩ := fmS (vs := vs) (nt := nt) (mi := mi) hN h hI hT
  obtain ⟨lf', g1⟩ := so24 (x1 := x1) (ns := ns) (nz := nz) (nm := nm) (mt := mt) (vs := vs') (mn := mn') (ms := ms') (df := df') (rs := rs') (ow := ow') (nt := nt') (il := 1) (ca := nI m) hN h14 hW q3 (2 ^ T - 1) N (upd lf (2 ^ T - 1) 0) (Nat.le_refl _) (by omega) (fun x h1 h2 => by
    have ex : x = 2 ^ T - 1 := by omega
    subst ex
    rw [pk_us, Nat.xor_self, lfv, if_pos rfl]; rfl)
  rw [fX11_soon, fX12_soon, q1, Option.bind_some]
  dsimp only
  rw [sh15 T (by omega), show nI (2 ^ T) - (1 : Int32) = nI (2 ^ T - 1) from pk_sub (a := 2 ^ T) (b := 1) hp, bX12_soon_13, un_bnd (show 2 ^ T - 1 < 16384 by omega) (by decide), un_cl (show 2 ^ T - 1 < 2 ^ 31 by omega), g1]
  have hz : ¬ (1 : Int32) = 0 := by decide
  by_cases d1 : x1 = -1
  · rw [if_pos d1, if_pos d1, fX2_leastSum, a1, Option.bind_some]
    dsimp only
    rw [Option.bind_some]
    dsimp only
    have es : sm' = nI (lfv (Wn sg m nd sn ti T) T (2 ^ T - 1)) := by
      rcases a3 with z | ⟨-, -, z, -⟩
      · exact absurd z hz
      · rw [z]
        by_cases c : T = 0
        · subst c; rw [if_pos rfl]; rfl
        · have hA0 : ¬ 2 ^ T - 1 = 0 := by
            have := wb_lt2 (show 0 < T by omega)
            have : (2 : Nat) ^ 0 = 1 := rfl
            omega
          rw [if_neg c, lfv, if_neg hA0]
          congr 1
          exact (bt_ok h14 hW (by omega) hA0).2.2.1
    rw [es]
    rw [es] at a3
    exact ⟨_, wa', e', od', _, st', 1, vs', 1, nI m, mn', ms', df', rs', ow', nt', mi', lf', rfl, rfl, Or.inr ⟨rfl, q2⟩, a3, Or.inl ⟨Or.inl d1, a2⟩⟩
  rw [if_neg d1, if_neg d1, isTeC, Option.bind_some, if01]
  by_cases d2 : x1 < 0 ∨ nI T ≤ x1
  · rw [if_pos d2, if_pos d2]
    exact ⟨_, wa, e, od, sm, st, fr, vs', 1, nI m, mn', ms', df', rs', ow', nt', mi', lf', rfl, rfl, Or.inr ⟨rfl, q2⟩, hF, Or.inr ⟨fun q => q.elim d1 (fun q => q d2), rfl⟩⟩
  rw [if_neg d2, if_neg d2]
  obtain ⟨i, hi, rfl⟩ := inx (by omega) d2
  rw [fX2_testAtPlace, a1, Option.bind_some]
  dsimp only
  rw [un_bnd (show i < 14 by omega) (by decide), un_cl (by omega), Option.bind_some]
  dsimp only
  have eo : od' i = nI (bt (vv (Wn sg m nd sn ti T) T) (ro (vv (Wn sg m nd sn ti T) T) T i) T).1 := by
    rcases a3 with z | ⟨-, -, -, z⟩
    · exact absurd z hz
    · exact z i hi
  rw [eo]
  exact ⟨_, wa', e', od', sm', st', 1, vs', 1, nI m, mn', ms', df', rs', ow', nt', mi', lf', rfl, rfl, Or.inr ⟨rfl, q2⟩, a3, Or.inl ⟨Or.inr d2, a2⟩⟩
