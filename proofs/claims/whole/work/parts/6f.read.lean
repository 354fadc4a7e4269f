/-! what holds between calls; read -/
def INV (N kp k0 k1 m T : Nat) (ti td : Nat → Nat) (ps s0 w0 o0 l0 p0 n0 s1 w1 o1 l1 p1 n1 : Nat → Int32) (lo mi hi : Nat → Int64) (nd sn ft ci cd bs od : Nat → Int32) (sm st fr : Int32) (ms ns no nz nm : Nat → Int32) (il ca : Int32) (mn mg df rs ow mt md : Nat → Int32) : Prop :=
  IPad kp ps ms ∧ TX s0 k0 w0 o0 l0 p0 n0 ∧ MT s0 k0 0 ns nz nm ∧ MN k0 0 o0 no ∧ TX s1 k1 w1 o1 l1 p1 n1 ∧ MT s1 k1 1 ns nz nm ∧ MN k1 1 o1 no ∧ RV lo mi hi 1 (own s1) ∧ LH N s0 k0 m nd sn ft lo mi hi ns nz nm ∧ IL s0 m nd sn ft il ca mn mg df rs ow ∧ TE T ti td ci cd mt md ∧ BS s0 m nd sn ti T bs ∧ FW s0 m nd sn ti T od sm st fr
theorem FW_tr {sg nd sn od bs : Nat → Int32} {m T : Nat} {ti ti' : Nat → Nat} {sm st fr : Int32} (hT : T ≤ 14) (h1 : BS sg m nd sn ti T bs) (h2 : BS sg m nd sn ti' T bs) (h : FW sg m nd sn ti T od sm st fr) : FW sg m nd sn ti' T od sm st fr := by
  have hp := p14 hT
  have e : Wn sg m nd sn ti T = Wn sg m nd sn ti' T := by
    funext R
    exact cntB_congr m (fun j hj => by
      have a := ntF_lt (F := own sg) (g := gR sg nd sn j) (ti := ti) T
      have b := ntF_lt (F := own sg) (g := gR sg nd sn j) (ti := ti') T
      have eB : Bn sg nd sn ti T j = Bn sg nd sn ti' T j := (nI_eq (by unfold Bn; omega) (by unfold Bn; omega)).mp ((h1 j hj).symm.trans (h2 j hj))
      rw [eB])
  unfold FW at h ⊢
  rw [← e]; exact h
theorem own_cg {sg sg' : Nat → Int32} (h : sg = sg') : own sg = own sg' := by rw [h]
theorem MT_keep {sg ns nz nm ns' nz' nm' : Nat → Int32} {k xi : Nat} (h : MT sg k xi ns nz nm) (h1 : ∀ i, i < k → ns' (24 * xi + i) = ns (24 * xi + i) ∧ nz' (24 * xi + i) = nz (24 * xi + i)) (h2 : nm' xi = nm xi) : MT sg k xi ns' nz' nm' := ⟨fun i hi => by rw [(h1 i hi).1]; exact h.1 i hi, fun i hi => by rw [(h1 i hi).2]; exact h.2.1 i hi, by rw [h2]; exact h.2.2⟩
theorem rd_all {N k xi : Nat} {ps ms ts ns no nz nm due opn ow wa pl sp pn : Nat → Int32} {il : Int32} (hN : 60 ≤ N) (h : WF ts k) (hk : k ≤ 24) (hxi : xi < 2) (e1 : ∀ i, i < k → ts i = ps i) (e2 : ∀ i, i < k → ps i = ms i) (hs : ∀ i, i < k → ∃ c, 33 ≤ c ∧ c < 127 ∧ ts i = nI c) (hT : TXs ts k 0 wa ow pl sp pn) (h0 : ow 0 = -6) : ∃ ns' no' nz' due' opn', bX12_read_38 N ms N (nI xi) 0 0 (nI k) ns no nz nm due opn il = some (nI k, 0, ns', no', nz', upd nm xi (nI k), due', opn', 0) ∧ MT ts k xi ns' nz' (upd nm xi (nI k)) ∧ MN k xi ow no' ∧ (∀ m, (m < 24 * xi ∨ 24 * xi + k ≤ m) → ns' m = ns m ∧ no' m = no m ∧ nz' m = nz m) := by
  obtain ⟨ns', no', nz', due', opn', q1, q2, q3⟩ := rd_loop (N := N) (ms := ms) hN h hk hxi (fun i hi => by rw [← e2 i hi, e1 i hi]) hs k 0 (by omega) N 0 (fun _ => 0) (fun _ => 0) ns no nz nm due opn il (by omega) ⟨fun i h1 h2 => by omega, fun i h1 h2 => by omega, fun h => by omega⟩ (fun c hc => absurd hc (Nat.not_lt_zero _)) (fun _ => Or.inl rfl) (Nat.le_refl _)
  refine ⟨ns', no', nz', due', opn', q1, ⟨fun i hi => (q2 i hi).1, fun i hi => (q2 i hi).2.2, pk_us⟩, fun i hi => ?_, q3⟩
  rcases (q2 i hi).2.1 with ⟨c, d⟩ | ⟨o, j, o1, o2, o3, o4⟩
  · subst c; rw [d, h0]
  · have := ((hT o (Nat.zero_le _) o1).2.2 j o2).2.1
    rw [← o3] at this
    rw [o4, this]
theorem s_read {N kp k0 k1 m T : Nat} {ti td : Nat → Nat} {ps s0 w0 o0 l0 p0 n0 s1 w1 o1 l1 p1 n1 : Nat → Int32} {lo mi hi wl wm wh who : Nat → Int64} {nd sn ft ci cd bs od lk : Nat → Int32} {sm st fr : Int32} {ms ns no nz nm due opn : Nat → Int32} {il ca x1 : Int32} {mn mg df rs ow mt md : Nat → Int32} (hN : 20000 ≤ N) (h : INV N kp k0 k1 m T ti td ps s0 w0 o0 l0 p0 n0 s1 w1 o1 l1 p1 n1 lo mi hi nd sn ft ci cd bs od sm st fr ms ns no nz nm il ca mn mg df rs ow mt md) :
    ∃ r kp' lk' s0' w0' o0' l0' p0' n0' k0' s1' w1' o1' l1' p1' n1' k1' wl' wm' wh' who' lo' mi' hi' nd' sn' ft' m' bs' fr' ns' no' nz' nm' due' opn' il',
      fX11_read N ps ci (nI T) x1 (nI kp) lk s0 w0 o0 l0 p0 n0 (nI k0) s1 w1 o1 l1 p1 n1 (nI k1) wl wm wh who lo mi hi nd sn ft (nI m) bs fr = some (r, nI kp', lk', s0', w0', o0', l0', p0', n0', nI k0', s1', w1', o1', l1', p1', n1', nI k1', wl', wm', wh', who', lo', mi', hi', nd', sn', ft', nI m', bs', fr') ∧
      fX12_read N ms x1 (nI kp) ns no nz nm due opn il = some (r, nI kp', ns', no', nz', nm', due', opn', il') ∧
      INV N kp' k0' k1' m' T ti td ps s0' w0' o0' l0' p0' n0' s1' w1' o1' l1' p1' n1' lo' mi' hi' nd' sn' ft' ci cd bs' od sm st fr' ms ns' no' nz' nm' il' ca mn mg df rs ow mt md := by
  have hInv := h
  obtain ⟨hP, h0, m0, u0, h1, m1, u1, r1, hL, hI, hT, hB, hF⟩ := h
  have h40 := hP.1
  rw [fX11_read, fX12_read, isTxC, inH (n := 2) (by rfl) (by decide), Option.bind_some, Option.bind_some, if01, if01]
  have stay : ∀ (r : Int32) (lk' due' : Nat → Int32), ∃ r_ kp' lk'' s0' w0' o0' l0' p0' n0' k0' s1' w1' o1' l1' p1' n1' k1' wl' wm' wh' who' lo' mi' hi' nd' sn' ft' m' bs' fr' ns' no' nz' nm' due'' opn' il',
      some (r, nI kp, lk', s0, w0, o0, l0, p0, n0, nI k0, s1, w1, o1, l1, p1, n1, nI k1, wl, wm, wh, who, lo, mi, hi, nd, sn, ft, nI m, bs, fr) = some (r_, nI kp', lk'', s0', w0', o0', l0', p0', n0', nI k0', s1', w1', o1', l1', p1', n1', nI k1', wl', wm', wh', who', lo', mi', hi', nd', sn', ft', nI m', bs', fr') ∧
      some (r, nI kp, ns, no, nz, nm, due', opn, il) = some (r_, nI kp', ns', no', nz', nm', due'', opn', il') ∧
      INV N kp' k0' k1' m' T ti td ps s0' w0' o0' l0' p0' n0' s1' w1' o1' l1' p1' n1' lo' mi' hi' nd' sn' ft' ci cd bs' od sm st fr' ms ns' no' nz' nm' il' ca mn mg df rs ow mt md := fun r lk' due' =>
    ⟨r, kp, lk', s0, w0, o0, l0, p0, n0, k0, s1, w1, o1, l1, p1, n1, k1, wl, wm, wh, who, lo, mi, hi, nd, sn, ft, m, bs, fr, ns, no, nz, nm, due', opn, il, rfl, rfl, hInv⟩
  rcases part_cases x1 with c | ⟨c, e⟩
  · rw [if_pos c, if_pos c]; exact stay _ _ _
  rw [if_neg c, if_neg c]
  obtain ⟨r, lk', due', f1, f2, f3⟩ := st_fault (N := N) (lk := lk) (due := due) (by omega) hP
  rw [f1, f2, Option.bind_some, Option.bind_some]
  dsimp only
  rcases f3.symm with ⟨j, hj, er⟩ | ⟨er, hw⟩
  · subst er
    rw [if_neg (nI_nm6 (by omega)), if_neg (nI_pos (by omega))]
    exact stay _ _ _
  subst er
  rw [if_pos rfl, if_pos (show (-6 : Int32) < 0 by decide)]
  rcases Nat.lt_or_ge 24 kp with c24 | c24
  · rw [if_neg (show ¬ nI kp ≤ (24 : Int32) from nI_ge (a := 24) (b := kp) (by omega) (by omega)), if_neg (show ¬ nI kp ≤ (24 : Int32) from nI_ge (a := 24) (b := kp) (by omega) (by omega))]
    exact stay _ _ _
  rw [if_pos (show nI kp ≤ (24 : Int32) from nI_le (b := 24) c24 (by decide)), if_pos (show nI kp ≤ (24 : Int32) from nI_le (b := 24) c24 (by decide))]
  have hch : ∀ i, i < kp → ∃ c, 33 ≤ c ∧ c < 127 ∧ ps i = nI c := fun i hi => (hP.2 i hi).2
  have hP' : IPad 0 ps ms := ⟨Nat.zero_le _, fun i hi => absurd hi (Nat.not_lt_zero _)⟩
  rcases e with e | e
  · subst e
    rw [if_pos rfl]
    obtain ⟨ts, wa, wo, pl, sp, pn, t1, t2, t3, t4, t5⟩ := st_take (N := N) (ts := s0) (wa := w0) (ow := o0) (pl := l0) (sp := p0) (pn := n0) (cnt := nI k0) (by omega) hw c24 hch
    have hts : ∀ i, i < kp → ∃ c, 33 ≤ c ∧ c < 127 ∧ ts i = nI c := fun i hi => by rw [t2 i hi]; exact hch i hi
    have hX : TX ts kp wa wo pl sp pn := ⟨t3, c24, hts, t5, by rw [t4]; exact h0.2.2.2.2⟩
    obtain ⟨v1, v2, v3, v4, v5, v6, v7, g1, g2, g3⟩ := st_row (N := N) (row := 0) (ch := -6) (sgn := 0) (wl := wl) (wm := wm) (wh := wh) (who := who) (lo := lo) (mi := mi) (hi := hi) (by omega) t3 c24 (SC_own hts) t5 (fun i hi => (if_neg (nI_nm6 (by omega))).symm) (by decide)
    obtain ⟨a1, a2, a3, a4, a5, a6, a7, nd', sn', ft', m', b1, b2, b3, b4, b5, b6⟩ := st_list (N := N) (nd := nd) (sn := sn) (ft := ft) (cnt := nI m) (wl := v1) (wm := v2) (wh := v3) (who := v4) (by omega) t3 c24 hts t5 g2
    have r0' : RV a5 a6 a7 0 (own ts) := g2.keep (fun w hw => b6 _ (by omega))
    have r1' : RV a5 a6 a7 1 (own s1) := r1.keep (fun w hw => by
      obtain ⟨x1, x2, x3⟩ := b6 (1 * 8 + w) (by omega)
      obtain ⟨y1, y2, y3⟩ := g3 (1 * 8 + w) (by omega)
      exact ⟨x1.trans y1, x2.trans y2, x3.trans y3⟩)
    obtain ⟨ns', no', nz', due2, opn', d1, d2, d3, d4⟩ := rd_all (N := N) (xi := 0) (ns := ns) (no := no) (nz := nz) (nm := nm) (due := due') (opn := opn) (il := il) (by omega) t3 c24 (by decide) t2 (fun i hi => (hP.2 i hi).1) hts t5 hX.2.2.2.2
    have hL' : LH N ts kp m' nd' sn' ft' a5 a6 a7 ns' nz' (upd nm 0 (nI kp)) := ⟨t3, c24, hts, d2, b2, b3, b4, b5, r0'⟩
    obtain ⟨bs', z1, z2⟩ := st_settle (N := N) (bs := bs) (by omega) hL'.rx hT
    rw [t1, Option.bind_some]
    dsimp only
    rw [fX11_settleText, if_pos rfl, fX7_workOutText, show fX7_workOutChanged N ts wa pn (nI kp) 0 (-6) 0 wl wm wh who lo mi hi = _ from g1, Option.bind_some]
    dsimp only
    rw [Option.bind_some]
    dsimp only
    rw [if_pos rfl, if_pos rfl, b1, Option.bind_some]
    dsimp only
    rw [fX11_settleNotices, z1, Option.bind_some, fX2_forget, Option.bind_some]
    rw [Option.bind_some, Option.bind_some]
    dsimp only
    rw [if_pos rfl, show bX12_read_38 N ms N 0 0 0 (nI kp) ns no nz nm due' opn il = _ from d1]
    refine ⟨nI kp, 0, lk', ts, wa, wo, pl, sp, pn, kp, s1, w1, o1, l1, p1, n1, k1, a1, a2, a3, a4, a5, a6, a7, nd', sn', ft', m', bs', 0, ns', no', nz', upd nm 0 (nI kp), due2, opn', 0, rfl, rfl, hP', hX, d2, d3, h1, ?_, ?_, r1', hL', Or.inl rfl, hT, z2, Or.inl rfl⟩
    · exact MT_keep m1 (fun i hi => by have := d4 (24 * 1 + i) (by omega); exact ⟨this.1, this.2.2⟩) (pk_un (by decide))
    · exact fun i hi => by rw [(d4 (24 * 1 + i) (by omega)).2.1]; exact u1 i hi
  · subst e
    rw [if_neg (show ¬ (1 : Int32) = 0 by decide), if_pos rfl]
    obtain ⟨ts, wa, wo, pl, sp, pn, t1, t2, t3, t4, t5⟩ := st_take (N := N) (ts := s1) (wa := w1) (ow := o1) (pl := l1) (sp := p1) (pn := n1) (cnt := nI k1) (by omega) hw c24 hch
    have hts : ∀ i, i < kp → ∃ c, 33 ≤ c ∧ c < 127 ∧ ts i = nI c := fun i hi => by rw [t2 i hi]; exact hch i hi
    have hX : TX ts kp wa wo pl sp pn := ⟨t3, c24, hts, t5, by rw [t4]; exact h1.2.2.2.2⟩
    obtain ⟨v1, v2, v3, v4, v5, v6, v7, g1, g2, g3⟩ := st_row (N := N) (row := 1) (ch := -6) (sgn := 0) (wl := wl) (wm := wm) (wh := wh) (who := who) (lo := lo) (mi := mi) (hi := hi) (by omega) t3 c24 (SC_own hts) t5 (fun i hi => (if_neg (nI_nm6 (by omega))).symm) (by decide)
    obtain ⟨ns', no', nz', due2, opn', d1, d2, d3, d4⟩ := rd_all (N := N) (xi := 1) (ns := ns) (no := no) (nz := nz) (nm := nm) (due := due') (opn := opn) (il := il) (by omega) t3 c24 (by decide) t2 (fun i hi => (hP.2 i hi).1) hts t5 hX.2.2.2.2
    have k24 := h0.2.1
    have m0' : MT s0 k0 0 ns' nz' (upd nm 1 (nI kp)) := MT_keep m0 (fun i hi => by have := d4 (24 * 0 + i) (by omega); exact ⟨this.1, this.2.2⟩) (pk_un (by decide))
    have hL' : LH N s0 k0 m nd sn ft v5 v6 v7 ns' nz' (upd nm 1 (nI kp)) := by
      obtain ⟨q1, q2, q3, q4, q5, q6, q7, q8, q9⟩ := hL
      exact ⟨q1, q2, q3, m0', q5, q6, q7, fun j hj => ⟨(q8 j hj).1.keep (fun w hw => g3 _ (by omega)), (q8 j hj).2⟩, q9.keep (fun w hw => g3 _ (by omega))⟩
    rw [t1, Option.bind_some]
    dsimp only
    rw [fX11_settleText, if_neg (show ¬ (1 : Int32) = 0 by decide), if_pos rfl, fX7_workOutText, show fX7_workOutChanged N ts wa pn (nI kp) 1 (-6) 0 wl wm wh who lo mi hi = _ from g1, Option.bind_some]
    dsimp only
    rw [Option.bind_some]
    dsimp only
    rw [if_neg (show ¬ (1 : Int32) = 0 by decide), Option.bind_some]
    dsimp only
    rw [if_neg (show ¬ (1 : Int32) = 0 by decide), if_pos rfl, show bX12_read_38 N ms N 1 0 0 (nI kp) ns no nz nm due' opn il = _ from d1]
    exact ⟨nI kp, 0, lk', s0, w0, o0, l0, p0, n0, k0, ts, wa, wo, pl, sp, pn, kp, v1, v2, v3, v4, v5, v6, v7, nd, sn, ft, m, bs, fr, ns', no', nz', upd nm 1 (nI kp), due2, opn', 0, rfl, rfl, hP', h0, m0', fun i hi => by rw [(d4 (24 * 0 + i) (by omega)).2.1]; exact u0 i hi, hX, d2, d3, g2, hL', Or.inl rfl, hT, hB, hF⟩
