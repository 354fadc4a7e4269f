/-! blame and rank: the reference, both steps -/
theorem bl163 {N k f p : Nat} {U V : Nat → Nat} {ns nz nm mt md vs mn ms df rs ow up lw : Nat → Int32} {il ca tt : Int32} (hN : 600 ≤ N) (hk : k ≤ 24) (hnm : nm 0 = nI k) (hf : f ≤ 14) (hp : p ≤ 14) (hU : ∀ i, U i ≤ 14 ∧ V i ≤ 14) (hP : ∀ i, i < k → up i = nI (U i) ∧ lw i = nI (V i)) :
    ∃ up' lw', bX12_findBlame_163 N ns nz nm kn0 mt md tt N (nI f) (nI p) 0 vs il ca mn ms df rs ow up lw = some (vs, il, ca, mn, ms, df, rs, ow, up', lw') ∧ ∀ i, i < k → up' i = nI (bU f p (U i)) ∧ lw' i = nI (bL f p (U i) (V i)) := by
  obtain ⟨⟨up', lw'⟩, f1, f2⟩ := lp (m := k) (g := fun n j (z : (Nat → Int32) × (Nat → Int32)) => bX12_findBlame_163 N ns nz nm kn0 mt md tt n (nI f) (nI p) (nI j) vs il ca mn ms df rs ow z.1 z.2) (fun j z => ∀ i, i < k → (i < j → z.1 i = nI (bU f p (U i)) ∧ z.2 i = nI (bL f p (U i) (V i))) ∧ (j ≤ i → z.1 i = nI (U i) ∧ z.2 i = nI (V i))) (fun z => some (vs, il, ca, mn, ms, df, rs, ow, z.1, z.2)) (fun n z hz => by
    rw [bX12_findBlame_163, show nm (Int32.toNatClampNeg 0) = nI k from hnm, if_pos (nI_le (Nat.le_refl _) (by omega))]) (fun n j z hj hz => by
    obtain ⟨u, l⟩ := z
    dsimp only at hz ⊢
    obtain ⟨a1, a2⟩ := (hz j hj).2 (Nat.le_refl _)
    obtain ⟨b1, b2⟩ := hU j
    have bn : ∀ {α : Type} (z : Option α), bnd (nI j) 24 z = z := fun z => un_bnd (show j < 24 by omega) (by decide)
    have m1 : U j * p ≤ 14 * 14 := Nat.mul_le_mul b1 hp
    have m2 : V j * f ≤ 14 * 14 := Nat.mul_le_mul b2 hf
    have fin : ∀ u' l' : Nat → Int32, (∀ i, ¬ i = j → u' i = u i ∧ l' i = l i) → u' j = nI (bU f p (U j)) → l' j = nI (bL f p (U j) (V j)) → ∀ i, i < k → (i < j + 1 → u' i = nI (bU f p (U i)) ∧ l' i = nI (bL f p (U i) (V i))) ∧ (j + 1 ≤ i → u' i = nI (U i) ∧ l' i = nI (V i)) := fun u' l' h1 h2 h3 i hi => by
      by_cases q : i = j
      · subst q; exact ⟨fun _ => ⟨h2, h3⟩, fun c => by omega⟩
      · obtain ⟨c1, c2⟩ := h1 i q
        rw [c1, c2]
        exact ⟨fun q2 => (hz i hi).1 (by omega), fun q2 => (hz i hi).2 (by omega)⟩
    rw [bX12_findBlame_163, show nm (Int32.toNatClampNeg 0) = nI k from hnm, if_neg (nI_ge hj (by omega))]
    simp only [bX12_findBlame_198, bX12_findBlame_219, bX12_findBlame_243, bX12_findBlame_257, bn, un_cl (show j < 2 ^ 31 by omega), a1, a2, pk_mul, nI_add, nI_1 j, pk_us, if_pos (show (0 : Int32) = 0 from rfl), if_neg (show ¬ (1 : Int32) = 0 by decide)]
    by_cases q : f = 0
    · have ef : nI f = 0 := (nI_z (by omega)).mpr q
      have eU : bU f p (U j) = 0 := if_pos q
      have eL : bL f p (U j) (V j) = 1 := if_pos q
      simp only [if_pos ef]
      by_cases q2 : nI p = 0
      · rw [if_pos q2]
        exact ⟨(upd (upd u j (nI (U j))) j 0, upd (upd l j (nI f)) j 1), rfl, fin (upd (upd u j (nI (U j))) j 0) (upd (upd l j (nI f)) j 1) (fun i hi => ⟨by rw [pk_un hi, pk_un hi], by rw [pk_un hi, pk_un hi]⟩) (by rw [pk_us, eU]; rfl) (by rw [pk_us, eL]; rfl)⟩
      · rw [if_neg q2]
        exact ⟨(upd (upd u j (nI (U j * p))) j 0, upd (upd l j (nI (U j * p + V j * f))) j 1), rfl, fin (upd (upd u j (nI (U j * p))) j 0) (upd (upd l j (nI (U j * p + V j * f))) j 1) (fun i hi => ⟨by rw [pk_un hi, pk_un hi], by rw [pk_un hi, pk_un hi]⟩) (by rw [pk_us, eU]; rfl) (by rw [pk_us, eL]; rfl)⟩
    · have ef : ¬ nI f = 0 := fun c => q ((nI_z (by omega)).mp c)
      simp only [if_neg ef]
      by_cases q2 : p = 0
      · have ep : nI p = 0 := (nI_z (by omega)).mpr q2
        rw [if_pos ep]
        exact ⟨(upd u j (nI (U j)), upd l j (nI f)), rfl, fin (upd u j (nI (U j))) (upd l j (nI f)) (fun i hi => ⟨by rw [pk_un hi], by rw [pk_un hi]⟩) (by rw [pk_us, bU, if_neg q, if_pos q2]) (by rw [pk_us, bL, if_neg q, if_pos q2])⟩
      · have ep : ¬ nI p = 0 := fun c => q2 ((nI_z (by omega)).mp c)
        rw [if_neg ep]
        by_cases q3 : U j * p + V j * f = 0
        · rw [if_pos ((nI_z (by omega)).mpr q3)]
          exact ⟨(upd (upd u j (nI (U j * p))) j 0, upd (upd l j (nI (U j * p + V j * f))) j 1), rfl, fin (upd (upd u j (nI (U j * p))) j 0) (upd (upd l j (nI (U j * p + V j * f))) j 1) (fun i hi => ⟨by rw [pk_un hi, pk_un hi], by rw [pk_un hi, pk_un hi]⟩) (by rw [pk_us, bU, if_neg q, if_neg q2, show U j * p = 0 by omega]; rfl) (by rw [pk_us, bL, if_neg q, if_neg q2, if_pos q3]; rfl)⟩
        · rw [if_neg (fun c => q3 ((nI_z (by omega)).mp c))]
          exact ⟨(upd u j (nI (U j * p)), upd l j (nI (U j * p + V j * f))), rfl, fin (upd u j (nI (U j * p))) (upd l j (nI (U j * p + V j * f))) (fun i hi => ⟨by rw [pk_un hi], by rw [pk_un hi]⟩) (by rw [pk_us, bU, if_neg q, if_neg q2]) (by rw [pk_us, bL, if_neg q, if_neg q2, if_neg q3])⟩) k 0 N (up, lw) (by omega) (by omega) (fun i hi => ⟨fun q => absurd q (Nat.not_lt_zero _), fun _ => hP i hi⟩)
  exact ⟨up', lw', f1, fun i hi => (f2 i hi).1 hi⟩
theorem bl46 {N T k f p : Nat} {ti td R : Nat → Nat} {sg ci cd mt md ns nz nm vs mn ms df rs ow up lw : Nat → Int32} {il ca : Int32} (hN : 600 ≤ N) (h : WF sg k) (hk : k ≤ 24) (hc : ∀ i, i < k → ∃ c, 33 ≤ c ∧ c < 127 ∧ sg i = nI c) (hM : MT sg k 0 ns nz nm) (ho : ∀ x, x < 512 → ow x = nI (own sg x)) (hT : TE T ti td ci cd mt md) (hR : ∀ t, t < T → RS sg k (ti t) k (R t)) (hP : ∀ i, i < k → up i = 0 ∧ lw i = 0) :
    ∃ vs' up' lw', bX12_findBlame_46 N ns nz nm kn0 mt md (nI T) N (nI f) (nI p) 0 vs il ca mn ms df rs ow up lw = bX12_findBlame_163 N ns nz nm kn0 mt md (nI T) N (nI f) (nI p) 0 vs' il ca mn ms df rs ow up' lw' ∧ ∀ i, i < k → up' i = nI (cR (own sg) ti td R true i T) ∧ lw' i = nI (cR (own sg) ti td R false i T) := by
  have h14 := hT.1
  obtain ⟨⟨vs', up', lw'⟩, f1, f2⟩ := lp (m := T) (g := fun n j (z : (Nat → Int32) × (Nat → Int32) × (Nat → Int32)) => bX12_findBlame_46 N ns nz nm kn0 mt md (nI T) n (nI f) (nI p) (nI j) z.1 il ca mn ms df rs ow z.2.1 z.2.2) (fun j z => ∀ i, i < k → z.2.1 i = nI (cR (own sg) ti td R true i j) ∧ z.2.2 i = nI (cR (own sg) ti td R false i j)) (fun z => bX12_findBlame_163 N ns nz nm kn0 mt md (nI T) N (nI f) (nI p) 0 z.1 il ca mn ms df rs ow z.2.1 z.2.2) (fun n z hz => by
    rw [bX12_findBlame_46, if_pos (nI_le (Nat.le_refl _) (by omega))]) (fun n j z hj hz => by
    obtain ⟨vs, u, l⟩ := z
    dsimp only at hz ⊢
    obtain ⟨t1, t2, t3, -⟩ := hT.2 j hj
    obtain ⟨vs', q1⟩ := runM (N := N) (vs := vs) (by omega) h hk hc (show 0 < 2 by decide) hM t3 (hR j hj)
    rw [bX12_findBlame_46, if_neg (nI_ge hj (by omega)), un_bnd (show j < 14 by omega) (by decide), un_cl (by omega), t2, show fX12_runsOf N ns nz nm 0 (nI (ti j)) vs = _ from q1, Option.bind_some]
    dsimp only
    obtain ⟨u', l', r1, r2⟩ := bl70 (k46 := bX12_findBlame_46 N ns nz nm kn0 mt md (nI T) n) (x1 := nI f) (x2 := nI p) (vs := vs') (il := il) (ca := ca) (mn := mn) (ms := ms) (df := df) (rs := rs) (ns := ns) (nz := nz) hN hk hM.2.2 ho own_lt hT hj rfl (Nat.lt_of_lt_of_le (RS_lt (hR j hj)) (Nat.pow_le_pow_right (by decide) hk)) hz
    rw [r1]
    exact ⟨(vs', u', l'), rfl, r2⟩) T 0 N (vs, up, lw) (by omega) (by omega) hP
  exact ⟨vs', up', lw', f1, f2⟩
theorem blM {N k m T : Nat} {sg nd sn ft ns nz nm vs mn ms df rs ow ci cd mt md up lw : Nat → Int32} {ti td R : Nat → Nat} {lo mi hi : Nat → Int64} {il ca : Int32} (hN : 600 ≤ N) (h : LH N sg k m nd sn ft lo mi hi ns nz nm) (hI : IL sg m nd sn ft il ca mn ms df rs ow) (hT : TE T ti td ci cd mt md) (hR : ∀ t, t < T → RS sg k (ti t) k (R t)) :
    ∃ vs' il' ca' mn' ms' df' rs' ow' up' lw', fX12_findBlame N ns nz nm kn0 mt md (nI T) vs il ca mn ms df rs ow up lw = some (vs', il', ca', mn', ms', df', rs', ow', up', lw') ∧ IL sg m nd sn ft il' ca' mn' ms' df' rs' ow' ∧ BL (own sg) ti td R T k up' lw' := by
  have h14 := hT.1
  obtain ⟨vs', mn', ms', df', rs', ow', q1, q2⟩ := st_faiM (vs := vs) hN h hI hT
  obtain ⟨w1, hk, w3, w4, -⟩ := h
  have u3 := cntB_le (q := qfl (own sg) ti td) T
  rw [fX12_findBlame, q1, Option.bind_some]
  dsimp only
  rw [pk_sub u3]
  obtain ⟨⟨u0, l0⟩, f1, f2⟩ := lp (m := k) (g := fun n j (z : (Nat → Int32) × (Nat → Int32)) => bX12_findBlame_14 N ns nz nm kn0 mt md (nI T) n (nI (cntB (qfl (own sg) ti td) T)) (nI (T - cntB (qfl (own sg) ti td) T)) (nI j) vs' 1 (nI m) mn' ms' df' rs' ow' z.1 z.2) (fun j z => ∀ i, i < j → z.1 i = 0 ∧ z.2 i = 0) (fun z => bX12_findBlame_46 N ns nz nm kn0 mt md (nI T) N (nI (cntB (qfl (own sg) ti td) T)) (nI (T - cntB (qfl (own sg) ti td) T)) 0 vs' 1 (nI m) mn' ms' df' rs' ow' z.1 z.2) (fun n z hz => by
    rw [bX12_findBlame_14, show nm (Int32.toNatClampNeg 0) = nI k from w4.2.2, if_pos (nI_le (Nat.le_refl _) (by omega))]) (fun n j z hj hz => by
    obtain ⟨u, l⟩ := z
    dsimp only at hz ⊢
    rw [bX12_findBlame_14, show nm (Int32.toNatClampNeg 0) = nI k from w4.2.2, if_neg (nI_ge hj (by omega)), un_bnd (show j < 24 by omega) (by decide), un_cl (by omega), nI_1 j]
    refine ⟨(upd u j 0, upd l j 0), rfl, fun i hi => ?_⟩
    dsimp only
    by_cases q : i = j
    · subst q; rw [pk_us, pk_us]; exact ⟨rfl, rfl⟩
    · rw [pk_un q, pk_un q]; exact hz i (by omega)) k 0 N (up, lw) (by omega) (by omega) (fun i hi => absurd hi (Nat.not_lt_zero _))
  dsimp only at f1 f2
  rw [show bX12_findBlame_14 N ns nz nm kn0 mt md (nI T) N (nI (cntB (qfl (own sg) ti td) T)) (nI (T - cntB (qfl (own sg) ti td) T)) 0 vs' 1 (nI m) mn' ms' df' rs' ow' up lw = _ from f1]
  obtain ⟨vs2, u1, l1, g1, g2⟩ := bl46 (f := cntB (qfl (own sg) ti td) T) (p := T - cntB (qfl (own sg) ti td) T) (vs := vs') (il := 1) (ca := nI m) (mn := mn') (ms := ms') (df := df') (rs := rs') hN w1 hk w3 w4 q2.2.2.1 hT hR f2
  rw [g1]
  obtain ⟨u2, l2, e1, e2⟩ := bl163 (N := N) (k := k) (f := cntB (qfl (own sg) ti td) T) (p := T - cntB (qfl (own sg) ti td) T) (U := fun i => cR (own sg) ti td R true i T) (V := fun i => cR (own sg) ti td R false i T) (ns := ns) (nz := nz) (nm := nm) (mt := mt) (md := md) (vs := vs2) (il := 1) (ca := nI m) (mn := mn') (ms := ms') (df := df') (rs := rs') (ow := ow') (tt := nI T) hN hk w4.2.2 (by omega) (by omega) (fun i => ⟨Nat.le_trans (cR_le T) h14, Nat.le_trans (cR_le T) h14⟩) g2
  exact ⟨vs2, 1, nI m, mn', ms', df', rs', ow', u2, l2, e1, Or.inr ⟨rfl, q2⟩, e2⟩
theorem s_blame {N k m T k1 : Nat} {sg nd sn ft ns nz nm vs mn ms df rs ow ci cd mt md up lw wa wo pl sp pn s1 w1 o1 l1 n1 bu bl rb : Nat → Int32} {ti td : Nat → Nat} {lo mi hi wl wm wh who : Nat → Int64} {il ca x1 x2 : Int32} (hN : 600 ≤ N) (hX : TX sg k wa wo pl sp pn) (h : LH N sg k m nd sn ft lo mi hi ns nz nm) (hI : IL sg m nd sn ft il ca mn ms df rs ow) (hT : TE T ti td ci cd mt md) :
    ∃ r wl' wm' wh' who' bu' bl' rb' vs' il' ca' mn' ms' df' rs' ow' up' lw', fX11_blame N sg wa wo pl pn (nI k) s1 w1 o1 l1 n1 (nI k1) lo mi hi ci cd (nI T) x1 x2 wl wm wh who bu bl rb = some (r, wl', wm', wh', who', bu', bl', rb') ∧ fX12_blame N ns nz nm kn0 mt md (nI T) x1 x2 vs il ca mn ms df rs ow up lw = some (r, vs', il', ca', mn', ms', df', rs', ow', up', lw') ∧ IL sg m nd sn ft il' ca' mn' ms' df' rs' ow' := by
  have hk := hX.2.1
  have h14 := hT.1
  rw [fX11_blame, fX12_blame, isNoC, show fX12_isNode N nm 0 x1 = _ from isNoM (t := 0) (by decide) (by omega) h.2.2.2.1.2.2, Option.bind_some, Option.bind_some, if01, if01]
  by_cases c1 : x1 < 0 ∨ nI k ≤ x1
  · rw [if_pos c1, if_pos c1]; exact ⟨_, wl, wm, wh, who, bu, bl, rb, vs, il, ca, mn, ms, df, rs, ow, up, lw, rfl, rfl, hI⟩
  rw [if_neg c1, if_neg c1, isPaC, isPaM, Option.bind_some, Option.bind_some, if01, if01]
  rcases part_cases x2 with c | ⟨c, e⟩
  · rw [if_pos c, if_pos c]; exact ⟨_, wl, wm, wh, who, bu, bl, rb, vs, il, ca, mn, ms, df, rs, ow, up, lw, rfl, rfl, hI⟩
  rw [if_neg c, if_neg c]
  obtain ⟨j, hj, rfl⟩ := inx (by omega) c1
  obtain ⟨R, hR⟩ := Classical.axiomOfChoice (fun t : Nat => RS_ex (x := ti t) hX.1 (by omega))
  obtain ⟨a1, a2, a3, a4, a5, a6, a7, q1, q2⟩ := weighC (R := R) (wl := wl) (wm := wm) (wh := wh) (who := who) (up := bu) (lw := bl) (rb := rb) hN hX h.rx.2.2.2.1 hT (fun t _ => hR t)
  obtain ⟨vs', il', ca', mn', ms', df', rs', ow', up', lw', p1, p2, p3⟩ := blM (R := R) (vs := vs) (up := up) (lw := lw) hN h hI hT (fun t _ => hR t)
  have u3 := cntB_le (q := qfl (own sg) ti td) T
  obtain ⟨b1, b2, b3⟩ := bUL_lt (f := cntB (qfl (own sg) ti td) T) (p := T - cntB (qfl (own sg) ti td) T) (u := cR (own sg) ti td R true j T) (v := cR (own sg) ti td R false j T) (by omega) (by omega) (Nat.le_trans (cR_le T) h14) (Nat.le_trans (cR_le T) h14)
  obtain ⟨r, r1, r2⟩ := st_low (N := N) (p := x2) hN (show bU (cntB (qfl (own sg) ti td) T) (T - cntB (qfl (own sg) ti td) T) (cR (own sg) ti td R true j T) < 2 ^ 20 by omega) (show bL (cntB (qfl (own sg) ti td) T) (T - cntB (qfl (own sg) ti td) T) (cR (own sg) ti td R true j T) (cR (own sg) ti td R false j T) < 2 ^ 20 by omega) (fun c => by omega) e
  rw [q1, p1, Option.bind_some, Option.bind_some]
  dsimp only
  rw [un_bnd (show j < 24 by omega) (by decide), un_bnd (show j < 24 by omega) (by decide), un_cl (by omega), (q2 j hj).1, (q2 j hj).2, (p3 j hj).1, (p3 j hj).2, r1, r2, Option.bind_some, Option.bind_some]
  exact ⟨r, a1, a2, a3, a4, a5, a6, a7, vs', il', ca', mn', ms', df', rs', ow', up', lw', rfl, rfl, p2⟩
