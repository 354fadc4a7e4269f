/-! parts, less -/
def PX (N : Nat) (lo mi hi : Nat → Int64) (ns nz nm : Nat → Int32) (F G : Nat → Nat) : Prop := (∀ x, x < 512 → fX6_isAt N lo mi hi (nI x) = some (if F x = G x then 0 else 1)) ∧ (∀ x vs, x < 512 → ∃ vs', fX12_doPart N ns nz nm (nI x) vs = some (if F x = G x then 0 else 1, vs'))
theorem mkPX {N k0 k1 : Nat} {s0 w0 o0 l0 p0 n0 s1 w1 o1 l1 p1 n1 ns nz nm : Nat → Int32} {lo mi hi : Nat → Int64} (hN : 600 ≤ N) (h0 : TX s0 k0 w0 o0 l0 p0 n0) (m0 : MT s0 k0 0 ns nz nm) (h1 : TX s1 k1 w1 o1 l1 p1 n1) (m1 : MT s1 k1 1 ns nz nm) (r0 : RV lo mi hi 0 (own s0)) (r1 : RV lo mi hi 1 (own s1)) : PX N lo mi hi ns nz nm (own s0) (own s1) := by
  refine ⟨fun x hx => ?_, fun x vs hx => ?_⟩
  · rw [fX6_isAt, show fX7_isUnlikeAt N lo mi hi 0 1 (nI x) = _ from st_isUnlike r0 r1 own_lt own_lt (by decide) (by decide) hx, Option.bind_some, bo01]
  · obtain ⟨vs', q1, q2⟩ := st_ownM (N := N) (vs := vs) (by omega) h0.1 h0.2.1 h0.2.2.1 (show 0 < 2 by decide) hx m0
    obtain ⟨vs2, q3, q4⟩ := st_ownM (N := N) (vs := vs') (by omega) h1.1 h1.2.1 h1.2.2.1 (show 1 < 2 by decide) hx m1
    rw [fX12_doPart, show fX12_work N ns nz nm 0 (nI x) (-6) 0 vs = some vs' from q1, Option.bind_some, bX12_doPart_16, show fX12_work N ns nz nm 1 (nI x) (-6) 0 vs' = some vs2 from q3, Option.bind_some, show vs' (Int32.toNatClampNeg 0) = nI (own s0 x) from q2 0 h0.1.1, show vs2 (Int32.toNatClampNeg 0) = nI (own s1 x) from q4 0 h1.1.1]
    have l0 := own_lt (sg := s0) x
    have l1 := own_lt (sg := s1) x
    by_cases q : own s0 x = own s1 x
    · rw [if_pos (by rw [q]), if_pos q]; exact ⟨vs2, rfl⟩
    · rw [if_neg (fun c => q ((nI_eq (by omega) (by omega)).mp c)), if_neg q]; exact ⟨vs2, rfl⟩
def pbF (F G : Nat → Nat) : Nat → Nat
  | 0 => 512
  | j + 1 => if F j = G j then pbF F G j else if pbF F G j = 512 then j else if tg (pbF F G j) ≤ tg j then pbF F G j else j
theorem pbF_lt {F G : Nat → Nat} : ∀ j, j ≤ 512 → pbF F G j = 512 ∨ pbF F G j < 512 := by
  intro j
  induction j with
  | zero => intro _; exact Or.inl rfl
  | succ j ih =>
    intro hj
    have := ih (by omega)
    rw [pbF]
    split
    · exact this
    · split
      · exact Or.inr (by omega)
      · split
        · exact this
        · exact Or.inr (by omega)
def enc (b : Nat) : Int32 := if b = 512 then -6 else nI b
theorem enc_n {b : Nat} (h : b < 512) : enc b = nI b := if_neg (by omega)
theorem nI_nm6 {b : Nat} (h : b < 512) : ¬ nI b = -6 := fun c => by
  have := nI_pos (n := b) (by omega)
  rw [c] at this
  exact this (by decide)
theorem leastC {N : Nat} {lo mi hi : Nat → Int64} {ns nz nm : Nat → Int32} {F G : Nat → Nat} (hN : 600 ≤ N) (h : PX N lo mi hi ns nz nm F G) : fX6_leastInputs N lo mi hi = some (enc (pbF F G 512)) := by
  rw [fX6_leastInputs]
  refine lpd (m := 512) (g := fun n j s => bX6_leastInputs_5 N lo mi hi n s (nI j)) (fun j => enc (pbF F G j)) (fun n => ?_) (fun n j hj => ?_) 512 0 N (by omega) (by omega)
  · rw [bX6_leastInputs_5, if_pos (show (512 : Int32) ≤ nI 512 by decide)]
  · rw [bX6_leastInputs_5, if_neg (show ¬ (512 : Int32) ≤ nI j from nI_ge (b := 512) hj (by decide)), h.1 j hj, Option.bind_some, if01, nI_1, pbF]
    by_cases q : F j = G j
    · rw [if_pos q, if_pos q]
    · rw [if_neg q, if_neg q]
      rcases pbF_lt (F := F) (G := G) j (by omega) with e | e
      · rw [e, if_pos rfl, if_pos (show enc 512 = -6 from rfl), enc_n hj]
      · rw [enc_n e, if_neg (nI_nm6 e), if_neg (show ¬ pbF F G j = 512 by omega), tg6 hj, Option.bind_some, tg6 e, Option.bind_some]
        have t1 := tg_lt e
        have t2 := tg_lt hj
        by_cases q2 : tg (pbF F G j) ≤ tg j
        · rw [if_pos (nI_le q2 (by omega)), if_pos q2, enc_n e]
        · rw [if_neg (nI_ge (by omega) (by omega)), if_neg q2, enc_n hj]
theorem partsM {N : Nat} {lo mi hi : Nat → Int64} {ns nz nm vs : Nat → Int32} {F G : Nat → Nat} {x1 : Int32} (hN : 600 ≤ N) (h : PX N lo mi hi ns nz nm F G) : ∃ vs', bX12_parts_18 N ns nz nm N x1 0 (-6) 0 vs = some (if x1 = 0 then nI (cntB (dif F G) 512) else enc (pbF F G 512), vs') := by
  obtain ⟨s', e1, e2, e3⟩ := lp (m := 512) (g := fun n j (s : Int32 × Int32 × (Nat → Int32)) => bX12_parts_18 N ns nz nm n x1 s.1 s.2.1 (nI j) s.2.2) (fun j s => s.1 = nI (cntB (dif F G) j) ∧ s.2.1 = enc (pbF F G j)) (fun s => some (if x1 = 0 then s.1 else s.2.1, s.2.2)) (fun n s hs => by
    rw [bX12_parts_18, if_pos (show (512 : Int32) ≤ nI 512 by decide)]
    by_cases q : x1 = 0
    · rw [if_pos q, if_pos q]
    · rw [if_neg q, if_neg q]) (fun n j s hj hs => by
    obtain ⟨a, b, vs⟩ := s
    obtain ⟨h1, h2⟩ := hs
    dsimp only at h1 h2 ⊢
    subst h1 h2
    obtain ⟨vs', e⟩ := h.2 j vs hj
    rw [bX12_parts_18, if_neg (show ¬ (512 : Int32) ≤ nI j from nI_ge (b := 512) hj (by decide)), e, Option.bind_some]
    dsimp only
    rw [if01, nI_1 j, pbF, cntB]
    by_cases q : F j = G j
    · rw [if_pos q, if_pos q, show dif F G j = false from decide_eq_false (fun c => c q)]
      exact ⟨(_, _, vs'), rfl, rfl, rfl⟩
    · rw [if_neg q, if_neg q, show dif F G j = true from decide_eq_true q, nI_1 (cntB (dif F G) j)]
      rcases pbF_lt (F := F) (G := G) j (by omega) with e | e
      · rw [e, if_pos rfl, if_pos (show enc 512 < 0 by decide)]
        exact ⟨(_, _, vs'), rfl, rfl, (enc_n hj).symm⟩
      · rw [enc_n e, if_neg (nI_pos (by omega)), if_neg (show ¬ pbF F G j = 512 by omega), tg12 hj, Option.bind_some, tg12 e, Option.bind_some]
        have t1 := tg_lt e
        have t2 := tg_lt hj
        by_cases q2 : tg (pbF F G j) ≤ tg j
        · rw [if_pos (nI_le q2 (by omega)), if_pos q2]
          exact ⟨(_, _, vs'), rfl, rfl, (enc_n e).symm⟩
        · rw [if_neg (nI_ge (by omega) (by omega)), if_neg q2]
          exact ⟨(_, _, vs'), rfl, rfl, (enc_n hj).symm⟩) 512 0 N ((0 : Int32), (-6 : Int32), vs) (by omega) (by omega) ⟨rfl, rfl⟩
  exact ⟨s'.2.2, by rw [← e2, ← e3]; exact e1⟩
theorem s_parts {N : Nat} {lo mi hi : Nat → Int64} {ns nz nm vs : Nat → Int32} {F G : Nat → Nat} {x1 : Int32} (hN : 600 ≤ N) (h : PX N lo mi hi ns nz nm F G) (r0 : RV lo mi hi 0 F) (r1 : RV lo mi hi 1 G) (hF : ∀ x, F x < 8) (hG : ∀ x, G x < 8) :
    ∃ r vs', fX11_parts N lo mi hi x1 = some r ∧ fX12_parts N ns nz nm x1 vs = some (r, vs') := by
  rw [fX11_parts, fX12_parts, isPaM, Option.bind_some, if01]
  rcases part_cases x1 with c | ⟨c, e⟩
  · rw [if_pos c, if_neg (part_no c).1, if_neg (part_no c).2]; exact ⟨_, vs, rfl, rfl⟩
  obtain ⟨vs', q⟩ := partsM (vs := vs) (x1 := x1) hN h
  rw [if_neg c, q]
  rcases e with e | e
  · subst e
    rw [if_pos rfl, if_pos rfl, show fX7_unlikeMany N lo mi hi 0 1 = _ from st_unlikeMany (by omega) r0 r1 hF hG (by decide) (by decide), Option.bind_some]
    exact ⟨_, vs', rfl, rfl⟩
  · subst e
    rw [if_neg (show ¬ (1 : Int32) = 0 by decide), if_neg (show ¬ (1 : Int32) = 0 by decide), if_pos rfl, leastC hN h, Option.bind_some]
    exact ⟨_, vs', rfl, rfl⟩
def nxs (F G : Nat → Nat) (low : Nat) : Nat → Nat
  | 0 => low
  | d + 1 => if sp low (8 - d) = low then nxs F G low d else if F (sp low (8 - d)) = G (sp low (8 - d)) then nxs F G low d else sp low (8 - d)
theorem nxs_le {F G : Nat → Nat} {low : Nat} : ∀ d, nxs F G low d ≤ low := by
  intro d
  induction d with
  | zero => exact Nat.le_refl _
  | succ d ih =>
    rw [nxs]
    split
    · exact ih
    · split
      · exact ih
      · exact sp_le _ _
theorem nd_in {N low way : Nat} {lo mi hi : Nat → Int64} {ns nz nm : Nat → Int32} {F G : Nat → Nat} {k2 : Int32 → Int32 → Option Int32} (h : PX N lo mi hi ns nz nm F G) (hl : low < 512) (hw : way < 3) (hk : k2 (nI low) (nI way + 1) = some (nI (nxs F G low (9 - 3 * (way + 1))))) : ∀ d dg n, dg + d = 3 → d < n → bX6_nextDown_9 N lo mi hi k2 n (nI low) (nI way) (nI dg) = some (nI (nxs F G low (9 - (3 * way + dg)))) := by
  intro d
  induction d with
  | zero =>
    intro dg n hd hn
    obtain ⟨n, rfl⟩ : ∃ z, n = z + 1 := ⟨n - 1, by omega⟩
    have e : dg = 3 := by omega
    subst e
    rw [bX6_nextDown_9, if_pos (show (3 : Int32) ≤ nI 3 by decide), hk]
    rfl
  | succ d ih =>
    intro dg n hd hn
    obtain ⟨n, rfl⟩ : ∃ z, n = z + 1 := ⟨n - 1, by omega⟩
    have i1 := ih (dg + 1) n (by omega) (by omega)
    have hsl := sp_le low (3 * way + dg)
    rw [bX6_nextDown_9, if_neg (show ¬ (3 : Int32) ≤ nI dg from nI_ge (b := 3) (by omega) (by decide)), sp6 hl hw (by omega), Option.bind_some, nI_1 dg, i1, show 9 - (3 * way + dg) = (9 - (3 * way + (dg + 1))) + 1 by omega, nxs, show 8 - (9 - (3 * way + (dg + 1))) = 3 * way + dg by omega]
    by_cases q : sp low (3 * way + dg) = low
    · rw [if_pos (by rw [q]), if_pos q]
    · rw [if_neg (fun c => q ((nI_eq (by omega) (by omega)).mp c)), if_neg q, h.1 _ (by omega), Option.bind_some, if01]
      by_cases q2 : F (sp low (3 * way + dg)) = G (sp low (3 * way + dg))
      · rw [if_pos q2, if_pos q2]
      · rw [if_neg q2, if_neg q2]
theorem nd_out {N low : Nat} {lo mi hi : Nat → Int64} {ns nz nm : Nat → Int32} {F G : Nat → Nat} (hN : 600 ≤ N) (h : PX N lo mi hi ns nz nm F G) (hl : low < 512) : ∀ d way n, way + d = 3 → d < n → bX6_nextDown_2 N lo mi hi n (nI low) (nI way) = some (nI (nxs F G low (9 - 3 * way))) := by
  intro d
  induction d with
  | zero =>
    intro way n hd hn
    obtain ⟨n, rfl⟩ : ∃ z, n = z + 1 := ⟨n - 1, by omega⟩
    have e : way = 3 := by omega
    subst e
    rw [bX6_nextDown_2, if_pos (show (3 : Int32) ≤ nI 3 by decide)]
    rfl
  | succ d ih =>
    intro way n hd hn
    obtain ⟨n, rfl⟩ : ∃ z, n = z + 1 := ⟨n - 1, by omega⟩
    have i1 := ih (way + 1) n (by omega) (by omega)
    rw [bX6_nextDown_2, if_neg (show ¬ (3 : Int32) ≤ nI way from nI_ge (b := 3) (by omega) (by decide))]
    exact nd_in h hl (by omega) (by rw [nI_1 way]; exact i1) 3 0 N (by omega) (by omega)
theorem ls_in {N low st : Nat} {lo mi hi : Nat → Int64} {ns nz nm : Nat → Int32} {F G : Nat → Nat} {x2 : Int32} (h : PX N lo mi hi ns nz nm F G) (hl : low < 512) : ∀ d s n vs, s + d = 9 → d < n → (nxs F G low d = low → ∃ vs', bX12_less_36 N ns nz nm n x2 (nI low) (nI st) (nI s) vs = some (if x2 = 0 then nI low else nI st, vs')) ∧ (¬ nxs F G low d = low → ∃ vs' n', n ≤ n' + d ∧ bX12_less_36 N ns nz nm n x2 (nI low) (nI st) (nI s) vs = bX12_less_36 N ns nz nm n' x2 (nI (nxs F G low d)) (nI (st + 1)) 0 vs') := by
  intro d
  induction d with
  | zero =>
    intro s n vs hd hn
    obtain ⟨n, rfl⟩ : ∃ z, n = z + 1 := ⟨n - 1, by omega⟩
    have e : s = 9 := by omega
    subst e
    refine ⟨fun _ => ⟨vs, ?_⟩, fun c => absurd rfl c⟩
    rw [bX12_less_36, if_pos (show (9 : Int32) ≤ nI 9 by decide)]
    by_cases q : x2 = 0
    · rw [if_pos q, if_pos q]
    · rw [if_neg q, if_neg q]
  | succ d ih =>
    intro s n vs hd hn
    obtain ⟨n, rfl⟩ : ∃ z, n = z + 1 := ⟨n - 1, by omega⟩
    have hsl := sp_le low s
    rw [bX12_less_36, if_neg (show ¬ (9 : Int32) ≤ nI s from nI_ge (b := 9) (by omega) (by decide)), sp12 hl (by omega), Option.bind_some, nI_1 s, nI_1 st, nxs, show 8 - d = s by omega]
    by_cases q : sp low s = low
    · rw [if_pos (show nI (sp low s) = nI low by rw [q]), if_pos q]
      obtain ⟨i1, i2⟩ := ih (s + 1) n vs (by omega) (by omega)
      exact ⟨i1, fun c => by obtain ⟨vs', n', h1, h2⟩ := i2 c; exact ⟨vs', n', by omega, h2⟩⟩
    · rw [if_neg (show ¬ nI (sp low s) = nI low from fun c => q ((nI_eq (by omega) (by omega)).mp c)), if_neg q]
      obtain ⟨vs', e⟩ := h.2 (sp low s) vs (by omega)
      rw [e, Option.bind_some]
      dsimp only
      rw [if01]
      by_cases q2 : F (sp low s) = G (sp low s)
      · rw [if_pos q2, if_pos q2]
        obtain ⟨i1, i2⟩ := ih (s + 1) n vs' (by omega) (by omega)
        exact ⟨i1, fun c => by obtain ⟨vs', n', h1, h2⟩ := i2 c; exact ⟨vs', n', by omega, h2⟩⟩
      · rw [if_neg q2, if_neg q2]
        exact ⟨fun c => absurd c q, fun _ => ⟨vs', n, by omega, rfl⟩⟩
theorem ls_both {N : Nat} {lo mi hi : Nat → Int64} {ns nz nm : Nat → Int32} {F G : Nat → Nat} {x2 : Int32} (hN : 600 ≤ N) (h : PX N lo mi hi ns nz nm F G) : ∀ b low c st nA nB vs, low ≤ b → low + c < 512 → b < nA → 11 * (b + 1) ≤ nB → ∃ a e vs', bX6_goDown_12 N lo mi hi nA (nI c) (nI low) (nI st) = some (nI a, nI e) ∧ bX12_less_36 N ns nz nm nB x2 (nI low) (nI st) 0 vs = some (if x2 = 0 then nI a else nI e, vs') := by
  intro b
  induction b with
  | zero =>
    intro low c st nA nB vs hb hc hA hB
    obtain ⟨nA, rfl⟩ : ∃ z, nA = z + 1 := ⟨nA - 1, by omega⟩
    have e0 : low = 0 := by omega
    subst e0
    have en : nxs F G 0 9 = 0 := Nat.le_zero.mp (nxs_le 9)
    obtain ⟨vs', e⟩ := (ls_in (st := st) (x2 := x2) h (show 0 < 512 by decide) 9 0 nB vs (by omega) (by omega)).1 en
    refine ⟨0, st, vs', ?_, e⟩
    rw [bX6_goDown_12, if_neg (show ¬ (512 : Int32) ≤ nI c from nI_ge (b := 512) (by omega) (by decide)), fX6_nextDown, show bX6_nextDown_2 N lo mi hi N (nI 0) 0 = _ from nd_out hN h (show 0 < 512 by decide) 3 0 N (by omega) (by omega), Option.bind_some, show 9 - 3 * 0 = 9 from rfl, en, if_pos rfl]
  | succ b ih =>
    intro low c st nA nB vs hb hc hA hB
    obtain ⟨nA, rfl⟩ : ∃ z, nA = z + 1 := ⟨nA - 1, by omega⟩
    have hl : low < 512 := by omega
    obtain ⟨i1, i2⟩ := ls_in (st := st) (x2 := x2) h hl 9 0 nB vs (by omega) (by omega)
    have hle := nxs_le (F := F) (G := G) (low := low) 9
    rw [bX6_goDown_12, if_neg (show ¬ (512 : Int32) ≤ nI c from nI_ge (b := 512) (by omega) (by decide)), fX6_nextDown, show bX6_nextDown_2 N lo mi hi N (nI low) 0 = _ from nd_out hN h hl 3 0 N (by omega) (by omega), Option.bind_some, show 9 - 3 * 0 = 9 from rfl]
    by_cases q : nxs F G low 9 = low
    · obtain ⟨vs', e⟩ := i1 q
      rw [q, if_pos rfl]
      exact ⟨low, st, vs', rfl, e⟩
    · obtain ⟨vs', n', h1, e⟩ := i2 q
      rw [if_neg (fun c => q ((nI_eq (by omega) (by omega)).mp c)), nI_1 c, show nI st + (1 : Int32) = nI (st + 1) from nI_1 st]
      obtain ⟨a, f, vs2, j1, j2⟩ := ih (nxs F G low 9) (c + 1) (st + 1) nA n' vs' (by omega) (by omega) (by omega) (by omega)
      exact ⟨a, f, vs2, j1, by rw [show bX12_less_36 N ns nz nm nB x2 (nI low) (nI st) 0 vs = _ from e]; exact j2⟩
theorem s_less {N : Nat} {lo mi hi : Nat → Int64} {ns nz nm vs : Nat → Int32} {F G : Nat → Nat} {x1 x2 pl ps : Int32} (hN : 6000 ≤ N) (h : PX N lo mi hi ns nz nm F G) :
    ∃ r pl' ps' vs', fX11_less N lo mi hi x1 x2 pl ps = some (r, pl', ps') ∧ fX12_less N ns nz nm x1 x2 vs = some (r, vs') := by
  rw [fX11_less, fX12_less, isInC, arInM, Option.bind_some, Option.bind_some, if01, if01]
  by_cases c1 : x1 < 0 ∨ nI 512 ≤ x1
  · rw [if_pos c1, if_pos c1]; exact ⟨_, pl, ps, vs, rfl, rfl⟩
  rw [if_neg c1, if_neg c1, isPaM, Option.bind_some, if01]
  obtain ⟨x, hx, rfl⟩ := inx (by decide) c1
  have main : ∀ y, (y = 0 ∨ y = 1) → ∃ r pl' ps' vs', bX11_less_19 N lo mi hi (nI x) y pl ps = some (r, pl', ps') ∧ (Option.bind (fX12_doPart N ns nz nm (nI x) vs) (fun (r_5, mo_value_6) => if r_5 = 0 then (some ((-3 : Int32), mo_value_6)) else (bX12_less_36 N ns nz nm N y (nI x) (0 : Int32) (0 : Int32) mo_value_6))) = some (r, vs') := fun y hy => by
    obtain ⟨vs', e⟩ := h.2 x vs hx
    rw [bX11_less_19, h.1 x hx, e, Option.bind_some, Option.bind_some]
    dsimp only
    rw [if01, if01]
    by_cases q : F x = G x
    · rw [if_pos q, if_pos q]; exact ⟨_, pl, ps, vs', rfl, rfl⟩
    rw [if_neg q, if_neg q, fX6_goDown]
    obtain ⟨a, f, vs2, j1, j2⟩ := ls_both (x2 := y) (by omega) h x x 0 0 N N vs' (Nat.le_refl _) (by omega) (by omega) (by omega)
    rw [show bX6_goDown_12 N lo mi hi N 0 (nI x) 0 = _ from j1, show bX12_less_36 N ns nz nm N y (nI x) 0 0 vs' = _ from j2, Option.bind_some]
    dsimp only
    rcases hy with hy | hy
    · subst hy; rw [if_pos rfl, if_pos rfl]; exact ⟨_, _, _, vs2, rfl, rfl⟩
    · subst hy; rw [if_neg (by decide), if_neg (by decide)]; exact ⟨_, _, _, vs2, rfl, rfl⟩
  rcases part_cases x2 with c | ⟨c, e⟩
  · rw [if_pos c, if_neg (part_no c).1, if_neg (part_no c).2]; exact ⟨_, pl, ps, vs, rfl, rfl⟩
  rw [if_neg c]
  have m2 := main x2 e
  rcases e with e | e
  · rw [if_pos e]; exact m2
  · rw [if_neg (by rw [e]; decide), if_pos e]; exact m2
