/-! the fewest tests, the soonest order: the reference -/
theorem sh15 : ∀ t, t < 15 → (1 : Int32) <<< (nI t &&& 31) = nI (2 ^ t) := by decide +kernel
def Ms (B : Nat → Nat) (m s : Nat) : Nat := cntB (fun j => decide (¬ B j = 0) && decide (B j &&& s = 0)) m
theorem an_0 {a b : Nat} : (a &&& b = 0) ↔ ∀ i, ¬ (a.testBit i = true ∧ b.testBit i = true) := by
  constructor
  · intro h i c
    have : (a &&& b).testBit i = true := by rw [Nat.testBit_and, c.1, c.2]; rfl
    rw [h, Nat.zero_testBit] at this
    cases this
  · intro h
    apply Nat.eq_of_testBit_eq
    intro i
    rw [Nat.testBit_and, Nat.zero_testBit]
    have := h i
    cases e1 : a.testBit i
    · rfl
    · cases e2 : b.testBit i
      · rfl
      · exact absurd ⟨e1, e2⟩ this
theorem tb_ax {T s i : Nat} : ((2 ^ T - 1) ^^^ s).testBit i = (decide (i < T) ^^ s.testBit i) := by rw [Nat.testBit_xor, tb_all]
theorem Ms_W {B : Nat → Nat} {m T s : Nat} (hT : T ≤ 14) (hB : ∀ j, j < m → B j < 2 ^ T) (hs : s < 2 ^ T) : Ms B m s = Zt B m T ((2 ^ T - 1) ^^^ s) := cntB_congr m (fun j hj => by
  congr 1
  apply Bool.eq_iff_iff.mpr
  rw [okB_iff, decide_eq_true_iff, an_0]
  have hb := hB j hj
  constructor
  · intro h i hi
    rw [tb_ax]
    refine ⟨fun q c => ?_, fun q => ?_⟩
    · rw [decide_eq_true q]
      cases e : s.testBit i
      · rfl
      · exact absurd ⟨c, e⟩ (h i)
    · rw [decide_eq_false (by omega), tb_hi hb q, tb_hi hs q]; rfl
  · intro h i c
    rcases Nat.lt_or_ge i T with q | q
    · have := (h i (by omega)).1 q c.1
      rw [tb_ax, decide_eq_true q, c.2] at this
      cases this
    · rw [tb_hi hb q] at c; exact absurd c.1 (by decide))
theorem WO_Z {B : Nat → Nat} {m T : Nat} (hT : T ≤ 14) (hm : m ≤ 96) (hB : ∀ j, j < m → B j < 2 ^ T) : WO (Zt B m T) T := by
  have sub : ∀ {b R : Nat}, b < 2 ^ T → (okB T b R 14 = true → ∀ i, i < T → b.testBit i = true → R.testBit i = true) := fun {b R} hb h i hi hbi => ((okB_iff 14).mp h i (by omega)).1 hi hbi
  refine ⟨?_, fun x => Nat.le_trans Zt_le hm, fun R t ht hR => ?_⟩
  · have e : Zt B m T 0 = cntB (fun _ => false) m := cntB_congr m (fun j hj => by
      apply Bool.eq_false_iff.mpr
      intro c
      rw [Bool.and_eq_true] at c
      have h0 := no_bit (hB j hj) (fun i hi => by
        cases e : (B j).testBit i
        · rfl
        · have := sub (hB j hj) c.2 i hi e
          rw [Nat.zero_testBit] at this; cases this)
      exact (of_decide_eq_true c.1) h0)
    rw [e]
    clear e
    induction m with
    | zero => rfl
    | succ m ih => rw [cntB, if_neg (by decide), ih (by omega) (fun j hj => hB j (by omega))]
  · rcases Nat.lt_or_ge R (2 ^ T) with hRl | hRl
    · unfold Zt
      have key : ∀ n, n ≤ m → cntB (fun j => decide (¬ B j = 0) && okB T (B j) (R ^^^ 2 ^ t) 14) n ≤ cntB (fun j => decide (¬ B j = 0) && okB T (B j) R 14) n := by
        intro n
        induction n with
        | zero => intro _; exact Nat.le_refl _
        | succ n ih =>
          intro hn
          have ii := ih (by omega)
          rw [cntB, cntB]
          by_cases c : (decide (¬ B n = 0) && okB T (B n) (R ^^^ 2 ^ t) 14) = true
          · rw [if_pos c]
            rw [Bool.and_eq_true] at c
            have c2 : okB T (B n) R 14 = true := (okB_iff 14).mpr (fun i hi => by
              have g := (okB_iff 14).mp c.2 i hi
              refine ⟨fun q hb => ?_, fun q => ?_⟩
              · have := g.1 q hb
                rw [tb_x] at this
                by_cases e : t = i
                · subst e; exact hR
                · rw [decide_eq_false e, Bool.xor_false] at this; exact this
              · have := g.2 q
                rw [tb_x, decide_eq_false (by omega), Bool.xor_false] at this; exact this)
            rw [if_pos (show (decide (¬ B n = 0) && okB T (B n) R 14) = true by rw [Bool.and_eq_true]; exact ⟨c.1, c2⟩)]
            omega
          · rw [if_neg c]; omega
      exact key m (Nat.le_refl _)
    · unfold Zt
      have key : ∀ n, n ≤ m → cntB (fun j => decide (¬ B j = 0) && okB T (B j) (R ^^^ 2 ^ t) 14) n ≤ cntB (fun j => decide (¬ B j = 0) && okB T (B j) R 14) n := by
        intro n
        induction n with
        | zero => intro _; exact Nat.le_refl _
        | succ n ih =>
          intro hn
          have ii := ih (by omega)
          rw [cntB, cntB]
          by_cases c : (decide (¬ B n = 0) && okB T (B n) (R ^^^ 2 ^ t) 14) = true
          · rw [if_pos c]
            rw [Bool.and_eq_true] at c
            have c2 : okB T (B n) R 14 = true := (okB_iff 14).mpr (fun i hi => by
              have g := (okB_iff 14).mp c.2 i hi
              refine ⟨fun q hb => ?_, fun q => ?_⟩
              · have := g.1 q hb
                rw [tb_x] at this
                by_cases e : t = i
                · subst e; exact hR
                · rw [decide_eq_false e, Bool.xor_false] at this; exact this
              · have := g.2 q
                rw [tb_x, decide_eq_false (by omega), Bool.xor_false] at this; exact this)
            rw [if_pos (show (decide (¬ B n = 0) && okB T (B n) R 14) = true by rw [Bool.and_eq_true]; exact ⟨c.1, c2⟩)]
            omega
          · rw [if_neg c]; omega
      exact key m (Nat.le_refl _)
theorem fmM {N m T : Nat} {B : Nat → Nat} {ns nz nm mt vs mn ms df rs ow nt mi : Nat → Int32} {il : Int32} (hN : 20000 ≤ N) (hm : m ≤ 96) (hT : T ≤ 14) (hb : ∀ j, j < m → nt j = nI (B j) ∧ B j < 2 ^ T) : ∃ mi', bX12_findMissed_6 N ns nz nm kn0 mt (nI T) N 0 vs il (nI m) mn ms df rs ow nt mi = some (vs, il, nI m, mn, ms, df, rs, ow, nt, mi') ∧ ∀ s, s < 2 ^ T → mi' s = nI (Ms B m s) := by
  have hS := p14 hT
  obtain ⟨mi', e1, e2⟩ := lp (m := 2 ^ T) (g := fun n s (z : Nat → Int32) => bX12_findMissed_6 N ns nz nm kn0 mt (nI T) n (nI s) vs il (nI m) mn ms df rs ow nt z) (fun s z => ∀ x, x < s → z x = nI (Ms B m x)) (fun z => some (vs, il, nI m, mn, ms, df, rs, ow, nt, z)) (fun n z hz => by
    rw [bX12_findMissed_6, sh15 T (by omega), if_pos (nI_le (Nat.le_refl _) (by omega))]) (fun n s z hs hz => by
    rw [bX12_findMissed_6, sh15 T (by omega), if_neg (nI_ge hs (by omega)), un_bnd (show s < 16384 by omega) (by decide), un_cl (show s < 2 ^ 31 by omega)]
    obtain ⟨z', f1, f2, f3⟩ := lp (m := m) (g := fun n' j (y : Nat → Int32) => bX12_findMissed_25 N ns nz nm kn0 mt (nI T) (bX12_findMissed_6 N ns nz nm kn0 mt (nI T) n) n' (nI s) (nI j) vs il (nI m) mn ms df rs ow nt y) (fun j y => y s = nI (cntB (fun j => decide (¬ B j = 0) && decide (B j &&& s = 0)) j) ∧ ∀ x, ¬ x = s → y x = z x) (fun y => bX12_findMissed_6 N ns nz nm kn0 mt (nI T) n (nI (s + 1)) vs il (nI m) mn ms df rs ow nt y) (fun n' y hy => by
      rw [bX12_findMissed_25, if_pos (nI_le (Nat.le_refl _) (by omega)), nI_1 s]) (fun n' j y hj hy => by
      obtain ⟨y1, y2⟩ := hy
      obtain ⟨b1, b2⟩ := hb j hj
      have fin : ∀ a : Nat, a = (if (decide (¬ B j = 0) && decide (B j &&& s = 0)) = true then 1 else 0) → upd y s (nI (cntB (fun j => decide (¬ B j = 0) && decide (B j &&& s = 0)) j) + nI a) s = nI (cntB (fun j => decide (¬ B j = 0) && decide (B j &&& s = 0)) (j + 1)) ∧ ∀ x, ¬ x = s → upd y s (nI (cntB (fun j => decide (¬ B j = 0) && decide (B j &&& s = 0)) j) + nI a) x = z x := fun a ha => ⟨by rw [pk_us, nI_add, ha]; rfl, fun x hx => by rw [pk_un hx]; exact y2 x hx⟩
      have hal : B j &&& s ≤ B j := Nat.and_le_left
      rw [bX12_findMissed_25, if_neg (nI_ge hj (by omega)), un_bnd (show s < 16384 by omega) (by decide), un_bnd (show j < 96 by omega) (by decide), un_cl (show s < 2 ^ 31 by omega), un_cl (show j < 2 ^ 31 by omega), b1, nx_and', y1]
      simp only [bX12_findMissed_64, bX12_findMissed_65, un_bnd (show s < 16384 by omega) (show 16384 < 2 ^ 31 by decide), un_cl (show s < 2 ^ 31 by omega), nI_1 j]
      by_cases c : B j = 0
      · rw [if_pos ((nI_z (by omega)).mpr c)]
        exact ⟨upd y s (nI (cntB (fun j => decide (¬ B j = 0) && decide (B j &&& s = 0)) j) + nI 0), rfl, fin 0 (by rw [decide_eq_false (fun q => q c)]; rfl)⟩
      · rw [if_neg (fun q => c ((nI_z (by omega)).mp q))]
        by_cases c2 : B j &&& s = 0
        · rw [if_pos ((nI_z (by omega)).mpr c2)]
          exact ⟨upd y s (nI (cntB (fun j => decide (¬ B j = 0) && decide (B j &&& s = 0)) j) + nI 1), rfl, fin 1 (by rw [decide_eq_true c, decide_eq_true c2]; rfl)⟩
        · rw [if_neg (fun q => c2 ((nI_z (by omega)).mp q))]
          exact ⟨upd y s (nI (cntB (fun j => decide (¬ B j = 0) && decide (B j &&& s = 0)) j) + nI 0), rfl, fin 0 (by rw [decide_eq_false c2, Bool.and_false]; rfl)⟩) m 0 N (upd z s 0) (by omega) (by omega) ⟨by rw [pk_us]; rfl, fun x hx => pk_un hx⟩
    refine ⟨z', f1, fun x hx => ?_⟩
    by_cases e : x = s
    · subst e; exact f2
    · rw [f3 x e]; exact hz x (by omega)) (2 ^ T) 0 N mi (by omega) (by omega) (fun x hx => absurd hx (Nat.not_lt_zero _))
  exact ⟨mi', e1, e2⟩
def mbS (z : Nat → Bool) (T : Nat) : Nat → Nat
  | 0 => 2 ^ T
  | s + 1 => if z s = true ∧ (mbS z T s = 2 ^ T ∨ pcN s < pcN (mbS z T s)) then s else mbS z T s
theorem mb_fs {z : Nat → Bool} {T : Nat} (hT : T ≤ 14) : ∀ s, s ≤ 2 ^ T → (mbS z T s = 2 ^ T ∧ fsS z T s = 2 ^ T - 1 ∧ ∀ x, x < s → ¬ z x = true) ∨ (mbS z T s = fsS z T s ∧ fsS z T s < 2 ^ T) := by
  intro s
  induction s with
  | zero => intro _; exact Or.inl ⟨rfl, rfl, fun x hx => absurd hx (Nat.not_lt_zero _)⟩
  | succ s ih =>
    intro hs
    rw [mbS, fsS]
    by_cases c : z s = true
    · rcases ih (by omega) with ⟨i1, i2, i3⟩ | ⟨i1, i2⟩
      · rw [if_pos ⟨c, Or.inl i1⟩, i2]
        rcases Nat.lt_or_ge s (2 ^ T - 1) with q | q
        · rw [if_pos ⟨c, pc_all hT q⟩]; exact Or.inr ⟨rfl, by omega⟩
        · have e : s = 2 ^ T - 1 := by omega
          subst e
          rw [if_neg (fun q => Nat.lt_irrefl _ q.2)]; exact Or.inr ⟨rfl, by omega⟩
      · rw [i1]
        by_cases c2 : pcN s < pcN (fsS z T s)
        · rw [if_pos ⟨c, Or.inr c2⟩, if_pos ⟨c, c2⟩]; exact Or.inr ⟨rfl, by omega⟩
        · rw [if_neg (fun q => q.2.elim (fun e => by omega) c2), if_neg (fun q => c2 q.2)]; exact Or.inr ⟨rfl, i2⟩
    · rw [if_neg (fun q => c q.1), if_neg (fun q => c q.1)]
      rcases ih (by omega) with ⟨i1, i2, i3⟩ | i1
      · refine Or.inl ⟨i1, i2, fun x hx => ?_⟩
        by_cases e : x = s
        · subst e; exact c
        · exact i3 x (by omega)
      · exact Or.inr i1
theorem mb_end {W : Nat → Nat} {T : Nat} (hT : T ≤ 14) (h0 : W 0 = 0) : mbS (zW W T) T (2 ^ T) = fsS (zW W T) T (2 ^ T) := by
  have hp := Nat.two_pow_pos T
  rcases mb_fs (z := zW W T) hT (2 ^ T) (Nat.le_refl _) with ⟨-, -, i3⟩ | ⟨i1, -⟩
  · exact absurd (show zW W T (2 ^ T - 1) = true from decide_eq_true (by rw [Nat.xor_self]; exact h0)) (i3 (2 ^ T - 1) (by omega))
  · exact i1
def encT (T b : Nat) : Int32 := if b = 2 ^ T then -6 else nI b
theorem mbS_le {z : Nat → Bool} {T : Nat} : ∀ s, s ≤ 2 ^ T → mbS z T s ≤ 2 ^ T := by
  intro s
  induction s with
  | zero => intro _; exact Nat.le_refl _
  | succ s ih => intro h; rw [mbS]; split <;> first | omega | exact ih (by omega)
theorem fwM {N m T : Nat} {W : Nat → Nat} {ns nz nm mt vs mn ms df rs ow nt mi : Nat → Int32} {il ca x1 : Int32} (hN : 20000 ≤ N) (hT : T ≤ 14) (hW : WO W T) (hM : ∀ s, s < 2 ^ T → mi s = nI (W ((2 ^ T - 1) ^^^ s))) : bX12_fewest_19 N ns nz nm kn0 mt (nI T) N x1 (-6) 0 vs il ca mn ms df rs ow nt mi = some (if x1 = 0 then nI (fsS (zW W T) T (2 ^ T)) else nI (pcN (fsS (zW W T) T (2 ^ T))), vs, il, ca, mn, ms, df, rs, ow, nt, mi) := by
  have hS := p14 hT
  have hp := Nat.two_pow_pos T
  have hf := fsS_lt (z := zW W T) (T := T) (2 ^ T) (Nat.le_refl _)
  rw [show (-6 : Int32) = encT T (mbS (zW W T) T 0) from (if_pos rfl).symm]
  refine lpd (m := 2 ^ T) (g := fun n s (f : Nat) => bX12_fewest_19 N ns nz nm kn0 mt (nI T) n x1 (encT T f) (nI s) vs il ca mn ms df rs ow nt mi) (fun s => mbS (zW W T) T s) (fun n => ?_) (fun n s hs => ?_) (2 ^ T) 0 N (by omega) (by omega)
  · rw [bX12_fewest_19, sh15 T (by omega), if_pos (nI_le (Nat.le_refl _) (by omega)), mb_end hT hW.1, show encT T (fsS (zW W T) T (2 ^ T)) = nI (fsS (zW W T) T (2 ^ T)) from if_neg (by omega), onM (by omega) (by omega), Option.bind_some]
    by_cases c : x1 = 0
    · rw [if_pos c, if_pos c]
    · rw [if_neg c, if_neg c]
  · have w96 := hW.2.1 ((2 ^ T - 1) ^^^ s)
    have ml := mbS_le (z := zW W T) (T := T) s (by omega)
    have p1 := pc_le s
    have p2 := pc_le (mbS (zW W T) T s)
    rw [bX12_fewest_19, sh15 T (by omega), if_neg (nI_ge hs (by omega)), un_bnd (show s < 16384 by omega) (by decide), un_cl (show s < 2 ^ 31 by omega), hM s hs, nI_1 s, mbS]
    by_cases c : W ((2 ^ T - 1) ^^^ s) = 0
    · have cz : zW W T s = true := decide_eq_true c
      rw [if_pos ((nI_z (by omega)).mpr c)]
      by_cases c2 : mbS (zW W T) T s = 2 ^ T
      · rw [if_pos (show zW W T s = true ∧ (mbS (zW W T) T s = 2 ^ T ∨ pcN s < pcN (mbS (zW W T) T s)) from ⟨cz, Or.inl c2⟩), c2, if_pos (show encT T (2 ^ T) < 0 by rw [encT, if_pos rfl]; decide), show encT T s = nI s from if_neg (by omega)]
      · have ee : encT T (mbS (zW W T) T s) = nI (mbS (zW W T) T s) := if_neg c2
        rw [ee, if_neg (nI_pos (by omega)), onM (by omega) (by omega), Option.bind_some, onM (by omega) (by omega), Option.bind_some]
        by_cases c3 : pcN s < pcN (mbS (zW W T) T s)
        · rw [if_neg (nI_ge c3 (by omega)), if_pos (show zW W T s = true ∧ (mbS (zW W T) T s = 2 ^ T ∨ pcN s < pcN (mbS (zW W T) T s)) from ⟨cz, Or.inr c3⟩), show encT T s = nI s from if_neg (by omega)]
        · rw [if_pos (nI_le (by omega) (by omega)), if_neg (show ¬ (zW W T s = true ∧ (mbS (zW W T) T s = 2 ^ T ∨ pcN s < pcN (mbS (zW W T) T s))) from fun q => q.2.elim c2 c3), ee]
    · rw [if_neg (fun q => c ((nI_z (by omega)).mp q)), if_neg (show ¬ (zW W T s = true ∧ (mbS (zW W T) T s = 2 ^ T ∨ pcN s < pcN (mbS (zW W T) T s))) from fun q => c (of_decide_eq_true q.1))]
