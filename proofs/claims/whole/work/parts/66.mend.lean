/-! mend -/
theorem cntB_mono {q : Nat → Bool} {a b : Nat} (h : a ≤ b) : cntB q a ≤ cntB q b := by
  obtain ⟨d, rfl⟩ : ∃ d, b = a + d := ⟨b - a, by omega⟩
  rw [cntB_add]; omega
def fl (q : Nat → Bool) (x : Nat) : Int32 := if cntB q x = 0 then 1 else 0
theorem fl_0 {q : Nat → Bool} : fl q 0 = 1 := rfl
theorem fl_p {q : Nat → Bool} {x : Nat} (h : ¬ cntB q x = 0) : fl q x = 0 := if_neg h
theorem fl_z {q : Nat → Bool} {x : Nat} (h : cntB q x = 0) : fl q x = 1 := if_pos h
theorem fl_up {q : Nat → Bool} {x y : Nat} (h : ¬ cntB q x = 0) (hy : x ≤ y) : fl q y = 0 := fl_p (by have := cntB_mono (q := q) hy; omega)
theorem fl_t {q : Nat → Bool} {x : Nat} (h : q x = true) : fl q (x + 1) = 0 := fl_p (by rw [cntB, if_pos h]; omega)
theorem fl_f {q : Nat → Bool} {x : Nat} (h : ¬ q x = true) : fl q (x + 1) = fl q x := by unfold fl; rw [cntB, if_neg h]; rfl
theorem bo_fl {α : Type} {q : Nat → Bool} {x : Nat} {k : Option α} : bo (fl q x) k = k := by
  unfold fl bo
  by_cases c : cntB q x = 0
  · rw [if_pos c]; rfl
  · rw [if_neg c]; rfl
theorem nfC {N T row : Nat} {lo mi hi : Nat → Int64} {f ti td : Nat → Nat} {ci cd mt md : Nat → Int32} (hN : 600 ≤ N) (h : RV lo mi hi row f) (hf : ∀ x, f x < 8) (hrow : row < 98) (hT : TE T ti td ci cd mt md) : fX8_noneFailsFor N lo mi hi ci cd (nI T) (nI row) = some (fl (qfl f ti td) T) := by
  have h14 := hT.1
  have key : ∀ d t n, t + d = T → d < n → cntB (qfl f ti td) t = 0 → bX8_noneFailsFor_2 N lo mi hi ci cd (nI T) n (nI row) (nI t) = some (fl (qfl f ti td) T) := by
    intro d
    induction d with
    | zero =>
      intro t n ht hn hz
      obtain ⟨n, rfl⟩ : ∃ z, n = z + 1 := ⟨n - 1, by omega⟩
      have e : t = T := by omega
      subst e
      rw [bX8_noneFailsFor_2, if_pos (nI_le (Nat.le_refl _) (by omega)), fl_z hz]
    | succ d ih =>
      intro t n ht hn hz
      obtain ⟨n, rfl⟩ : ∃ z, n = z + 1 := ⟨n - 1, by omega⟩
      rw [bX8_noneFailsFor_2, if_neg (nI_ge (show t < T by omega) (by omega)), ffC h hf hrow hT (by omega), Option.bind_some, if10, nI_1 t]
      by_cases q : qfl f ti td t = true
      · rw [if_pos q, fl_up (x := t + 1) (y := T) (by rw [cntB, if_pos q]; omega) (by omega)]
      · rw [if_neg q]
        exact ih (t + 1) n (by omega) (by omega) (by rw [cntB, if_neg q, hz])
  exact key T 0 N (by omega) (by omega) rfl
theorem dmM {N T m j : Nat} {F : Nat → Nat} {G : Nat → Nat → Nat} {ti td : Nat → Nat} {ci cd mt md rs ow : Nat → Int32} {ca : Int32} (hN : 600 ≤ N) (hm : m ≤ 96) (h : LX m F G ca rs ow) (hG : ∀ j x, G j x < 8) (hj : j < m) (hT : TE T ti td ci cd mt md) : fX12_doesMend N rs mt md (nI T) (nI j) = some (fl (qfl (G j) ti td) T) := by
  have h14 := hT.1
  rw [fX12_doesMend]
  refine lpd (m := T) (g := fun n t s => bX12_doesMend_4 N rs mt md (nI T) n (nI j) s (nI t)) (fun t => fl (qfl (G j) ti td) t) (fun n => ?_) (fun n t ht => ?_) T 0 N (by omega) (by omega)
  · rw [bX12_doesMend_4, if_pos (nI_le (Nat.le_refl _) (by omega)), bo_fl]
  · obtain ⟨a1, a2, a3, a4, a5, a6⟩ := hT.2 t ht
    have hx := hG j (ti t)
    rw [bX12_doesMend_4, if_neg (nI_ge ht (by omega)), nI_1 t, un_bnd (show t < 14 by omega) (by decide), un_cl (by omega), a2, show (512 : Int32) * nI j + nI (ti t) = nI (512 * j + ti t) by rw [show (512 : Int32) = nI 512 from rfl, pk_mul, nI_add], un_bnd (show 512 * j + ti t < 49152 by omega) (by decide), un_cl (show 512 * j + ti t < 2 ^ 31 by omega), h.2.2 j hj _ a3, a5]
    by_cases z : cntB (qfl (G j) ti td) t = 0
    · rw [fl_z z, if_neg (show ¬ (1 : Int32) = 0 by decide)]
      by_cases q : G j (ti t) = td t
      · have nq : ¬ qfl (G j) ti td t = true := fun c => (of_decide_eq_true c) q
        rw [if_pos (by rw [q]), fl_f nq, fl_z z]
      · rw [if_neg (fun c => q ((nI_eq (by omega) (by omega)).mp c)), fl_t (decide_eq_true q)]
    · rw [fl_p z, if_pos rfl, fl_up (y := t + 1) z (by omega)]
theorem arM {N m a b : Nat} {F : Nat → Nat} {G : Nat → Nat → Nat} {rs ow : Nat → Int32} {ca : Int32} (hN : 600 ≤ N) (hm : m ≤ 96) (h : LX m F G ca rs ow) (hG : ∀ j x, G j x < 8) (ha : a < m) (hb : b < m) : fX12_areAlike N rs (nI a) (nI b) = some (fl (dif (G a) (G b)) 512) := by
  have key : ∀ d x n, x + d = 512 → d < n → bX12_areAlike_5 N rs n (nI a) (nI b) (fl (dif (G a) (G b)) x) (nI x) = some (fl (dif (G a) (G b)) 512) := by
    intro d
    induction d with
    | zero =>
      intro x n hx hn
      obtain ⟨n, rfl⟩ : ∃ z, n = z + 1 := ⟨n - 1, by omega⟩
      have e : x = 512 := by omega
      subst e
      rw [bX12_areAlike_5, if_pos (show (512 : Int32) ≤ nI 512 by decide), bo_fl]
    | succ d ih =>
      intro x n hx hn
      obtain ⟨n, rfl⟩ : ∃ z, n = z + 1 := ⟨n - 1, by omega⟩
      have ii := ih (x + 1) n (by omega) (by omega)
      have ga := hG a x
      have gb' := hG b x
      rw [bX12_areAlike_5, if_neg (show ¬ (512 : Int32) ≤ nI x from nI_ge (b := 512) (by omega) (by decide))]
      by_cases z : cntB (dif (G a) (G b)) x = 0
      · rw [fl_z z, if_neg (show ¬ (1 : Int32) = 0 by decide), show (512 : Int32) * nI a + nI x = nI (512 * a + x) by rw [show (512 : Int32) = nI 512 from rfl, pk_mul, nI_add], show (512 : Int32) * nI b + nI x = nI (512 * b + x) by rw [show (512 : Int32) = nI 512 from rfl, pk_mul, nI_add], un_bnd (show 512 * a + x < 49152 by omega) (by decide), un_bnd (show 512 * b + x < 49152 by omega) (by decide), un_cl (show 512 * a + x < 2 ^ 31 by omega), un_cl (show 512 * b + x < 2 ^ 31 by omega), h.2.2 a ha x (by omega), h.2.2 b hb x (by omega), nI_1 x]
        by_cases q : G a x = G b x
        · rw [if_pos (by rw [q])]
          rw [fl_f (show ¬ dif (G a) (G b) x = true from fun c => (of_decide_eq_true c) q), fl_z z] at ii
          exact ii
        · rw [if_neg (fun c => q ((nI_eq (by omega) (by omega)).mp c))]
          rw [fl_t (show dif (G a) (G b) x = true from decide_eq_true q)] at ii
          exact ii
      · rw [fl_p z, if_pos rfl, fl_up (y := 512) z (by omega)]
        rfl
  exact key 512 0 N (by omega) (by omega)
def qm (G : Nat → Nat → Nat) (ti td : Nat → Nat) (T j : Nat) : Bool := decide (cntB (qfl (G j) ti td) T = 0)
def alk (G : Nat → Nat → Nat) (a b : Nat) : Bool := decide (cntB (dif (G a) (G b)) 512 = 0)
theorem alk_c {G : Nat → Nat → Nat} {a b : Nat} : alk G a b = alk G b a := by
  unfold alk
  rw [cntB_congr (q := dif (G a) (G b)) (q' := dif (G b) (G a)) 512 (fun x _ => by
    unfold dif
    by_cases q : G a x = G b x
    · rw [decide_eq_false (fun c => c q), decide_eq_false (fun c => c q.symm)]
    · rw [decide_eq_true q, decide_eq_true (show ¬ G b x = G a x from fun c => q c.symm)])]
theorem fl_qm {G : Nat → Nat → Nat} {ti td : Nat → Nat} {T j : Nat} : fl (qfl (G j) ti td) T = if qm G ti td T j = true then 1 else 0 := by
  unfold fl qm
  by_cases q : cntB (qfl (G j) ti td) T = 0
  · rw [if_pos q, if_pos (decide_eq_true q)]
  · rw [if_neg q, if_neg (fun c => q (of_decide_eq_true c))]
theorem fl_alk {G : Nat → Nat → Nat} {a b : Nat} : fl (dif (G a) (G b)) 512 = if alk G a b = true then 1 else 0 := by
  unfold fl alk
  by_cases q : cntB (dif (G a) (G b)) 512 = 0
  · rw [if_pos q, if_pos (decide_eq_true q)]
  · rw [if_neg q, if_neg (fun c => q (of_decide_eq_true c))]
def bad (G : Nat → Nat → Nat) (ti td : Nat → Nat) (T J s : Nat) : Bool := qm G ti td T s && alk G s J
def kB (G : Nat → Nat → Nat) (ti td : Nat → Nat) (T J : Nat) : Bool := qm G ti td T J && decide (cntB (bad G ti td T J) J = 0)
theorem ifM {N T m J : Nat} {F : Nat → Nat} {G : Nat → Nat → Nat} {ti td : Nat → Nat} {ci cd mt md rs ow : Nat → Int32} {ca : Int32} (hN : 600 ≤ N) (hm : m ≤ 96) (h : LX m F G ca rs ow) (hG : ∀ j x, G j x < 8) (hJ : J < m) (hT : TE T ti td ci cd mt md) : fX12_isFirstKind N rs mt md (nI T) (nI J) = some (fl (bad G ti td T J) J) := by
  have key : ∀ d s n, s + d = J → d < n → bX12_isFirstKind_4 N rs mt md (nI T) n (nI J) (fl (bad G ti td T J) s) (nI s) = some (fl (bad G ti td T J) J) := by
    intro d
    induction d with
    | zero =>
      intro s n hx hn
      obtain ⟨n, rfl⟩ : ∃ z, n = z + 1 := ⟨n - 1, by omega⟩
      have e : s = J := by omega
      subst e
      rw [bX12_isFirstKind_4, if_pos (nI_le (Nat.le_refl _) (by omega)), bo_fl]
    | succ d ih =>
      intro s n hx hn
      obtain ⟨n, rfl⟩ : ∃ z, n = z + 1 := ⟨n - 1, by omega⟩
      have ii := ih (s + 1) n (by omega) (by omega)
      rw [bX12_isFirstKind_4, if_neg (nI_ge (show s < J by omega) (by omega))]
      by_cases z : cntB (bad G ti td T J) s = 0
      · rw [fl_z z, if_neg (show ¬ (1 : Int32) = 0 by decide), dmM hN hm h hG (show s < m by omega) hT, Option.bind_some, fl_qm, if10, nI_1 s]
        by_cases q : qm G ti td T s = true
        · rw [if_pos q, arM hN hm h hG hJ (show s < m by omega), Option.bind_some, fl_alk, if10, alk_c]
          by_cases q2 : alk G s J = true
          · rw [if_pos q2]
            rw [fl_t (show bad G ti td T J s = true by unfold bad; rw [q, q2]; rfl)] at ii
            exact ii
          · rw [if_neg q2]
            rw [fl_f (show ¬ bad G ti td T J s = true from fun c => by unfold bad at c; rw [q, Bool.true_and] at c; exact q2 c), fl_z z] at ii
            exact ii
        · rw [if_neg q]
          rw [fl_f (show ¬ bad G ti td T J s = true from fun c => by unfold bad at c; rw [Bool.and_eq_true] at c; exact q c.1), fl_z z] at ii
          exact ii
      · rw [fl_p z, if_pos rfl, fl_up (y := J) z (by omega)]
        rfl
  exact key J 0 N (by omega) (by omega)
def mp (q : Nat → Bool) (x1 : Int32) : Nat → Int32
  | 0 => -6
  | j + 1 => if q j = true ∧ nI (cntB q j) = x1 then nI j else mp q x1 j
theorem mp_no {q : Nat → Bool} {x1 : Int32} : ∀ j, (∀ i, i < j → q i = true → ¬ nI (cntB q i) = x1) → mp q x1 j = -6 := by
  intro j
  induction j with
  | zero => intro _; rfl
  | succ j ih =>
    intro h
    rw [mp, if_neg (fun c => h j (by omega) c.1 c.2)]
    exact ih (fun i hi => h i (by omega))
theorem mp_yes {q : Nat → Bool} {x1 : Int32} {i : Nat} (hq : q i = true) (hx : nI (cntB q i) = x1) : ∀ j, j < 2 ^ 31 → i < j → mp q x1 j = nI i := by
  intro j
  induction j with
  | zero => intro _ h; omega
  | succ j ih =>
    intro hj h
    rw [mp]
    by_cases e : i = j
    · subst e; rw [if_pos ⟨hq, hx⟩]
    · have m1 := cntB_mono (q := q) (show i + 1 ≤ j by omega)
      rw [cntB, if_pos hq] at m1
      have m2 := cntB_le (q := q) j
      rw [if_neg (fun c => by have := (nI_eq (by omega) (by omega)).mp (c.2.trans hx.symm); omega)]
      exact ih (by omega) (by omega)
theorem cnt_surj {q : Nat → Bool} {p : Nat} : ∀ m, p < cntB q m → ∃ i, i < m ∧ q i = true ∧ cntB q i = p := by
  intro m
  induction m with
  | zero => intro h; exact absurd h (Nat.not_lt_zero _)
  | succ m ih =>
    intro h
    rw [cntB] at h
    by_cases c : p < cntB q m
    · obtain ⟨i, a, b, e⟩ := ih c
      exact ⟨i, by omega, b, e⟩
    · by_cases c2 : q m = true
      · rw [if_pos c2] at h; exact ⟨m, by omega, c2, by omega⟩
      · rw [if_neg c2] at h; omega
theorem cnt_ix {q r : Nat → Bool} {ix : Nat → Nat} : ∀ j, (∀ i, i < j → q i = true → ix (cntB q i) = i) → cntB (fun s => q s && r s) j = cntB (fun p => r (ix p)) (cntB q j) := by
  intro j
  induction j with
  | zero => intro _; rfl
  | succ j ih =>
    intro h
    have ii := ih (fun i hi => h i (by omega))
    rw [cntB, ii, show cntB q (j + 1) = cntB q j + (if q j = true then 1 else 0) from rfl]
    cases e : q j
    · rfl
    · have e2 := h j (by omega) e
      show cntB (fun p => r (ix p)) (cntB q j) + (if (true && r j) = true then 1 else 0) = cntB (fun p => r (ix p)) (cntB q j) + (if r (ix (cntB q j)) = true then 1 else 0)
      rw [e2, Bool.true_and]
theorem fdC {N T m : Nat} {F : Nat → Nat} {G : Nat → Nat → Nat} {ti td : Nat → Nat} {ci cd mt md fd : Nat → Int32} {lo mi hi : Nat → Int64} {c0 : Int32} (hN : 600 ≤ N) (h : RX lo mi hi m F G) (hT : TE T ti td ci cd mt md) : ∃ fd', fX3_find N lo mi hi (nI m) ci cd (nI T) fd c0 = some (fd', nI (cntB (qm G ti td T) m)) ∧ ∀ i, i < m → qm G ti td T i = true → fd' (cntB (qm G ti td T) i) = nI i := by
  obtain ⟨hm, hF, hG, r0, rG⟩ := h
  obtain ⟨fd', e1, e2⟩ := lp (m := m) (g := fun n j (s : Nat → Int32) => bX3_find_7 N lo mi hi (nI m) ci cd (nI T) n (nI j) s (nI (cntB (qm G ti td T) j))) (fun j s => ∀ i, i < j → qm G ti td T i = true → s (cntB (qm G ti td T) i) = nI i) (fun s => some (s, nI (cntB (qm G ti td T) m))) (fun n s hs => by
    rw [bX3_find_7, if_pos (nI_le (Nat.le_refl _) (by omega))]) (fun n j s hj hs => by
    have hle := cntB_le (q := qm G ti td T) j
    rw [bX3_find_7, if_neg (nI_ge hj (by omega)), show (2 : Int32) + nI j = nI (2 + j) from nI_add 2 j, nfC hN (rG j hj) (hG j) (by omega) hT, Option.bind_some, fl_qm, if10, nI_1 j]
    by_cases q : qm G ti td T j = true
    · rw [if_pos q, un_bnd (show cntB (qm G ti td T) j < 96 by omega) (by decide), un_cl (by omega), cnt_t q]
      refine ⟨upd s (cntB (qm G ti td T) j) (nI j), rfl, fun i hi hq => ?_⟩
      by_cases e : i = j
      · subst e; rw [pk_us]
      · have m1 := cntB_mono (q := qm G ti td T) (show i + 1 ≤ j by omega)
        rw [cntB, if_pos hq] at m1
        rw [pk_un (by omega)]
        exact hs i (by omega) hq
    · rw [if_neg q]
      refine ⟨s, by rw [show cntB (qm G ti td T) (j + 1) = cntB (qm G ti td T) j by rw [cntB, if_neg q]; rfl], fun i hi hq => ?_⟩
      by_cases e : i = j
      · subst e; exact absurd hq q
      · exact hs i (by omega) hq) m 0 N fd (by omega) (by omega) (fun i hi => absurd hi (Nat.not_lt_zero _))
  exact ⟨fd', e1, e2⟩
theorem ueC {N m p c : Nat} {F : Nat → Nat} {G : Nat → Nat → Nat} {ix : Nat → Nat} {fd : Nat → Int32} {lo mi hi : Nat → Int64} (hN : 600 ≤ N) (h : RX lo mi hi m F G) (hc : c ≤ m) (hp : p < c) (hf : ∀ s, s < c → fd s = nI (ix s) ∧ ix s < m) : fX3_isUnlikeEarlierOnes N lo mi hi fd (nI p) = some (fl (fun s => alk G (ix s) (ix p)) p) := by
  obtain ⟨hm, hF, hG, r0, rG⟩ := h
  obtain ⟨fp1, fp2⟩ := hf p hp
  have key : ∀ d s n, s + d = p → d < n → cntB (fun s => alk G (ix s) (ix p)) s = 0 → bX3_isUnlikeEarlierOnes_2 N lo mi hi fd n (nI p) (nI s) = some (fl (fun s => alk G (ix s) (ix p)) p) := by
    intro d
    induction d with
    | zero =>
      intro s n hx hn hz
      obtain ⟨n, rfl⟩ : ∃ z, n = z + 1 := ⟨n - 1, by omega⟩
      have e : s = p := by omega
      subst e
      rw [bX3_isUnlikeEarlierOnes_2, if_pos (nI_le (Nat.le_refl _) (by omega)), fl_z hz]
    | succ d ih =>
      intro s n hx hn hz
      obtain ⟨n, rfl⟩ : ∃ z, n = z + 1 := ⟨n - 1, by omega⟩
      obtain ⟨fs1, fs2⟩ := hf s (by omega)
      have hle := cntB_le (q := dif (G (ix s)) (G (ix p))) 512
      rw [bX3_isUnlikeEarlierOnes_2, if_neg (nI_ge (show s < p by omega) (by omega)), un_bnd (show s < 96 by omega) (by decide), un_bnd (show p < 96 by omega) (by decide), un_cl (show s < 2 ^ 31 by omega), un_cl (show p < 2 ^ 31 by omega), fs1, fp1, show (2 : Int32) + nI (ix s) = nI (2 + ix s) from nI_add 2 (ix s), show (2 : Int32) + nI (ix p) = nI (2 + ix p) from nI_add 2 (ix p), st_unlikeMany (by omega) (rG _ fs2) (rG _ fp2) (hG _) (hG _) (by omega) (by omega), Option.bind_some, nI_1 s]
      by_cases q : cntB (dif (G (ix s)) (G (ix p))) 512 = 0
      · rw [if_pos ((nI_z (by omega)).mpr q), fl_up (x := s + 1) (y := p) (by rw [cntB, if_pos (show alk G (ix s) (ix p) = true from decide_eq_true q)]; omega) (by omega)]
      · rw [if_neg (fun c => q ((nI_z (by omega)).mp c))]
        exact ih (s + 1) n (by omega) (by omega) (by rw [cntB, if_neg (show ¬ alk G (ix s) (ix p) = true from fun c => q (of_decide_eq_true c)), hz])
  exact key p 0 N (by omega) (by omega) rfl
theorem s_mend {N k m T : Nat} {sg nd sn ft ns nz nm vs mn ms df rs ow ci cd mt md fd : Nat → Int32} {ti td : Nat → Nat} {lo mi hi : Nat → Int64} {il ca x1 c0 : Int32} (hN : 600 ≤ N) (h : LH N sg k m nd sn ft lo mi hi ns nz nm) (hI : IL sg m nd sn ft il ca mn ms df rs ow) (hT : TE T ti td ci cd mt md) :
    ∃ r fd' c' vs' il' ca' mn' ms' df' rs' ow', fX11_mend N lo mi hi (nI m) ci cd (nI T) x1 fd c0 = some (r, fd', c') ∧ fX12_mend N ns nz nm kn0 mt md (nI T) x1 vs il ca mn ms df rs ow = some (r, vs', il', ca', mn', ms', df', rs', ow') ∧ IL sg m nd sn ft il' ca' mn' ms' df' rs' ow' := by
  obtain ⟨vs', mn', ms', df', rs', ow', q1, q2⟩ := st_faiM (vs := vs) hN h hI hT
  have hI' : IL sg m nd sn ft 1 (nI m) mn' ms' df' rs' ow' := Or.inr ⟨rfl, q2⟩
  have hx := q2.lx
  have hr := h.rx
  have hm := hr.1
  have hG : ∀ j x, gR sg nd sn j x < 8 := hr.2.2.1
  have h14 := hT.1
  have u3 := cntB_le (q := qfl (own sg) ti td) T
  rw [fX11_mend, fX12_mend, q1, Option.bind_some, faiC hN hr.2.2.2.1 own_lt hT, Option.bind_some]
  dsimp only
  by_cases f0 : cntB (qfl (own sg) ti td) T = 0
  · rw [if_pos ((nI_z (by omega)).mpr f0), if_pos ((nI_z (by omega)).mpr f0)]
    exact ⟨_, fd, c0, vs', 1, nI m, mn', ms', df', rs', ow', rfl, rfl, hI'⟩
  rw [if_neg (fun c => f0 ((nI_z (by omega)).mp c)), if_neg (fun c => f0 ((nI_z (by omega)).mp c))]
  generalize gR sg nd sn = G at *
  have e21 : bX12_mend_21 N ns nz nm kn0 mt md (nI T) N x1 0 0 (-6) 0 vs' 1 (nI m) mn' ms' df' rs' ow' = some (if x1 = -1 then nI (cntB (qm G ti td T) m) else if x1 = -2 then (if x1 = -2 then nI (cntB (kB G ti td T) m) else 0) else mp (qm G ti td T) x1 m, vs', 1, nI m, mn', ms', df', rs', ow') := by
    refine lpd (m := m) (g := fun n j (s : Int32 × Int32 × Int32) => bX12_mend_21 N ns nz nm kn0 mt md (nI T) n x1 s.1 s.2.1 s.2.2 (nI j) vs' 1 (nI m) mn' ms' df' rs' ow') (fun j => (nI (cntB (qm G ti td T) j), (if x1 = -2 then nI (cntB (kB G ti td T) j) else 0), mp (qm G ti td T) x1 j)) (fun n => ?_) (fun n j hj => ?_) m 0 N (by omega) (by omega) |> Eq.trans (by rw [show (if x1 = -2 then nI (cntB (kB G ti td T) 0) else 0) = 0 by split <;> rfl]; rfl)
    · dsimp only
      rw [bX12_mend_21, if_pos (nI_le (Nat.le_refl _) (by omega))]
      by_cases d1 : x1 = -1
      · rw [if_pos d1, if_pos d1]
      rw [if_neg d1, if_neg d1]
      by_cases d2 : x1 = -2
      · simp only [if_pos d2]
      · simp only [if_neg d2]
    · dsimp only
      rw [bX12_mend_21, if_neg (nI_ge hj (by omega)), dmM hN hm hx hG hj hT, Option.bind_some, fl_qm, if10, nI_1 j, bX12_mend_51, bX12_mend_51, ifM hN hm hx hG hj hT, Option.bind_some, Option.bind_some]
      by_cases q : qm G ti td T j = true
      · rw [if_pos q, cnt_t q, mp, nI_1 j]
        have ek : cntB (kB G ti td T) (j + 1) = cntB (kB G ti td T) j + (if cntB (bad G ti td T j) j = 0 then 1 else 0) := by
          rw [cntB]
          congr 1
          unfold kB
          rw [q, Bool.true_and]
          by_cases z : cntB (bad G ti td T j) j = 0
          · rw [if_pos (decide_eq_true z), if_pos z]
          · rw [if_neg (fun c => z (of_decide_eq_true c)), if_neg z]
        have tail : ∀ y : Int32, (if x1 = -2 then (if fl (bad G ti td T j) j = 0 then bX12_mend_21 N ns nz nm kn0 mt md (nI T) n x1 (nI (cntB (qm G ti td T) (j + 1))) ((if x1 = -2 then nI (cntB (kB G ti td T) j) else 0) + 0) y (nI (j + 1)) vs' 1 (nI m) mn' ms' df' rs' ow' else bX12_mend_21 N ns nz nm kn0 mt md (nI T) n x1 (nI (cntB (qm G ti td T) (j + 1))) ((if x1 = -2 then nI (cntB (kB G ti td T) j) else 0) + 1) y (nI (j + 1)) vs' 1 (nI m) mn' ms' df' rs' ow') else bX12_mend_21 N ns nz nm kn0 mt md (nI T) n x1 (nI (cntB (qm G ti td T) (j + 1))) ((if x1 = -2 then nI (cntB (kB G ti td T) j) else 0) + 0) y (nI (j + 1)) vs' 1 (nI m) mn' ms' df' rs' ow') = bX12_mend_21 N ns nz nm kn0 mt md (nI T) n x1 (nI (cntB (qm G ti td T) (j + 1))) (if x1 = -2 then nI (cntB (kB G ti td T) (j + 1)) else 0) y (nI (j + 1)) vs' 1 (nI m) mn' ms' df' rs' ow' := fun y => by
          by_cases d2 : x1 = -2
          · rw [if_pos d2, if_pos d2, if_pos d2, ek]
            by_cases z : cntB (bad G ti td T j) j = 0
            · rw [fl_z z, if_neg (show ¬ (1 : Int32) = 0 by decide), if_pos z, nI_1]
            · rw [fl_p z, if_pos rfl, if_neg z, show (0 : Int32) = nI 0 from rfl, nI_add]
          · rw [if_neg d2, if_neg d2, if_neg d2]; rfl
        rw [tail, tail]
        by_cases q3 : nI (cntB (qm G ti td T) j) = x1
        · rw [if_pos q3, if_pos (show qm G ti td T j = true ∧ nI (cntB (qm G ti td T) j) = x1 from ⟨q, q3⟩)]
        · rw [if_neg q3, if_neg (show ¬ (qm G ti td T j = true ∧ nI (cntB (qm G ti td T) j) = x1) from fun c => q3 c.2)]
      · have eq : cntB (qm G ti td T) (j + 1) = cntB (qm G ti td T) j := by rw [cntB, if_neg q]; rfl
        have ek : cntB (kB G ti td T) (j + 1) = cntB (kB G ti td T) j := by
          rw [cntB, if_neg (fun c => q (by unfold kB at c; rw [Bool.and_eq_true] at c; exact c.1))]; rfl
        rw [if_neg q, mp, if_neg (show ¬ (qm G ti td T j = true ∧ nI (cntB (qm G ti td T) j) = x1) from fun c => q c.1), eq, ek]
  rw [e21]
  obtain ⟨fd', g1, g2⟩ := fdC (fd := fd) (c0 := c0) hN hr hT
  rw [g1, Option.bind_some]
  dsimp only
  have hc := cntB_le (q := qm G ti td T) m
  by_cases d1 : x1 = -1
  · rw [if_pos d1, if_pos d1]
    exact ⟨_, fd', _, vs', 1, nI m, mn', ms', df', rs', ow', rfl, rfl, hI'⟩
  rw [if_neg d1, if_neg d1]
  by_cases d2 : x1 = -2
  · rw [if_pos d2, if_pos d2, if_pos d2]
    have ixp : ∀ s, s < cntB (qm G ti td T) m → ∃ i, fd' s = nI i ∧ i < m ∧ qm G ti td T i = true ∧ cntB (qm G ti td T) i = s := fun s hs => by
      obtain ⟨i, i1, i2, i3⟩ := cnt_surj m hs
      exact ⟨i, by rw [← i3]; exact g2 i i1 i2, i1, i2, i3⟩
    have ixq : ∀ i, i < m → qm G ti td T i = true → Int32.toNatClampNeg (fd' (cntB (qm G ti td T) i)) = i := fun i hi hq => by rw [g2 i hi hq, un_cl (by omega)]
    have hfd : ∀ s, s < cntB (qm G ti td T) m → fd' s = nI (Int32.toNatClampNeg (fd' s)) ∧ Int32.toNatClampNeg (fd' s) < m := fun s hs => by
      obtain ⟨i, i1, i2, i3, i4⟩ := ixp s hs
      rw [i1, un_cl (by omega)]; exact ⟨rfl, i2⟩
    have ek : fX3_kinds N lo mi hi fd' (nI (cntB (qm G ti td T) m)) = some (nI (cntB (kB G ti td T) m)) := by
      have e1 : cntB (kB G ti td T) m = cntB (fun p => decide (cntB (bad G ti td T (Int32.toNatClampNeg (fd' p))) (Int32.toNatClampNeg (fd' p)) = 0)) (cntB (qm G ti td T) m) := cnt_ix (q := qm G ti td T) (r := fun J => decide (cntB (bad G ti td T J) J = 0)) (ix := fun p => Int32.toNatClampNeg (fd' p)) m ixq
      have e2 : cntB (fun p => decide (cntB (bad G ti td T (Int32.toNatClampNeg (fd' p))) (Int32.toNatClampNeg (fd' p)) = 0)) (cntB (qm G ti td T) m) = cntB (fun p => decide (cntB (fun s => alk G (Int32.toNatClampNeg (fd' s)) (Int32.toNatClampNeg (fd' p))) p = 0)) (cntB (qm G ti td T) m) := cntB_congr _ (fun p hp => by
        obtain ⟨i, i1, i2, i3, i4⟩ := ixp p hp
        have e3 : cntB (bad G ti td T i) i = cntB (fun s => alk G (Int32.toNatClampNeg (fd' s)) i) (cntB (qm G ti td T) i) := cnt_ix (q := qm G ti td T) (r := fun s => alk G s i) (ix := fun p => Int32.toNatClampNeg (fd' p)) i (fun a ha => ixq a (by omega))
        rw [i1, un_cl (by omega), e3, i4])
      rw [e1, e2, fX3_kinds]
      refine lpd (m := cntB (qm G ti td T) m) (g := fun n p (s : Nat) => bX3_kinds_4 N lo mi hi fd' (nI (cntB (qm G ti td T) m)) n (nI s) (nI p)) (fun p => cntB (fun p => decide (cntB (fun s => alk G (Int32.toNatClampNeg (fd' s)) (Int32.toNatClampNeg (fd' p))) p = 0)) p) (fun n => ?_) (fun n p hp => ?_) (cntB (qm G ti td T) m) 0 N (by omega) (by omega)
      · rw [bX3_kinds_4, if_pos (nI_le (Nat.le_refl _) (by omega))]
      · rw [bX3_kinds_4, if_neg (nI_ge hp (by omega)), ueC (ix := fun s => Int32.toNatClampNeg (fd' s)) hN hr hc hp hfd, Option.bind_some, nI_1 p]
        by_cases z : cntB (fun s => alk G (Int32.toNatClampNeg (fd' s)) (Int32.toNatClampNeg (fd' p))) p = 0
        · rw [fl_z z, if_neg (show ¬ (1 : Int32) = 0 by decide), cnt_t (decide_eq_true z)]
        · rw [fl_p z, if_pos rfl, cnt_f (fun c => z (of_decide_eq_true c))]
    rw [ek, Option.bind_some]
    exact ⟨_, fd', _, vs', 1, nI m, mn', ms', df', rs', ow', rfl, rfl, hI'⟩
  rw [if_neg d2, if_neg d2]
  by_cases d3 : x1 < 0
  · rw [if_pos d3, mp_no m (fun i hi hq c => by rw [← c] at d3; exact nI_pos (by have := cntB_le (q := qm G ti td T) i; omega) d3)]
    exact ⟨_, fd', _, vs', 1, nI m, mn', ms', df', rs', ow', rfl, rfl, hI'⟩
  rw [if_neg d3]
  by_cases d4 : nI (cntB (qm G ti td T) m) ≤ x1
  · rw [if_pos d4, mp_no m (fun i hi hq c => by
      rw [← c] at d4
      have m1 := cntB_mono (q := qm G ti td T) (show i + 1 ≤ m by omega)
      rw [cntB, if_pos hq] at m1
      exact nI_ge (by omega) (by omega) d4)]
    exact ⟨_, fd', _, vs', 1, nI m, mn', ms', df', rs', ow', rfl, rfl, hI'⟩
  rw [if_neg d4]
  obtain ⟨p, hp, rfl⟩ := inx (x := x1) (n := cntB (qm G ti td T) m) (by omega) (fun c => c.elim d3 d4)
  obtain ⟨i, i1, i2, i3⟩ := cnt_surj m hp
  rw [un_bnd (show p < 96 by omega) (by decide), un_cl (by omega), mp_yes i2 (by rw [i3]) m (by omega) i1, ← i3, g2 i i1 i2]
  exact ⟨_, fd', _, vs', 1, nI m, mn', ms', df', rs', ow', rfl, rfl, hI'⟩
