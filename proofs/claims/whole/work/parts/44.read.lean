/-! the reference reads a text -/
/-- its row of open nodes at place t: q of them, os their numbers, dv how many parts each wants still -/
def RO (sg : Nat → Int32) (k t q : Nat) (os dv : Nat → Nat) (due opn : Nat → Int32) : Prop := (∀ i, 1 ≤ i → i ≤ q → opn i = nI (os i) ∧ due i = nI (dv i) ∧ os i < k ∧ dv i ≤ wn sg (os i) ∧ 1 ≤ dv i) ∧ (∀ i, 1 ≤ i → i < q → cn sg (os i) (wn sg (os i) - dv i) = os (i + 1)) ∧ (1 ≤ q → os 1 = 0 ∧ cn sg (os q) (wn sg (os q) - dv q) = t)
/-- what it has laid of the nodes ahead of t -/
def RD (sg : Nat → Int32) (k t q b : Nat) (os : Nat → Nat) (ns no nz : Nat → Int32) : Prop := ∀ c, c < t → ns (b + c) = sg c ∧ ((c = 0 ∧ no (b + c) = -6) ∨ ∃ o j, o < k ∧ j < wn sg o ∧ c = cn sg o j ∧ no (b + c) = nI o) ∧ ((∃ i, 1 ≤ i ∧ i ≤ q ∧ os i = c) ∨ nz (b + c) = nI (en sg c - c))
theorem rd_pop {N k t b : Nat} {x : Int32} {sg ms : Nat → Int32} {k38 : Int32 → Int32 → Int32 → (Int32) → (Nat → Int32) → (Nat → Int32) → (Nat → Int32) → (Nat → Int32) → (Nat → Int32) → (Nat → Int32) → (Int32) → Option (Int32 × (Int32) × (Nat → Int32) × (Nat → Int32) × (Nat → Int32) × (Nat → Int32) × (Nat → Int32) × (Nat → Int32) × (Int32))} {sm il : Int32} {ns no nm opn : Nat → Int32} (h : WF sg k) (hk : k ≤ 24) (ht : t < k) (hb : b ≤ 24) (hx : (24 : Int32) * x = nI b) (os : Nat → Nat) : ∀ (q n : Nat) (dv : Nat → Nat) (due nz : Nat → Int32), q ≤ 25 → q < n → (∀ c, c < k → ns (b + c) = ns (b + c)) →
    (∀ i, 1 ≤ i → i ≤ q → opn i = nI (os i) ∧ due i = nI (dv i) ∧ os i < k ∧ dv i ≤ wn sg (os i) ∧ (i < q → 1 ≤ dv i)) → (∀ i, 1 ≤ i → i < q → cn sg (os i) (wn sg (os i) - dv i) = os (i + 1)) → (1 ≤ q → os 1 = 0 ∧ cn sg (os q) (wn sg (os q) - dv q) = t + 1) → (∀ c, c < t + 1 → (∃ i, 1 ≤ i ∧ i ≤ q ∧ os i = c) ∨ nz (b + c) = nI (en sg c - c)) → (q = 0 → t + 1 = k) →
    ∃ (q' : Nat) (dv' : Nat → Nat) (due' nz' : Nat → Int32), q' ≤ q ∧ bX12_read_114 N ms k38 n x (nI q) (nI t) sm ns no nz nm due opn il = k38 x (nI q') (nI (t + 1)) sm ns no nz' nm due' opn il ∧ RO sg k (t + 1) q' os dv' due' opn ∧ (∀ c, c < t + 1 → (∃ i, 1 ≤ i ∧ i ≤ q' ∧ os i = c) ∨ nz' (b + c) = nI (en sg c - c)) ∧ (q' = 0 → t + 1 = k) ∧ (∀ m, (m < b ∨ b + k ≤ m) → nz' m = nz m) := by
  have hk40 : k ≤ 40 := by omega
  intro q
  induction q with
  | zero =>
    intro n dv due nz hq hn _ h1 h2 h3 h4 h5
    obtain ⟨n, rfl⟩ : ∃ m, n = m + 1 := ⟨n - 1, by omega⟩
    refine ⟨0, dv, due, nz, by omega, ?_, ⟨fun i a1 a2 => by omega, fun i a1 a2 => by omega, fun a => by omega⟩, h4, h5, fun _ _ => rfl⟩
    rw [bX12_read_114, if_pos (show nI 0 ≤ 0 by decide), nI_1]
  | succ q ih =>
    intro n dv due nz hq hn hz0 h1 h2 h3 h4 h5
    obtain ⟨n, rfl⟩ : ∃ m, n = m + 1 := ⟨n - 1, by omega⟩
    obtain ⟨a1, a2, a3, a4, -⟩ := h1 (q + 1) (by omega) (Nat.le_refl _)
    have hw4 := wn_le h a3
    rw [bX12_read_114, if_neg (nI_nle (by omega) (by omega)), un_bnd (by omega) (by decide), un_cl (by omega), a2]
    by_cases hd : dv (q + 1) = 0
    · rw [hd, if_pos (show nI 0 = 0 from rfl), a1, hx, nI_add, un_bnd (by omega) (by decide), pk_m1, un_bnd (by omega) (by decide), un_cl (by omega), un_cl (by omega)]
      -- the node ends at t + 1
      have he : en sg (os (q + 1)) = t + 1 := by
        have e := (h3 (by omega)).2
        rw [hd, Nat.sub_zero, cn_end h hk40 a3] at e
        exact e
      obtain ⟨f1, -, -, -⟩ := en_spec h hk40 a3
      have hsz : nI t - nI (os (q + 1)) + 1 = nI (en sg (os (q + 1)) - os (q + 1)) := by
        rw [pk_sub (by omega), nI_1, he]
        congr 1
        omega
      rw [hsz]
      have hdu : ∀ i, 1 ≤ i → i ≤ q → upd due q (due q - 1) i = if i = q then nI (dv q - 1) else due i := fun i i1 i2 => by
        by_cases qe : i = q
        · obtain ⟨-, b2, -, -, b5⟩ := h1 q (by omega) (by omega)
          obtain ⟨v, hv⟩ : ∃ v, dv q = v + 1 := ⟨dv q - 1, by have := b5 (by omega); omega⟩
          rw [qe, pk_us, if_pos rfl, b2, hv, nI_pred]
          rfl
        · rw [pk_un qe, if_neg qe]
      obtain ⟨q', dv', due', nz', r1, r2, r3, r4, r5, r6⟩ := ih n (fun i => if i = q then dv q - 1 else dv i) (upd due q (due q - 1)) (upd nz (b + os (q + 1)) (nI (en sg (os (q + 1)) - os (q + 1)))) (by omega) (by omega) hz0 (fun i i1 i2 => by
          obtain ⟨b1, b2, b3, b4, b5⟩ := h1 i i1 (by omega)
          rw [hdu i i1 i2]
          by_cases qe : i = q
          · rw [if_pos qe, if_pos qe]
            exact ⟨b1, rfl, b3, by rw [← qe]; omega, fun z => by omega⟩
          · rw [if_neg qe, if_neg qe]
            exact ⟨b1, b2, b3, b4, fun z => b5 (by omega)⟩) (fun i i1 i2 => by
          rw [if_neg (by omega)]
          exact h2 i i1 (by omega)) (fun q1 => by
          refine ⟨(h3 (by omega)).1, ?_⟩
          rw [if_pos rfl]
          obtain ⟨b1, b2, b3, b4, b5⟩ := h1 q q1 (by omega)
          have b5' := b5 (by omega)
          rw [show wn sg (os q) - (dv q - 1) = (wn sg (os q) - dv q) + 1 by omega]
          show en sg (cn sg (os q) (wn sg (os q) - dv q)) = t + 1
          rw [h2 q q1 (by omega)]
          exact he) (fun c hc => by
          rcases h4 c hc with ⟨i, i1, i2, i3⟩ | hz
          · by_cases qe : i = q + 1
            · right
              rw [← i3, qe, pk_us]
            · exact Or.inl ⟨i, i1, by omega, i3⟩
          · by_cases qe : c = os (q + 1)
            · right; rw [qe, pk_us]
            · right; rw [pk_un (by omega)]; exact hz) (fun q0 => by
          have e1 := (h3 (by omega)).1
          rw [q0] at he
          rw [show (0 : Nat) + 1 = 1 from rfl, e1, en_root h hk40] at he
          exact he.symm)
      refine ⟨q', dv', due', nz', by omega, r2, r3, r4, r5, fun m hm => ?_⟩
      rw [r6 m hm, pk_un (by omega)]
    · have hw := hw4
      rw [if_neg (nI_ne0 (by omega) (by omega)), nI_1]
      refine ⟨q + 1, dv, due, nz, Nat.le_refl _, rfl, ⟨fun i i1 i2 => ?_, h2, h3⟩, h4, fun z => by omega, fun _ _ => rfl⟩
      obtain ⟨b1, b2, b3, b4, b5⟩ := h1 i i1 i2
      refine ⟨b1, b2, b3, b4, ?_⟩
      by_cases qe : i = q + 1
      · rw [qe]; omega
      · exact b5 (by omega)
theorem rd_loop {N k xi : Nat} {sg ms : Nat → Int32} (hN : 60 ≤ N) (h : WF sg k) (hk : k ≤ 24) (hxi : xi < 2) (hms : ∀ i, i < k → ms i = sg i) (hs : ∀ i, i < k → ∃ c, 33 ≤ c ∧ c < 127 ∧ sg i = nI c) : ∀ (rem t : Nat), t + rem = k → ∀ (n q : Nat) (os dv : Nat → Nat) (ns no nz nm due opn : Nat → Int32) (il : Int32), rem < n → RO sg k t q os dv due opn → RD sg k t q (24 * xi) os ns no nz → (q = 0 → t = 0 ∨ t = k) → q ≤ t →
    ∃ ns' no' nz' due' opn', bX12_read_38 N ms n (nI xi) (nI q) (nI t) (nI k) ns no nz nm due opn il = some (nI k, 0, ns', no', nz', upd nm xi (nI k), due', opn', 0) ∧ (∀ c, c < k → ns' (24 * xi + c) = sg c ∧ ((c = 0 ∧ no' (24 * xi + c) = -6) ∨ ∃ o j, o < k ∧ j < wn sg o ∧ c = cn sg o j ∧ no' (24 * xi + c) = nI o) ∧ nz' (24 * xi + c) = nI (en sg c - c)) ∧ (∀ m, (m < 24 * xi ∨ 24 * xi + k ≤ m) → ns' m = ns m ∧ no' m = no m ∧ nz' m = nz m) := by
  have hk40 : k ≤ 40 := by omega
  have hx24 : (24 : Int32) * nI xi = nI (24 * xi) := by rw [show (24 : Int32) = nI 24 from rfl, pk_mul]
  intro rem
  induction rem with
  | zero =>
    intro t ht n q os dv ns no nz nm due opn il hn hO hD hq0 hqt
    obtain ⟨n, rfl⟩ : ∃ m, n = m + 1 := ⟨n - 1, by omega⟩
    have et : t = k := by omega
    subst et
    have eq0 : q = 0 := by
      rcases Nat.eq_zero_or_pos q with e | e
      · exact e
      · obtain ⟨a1, a2, a3, a4, a5⟩ := hO.1 q e (Nat.le_refl _)
        have e1 := (hO.2.2 e).2
        have := (cn_spec h hk40 a3 (wn sg (os q) - dv q) (by omega)).2.2.2.2 (by omega)
        omega
    subst eq0
    refine ⟨ns, no, nz, due, opn, ?_, fun c hc => ?_, fun m _ => ⟨rfl, rfl, rfl⟩⟩
    · rw [bX12_read_38, if_pos (nI_le (Nat.le_refl _) (by omega)), un_bnd hxi (by decide), un_cl (by omega), pk_us]
    · obtain ⟨d1, d2, d3⟩ := hD c hc
      refine ⟨d1, d2, ?_⟩
      rcases d3 with ⟨i, i1, i2, -⟩ | d3
      · omega
      · exact d3
  | succ rem ih =>
    intro t ht n q os dv ns no nz nm due opn il hn hO hD hq0 hqt
    obtain ⟨n, rfl⟩ : ∃ m, n = m + 1 := ⟨n - 1, by omega⟩
    have htk : t < k := by omega
    obtain ⟨cc, c1, c2, c3⟩ := hs t htk
    have hwt := (wn_cases h htk).2.1
    have hw4 := wn_le h htk
    -- the owner's number, as it is laid
    have hy : ∃ y2 : Int32, ((t = 0 ∧ y2 = -6) ∨ ∃ o j, o < k ∧ j < wn sg o ∧ t = cn sg o j ∧ y2 = nI o) ∧ bX12_read_38 N ms (n + 1) (nI xi) (nI q) (nI t) (nI k) ns no nz nm due opn il = bX12_read_88 N ms (bX12_read_38 N ms n) (nI xi) (nI q) (nI t) (nI (24 * xi + t)) y2 (nI k) (upd ns (24 * xi + t) (sg t)) no nz nm due opn il := by
      rw [bX12_read_38, if_neg (nI_ge htk (by omega)), un_bnd (show t < 40 by omega) (by decide), hx24, nI_add, un_bnd (show 24 * xi + t < 48 by omega) (by decide), un_cl (show 24 * xi + t < 2 ^ 31 by omega), un_cl (show t < 2 ^ 31 by omega), hms t htk]
      rcases Nat.eq_zero_or_pos q with e | e
      · subst e
        refine ⟨-6, Or.inl ⟨?_, rfl⟩, by rw [if_pos (show nI 0 = 0 from rfl)]⟩
        rcases hq0 rfl with e | e <;> omega
      · obtain ⟨a1, a2, a3, a4, a5⟩ := hO.1 q e (Nat.le_refl _)
        refine ⟨nI (os q), Or.inr ⟨os q, wn sg (os q) - dv q, a3, by omega, (hO.2.2 e).2.symm, rfl⟩, ?_⟩
        rw [if_neg (nI_ne0 e (by omega)), un_bnd (show q < 41 by omega) (by decide), un_cl (show q < 2 ^ 31 by omega), a1]
    obtain ⟨y2, hy2, he⟩ := hy
    rw [he, bX12_read_88, nI_1, un_bnd (show 24 * xi + t < 48 by omega) (by decide), un_bnd (show q + 1 < 41 by omega) (by decide), un_bnd (show t < 40 by omega) (by decide), un_cl (show t < 2 ^ 31 by omega), hms t htk, c3, pwX12 c2 c1, Option.bind_some, ← c3, hwt, un_cl (show 24 * xi + t < 2 ^ 31 by omega), un_cl (show q + 1 < 2 ^ 31 by omega)]
    obtain ⟨q', dv', due', nz', r1, r2, r3, r4, r5, r6⟩ := rd_pop (N := N) (ms := ms) (k38 := bX12_read_38 N ms n) (sm := nI k) (il := il) (ns := upd ns (24 * xi + t) (sg t)) (no := upd no (24 * xi + t) y2) (nm := nm) (opn := upd opn (q + 1) (nI t)) (x := nI xi) (b := 24 * xi) h hk htk (by omega) hx24 (fun i => if i = q + 1 then t else os i) (q + 1) N (fun i => if i = q + 1 then wn sg t else dv i) (upd due (q + 1) (nI (wn sg t))) nz (by omega) (by omega) (fun _ _ => rfl) (fun i i1 i2 => by
        by_cases qe : i = q + 1
        · rw [if_pos qe, if_pos qe, qe, pk_us, pk_us]
          exact ⟨rfl, rfl, htk, Nat.le_refl _, fun z => by omega⟩
        · rw [if_neg qe, if_neg qe, pk_un qe, pk_un qe]
          obtain ⟨a1, a2, a3, a4, a5⟩ := hO.1 i i1 (by omega)
          exact ⟨a1, a2, a3, a4, fun _ => a5⟩) (fun i i1 i2 => by
        rw [if_neg (show ¬ i = q + 1 by omega), if_neg (show ¬ i = q + 1 by omega)]
        by_cases qe : i = q
        · rw [if_pos (by omega), qe]; exact (hO.2.2 (by omega)).2
        · rw [if_neg (by omega)]; exact hO.2.1 i i1 (by omega)) (fun _ => by
        rw [if_pos rfl, if_pos rfl, Nat.sub_self]
        refine ⟨?_, rfl⟩
        by_cases qe : q = 0
        · rw [if_pos (by omega)]
          rcases hq0 qe with e | e <;> omega
        · rw [if_neg (by omega)]; exact (hO.2.2 (by omega)).1) (fun c hc => by
        by_cases qe : c = t
        · exact Or.inl ⟨q + 1, by omega, Nat.le_refl _, by rw [if_pos rfl]; exact qe.symm⟩
        · rcases (hD c (by omega)).2.2 with ⟨i, i1, i2, i3⟩ | hz
          · exact Or.inl ⟨i, i1, by omega, by rw [if_neg (by omega)]; exact i3⟩
          · exact Or.inr hz) (fun z => by omega)
    rw [r2]
    obtain ⟨ns2, no2, nz2, due2, opn2, s1, s2, s3⟩ := ih (t + 1) (by omega) n q' _ dv' (upd ns (24 * xi + t) (sg t)) (upd no (24 * xi + t) y2) nz' nm due' (upd opn (q + 1) (nI t)) il (by omega) r3 (fun c hc => by
        refine ⟨?_, ?_, r4 c hc⟩
        · by_cases qe : c = t
          · rw [qe, pk_us]
          · rw [pk_un (by omega)]; exact (hD c (by omega)).1
        · by_cases qe : c = t
          · rw [qe, pk_us]; exact hy2
          · rw [pk_un (by omega)]; exact (hD c (by omega)).2.1) (fun z => Or.inr (r5 z)) (by omega)
    refine ⟨ns2, no2, nz2, due2, opn2, s1, s2, fun m hm => ?_⟩
    obtain ⟨t1, t2, t3⟩ := s3 m hm
    exact ⟨by rw [t1, pk_un (by omega)], by rw [t2, pk_un (by omega)], by rw [t3]; exact r6 m hm⟩
