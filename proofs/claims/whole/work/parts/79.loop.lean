/-! the law's loop, and the law from its entry -/
section LL
variable {p : Program} {l : Launch} {e : Env} {s : State} {m : MethodId} {below : List Frame} {meth : Method} {c : Code} {D : va_G} {cI cJ cT : ClassId} {Es : (Nat → Nat) × (Nat → Nat)} {a b : Nat → Nat} {L bs : Nat} {xs : Nat → Int32}
theorem ex_acc {ex ex' mc ms cells slots : Nat} (h1 : cells ≤ 70 + ex) (h2 : slots ≤ 86906 + 2 ^ (ex + 1)) (h : (mc = 0 ∧ ms = 0 ∧ ex' = ex) ∨ (mc = 1 ∧ ms = 2 ^ ex' ∧ ex < ex')) : cells + mc ≤ 70 + ex' ∧ slots + ms ≤ 86906 + 2 ^ (ex' + 1) := by
  rcases h with ⟨e1, e2, e3⟩ | ⟨e1, e2, e3⟩
  · subst e1 e2 e3; exact ⟨h1, h2⟩
  · have h3 : 2 ^ (ex + 1) ≤ 2 ^ ex' := Nat.pow_le_pow_right (by decide) e3
    have h4 : 2 ^ (ex' + 1) = 2 ^ ex' * 2 := Nat.pow_succ 2 ex'
    subst e1 e2
    omega
theorem law_loop (C : CT p s m #[Value.ref bs] meth c RL cL_law 4 ret wsL_law D (fun q => s.heap.size ≤ q) (tyl cI cJ cT) Es) (hX : va_X bs L xs s s.heap) (hbl : bs < s.heap.size) (hL : L ≤ 2048) : ∀ (n i : Nat), i ≤ L → L < i + n → ∀ (ex cells slots : Nat) (u v : va_W) (H : Heap) (locs : List Loc) (ls : Array Slot), GD 20000 a b cI cJ cT ex u v → D2 D (fun q => s.heap.size ≤ q) u v s H locs → cells ≤ 70 + ex → slots ≤ 86906 + 2 ^ (ex + 1) → lv_has ls 4 [(0, .ref bs), (1, .ref (a 0)), (2, .ref (b 0)), (3, .int (nI i))] → W p l e room_1 s m #[Value.ref bs] below meth c H locs cells slots (lw_Z below #[Value.ref bs] s) (F0 m 18 ls []) := by
  have hx := C.1.1
  have hb := C.1.2.1
  have hbA : ¬ (fun q : Nat => s.heap.size ≤ q) bs := Nat.not_le.mpr hbl
  intro n
  induction n with
  | zero => intro i h1 h2; omega
  | succ n ih =>
    intro i hiL hin ex cells slots u v H locs ls hG B hc hsl hl
    have hex : ex ≤ 14 := hG.1
    have hp2 : 2 ^ (ex + 1) ≤ 32768 := (Nat.pow_le_pow_right (by decide) (show ex + 1 ≤ 15 by omega) : 2 ^ (ex + 1) ≤ 2 ^ 15)
    refine lv_iload_n hx hb dL_law_18 rfl (lv_at hl 3 rfl) ?_
    refine lv_aload_n hx hb dL_law_19 rfl (lv_at hl 0 rfl) ?_
    refine va_slen hx hb hX hbl hbA B.1.2.2 dL_law_20 ?_
    refine lv_iconst (v := 4) hx hb dL_law_21 (by decide) ?_
    refine lv_isub hx hb dL_law_22 ?_
    refine lv_icmp_gt (tgt := 755) hx hb dL_law_23 (by decide) (fun c1 => ?_) (fun c1 => ?_)
    · refine lv_iconst (v := 1) hx hb dL_law_755 (by decide) ?_
      refine va_forget (fun q hq => B.1.2.2.2.2 q hq) ?_
      refine W.widen (k := 600000) (n := 7302250) (by omega) (by omega) ?_
      exact lw_ret hx hb C.2.1.1 C.2.1.2 dL_law_756
    · have hi : i + 4 ≤ L := by
        rcases Nat.lt_or_ge L (i + 4) with q | q
        · exfalso
          apply c1
          rw [Int32.lt_iff_toInt_lt, nI_toInt (show i < 2 ^ 31 by omega), show Int32.ofNat L - 4 = nI L - nI 4 from rfl, pk_sub_toInt (by omega) (by decide)]
          omega
        · exact q
      refine lv_aload_n hx hb dL_law_26 rfl (lv_at hl 0 rfl) ?_
      refine lv_iload_n hx hb dL_law_27 rfl (lv_at hl 3 rfl) ?_
      refine va_sld hx hb hX hbl hbA B.1.2.2 (vp_in_nI (show i < L by omega) (by omega)) dL_law_28 ?_
      refine lv_bipush (v := 31) hx hb dL_law_29 (by decide) ?_
      refine lv_iand hx hb dL_law_31 ?_
      rw [un_cl (show i < 2 ^ 31 by omega), pk_and (xs i) 5 (by decide)]
      have hk : (xs i).toBitVec.toNat % 2 ^ 5 < 32 := Nat.mod_lt _ (by decide)
      generalize (xs i).toBitVec.toNat % 2 ^ 5 = k at hk ⊢
      have kk : KK p l e s m #[Value.ref bs] below meth c cells slots (lw_Z below #[Value.ref bs] s) D (fun q => s.heap.size ≤ q) cI cJ cT ls a b 20000 ex := by
        intro ex' mc ms u' v' H1 locs1 g1 g2 g3
        obtain ⟨q1, q2⟩ := ex_acc hc hsl g3
        refine lv_iinc (v := nI (i + 4)) (lv' := [(3, .int (nI (i + 4))), (0, .ref bs), (1, .ref (a 0)), (2, .ref (b 0))]) hx hb dL_law_749 hl (k := 3) rfl (by rw [show Int32.ofInt 4 = nI 4 from by decide]; exact nI_add i 4) (by decide) rfl (fun ls hl => ?_)
        refine lv_goto (tgt := 18) hx hb dL_law_752 (by decide) ?_
        exact ih (i + 4) hi (by omega) ex' (cells + mc) (slots + ms) u' v' H1 locs1 ls g1 g2 q1 q2 (lv_sub hl [1, 2, 3, 0] rfl)
      rcases Nat.lt_or_ge k 23 with q | q
      · exact sw_gd C hX hbl hbA (Nat.le_refl _) hL hi ⟨by omega, by omega⟩ hG B hl kk q
      · refine lv_tableOut (tgt := 749) hx hb dL_law_32 (Or.inr ?_) (by decide) ?_
        · rw [nI_toInt (show k < 2 ^ 31 by omega)]; omega
        · exact kk ex 0 0 u v H locs hG B (Or.inl ⟨rfl, rfl, rfl⟩)
end LL
set_option maxHeartbeats 4000000 in
set_option maxRecDepth 100000 in
theorem whole_start {p : Program} {e : Env} {s : State} {m : MethodId} {below : List Frame} {meth : Method} {c : Code} (l : Launch) {b L : Nat} {xs : Nat → Int32} (hL : L ≤ 2048) (C0 : lw_At p s m meth c b L xs) : W p l e room_1 s m #[Value.ref b] below meth c s.heap [] 0 0 (lw_Z below #[Value.ref b] s) (entryFrame m ([Value.ref b] : List Value).toArray 4) := by
  obtain ⟨hx, hb, hr, hml, hown, hts, hX, hbl, hlocks, hgv⟩ := id C0
  obtain ⟨Es, hsz⟩ := st_Es hts hgv
  have hNw : nw_E s := st_nw hts
  obtain ⟨D, cI, cJ, cT, hK⟩ := st_K hts
  have hW : ∀ w ∈ wsL_law, w.before #[Value.ref b] s = true := fun w hw => hts w (wsL_law_in w hw)
  have C : CT p s m #[Value.ref b] meth c RL cL_law 4 ret wsL_law D (fun q => s.heap.size ≤ q) (tyl cI cJ cT) Es := ⟨⟨hx, hb, hml, hown, hW⟩, ⟨hr, hlocks⟩, hK, hsz, fun q h => h⟩
  have B : DB D (fun q => s.heap.size ≤ q) [] s s.heap [] := ⟨fun k q h => (by simp at h), ⟨fun i j x y h => (by simp at h), fun k q h => (by simp at h)⟩, va_S.rf⟩
  have hl := lv_entry ([.ref b]) (n := 4) (Nat.le_of_ble_eq_true rfl)
  rw [lg_entry_eq]
  generalize (lg_sl ([.ref b]) ++ List.replicate (4 - (lg_sl ([.ref b])).length) Slot.unset).toArray = ls at hl ⊢
  have hl : lv_has ls 4 [(0, .ref b)] := hl
  refine k_new (Cn := RX11) (T := TX11) (N := 11) (ci := 11) (fs := [.null, .null, .null, .null, .null, .null, .null, .null, .null, .null, .null]) C B inlX11 rfl tyX11 tyX11_ok (by decide +kernel) (by decide +kernel) (by decide +kernel) (fun j hj => by rcases (show j = 0 ∨ j = 1 ∨ j = 2 ∨ j = 3 ∨ j = 4 ∨ j = 5 ∨ j = 6 ∨ j = 7 ∨ j = 8 ∨ j = 9 ∨ j = 10 by omega) with rfl | rfl | rfl | rfl | rfl | rfl | rfl | rfl | rfl | rfl | rfl <;> rfl) (Nat.le_of_ble_eq_true rfl) (Nat.le_of_ble_eq_true rfl) dL_law_0 (fun o1 H B => ?_)
  refine lv_dup hx hb dL_law_3 rfl ?_
  obtain ⟨a1, a2, a3, a4, a5, a6, a7, nd, sn, ft, cm, bts, v1, v2, v3, v4, v5, v6, v7, i1, i2, hInv⟩ := inv0 (N := 20000) (Nat.le_refl _)
  have B2 := D2_app (u := []) B
  refine kcVN C B2 hNw (As := []) (rest := [.ref o1]) (tX11_init (o := o1) 20000 i1 i2) gL_law_X11_init rfl ⟨rfl, rfl⟩ (by decide +kernel) (by decide +kernel) (by decide +kernel) rfl hdX11_init ⟨Nat.le_of_ble_eq_true rfl, Nat.le_of_ble_eq_true rfl⟩ rfl hl.1 rfl (Nat.le_of_ble_eq_true rfl) ⟨Nat.le_of_ble_eq_true rfl, Nat.le_of_ble_eq_true rfl⟩ dL_law_4 (fun u1 H locs hu1 B2 => ?_)
  have B := (⟨B2.2.1, B2.2.2.1, B2.1.2.2⟩ : DB D (fun q => s.heap.size ≤ q) _ s H locs)
  refine lv_astore_n (lv' := [(1, .ref o1), (0, .ref b)]) hx hb dL_law_7 rfl hl (by decide) rfl (fun ls hl => ?_)
  refine k_new (Cn := RX12) (T := TX12) (N := 25) (ci := 12) (fs := [.null, .int 0, .null, .null, .null, .null, .null, .null, .null, .int 0, .int 0, .null, .null, .null, .null, .null, .null, .null, .null, .int 0, .null, .null, .null, .null, .null]) C B inlX12 rfl tyX12 tyX12_ok (by decide +kernel) (by decide +kernel) (by decide +kernel) (fun j hj => by rcases (show j = 0 ∨ j = 1 ∨ j = 2 ∨ j = 3 ∨ j = 4 ∨ j = 5 ∨ j = 6 ∨ j = 7 ∨ j = 8 ∨ j = 9 ∨ j = 10 ∨ j = 11 ∨ j = 12 ∨ j = 13 ∨ j = 14 ∨ j = 15 ∨ j = 16 ∨ j = 17 ∨ j = 18 ∨ j = 19 ∨ j = 20 ∨ j = 21 ∨ j = 22 ∨ j = 23 ∨ j = 24 by omega) with rfl | rfl | rfl | rfl | rfl | rfl | rfl | rfl | rfl | rfl | rfl | rfl | rfl | rfl | rfl | rfl | rfl | rfl | rfl | rfl | rfl | rfl | rfl | rfl | rfl <;> rfl) (Nat.le_of_ble_eq_true rfl) (Nat.le_of_ble_eq_true rfl) dL_law_8 (fun o2 H B => ?_)
  refine lv_dup hx hb dL_law_11 rfl ?_
  have B2 := D2_app B
  refine kcVN C B2 hNw (As := []) (rest := [.ref o2]) (tX12_init (a := u1) (o := o2)) gL_law_X12_init rfl ⟨rfl, rfl⟩ (by decide +kernel) (by decide +kernel) (by decide +kernel) rfl hdX12_init ⟨Nat.le_of_ble_eq_true rfl, Nat.le_of_ble_eq_true rfl⟩ rfl hl.1 rfl (Nat.le_of_ble_eq_true rfl) ⟨Nat.le_of_ble_eq_true rfl, Nat.le_of_ble_eq_true rfl⟩ dL_law_12 (fun u2 H9 locs9 hu2 B9 => ?_)
  refine lv_astore_n (lv' := [(2, .ref o2), (1, .ref o1), (0, .ref b)]) hx hb dL_law_15 rfl hl (by decide) rfl (fun ls hl => ?_)
  refine lv_iconst (v := 0) hx hb dL_law_16 (by decide) ?_
  refine lv_istore_n (lv' := [(3, .int 0), (2, .ref o2), (1, .ref o1), (0, .ref b)]) hx hb dL_law_17 rfl hl (by decide) rfl (fun ls hl => ?_)
  subst hu1
  subst hu2
  have z0 : Int32.toNatClampNeg ((24 : Int32) * (0 : Int32)) = 0 := by decide
  have z1 : Int32.toNatClampNeg ((24 : Int32) * ((0 : Int32) + 1)) = 24 := by decide
  have z2 : Int32.toNatClampNeg (0 : Int32) = 0 := by decide
  have z3 : Int32.toNatClampNeg ((0 : Int32) + 1) = 1 := by decide
  rw [z0, z1, z2, z3] at B9
  refine law_loop (a := u1) (b := u2) C hX hbl hL (L + 1) 0 (Nat.zero_le _) (by omega) 0 _ _ _ _ H9 locs9 ls ?_ B9 (by decide) (by decide) (lv_sub hl [3, 2, 1, 0] rfl)
  exact ⟨Nat.zero_le _, 0, 1, 1, cm, 0, fun _ => 0, fun _ => 0, _, _, _, _, _, _, _, _, _, _, _, _, _, _, _, _, _, _, _, _, _, _, _, _, _, _, _, _, _, _, _, _, _, _, _, _, _, _, _, _, _, _, _, _, _, _, _, _, _, _, _, _, _, _, _, _, _, _, _, _, _, _, _, _, _, hInv, rfl, rfl⟩
