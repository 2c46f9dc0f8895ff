/-! Monomials: contracts in the words of part 07. -/
def vv (v : Nat) : Nat := 262144 + 64 ^ (2 - v)
theorem xe_lt (m v : Nat) : xe m v < 64 := by
  unfold xe
  split
  · omega
  · split <;> omega
theorem co3 {P : Nat → Prop} (h0 : P 0) (h1 : P 1) (h2 : P 2) {i : Nat} (hi : i < 3) : P i := by
  rcases (show i = 0 ∨ i = 1 ∨ i = 2 by omega) with rfl | rfl | rfl
  · exact h0
  · exact h1
  · exact h2

set_option maxHeartbeats 4000000 in
set_option maxRecDepth 100000 in
theorem c_Q_of (l : Launch) (D : va_G) (Y : Nat → ClassId) (lo : Nat) {M : Hm} {a b c : Nat} (h : a + b + c ≤ 36) : ct l D Y lo y_Q_of b_Q_of 3 (some .int) 0 [.int (nI a), .int (nI b), .int (nI c)] M (fun r M' => r = some (.int (nI (mp a b c))) ∧ M = M') nx 0 0 := by
  refine ct_of (by decide) (Nat.le_of_ble_eq_true rfl) ?_
  intro pg eg sg mg bw mt cg ls X hst hl
  have X1 := X
  obtain ⟨hx, hb, hml, hrt, hlocks, hown, hnm, hts, hkz, hex⟩ := X1
  have hG : ∀ w ∈ GW, w.before _ sg = true := fun w h => hts w (List.mem_cons_of_mem _ h)
  have hK := hkz.1
  have hl : lv_has ls 3 [(0, .int (nI a)), (1, .int (nI b)), (2, .int (nI c))] := hl
  refine lv_iload_n hx hb dQ_of_0 rfl (lv_at hl 0 rfl) ?_
  refine lv_iload_n hx hb dQ_of_1 rfl (lv_at hl 1 rfl) ?_
  refine t_iadd hx hb dQ_of_2 (v := nI (a + b)) (nI_add _ _) ?_
  refine lv_iload_n hx hb dQ_of_3 rfl (lv_at hl 2 rfl) ?_
  refine t_iadd hx hb dQ_of_4 (v := nI ((a + b) + c)) (nI_add _ _) ?_
  refine lv_bipush (v := nI 6) hx hb dQ_of_5 (by decide +kernel) ?_
  refine lv_ishl hx hb dQ_of_7 ?_
  refine tp_i (e2 := nI (((a + b) + c) * 64)) (sh_l (by omega) (by omega)) ?_
  refine lv_iload_n hx hb dQ_of_8 rfl (lv_at hl 0 rfl) ?_
  refine lv_ior hx hb dQ_of_9 ?_
  refine tp_i (e2 := nI ((((a + b) + c) * 64) ||| a)) (bt_or _ _) ?_
  refine tp_n (e2 := (a + b + c) * 64 + a) (or_6 (by omega)) ?_
  refine lv_bipush (v := nI 6) hx hb dQ_of_10 (by decide +kernel) ?_
  refine lv_ishl hx hb dQ_of_12 ?_
  refine tp_i (e2 := nI (((a + b + c) * 64 + a) * 64)) (sh_l (by omega) (by omega)) ?_
  refine lv_iload_n hx hb dQ_of_13 rfl (lv_at hl 1 rfl) ?_
  refine lv_ior hx hb dQ_of_14 ?_
  refine tp_i (e2 := nI ((((a + b + c) * 64 + a) * 64) ||| b)) (bt_or _ _) ?_
  refine tp_n (e2 := ((a + b + c) * 64 + a) * 64 + b) (or_6 (by omega)) ?_
  refine lv_bipush (v := nI 6) hx hb dQ_of_15 (by decide +kernel) ?_
  refine lv_ishl hx hb dQ_of_17 ?_
  refine tp_i (e2 := nI ((((a + b + c) * 64 + a) * 64 + b) * 64)) (sh_l (by omega) (by omega)) ?_
  refine lv_iload_n hx hb dQ_of_18 rfl (lv_at hl 2 rfl) ?_
  refine lv_ior hx hb dQ_of_19 ?_
  refine tp_i (e2 := nI (((((a + b + c) * 64 + a) * 64 + b) * 64) ||| c)) (bt_or _ _) ?_
  refine tp_n (e2 := mp a b c) (by rw [or_6 (by omega)]; unfold mp; omega) ?_
  exact ct_iret X hst ⟨rfl, rfl⟩ (by omega) (by omega) dQ_of_20

set_option maxHeartbeats 4000000 in
set_option maxRecDepth 100000 in
theorem c_Q_exponent (l : Launch) (D : va_G) (Y : Nat → ClassId) (lo : Nat) {M : Hm} {k v : Nat} (hk : k < 2 ^ 31) (hv : v < 3) : ct l D Y lo y_Q_exponent b_Q_exponent 2 (some .int) 0 [.int (nI k), .int (nI v)] M (fun r M' => r = some (.int (nI (xe k v))) ∧ M = M') nx 0 0 := by
  refine ct_of (by decide) (Nat.le_of_ble_eq_true rfl) ?_
  intro pg eg sg mg bw mt cg ls X hst hl
  have X1 := X
  obtain ⟨hx, hb, hml, hrt, hlocks, hown, hnm, hts, hkz, hex⟩ := X1
  have hG : ∀ w ∈ GW, w.before _ sg = true := fun w h => hts w (List.mem_cons_of_mem _ h)
  have hK := hkz.1
  have hl : lv_has ls 2 [(0, .int (nI k)), (1, .int (nI v))] := hl
  refine lv_iload_n hx hb dQ_exponent_0 rfl (lv_at hl 0 rfl) ?_
  refine lv_iconst (v := nI 2) hx hb dQ_exponent_1 (by decide +kernel) ?_
  refine lv_iload_n hx hb dQ_exponent_2 rfl (lv_at hl 1 rfl) ?_
  refine t_isub hx hb dQ_exponent_3 (v := nI (2 - v)) (pk_sub (by omega)) ?_
  refine lv_bipush (v := nI 6) hx hb dQ_exponent_4 (by decide +kernel) ?_
  refine t_imul hx hb dQ_exponent_6 (v := nI ((2 - v) * 6)) (pk_mul _ _) ?_
  refine lv_ishr hx hb dQ_exponent_7 ?_
  refine tp_i (e2 := nI (k / 2 ^ ((2 - v) * 6))) (sh_r (by omega) (by omega)) ?_
  refine lv_bipush (v := nI 63) hx hb dQ_exponent_8 (by decide +kernel) ?_
  refine lv_iand hx hb dQ_exponent_10 ?_
  refine tp_i (e2 := nI ((k / 2 ^ ((2 - v) * 6)) &&& 63)) (bt_and _ _) ?_
  refine tp_n (e2 := xe k v) (by
    rw [and_63]
    refine co3 (P := fun v => k / 2 ^ ((2 - v) * 6) % 64 = xe k v) ?_ ?_ ?_ hv
    · rfl
    · rfl
    · show k / 1 % 64 = k % 64
      rw [Nat.div_one]) ?_
  exact ct_iret X hst ⟨rfl, rfl⟩ (by omega) (by omega) dQ_exponent_11

set_option maxHeartbeats 4000000 in
set_option maxRecDepth 100000 in
theorem c_Q_ofVariable (l : Launch) (D : va_G) (Y : Nat → ClassId) (lo : Nat) {M : Hm} {v : Nat} (hv : v < 3) : ct l D Y lo y_Q_ofVariable b_Q_ofVariable 1 (some .int) 0 [.int (nI v)] M (fun r M' => r = some (.int (nI (vv v))) ∧ M = M') nx 0 0 := by
  refine ct_of (by decide) (Nat.le_of_ble_eq_true rfl) ?_
  intro pg eg sg mg bw mt cg ls X hst hl
  have X1 := X
  obtain ⟨hx, hb, hml, hrt, hlocks, hown, hnm, hts, hkz, hex⟩ := X1
  have hG : ∀ w ∈ GW, w.before _ sg = true := fun w h => hts w (List.mem_cons_of_mem _ h)
  have hK := hkz.1
  have hl : lv_has ls 1 [(0, .int (nI v))] := hl
  refine lv_ldc (v := nI 262144) hx hb hown (hG _ kc_Q_9) dQ_ofVariable_0 ?_
  refine lv_iconst (v := nI 1) hx hb dQ_ofVariable_2 (by decide +kernel) ?_
  refine lv_iconst (v := nI 2) hx hb dQ_ofVariable_3 (by decide +kernel) ?_
  refine lv_iload_n hx hb dQ_ofVariable_4 rfl (lv_at hl 0 rfl) ?_
  refine t_isub hx hb dQ_ofVariable_5 (v := nI (2 - v)) (pk_sub (by omega)) ?_
  refine lv_bipush (v := nI 6) hx hb dQ_ofVariable_6 (by decide +kernel) ?_
  refine t_imul hx hb dQ_ofVariable_8 (v := nI ((2 - v) * 6)) (pk_mul _ _) ?_
  refine lv_ishl hx hb dQ_ofVariable_9 ?_
  refine tp_i (e2 := nI (1 * 2 ^ ((2 - v) * 6))) (sh_l (by omega) (by
    refine co3 (P := fun v => 1 * 2 ^ ((2 - v) * 6) < 2 ^ 32) ?_ ?_ ?_ hv <;> decide)) ?_
  refine lv_ior hx hb dQ_ofVariable_10 ?_
  refine tp_i (e2 := nI (262144 ||| (1 * 2 ^ ((2 - v) * 6)))) (bt_or _ _) ?_
  refine tp_n (e2 := vv v) (by
    refine co3 (P := fun v => 262144 ||| 1 * 2 ^ ((2 - v) * 6) = vv v) ?_ ?_ ?_ hv <;> decide +kernel) ?_
  exact ct_iret X hst ⟨rfl, rfl⟩ (by omega) (by omega) dQ_ofVariable_11

set_option maxHeartbeats 4000000 in
set_option maxRecDepth 100000 in
theorem c_Q_sumAndFirst (l : Launch) (D : va_G) (Y : Nat → ClassId) (lo : Nat) {M : Hm} {k : Nat} (hk : k < 2 ^ 31) : ct l D Y lo y_Q_sumAndFirst b_Q_sumAndFirst 1 (some .int) 0 [.int (nI k)] M (fun r M' => r = some (.int (nI (k / 4096))) ∧ M = M') nx 0 0 := by
  refine ct_of (by decide) (Nat.le_of_ble_eq_true rfl) ?_
  intro pg eg sg mg bw mt cg ls X hst hl
  have X1 := X
  obtain ⟨hx, hb, hml, hrt, hlocks, hown, hnm, hts, hkz, hex⟩ := X1
  have hG : ∀ w ∈ GW, w.before _ sg = true := fun w h => hts w (List.mem_cons_of_mem _ h)
  have hK := hkz.1
  have hl : lv_has ls 1 [(0, .int (nI k))] := hl
  refine lv_iload_n hx hb dQ_sumAndFirst_0 rfl (lv_at hl 0 rfl) ?_
  refine lv_bipush (v := nI 12) hx hb dQ_sumAndFirst_1 (by decide +kernel) ?_
  refine lv_ishr hx hb dQ_sumAndFirst_3 ?_
  refine tp_i (e2 := nI (k / 4096)) (sh_r (by omega) (by omega)) ?_
  exact ct_iret X hst ⟨rfl, rfl⟩ (by omega) (by omega) dQ_sumAndFirst_4

theorem wo_le {k v : Nat} (hk : mv k) (hv : v < 3) : xe k v * vv v ≤ k := by
  obtain ⟨a, b, c, h, rfl⟩ := mv_of hk
  have e0 := mp_x0 (show a + b + c < 64 by omega)
  have e1 := mp_x1 (show a + b + c < 64 by omega)
  have e2 := mp_x2 (show a + b + c < 64 by omega)
  refine co3 (P := fun v => xe (mp a b c) v * vv v ≤ mp a b c) ?_ ?_ ?_ hv
  · rw [e0]; show a * (262144 + 4096) ≤ mp a b c; unfold mp; omega
  · rw [e1]; show b * (262144 + 64) ≤ mp a b c; unfold mp; omega
  · rw [e2]; show c * (262144 + 1) ≤ mp a b c; unfold mp; omega

set_option maxHeartbeats 4000000 in
set_option maxRecDepth 100000 in
theorem c_Q_without (l : Launch) (D : va_G) (Y : Nat → ClassId) (lo : Nat) {M : Hm} {k v : Nat} (hk : mv k) (hv : v < 3) : ct l D Y lo y_Q_without b_Q_without 2 (some .int) 1 [.int (nI k), .int (nI v)] M (fun r M' => r = some (.int (nI (k - xe k v * vv v))) ∧ M = M') nx 0 0 := by
  refine ct_of (by decide) (Nat.le_of_ble_eq_true rfl) ?_
  intro pg eg sg mg bw mt cg ls X hst hl
  have X1 := X
  obtain ⟨hx, hb, hml, hrt, hlocks, hown, hnm, hts, hkz, hex⟩ := X1
  have hG : ∀ w ∈ GW, w.before _ sg = true := fun w h => hts w (List.mem_cons_of_mem _ h)
  have hK := hkz.1
  have hl : lv_has ls 2 [(0, .int (nI k)), (1, .int (nI v))] := hl
  have hk1 := mv_lt hk
  have hk2 := wo_le hk hv
  refine lv_iload_n hx hb dQ_without_0 rfl (lv_at hl 0 rfl) ?_
  refine lv_iload_n hx hb dQ_without_1 rfl (lv_at hl 0 rfl) ?_
  refine lv_iload_n hx hb dQ_without_2 rfl (lv_at hl 1 rfl) ?_
  refine ct_callS (av2 := [.int (nI k), .int (nI v)]) (rest := [.int (nI k)]) X hst (c_Q_exponent l D Y lo (k := k) (v := v) (by omega) hv) wc_Q_exponent ml_Q_10 ws_Q_exponent wn_Q md_Q_exponent (by decide) hl.1 rfl (Nat.le_of_ble_eq_true rfl) ⟨by omega, by omega⟩ (fun _ _ h => h.elim) dQ_without_3 (fun r M' H locs hp hst => ?_)
  obtain ⟨rfl, rfl⟩ := hp
  refine lv_iload_n hx hb dQ_without_6 rfl (lv_at hl 1 rfl) ?_
  refine ct_callS (av2 := [.int (nI v)]) (rest := [.int (nI (xe k v)), .int (nI k)]) X hst (c_Q_ofVariable l D Y lo (v := v) hv) wc_Q_ofVariable ml_Q_14 ws_Q_ofVariable wn_Q md_Q_ofVariable (by decide) hl.1 rfl (Nat.le_of_ble_eq_true rfl) ⟨by omega, by omega⟩ (fun _ _ h => h.elim) dQ_without_7 (fun r M' H locs hp hst => ?_)
  obtain ⟨rfl, rfl⟩ := hp
  refine t_imul hx hb dQ_without_10 (v := nI ((xe k v) * (vv v))) (pk_mul _ _) ?_
  refine t_isub hx hb dQ_without_11 (v := nI (k - ((xe k v) * (vv v)))) (pk_sub (by omega)) ?_
  exact ct_iret X hst ⟨rfl, rfl⟩ (by omega) (by omega) dQ_without_12

set_option maxHeartbeats 4000000 in
set_option maxRecDepth 100000 in
theorem c_Q_isMultiple (l : Launch) (D : va_G) (Y : Nat → ClassId) (lo : Nat) {M : Hm} {k q : Nat} (hk : k < 2 ^ 31) (hq : q < 2 ^ 31) : ct l D Y lo y_Q_isMultiple b_Q_isMultiple 2 (some .boolean) 1 [.int (nI k), .int (nI q)] M (fun r M' => ∃ b : Nat, r = some (.int (nI b)) ∧ b ≤ 1 ∧ (b = 1 ↔ (xe q 0 ≤ xe k 0 ∧ xe q 1 ≤ xe k 1 ∧ xe q 2 ≤ xe k 2)) ∧ M = M') nx 0 0 := by
  refine ct_of (by decide) (Nat.le_of_ble_eq_true rfl) ?_
  intro pg eg sg mg bw mt cg ls X hst hl
  have X1 := X
  obtain ⟨hx, hb, hml, hrt, hlocks, hown, hnm, hts, hkz, hex⟩ := X1
  have hG : ∀ w ∈ GW, w.before _ sg = true := fun w h => hts w (List.mem_cons_of_mem _ h)
  have hK := hkz.1
  have hl : lv_has ls 2 [(0, .int (nI k)), (1, .int (nI q))] := hl
  have a0 := xe_lt k 0
  have b0 := xe_lt q 0
  have a1 := xe_lt k 1
  have b1 := xe_lt q 1
  have a2 := xe_lt k 2
  have b2 := xe_lt q 2
  refine lv_iload_n hx hb dQ_isMultiple_0 rfl (lv_at hl 0 rfl) ?_
  refine lv_iconst (v := nI 0) hx hb dQ_isMultiple_1 (by decide +kernel) ?_
  refine ct_callS (av2 := [.int (nI k), .int (nI 0)]) (rest := []) X hst (c_Q_exponent l D Y lo (k := k) (v := 0) hk (by omega)) wc_Q_exponent ml_Q_10 ws_Q_exponent wn_Q md_Q_exponent (by decide) hl.1 rfl (Nat.le_of_ble_eq_true rfl) ⟨by omega, by omega⟩ (fun _ _ h => h.elim) dQ_isMultiple_2 (fun r M' H locs hp hst => ?_)
  obtain ⟨rfl, rfl⟩ := hp
  refine lv_iload_n hx hb dQ_isMultiple_5 rfl (lv_at hl 1 rfl) ?_
  refine lv_iconst (v := nI 0) hx hb dQ_isMultiple_6 (by decide +kernel) ?_
  refine ct_callS (av2 := [.int (nI q), .int (nI 0)]) (rest := [.int (nI (xe k 0))]) X hst (c_Q_exponent l D Y lo (k := q) (v := 0) hq (by omega)) wc_Q_exponent ml_Q_10 ws_Q_exponent wn_Q md_Q_exponent (by decide) hl.1 rfl (Nat.le_of_ble_eq_true rfl) ⟨by omega, by omega⟩ (fun _ _ h => h.elim) dQ_isMultiple_7 (fun r M' H locs hp hst => ?_)
  obtain ⟨rfl, rfl⟩ := hp
  refine lv_icmp_lt hx hb dQ_isMultiple_10 (tgt := 43) rfl (fun hc => ?_) (fun hc => ?_)
  · skip
    have hc0 : (xe k 0) < (xe q 0) := (nI_ltI (by omega) (by omega)).mp hc
    refine lv_iconst (v := nI 0) hx hb dQ_isMultiple_43 (by decide +kernel) ?_
    exact ct_zret X hst (by omega) ⟨0, rfl, by omega, iff_of_false (by omega) (by omega), rfl⟩ (by omega) (by omega) dQ_isMultiple_44
  · skip
    have hc0 : ¬ (xe k 0) < (xe q 0) := fun z => hc ((nI_ltI (by omega) (by omega)).mpr z)
    refine lv_iload_n hx hb dQ_isMultiple_13 rfl (lv_at hl 0 rfl) ?_
    refine lv_iconst (v := nI 1) hx hb dQ_isMultiple_14 (by decide +kernel) ?_
    refine ct_callS (av2 := [.int (nI k), .int (nI 1)]) (rest := []) X hst (c_Q_exponent l D Y lo (k := k) (v := 1) hk (by omega)) wc_Q_exponent ml_Q_10 ws_Q_exponent wn_Q md_Q_exponent (by decide) hl.1 rfl (Nat.le_of_ble_eq_true rfl) ⟨by omega, by omega⟩ (fun _ _ h => h.elim) dQ_isMultiple_15 (fun r M' H locs hp hst => ?_)
    obtain ⟨rfl, rfl⟩ := hp
    refine lv_iload_n hx hb dQ_isMultiple_18 rfl (lv_at hl 1 rfl) ?_
    refine lv_iconst (v := nI 1) hx hb dQ_isMultiple_19 (by decide +kernel) ?_
    refine ct_callS (av2 := [.int (nI q), .int (nI 1)]) (rest := [.int (nI (xe k 1))]) X hst (c_Q_exponent l D Y lo (k := q) (v := 1) hq (by omega)) wc_Q_exponent ml_Q_10 ws_Q_exponent wn_Q md_Q_exponent (by decide) hl.1 rfl (Nat.le_of_ble_eq_true rfl) ⟨by omega, by omega⟩ (fun _ _ h => h.elim) dQ_isMultiple_20 (fun r M' H locs hp hst => ?_)
    obtain ⟨rfl, rfl⟩ := hp
    refine lv_icmp_lt hx hb dQ_isMultiple_23 (tgt := 43) rfl (fun hc => ?_) (fun hc => ?_)
    · skip
      have hc1 : (xe k 1) < (xe q 1) := (nI_ltI (by omega) (by omega)).mp hc
      refine lv_iconst (v := nI 0) hx hb dQ_isMultiple_43 (by decide +kernel) ?_
      exact ct_zret X hst (by omega) ⟨0, rfl, by omega, iff_of_false (by omega) (by omega), rfl⟩ (by omega) (by omega) dQ_isMultiple_44
    · skip
      have hc1 : ¬ (xe k 1) < (xe q 1) := fun z => hc ((nI_ltI (by omega) (by omega)).mpr z)
      refine lv_iload_n hx hb dQ_isMultiple_26 rfl (lv_at hl 0 rfl) ?_
      refine lv_iconst (v := nI 2) hx hb dQ_isMultiple_27 (by decide +kernel) ?_
      refine ct_callS (av2 := [.int (nI k), .int (nI 2)]) (rest := []) X hst (c_Q_exponent l D Y lo (k := k) (v := 2) hk (by omega)) wc_Q_exponent ml_Q_10 ws_Q_exponent wn_Q md_Q_exponent (by decide) hl.1 rfl (Nat.le_of_ble_eq_true rfl) ⟨by omega, by omega⟩ (fun _ _ h => h.elim) dQ_isMultiple_28 (fun r M' H locs hp hst => ?_)
      obtain ⟨rfl, rfl⟩ := hp
      refine lv_iload_n hx hb dQ_isMultiple_31 rfl (lv_at hl 1 rfl) ?_
      refine lv_iconst (v := nI 2) hx hb dQ_isMultiple_32 (by decide +kernel) ?_
      refine ct_callS (av2 := [.int (nI q), .int (nI 2)]) (rest := [.int (nI (xe k 2))]) X hst (c_Q_exponent l D Y lo (k := q) (v := 2) hq (by omega)) wc_Q_exponent ml_Q_10 ws_Q_exponent wn_Q md_Q_exponent (by decide) hl.1 rfl (Nat.le_of_ble_eq_true rfl) ⟨by omega, by omega⟩ (fun _ _ h => h.elim) dQ_isMultiple_33 (fun r M' H locs hp hst => ?_)
      obtain ⟨rfl, rfl⟩ := hp
      refine lv_icmp_lt hx hb dQ_isMultiple_36 (tgt := 43) rfl (fun hc => ?_) (fun hc => ?_)
      · skip
        have hc2 : (xe k 2) < (xe q 2) := (nI_ltI (by omega) (by omega)).mp hc
        refine lv_iconst (v := nI 0) hx hb dQ_isMultiple_43 (by decide +kernel) ?_
        exact ct_zret X hst (by omega) ⟨0, rfl, by omega, iff_of_false (by omega) (by omega), rfl⟩ (by omega) (by omega) dQ_isMultiple_44
      · skip
        have hc2 : ¬ (xe k 2) < (xe q 2) := fun z => hc ((nI_ltI (by omega) (by omega)).mpr z)
        refine lv_iconst (v := nI 1) hx hb dQ_isMultiple_39 (by decide +kernel) ?_
        refine lv_goto hx hb dQ_isMultiple_40 (tgt := 44) rfl ?_
        exact ct_zret X hst (by omega) ⟨1, rfl, by omega, iff_of_true rfl (by omega), rfl⟩ (by omega) (by omega) dQ_isMultiple_44

set_option maxHeartbeats 4000000 in
set_option maxRecDepth 100000 in
theorem c_Q_exists (l : Launch) (D : va_G) (Y : Nat → ClassId) (lo : Nat) {M : Hm} {a b c : Nat} (ha : a < 2 ^ 31) (hb9 : b < 2 ^ 31) (hc9 : c < 2 ^ 31) : ct l D Y lo y_Q_exists b_Q_exists 3 (some .boolean) 0 [.int (nI a), .int (nI b), .int (nI c)] M (fun r M' => ∃ z : Nat, r = some (.int (nI z)) ∧ z ≤ 1 ∧ (z = 1 ↔ a + b + c ≤ 36) ∧ M = M') nx 0 0 := by
  refine ct_of (by decide) (Nat.le_of_ble_eq_true rfl) ?_
  intro pg eg sg mg bw mt cg ls X hst hl
  have X1 := X
  obtain ⟨hx, hb, hml, hrt, hlocks, hown, hnm, hts, hkz, hex⟩ := X1
  have hG : ∀ w ∈ GW, w.before _ sg = true := fun w h => hts w (List.mem_cons_of_mem _ h)
  have hK := hkz.1
  have hl : lv_has ls 3 [(0, .int (nI a)), (1, .int (nI b)), (2, .int (nI c))] := hl
  refine lv_iload_n hx hb dQ_exists_0 rfl (lv_at hl 0 rfl) ?_
  refine lv_bipush (v := nI 36) hx hb dQ_exists_1 (by decide +kernel) ?_
  refine lv_icmp_gt hx hb dQ_exists_3 (tgt := 32) rfl (fun hc => ?_) (fun hc => ?_)
  · skip
    have hc1 : 36 < a := (nI_ltI (by omega) (by omega)).mp hc
    refine lv_iconst (v := nI 0) hx hb dQ_exists_32 (by decide +kernel) ?_
    exact ct_zret X hst (by omega) ⟨0, rfl, by omega, iff_of_false (by omega) (by omega), rfl⟩ (by omega) (by omega) dQ_exists_33
  · skip
    have hc1 : ¬ 36 < a := fun z => hc ((nI_ltI (by omega) (by omega)).mpr z)
    refine lv_iload_n hx hb dQ_exists_6 rfl (lv_at hl 1 rfl) ?_
    refine lv_bipush (v := nI 36) hx hb dQ_exists_7 (by decide +kernel) ?_
    refine lv_icmp_gt hx hb dQ_exists_9 (tgt := 32) rfl (fun hc => ?_) (fun hc => ?_)
    · skip
      have hc2 : 36 < b := (nI_ltI (by omega) (by omega)).mp hc
      refine lv_iconst (v := nI 0) hx hb dQ_exists_32 (by decide +kernel) ?_
      exact ct_zret X hst (by omega) ⟨0, rfl, by omega, iff_of_false (by omega) (by omega), rfl⟩ (by omega) (by omega) dQ_exists_33
    · skip
      have hc2 : ¬ 36 < b := fun z => hc ((nI_ltI (by omega) (by omega)).mpr z)
      refine lv_iload_n hx hb dQ_exists_12 rfl (lv_at hl 2 rfl) ?_
      refine lv_bipush (v := nI 36) hx hb dQ_exists_13 (by decide +kernel) ?_
      refine lv_icmp_gt hx hb dQ_exists_15 (tgt := 32) rfl (fun hc => ?_) (fun hc => ?_)
      · skip
        have hc3 : 36 < c := (nI_ltI (by omega) (by omega)).mp hc
        refine lv_iconst (v := nI 0) hx hb dQ_exists_32 (by decide +kernel) ?_
        exact ct_zret X hst (by omega) ⟨0, rfl, by omega, iff_of_false (by omega) (by omega), rfl⟩ (by omega) (by omega) dQ_exists_33
      · skip
        have hc3 : ¬ 36 < c := fun z => hc ((nI_ltI (by omega) (by omega)).mpr z)
        refine lv_iload_n hx hb dQ_exists_18 rfl (lv_at hl 0 rfl) ?_
        refine lv_iload_n hx hb dQ_exists_19 rfl (lv_at hl 1 rfl) ?_
        refine t_iadd hx hb dQ_exists_20 (v := nI (a + b)) (nI_add _ _) ?_
        refine lv_iload_n hx hb dQ_exists_21 rfl (lv_at hl 2 rfl) ?_
        refine t_iadd hx hb dQ_exists_22 (v := nI ((a + b) + c)) (nI_add _ _) ?_
        refine lv_bipush (v := nI 36) hx hb dQ_exists_23 (by decide +kernel) ?_
        refine lv_icmp_gt hx hb dQ_exists_25 (tgt := 32) rfl (fun hc => ?_) (fun hc => ?_)
        · skip
          have hc4 : 36 < ((a + b) + c) := (nI_ltI (by omega) (by omega)).mp hc
          refine lv_iconst (v := nI 0) hx hb dQ_exists_32 (by decide +kernel) ?_
          exact ct_zret X hst (by omega) ⟨0, rfl, by omega, iff_of_false (by omega) (by omega), rfl⟩ (by omega) (by omega) dQ_exists_33
        · skip
          have hc4 : ¬ 36 < ((a + b) + c) := fun z => hc ((nI_ltI (by omega) (by omega)).mpr z)
          refine lv_iconst (v := nI 1) hx hb dQ_exists_28 (by decide +kernel) ?_
          refine lv_goto hx hb dQ_exists_29 (tgt := 33) rfl ?_
          exact ct_zret X hst (by omega) ⟨1, rfl, by omega, iff_of_true rfl (by omega), rfl⟩ (by omega) (by omega) dQ_exists_33
