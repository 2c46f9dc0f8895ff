/-! The reference: bits, entry, cross, determinant. -/
theorem sm_9 (f : Nat → Nat) : sm f 9 = 0 + f 0 + f 1 + f 2 + f 3 + f 4 + f 5 + f 6 + f 7 + f 8 := rfl
theorem bits_pcn (n : Nat) : sm (fun i => n / 2 ^ i % 2) 9 = pcn n := by
  rw [sm_9]
  unfold pcn
  rw [Nat.zero_add, Nat.pow_zero, Nat.div_one]
theorem crS_eq {e e' f f' : Nat → Nat} {t n : Nat} (he : ∀ i, i < n → e i = e' i) (hf : ∀ x, x ≤ t → f x = f' x) : crS e f t n = crS e' f' t n := by
  unfold crS
  refine sm_eq (fun i hi => ?_)
  rw [he i hi]
  by_cases h : i ≤ t
  · rw [if_pos h, if_pos h, hf _ (by omega)]
  · rw [if_neg h, if_neg h]
theorem fz_0 {p z : Nat} : fz p z 0 = 0 := by unfold fz ng; split <;> rfl

set_option maxHeartbeats 4000000 in
set_option maxRecDepth 100000 in
theorem c_R_bits (l : Launch) (D : va_G) (Y : Nat → ClassId) (lo : Nat) {M : Hm} {n : Nat} (hn : n < 512) : ct l D Y lo y_R_bits b_R_bits 3 (some .int) 0 [.int (nI n)] M (fun r9 M' => r9 = some (.int (nI (pcn n))) ∧ M = M') nx 0 0 := by
  refine ct_of (by decide) (Nat.le_of_ble_eq_true rfl) ?_
  intro pg eg sg mg bw mt cg ls X hst hl
  have X1 := X
  obtain ⟨hx, hb, hml, hrt, hlocks, hown, hnm, hts, hkz, hex⟩ := X1
  have hG : ∀ w ∈ GW, w.before _ sg = true := fun w h => hts w (List.mem_cons_of_mem _ h)
  have hK := hkz.1
  have hl : lv_has ls 3 [(0, .int (nI n))] := hl
  refine lv_iconst (v := nI 0) hx hb dR_bits_0 (by decide +kernel) ?_
  refine lv_istore_n (lv' := [(1, .int (nI 0)), (0, .int (nI n))]) hx hb dR_bits_1 rfl hl (by decide) rfl (fun ls hl => ?_)
  refine lv_iconst (v := nI 0) hx hb dR_bits_2 (by decide +kernel) ?_
  refine lv_istore_n (lv' := [(2, .int (nI 0)), (1, .int (nI 0)), (0, .int (nI n))]) hx hb dR_bits_3 rfl hl (by decide) rfl (fun ls hl => ?_)
  have LP : ∀ (kk : Nat) (i : Nat) (H : Heap) (locs : List Loc) (ls : Array Slot), kk = 9 - i → (i ≤ 9) → hp_st D vC lo M sg.heap H locs → lv_has ls 3 [(0, .int (nI n)), (1, .int (nI (sm (fun i => n / 2 ^ i % 2) i))), (2, .int (nI i))] → cW pg l eg sg mg [.int (nI n)] bw mt cg y_R_bits b_R_bits 3 (some .int) 0 D lo (fun r9 M' => r9 = some (.int (nI (pcn n))) ∧ M = M') nx 0 0 H locs 0 0 (F0 mg 4 ls []) := by
    intro kk
    induction kk using Nat.strongRecOn with
    | _ kk ihLP =>
    intro i H locs ls hkk hi9 hst hl
    refine lv_iload_n hx hb dR_bits_4 rfl (lv_at hl 2 rfl) ?_
    refine lv_bipush (v := nI 9) hx hb dR_bits_5 (by decide +kernel) ?_
    refine lv_icmp_ge hx hb dR_bits_7 (tgt := 24) rfl (fun hc => ?_) (fun hc => ?_)
    · skip
      have hc5 : 9 ≤ i := (nI_leI (by omega) (by omega)).mp hc
      have hi : i = 9 := by omega
      rw [hi, bits_pcn] at hl
      refine lv_iload_n hx hb dR_bits_24 rfl (lv_at hl 1 rfl) ?_
      exact ct_iret X hst ⟨rfl, rfl⟩ (by omega) (by omega) dR_bits_25
    · skip
      have hc5 : ¬ 9 ≤ i := fun z => hc ((nI_leI (by omega) (by omega)).mpr z)
      refine lv_iload_n hx hb dR_bits_10 rfl (lv_at hl 1 rfl) ?_
      refine lv_iload_n hx hb dR_bits_11 rfl (lv_at hl 0 rfl) ?_
      refine lv_iload_n hx hb dR_bits_12 rfl (lv_at hl 2 rfl) ?_
      refine lv_ishr hx hb dR_bits_13 ?_
      refine tp_i (e2 := nI (n / 2 ^ i)) (sh_r (by omega) (by omega)) ?_
      refine lv_iconst (v := nI 1) hx hb dR_bits_14 (by decide +kernel) ?_
      refine lv_iand hx hb dR_bits_15 ?_
      refine tp_i (e2 := nI ((n / 2 ^ i) &&& 1)) (bt_and _ _) ?_
      refine tp_n (e2 := n / 2 ^ i % 2) (Nat.and_one_is_mod _) ?_
      refine t_iadd hx hb dR_bits_16 (v := nI ((sm (fun i => n / 2 ^ i % 2) i) + (n / 2 ^ i % 2))) (nI_add _ _) ?_
      refine tp_n (e2 := sm (fun i => n / 2 ^ i % 2) (i + 1)) rfl ?_
      refine lv_istore_n (lv' := [(1, .int (nI (sm (fun i => n / 2 ^ i % 2) (i + 1)))), (0, .int (nI n)), (2, .int (nI i))]) hx hb dR_bits_17 rfl hl (by decide) rfl (fun ls hl => ?_)
      refine lv_iinc (lv' := [(2, .int (nI (i + 1))), (1, .int (nI (sm (fun i => n / 2 ^ i % 2) (i + 1)))), (0, .int (nI n))]) hx hb dR_bits_18 hl (k := 2) rfl (ii_p _) (by decide) rfl (fun ls hl => ?_)
      refine lv_goto hx hb dR_bits_21 (tgt := 4) rfl ?_
      exact ihLP _ (by omega) (i + 1) _ _ _ rfl (by omega) hst (lv_sub hl [2, 1, 0] rfl)
  exact LP _ 0 _ _ _ rfl (by omega) hst (lv_sub hl [2, 1, 0] rfl)

set_option maxHeartbeats 4000000 in
set_option maxRecDepth 100000 in
theorem c_R_entry (l : Launch) (D : va_G) (Y : Nat → ClassId) (lo : Nat) {M : Hm} {ma p rf th : Nat} {E : Nat → Nat} {c : Nat → Nat → Nat} (hm : mo Y M ma E p rf th c) {j : Nat} (j1 : 4 ≤ j) (j2 : j ≤ 9) {h : Pf} (hrp : rp (c j) h) (hh : ∀ m, h m < 2 ^ 31) {v e t : Nat} (hv : v < 3) (he : e < 64) (ht : t < 64) (hbx : ∀ q ∈ tp h, xe q.1 v = e → k13 v q.1 < 169) : ct l D Y lo y_R_entry b_R_entry 6 none 1 [.ref ma, .ref (E j), .int (nI v), .int (nI e), .int (nI t)] M (fun r9 M' => ∃ c' : Nat → Nat → Nat, r9 = none ∧ mo Y M' ma E p rf th c' ∧ (∀ i, i ≠ 10 → c' i = c i) ∧ c' 10 = etL v e t (tp h) (c 10) ∧ hp_off (fun i => i = 1000) M M') nx 0 0 := by
  refine ct_of (by decide) (Nat.le_of_ble_eq_true rfl) ?_
  intro pg eg sg mg bw mt cg ls X hst hl
  have X1 := X
  obtain ⟨hx, hb, hml, hrt, hlocks, hown, hnm, hts, hkz, hex⟩ := X1
  have hG : ∀ w ∈ GW, w.before _ sg = true := fun w h => hts w (List.mem_cons_of_mem _ h)
  have hK := hkz.1
  have hl : lv_has ls 6 [(0, .ref ma), (1, .ref (E j)), (2, .int (nI v)), (3, .int (nI e)), (4, .int (nI t))] := hl
  refine lv_iconst (v := nI 0) hx hb dR_entry_0 (by decide +kernel) ?_
  refine lv_istore (lv' := [(5, .int (nI 0)), (0, .ref ma), (1, .ref (E j)), (2, .int (nI v)), (3, .int (nI e)), (4, .int (nI t))]) hx hb dR_entry_1 hl (by decide) rfl (fun ls hl => ?_)
  have LP : ∀ (kk : Nat) (k : Nat) (d : Nat → Nat → Nat) (M1 : Hm) (H : Heap) (locs : List Loc) (ls : Array Slot), kk = 9139 - k → (k ≤ 9139) → (mo Y M1 ma E p rf th d) → (∀ i, i ≠ 10 → d i = c i) → (etL v e t (td h (9139 - k)) (d 10) = etL v e t (tp h) (c 10)) → (hp_off (fun i => i = 1000) M M1) → hp_st D vC lo M1 sg.heap H locs → lv_has ls 6 [(0, .ref ma), (1, .ref (E j)), (2, .int (nI v)), (3, .int (nI e)), (4, .int (nI t)), (5, .int (nI k))] → cW pg l eg sg mg [.ref ma, .ref (E j), .int (nI v), .int (nI e), .int (nI t)] bw mt cg y_R_entry b_R_entry 6 none 1 D lo (fun r9 M' => ∃ c' : Nat → Nat → Nat, r9 = none ∧ mo Y M' ma E p rf th c' ∧ (∀ i, i ≠ 10 → c' i = c i) ∧ c' 10 = etL v e t (tp h) (c 10) ∧ hp_off (fun i => i = 1000) M M') nx 0 0 H locs 0 0 (F0 mg 3 ls []) := by
    intro kk
    induction kk using Nat.strongRecOn with
    | _ kk ihLP =>
    intro k d M1 H locs ls hkk hk9 hm hsm hinv ho hst hl
    refine lv_iload hx hb dR_entry_3 (lv_at hl 5 rfl) ?_
    refine lv_sipush (v := nI 9139) hx hb dR_entry_5 (by decide +kernel) ?_
    refine lv_icmp_ge hx hb dR_entry_8 (tgt := 89) rfl (fun hc => ?_) (fun hc => ?_)
    · skip
      have hc5 : 9139 ≤ k := (nI_leI (by omega) (by omega)).mp hc
      have hk : k = 9139 := by omega
      rw [hk] at hinv
      have hinv : d 10 = etL v e t (tp h) (c 10) := hinv
      exact ct_vret X hst ⟨d, rfl, hm, hsm, hinv, ho⟩ (by omega) (by omega) dR_entry_89
    · skip
      have hc5 : ¬ 9139 ≤ k := fun z => hc ((nI_leI (by omega) (by omega)).mpr z)
      have hk : k < 9139 := by omega
      have hbk : d j k = h (pl k) := by rw [hsm j (by omega)]; exact hrp k hk
      have hhk := hh (pl k)
      have hxl := fun u => xe_lt (pl k) u
      refine lv_aload_n hx hb dR_entry_11 rfl (lv_at hl 1 rfl) ?_
      refine lv_iload hx hb dR_entry_12 (lv_at hl 5 rfl) ?_
      refine hp_iald hx hb hK rfl hst (hm.rw j1 j2) (j := k) (by omega) (by omega) dR_entry_14 ?_
      refine tp_n (e2 := h (pl k)) hbk ?_
      refine lv_if_eq hx hb dR_entry_15 (tgt := 83) rfl (fun hc => ?_) (fun hc => ?_)
      · skip
        rw [← nI_0] at hc
        have hcz : (h (pl k)) = 0 := (nI_eq (by omega) (by omega)).mp hc
        refine lv_iinc (lv' := [(5, .int (nI (k + 1))), (0, .ref ma), (1, .ref (E j)), (2, .int (nI v)), (3, .int (nI e)), (4, .int (nI t))]) hx hb dR_entry_83 hl (k := 5) rfl (ii_p _) (by decide) rfl (fun ls hl => ?_)
        refine lv_goto hx hb dR_entry_86 (tgt := 3) rfl ?_
        exact ihLP _ (by omega) (k + 1) d M1 _ _ _ rfl (by omega) hm hsm (by rw [td_pl_n hk hcz] at hinv; exact hinv) ho hst (lv_sub hl [1, 2, 3, 4, 5, 0] rfl)
      · skip
        rw [← nI_0] at hc
        have hcz : ¬ (h (pl k)) = 0 := fun z => hc ((nI_eq (by omega) (by omega)).mpr z)
        have hxv := hxl v
        rw [td_pl_y hk hcz] at hinv
        refine lv_aload_n hx hb dR_entry_18 rfl (lv_at hl 0 rfl) ?_
        refine lv_iload hx hb dR_entry_19 (lv_at hl 5 rfl) ?_
        refine lv_iload_n hx hb dR_entry_21 rfl (lv_at hl 2 rfl) ?_
        refine ct_callV (av2 := [.int (nI k), .int (nI v)]) (rest := []) (b := ma) X hst (c_R_exponent l D Y lo hm (k := k) (v := v) hk hv) hm.ob rfl wc_R_exponent ml_R_58 wi_R_exponent wl_R_exponent wn_R md_R_exponent (by decide) hl.1 rfl (Nat.le_of_ble_eq_true rfl) ⟨by omega, by omega⟩ (fun _ _ h => h.elim) dR_entry_22 (fun r M' H locs hp hst => ?_)
        obtain ⟨rfl, rfl⟩ := hp
        refine lv_iload_n hx hb dR_entry_25 rfl (lv_at hl 3 rfl) ?_
        refine lv_icmp_eq hx hb dR_entry_26 (tgt := 32) rfl (fun hc => ?_) (fun hc => ?_)
        · skip
          have hce : (xe (pl k) v) = e := (nI_eq (by omega) (by omega)).mp hc
          rw [etL_y hce] at hinv
          have hqm : (pl k, h (pl k)) ∈ tp h := mem_td (r := 9138 - k) (by omega) hcz
          have hk13 : k13 v (pl k) < 169 := hbx _ hqm hce
          refine lv_aload_n hx hb dR_entry_32 rfl (lv_at hl 0 rfl) ?_
          refine hp_get hx hb hG in_R hown hK hst hm.ob rfl 12 (by decide) (hG _ fl_R_39) rfl rfl dR_entry_33 ?_
          refine lv_sipush (v := nI 169) hx hb dR_entry_36 (by decide +kernel) ?_
          refine lv_iload hx hb dR_entry_39 (lv_at hl 4 rfl) ?_
          refine t_imul hx hb dR_entry_41 (v := nI (169 * t)) (pk_mul _ _) ?_
          refine lv_bipush (v := nI 13) hx hb dR_entry_42 (by decide +kernel) ?_
          refine lv_aload_n hx hb dR_entry_44 rfl (lv_at hl 0 rfl) ?_
          refine lv_iload hx hb dR_entry_45 (lv_at hl 5 rfl) ?_
          refine lv_iload_n hx hb dR_entry_47 rfl (lv_at hl 2 rfl) ?_
          refine lv_if_ne hx hb dR_entry_48 (tgt := 55) rfl (fun hc => ?_) (fun hc => ?_)
          · skip
            rw [← nI_0] at hc
            have hv0 : ¬ v = 0 := fun z => hc ((nI_eq (by omega) (by omega)).mpr z)
            refine lv_iconst (v := nI 0) hx hb dR_entry_55 (by decide +kernel) ?_
            refine ct_callV (av2 := [.int (nI k), .int (nI 0)]) (rest := [.int (nI 13), .int (nI (169 * t)), .ref (E 10)]) (b := ma) X hst (c_R_exponent l D Y lo hm (k := k) (v := 0) hk (by omega)) hm.ob rfl wc_R_exponent ml_R_58 wi_R_exponent wl_R_exponent wn_R md_R_exponent (by decide) hl.1 rfl (Nat.le_of_ble_eq_true rfl) ⟨by omega, by omega⟩ (fun _ _ h => h.elim) dR_entry_56 (fun r M' H locs hp hst => ?_)
            obtain ⟨rfl, rfl⟩ := hp
            refine t_imul hx hb dR_entry_59 (v := nI (13 * (xe (pl k) 0))) (pk_mul _ _) ?_
            refine t_iadd hx hb dR_entry_60 (v := nI ((169 * t) + (13 * (xe (pl k) 0)))) (nI_add _ _) ?_
            refine lv_aload_n hx hb dR_entry_61 rfl (lv_at hl 0 rfl) ?_
            refine lv_iload hx hb dR_entry_62 (lv_at hl 5 rfl) ?_
            refine lv_iload_n hx hb dR_entry_64 rfl (lv_at hl 2 rfl) ?_
            refine lv_iconst (v := nI 2) hx hb dR_entry_65 (by decide +kernel) ?_
            refine lv_icmp_ne hx hb dR_entry_66 (tgt := 73) rfl (fun hc => ?_) (fun hc => ?_)
            · skip
              have hv2 : ¬ v = 2 := fun z => hc ((nI_eq (by omega) (by omega)).mpr z)
              refine lv_iconst (v := nI 2) hx hb dR_entry_73 (by decide +kernel) ?_
              refine ct_callV (av2 := [.int (nI k), .int (nI 2)]) (rest := [.int (nI ((169 * t) + (13 * (xe (pl k) 0)))), .ref (E 10)]) (b := ma) X hst (c_R_exponent l D Y lo hm (k := k) (v := 2) hk (by omega)) hm.ob rfl wc_R_exponent ml_R_58 wi_R_exponent wl_R_exponent wn_R md_R_exponent (by decide) hl.1 rfl (Nat.le_of_ble_eq_true rfl) ⟨by omega, by omega⟩ (fun _ _ h => h.elim) dR_entry_74 (fun r M' H locs hp hst => ?_)
              obtain ⟨rfl, rfl⟩ := hp
              refine t_iadd hx hb dR_entry_77 (v := nI (((169 * t) + (13 * (xe (pl k) 0))) + (xe (pl k) 2))) (nI_add _ _) ?_
              refine tp_n (e2 := 169 * t + k13 v (pl k)) (by unfold k13; rw [if_neg hv0, if_neg hv2]; omega) ?_
              refine lv_aload_n hx hb dR_entry_78 rfl (lv_at hl 1 rfl) ?_
              refine lv_iload hx hb dR_entry_79 (lv_at hl 5 rfl) ?_
              refine hp_iald hx hb hK rfl hst (hm.rw j1 j2) (j := k) (by omega) (by omega) dR_entry_81 ?_
              refine tp_n (e2 := h (pl k)) hbk ?_
              refine hp_iast hx hb hK rfl hst hm.a10 (j := (169 * t + k13 v (pl k))) (v := (h (pl k))) (by omega) (by omega) dR_entry_82 (fun H locs hst => ?_)
              obtain ⟨hm1, hs2⟩ := hm.s10 (va_up (d 10) (169 * t + k13 v (pl k)) (h (pl k)))
              generalize hp_up M1 (E 10) ((1000, 10), e_n Y 10816 (va_up (d 10) (169 * t + k13 v (pl k)) (h (pl k)))) = M3 at hst hm1 hs2
              have ho4 := ho.tr hs2
              refine lv_iinc (lv' := [(5, .int (nI (k + 1))), (0, .ref ma), (1, .ref (E j)), (2, .int (nI v)), (3, .int (nI e)), (4, .int (nI t))]) hx hb dR_entry_83 hl (k := 5) rfl (ii_p _) (by decide) rfl (fun ls hl => ?_)
              refine lv_goto hx hb dR_entry_86 (tgt := 3) rfl ?_
              exact ihLP _ (by omega) (k + 1) (va_up d 10 (va_up (d 10) (169 * t + k13 v (pl k)) (h (pl k)))) M3 _ _ _ rfl (by omega) hm1 (fun i hi => by rw [va_up_ne _ _ hi]; exact hsm i hi) (by rw [va_up_self]; exact hinv) ho4 hst (lv_sub hl [1, 2, 3, 4, 5, 0] rfl)
            · skip
              have hv2 : v = 2 := (nI_eq (by omega) (by omega)).mp hc
              refine lv_iconst (v := nI 1) hx hb dR_entry_69 (by decide +kernel) ?_
              refine lv_goto hx hb dR_entry_70 (tgt := 74) rfl ?_
              refine ct_callV (av2 := [.int (nI k), .int (nI 1)]) (rest := [.int (nI ((169 * t) + (13 * (xe (pl k) 0)))), .ref (E 10)]) (b := ma) X hst (c_R_exponent l D Y lo hm (k := k) (v := 1) hk (by omega)) hm.ob rfl wc_R_exponent ml_R_58 wi_R_exponent wl_R_exponent wn_R md_R_exponent (by decide) hl.1 rfl (Nat.le_of_ble_eq_true rfl) ⟨by omega, by omega⟩ (fun _ _ h => h.elim) dR_entry_74 (fun r M' H locs hp hst => ?_)
              obtain ⟨rfl, rfl⟩ := hp
              refine t_iadd hx hb dR_entry_77 (v := nI (((169 * t) + (13 * (xe (pl k) 0))) + (xe (pl k) 1))) (nI_add _ _) ?_
              refine tp_n (e2 := 169 * t + k13 v (pl k)) (by unfold k13; rw [if_neg hv0, if_pos hv2]; omega) ?_
              refine lv_aload_n hx hb dR_entry_78 rfl (lv_at hl 1 rfl) ?_
              refine lv_iload hx hb dR_entry_79 (lv_at hl 5 rfl) ?_
              refine hp_iald hx hb hK rfl hst (hm.rw j1 j2) (j := k) (by omega) (by omega) dR_entry_81 ?_
              refine tp_n (e2 := h (pl k)) hbk ?_
              refine hp_iast hx hb hK rfl hst hm.a10 (j := (169 * t + k13 v (pl k))) (v := (h (pl k))) (by omega) (by omega) dR_entry_82 (fun H locs hst => ?_)
              obtain ⟨hm1, hs2⟩ := hm.s10 (va_up (d 10) (169 * t + k13 v (pl k)) (h (pl k)))
              generalize hp_up M1 (E 10) ((1000, 10), e_n Y 10816 (va_up (d 10) (169 * t + k13 v (pl k)) (h (pl k)))) = M3 at hst hm1 hs2
              have ho4 := ho.tr hs2
              refine lv_iinc (lv' := [(5, .int (nI (k + 1))), (0, .ref ma), (1, .ref (E j)), (2, .int (nI v)), (3, .int (nI e)), (4, .int (nI t))]) hx hb dR_entry_83 hl (k := 5) rfl (ii_p _) (by decide) rfl (fun ls hl => ?_)
              refine lv_goto hx hb dR_entry_86 (tgt := 3) rfl ?_
              exact ihLP _ (by omega) (k + 1) (va_up d 10 (va_up (d 10) (169 * t + k13 v (pl k)) (h (pl k)))) M3 _ _ _ rfl (by omega) hm1 (fun i hi => by rw [va_up_ne _ _ hi]; exact hsm i hi) (by rw [va_up_self]; exact hinv) ho4 hst (lv_sub hl [1, 2, 3, 4, 5, 0] rfl)
          · skip
            rw [← nI_0] at hc
            have hv0 : v = 0 := (nI_eq (by omega) (by omega)).mp hc
            refine lv_iconst (v := nI 1) hx hb dR_entry_51 (by decide +kernel) ?_
            refine lv_goto hx hb dR_entry_52 (tgt := 56) rfl ?_
            refine ct_callV (av2 := [.int (nI k), .int (nI 1)]) (rest := [.int (nI 13), .int (nI (169 * t)), .ref (E 10)]) (b := ma) X hst (c_R_exponent l D Y lo hm (k := k) (v := 1) hk (by omega)) hm.ob rfl wc_R_exponent ml_R_58 wi_R_exponent wl_R_exponent wn_R md_R_exponent (by decide) hl.1 rfl (Nat.le_of_ble_eq_true rfl) ⟨by omega, by omega⟩ (fun _ _ h => h.elim) dR_entry_56 (fun r M' H locs hp hst => ?_)
            obtain ⟨rfl, rfl⟩ := hp
            refine t_imul hx hb dR_entry_59 (v := nI (13 * (xe (pl k) 1))) (pk_mul _ _) ?_
            refine t_iadd hx hb dR_entry_60 (v := nI ((169 * t) + (13 * (xe (pl k) 1)))) (nI_add _ _) ?_
            refine lv_aload_n hx hb dR_entry_61 rfl (lv_at hl 0 rfl) ?_
            refine lv_iload hx hb dR_entry_62 (lv_at hl 5 rfl) ?_
            refine lv_iload_n hx hb dR_entry_64 rfl (lv_at hl 2 rfl) ?_
            refine lv_iconst (v := nI 2) hx hb dR_entry_65 (by decide +kernel) ?_
            refine lv_icmp_ne hx hb dR_entry_66 (tgt := 73) rfl (fun hc => ?_) (fun hc => ?_)
            · skip
              have hv2 : ¬ v = 2 := fun z => hc ((nI_eq (by omega) (by omega)).mpr z)
              refine lv_iconst (v := nI 2) hx hb dR_entry_73 (by decide +kernel) ?_
              refine ct_callV (av2 := [.int (nI k), .int (nI 2)]) (rest := [.int (nI ((169 * t) + (13 * (xe (pl k) 1)))), .ref (E 10)]) (b := ma) X hst (c_R_exponent l D Y lo hm (k := k) (v := 2) hk (by omega)) hm.ob rfl wc_R_exponent ml_R_58 wi_R_exponent wl_R_exponent wn_R md_R_exponent (by decide) hl.1 rfl (Nat.le_of_ble_eq_true rfl) ⟨by omega, by omega⟩ (fun _ _ h => h.elim) dR_entry_74 (fun r M' H locs hp hst => ?_)
              obtain ⟨rfl, rfl⟩ := hp
              refine t_iadd hx hb dR_entry_77 (v := nI (((169 * t) + (13 * (xe (pl k) 1))) + (xe (pl k) 2))) (nI_add _ _) ?_
              refine tp_n (e2 := 169 * t + k13 v (pl k)) (by unfold k13; rw [if_pos hv0, if_neg hv2]; omega) ?_
              refine lv_aload_n hx hb dR_entry_78 rfl (lv_at hl 1 rfl) ?_
              refine lv_iload hx hb dR_entry_79 (lv_at hl 5 rfl) ?_
              refine hp_iald hx hb hK rfl hst (hm.rw j1 j2) (j := k) (by omega) (by omega) dR_entry_81 ?_
              refine tp_n (e2 := h (pl k)) hbk ?_
              refine hp_iast hx hb hK rfl hst hm.a10 (j := (169 * t + k13 v (pl k))) (v := (h (pl k))) (by omega) (by omega) dR_entry_82 (fun H locs hst => ?_)
              obtain ⟨hm1, hs2⟩ := hm.s10 (va_up (d 10) (169 * t + k13 v (pl k)) (h (pl k)))
              generalize hp_up M1 (E 10) ((1000, 10), e_n Y 10816 (va_up (d 10) (169 * t + k13 v (pl k)) (h (pl k)))) = M3 at hst hm1 hs2
              have ho4 := ho.tr hs2
              refine lv_iinc (lv' := [(5, .int (nI (k + 1))), (0, .ref ma), (1, .ref (E j)), (2, .int (nI v)), (3, .int (nI e)), (4, .int (nI t))]) hx hb dR_entry_83 hl (k := 5) rfl (ii_p _) (by decide) rfl (fun ls hl => ?_)
              refine lv_goto hx hb dR_entry_86 (tgt := 3) rfl ?_
              exact ihLP _ (by omega) (k + 1) (va_up d 10 (va_up (d 10) (169 * t + k13 v (pl k)) (h (pl k)))) M3 _ _ _ rfl (by omega) hm1 (fun i hi => by rw [va_up_ne _ _ hi]; exact hsm i hi) (by rw [va_up_self]; exact hinv) ho4 hst (lv_sub hl [1, 2, 3, 4, 5, 0] rfl)
            · skip
              have hv2 : v = 2 := (nI_eq (by omega) (by omega)).mp hc
              refine lv_iconst (v := nI 1) hx hb dR_entry_69 (by decide +kernel) ?_
              refine lv_goto hx hb dR_entry_70 (tgt := 74) rfl ?_
              refine ct_callV (av2 := [.int (nI k), .int (nI 1)]) (rest := [.int (nI ((169 * t) + (13 * (xe (pl k) 1)))), .ref (E 10)]) (b := ma) X hst (c_R_exponent l D Y lo hm (k := k) (v := 1) hk (by omega)) hm.ob rfl wc_R_exponent ml_R_58 wi_R_exponent wl_R_exponent wn_R md_R_exponent (by decide) hl.1 rfl (Nat.le_of_ble_eq_true rfl) ⟨by omega, by omega⟩ (fun _ _ h => h.elim) dR_entry_74 (fun r M' H locs hp hst => ?_)
              obtain ⟨rfl, rfl⟩ := hp
              refine t_iadd hx hb dR_entry_77 (v := nI (((169 * t) + (13 * (xe (pl k) 1))) + (xe (pl k) 1))) (nI_add _ _) ?_
              refine tp_n (e2 := 169 * t + k13 v (pl k)) (by unfold k13; rw [if_pos hv0, if_pos hv2]; omega) ?_
              refine lv_aload_n hx hb dR_entry_78 rfl (lv_at hl 1 rfl) ?_
              refine lv_iload hx hb dR_entry_79 (lv_at hl 5 rfl) ?_
              refine hp_iald hx hb hK rfl hst (hm.rw j1 j2) (j := k) (by omega) (by omega) dR_entry_81 ?_
              refine tp_n (e2 := h (pl k)) hbk ?_
              refine hp_iast hx hb hK rfl hst hm.a10 (j := (169 * t + k13 v (pl k))) (v := (h (pl k))) (by omega) (by omega) dR_entry_82 (fun H locs hst => ?_)
              obtain ⟨hm1, hs2⟩ := hm.s10 (va_up (d 10) (169 * t + k13 v (pl k)) (h (pl k)))
              generalize hp_up M1 (E 10) ((1000, 10), e_n Y 10816 (va_up (d 10) (169 * t + k13 v (pl k)) (h (pl k)))) = M3 at hst hm1 hs2
              have ho4 := ho.tr hs2
              refine lv_iinc (lv' := [(5, .int (nI (k + 1))), (0, .ref ma), (1, .ref (E j)), (2, .int (nI v)), (3, .int (nI e)), (4, .int (nI t))]) hx hb dR_entry_83 hl (k := 5) rfl (ii_p _) (by decide) rfl (fun ls hl => ?_)
              refine lv_goto hx hb dR_entry_86 (tgt := 3) rfl ?_
              exact ihLP _ (by omega) (k + 1) (va_up d 10 (va_up (d 10) (169 * t + k13 v (pl k)) (h (pl k)))) M3 _ _ _ rfl (by omega) hm1 (fun i hi => by rw [va_up_ne _ _ hi]; exact hsm i hi) (by rw [va_up_self]; exact hinv) ho4 hst (lv_sub hl [1, 2, 3, 4, 5, 0] rfl)
        · skip
          have hce : ¬ (xe (pl k) v) = e := fun z => hc ((nI_eq (by omega) (by omega)).mpr z)
          rw [etL_n hce] at hinv
          refine lv_goto hx hb dR_entry_29 (tgt := 83) rfl ?_
          refine lv_iinc (lv' := [(5, .int (nI (k + 1))), (0, .ref ma), (1, .ref (E j)), (2, .int (nI v)), (3, .int (nI e)), (4, .int (nI t))]) hx hb dR_entry_83 hl (k := 5) rfl (ii_p _) (by decide) rfl (fun ls hl => ?_)
          refine lv_goto hx hb dR_entry_86 (tgt := 3) rfl ?_
          exact ihLP _ (by omega) (k + 1) d M1 _ _ _ rfl (by omega) hm hsm hinv ho hst (lv_sub hl [1, 2, 3, 4, 5, 0] rfl)
  exact LP _ 0 c M _ _ _ rfl (by omega) hm (fun i hi => rfl) rfl hp_off.rf hst (lv_sub hl [1, 2, 3, 4, 5, 0] rfl)

theorem if_same {b : Prop} [Decidable b] : (if b then 0 else 0 : Nat) = 0 := by split <;> rfl

set_option maxHeartbeats 4000000 in
set_option maxRecDepth 100000 in
theorem c_R_cross (l : Launch) (D : va_G) (Y : Nat → ClassId) (lo : Nat) {M : Hm} {ma p rf th : Nat} {E : Nat → Nat} {c : Nat → Nat → Nat} (hm : mo Y M ma E p rf th c) {eN fr tn z : Nat} (h1 : eN + 169 ≤ 10816) (h2 : fr + 169 ≤ tn) (h3 : tn + 169 ≤ 43264) (hz : z ≤ 1) (hE : ∀ i, i < 169 → c 10 (eN + i) < p) (hF : ∀ j, j < 169 → c 11 (fr + j) < p) (hT : ∀ t, t < 169 → c 11 (tn + t) < p) (hin : ∀ i j, i < 169 → j < 169 → c 10 (eN + i) ≠ 0 → c 11 (fr + j) ≠ 0 → i + j < 169) : ct l D Y lo y_R_cross b_R_cross 10 none 1 [.ref ma, .int (nI eN), .int (nI fr), .int (nI tn), .int (nI z)] M (fun r9 M' => ∃ c' : Nat → Nat → Nat, r9 = none ∧ mo Y M' ma E p rf th c' ∧ (∀ i, i ≠ 11 → c' i = c i) ∧ (∀ t, t < 169 → c' 11 (tn + t) = (c 11 (tn + t) + crS (fun i => fz p z (c 10 (eN + i))) (fun x => c 11 (fr + x)) t 169) % p) ∧ (∀ x, (x < tn ∨ tn + 169 ≤ x) → c' 11 x = c 11 x) ∧ hp_off (fun i => i = 1000) M M') nx 0 0 := by
  refine ct_of (by decide) (Nat.le_of_ble_eq_true rfl) ?_
  intro pg eg sg mg bw mt cg ls X hst hl
  have X1 := X
  obtain ⟨hx, hb, hml, hrt, hlocks, hown, hnm, hts, hkz, hex⟩ := X1
  have hG : ∀ w ∈ GW, w.before _ sg = true := fun w h => hts w (List.mem_cons_of_mem _ h)
  have hK := hkz.1
  have hl : lv_has ls 10 [(0, .ref ma), (1, .int (nI eN)), (2, .int (nI fr)), (3, .int (nI tn)), (4, .int (nI z))] := hl
  obtain ⟨hp2, hp3⟩ := hm.p2
  refine lv_iconst (v := nI 0) hx hb dR_cross_0 (by decide +kernel) ?_
  refine lv_istore (lv' := [(5, .int (nI 0)), (0, .ref ma), (1, .int (nI eN)), (2, .int (nI fr)), (3, .int (nI tn)), (4, .int (nI z))]) hx hb dR_cross_1 hl (by decide) rfl (fun ls hl => ?_)
  have LP : ∀ (kk : Nat) (i : Nat) (d : Nat → Nat → Nat) (M1 : Hm) (H : Heap) (locs : List Loc) (ls : Array Slot), kk = 169 - i → (i ≤ 169) → (mo Y M1 ma E p rf th d) → (∀ x, x ≠ 11 → d x = c x) → (∀ t, t < 169 → d 11 (tn + t) = (c 11 (tn + t) + crS (fun i => fz p z (c 10 (eN + i))) (fun x => c 11 (fr + x)) t i) % p) → (∀ x, (x < tn ∨ tn + 169 ≤ x) → d 11 x = c 11 x) → (hp_off (fun i => i = 1000) M M1) → hp_st D vC lo M1 sg.heap H locs → lv_has ls 10 [(0, .ref ma), (1, .int (nI eN)), (2, .int (nI fr)), (3, .int (nI tn)), (4, .int (nI z)), (5, .int (nI i))] → cW pg l eg sg mg [.ref ma, .int (nI eN), .int (nI fr), .int (nI tn), .int (nI z)] bw mt cg y_R_cross b_R_cross 10 none 1 D lo (fun r9 M' => ∃ c' : Nat → Nat → Nat, r9 = none ∧ mo Y M' ma E p rf th c' ∧ (∀ i, i ≠ 11 → c' i = c i) ∧ (∀ t, t < 169 → c' 11 (tn + t) = (c 11 (tn + t) + crS (fun i => fz p z (c 10 (eN + i))) (fun x => c 11 (fr + x)) t 169) % p) ∧ (∀ x, (x < tn ∨ tn + 169 ≤ x) → c' 11 x = c 11 x) ∧ hp_off (fun i => i = 1000) M M') nx 0 0 H locs 0 0 (F0 mg 3 ls []) := by
    intro kk
    induction kk using Nat.strongRecOn with
    | _ kk ihLP =>
    intro i d M1 H locs ls hkk hi9 hm hsm hT1 hO1 ho hst hl
    refine lv_iload hx hb dR_cross_3 (lv_at hl 5 rfl) ?_
    refine lv_sipush (v := nI 169) hx hb dR_cross_5 (by decide +kernel) ?_
    refine lv_icmp_ge hx hb dR_cross_8 (tgt := 140) rfl (fun hc => ?_) (fun hc => ?_)
    · skip
      have hc5 : 169 ≤ i := (nI_leI (by omega) (by omega)).mp hc
      have hk : i = 169 := by omega
      rw [hk] at hT1
      exact ct_vret X hst ⟨d, rfl, hm, hsm, hT1, hO1, ho⟩ (by omega) (by omega) dR_cross_140
    · skip
      have hc5 : ¬ 169 ≤ i := fun z => hc ((nI_leI (by omega) (by omega)).mpr z)
      have hi : i < 169 := by omega
      have hEi := hE i hi
      have e10 : d 10 (eN + i) = c 10 (eN + i) := by rw [hsm 10 (by omega)]
      refine lv_aload_n hx hb dR_cross_11 rfl (lv_at hl 0 rfl) ?_
      refine hp_get hx hb hG in_R hown hK hst hm.ob rfl 12 (by decide) (hG _ fl_R_39) rfl rfl dR_cross_12 ?_
      refine lv_iload_n hx hb dR_cross_15 rfl (lv_at hl 1 rfl) ?_
      refine lv_iload hx hb dR_cross_16 (lv_at hl 5 rfl) ?_
      refine t_iadd hx hb dR_cross_18 (v := nI (eN + i)) (nI_add _ _) ?_
      refine hp_iald hx hb hK rfl hst hm.a10 (j := (eN + i)) (by omega) (by omega) dR_cross_19 ?_
      refine tp_n (e2 := c 10 (eN + i)) e10 ?_
      refine lv_i2l (v := lN (c 10 (eN + i))) hx hb dR_cross_20 (nI_l (by omega)) ?_
      refine lv_lstore (lv' := [(6, .long (lN (c 10 (eN + i)))), (0, .ref ma), (1, .int (nI eN)), (2, .int (nI fr)), (3, .int (nI tn)), (4, .int (nI z)), (5, .int (nI i))]) hx hb dR_cross_21 hl (by decide) rfl (fun ls hl => ?_)
      refine lv_iconst (v := nI 0) hx hb dR_cross_23 (by decide +kernel) ?_
      refine lv_istore (lv' := [(8, .int (nI 0)), (6, .long (lN (c 10 (eN + i)))), (0, .ref ma), (1, .int (nI eN)), (2, .int (nI fr)), (3, .int (nI tn)), (4, .int (nI z)), (5, .int (nI i))]) hx hb dR_cross_24 hl (by decide) rfl (fun ls hl => ?_)
      have LQ : ∀ (kk : Nat) (j : Nat) (d2 : Nat → Nat → Nat) (M2 : Hm) (H : Heap) (locs : List Loc) (ls : Array Slot), kk = 169 - j → (j ≤ 169) → (mo Y M2 ma E p rf th d2) → (∀ x, x ≠ 11 → d2 x = c x) → (∀ t, t < 169 → d2 11 (tn + t) = (c 11 (tn + t) + crS (fun i => fz p z (c 10 (eN + i))) (fun x => c 11 (fr + x)) t i + (if i ≤ t ∧ t < i + j then (fun i => fz p z (c 10 (eN + i))) i * (fun x => c 11 (fr + x)) (t - i) else 0)) % p) → (∀ x, (x < tn ∨ tn + 169 ≤ x) → d2 11 x = c 11 x) → (hp_off (fun i => i = 1000) M M2) → hp_st D vC lo M2 sg.heap H locs → lv_has ls 10 [(0, .ref ma), (1, .int (nI eN)), (2, .int (nI fr)), (3, .int (nI tn)), (4, .int (nI z)), (5, .int (nI i)), (6, .long (lN (c 10 (eN + i)))), (8, .int (nI j))] → cW pg l eg sg mg [.ref ma, .int (nI eN), .int (nI fr), .int (nI tn), .int (nI z)] bw mt cg y_R_cross b_R_cross 10 none 1 D lo (fun r9 M' => ∃ c' : Nat → Nat → Nat, r9 = none ∧ mo Y M' ma E p rf th c' ∧ (∀ i, i ≠ 11 → c' i = c i) ∧ (∀ t, t < 169 → c' 11 (tn + t) = (c 11 (tn + t) + crS (fun i => fz p z (c 10 (eN + i))) (fun x => c 11 (fr + x)) t 169) % p) ∧ (∀ x, (x < tn ∨ tn + 169 ≤ x) → c' 11 x = c 11 x) ∧ hp_off (fun i => i = 1000) M M') nx 0 0 H locs 0 0 (F0 mg 26 ls []) := by
        intro kk
        induction kk using Nat.strongRecOn with
        | _ kk ihLQ =>
        intro j d2 M2 H locs ls hkk hj9 hm hsQ hT2 hO2 ho2 hst hl
        refine lv_iload hx hb dR_cross_26 (lv_at hl 7 rfl) ?_
        refine lv_sipush (v := nI 169) hx hb dR_cross_28 (by decide +kernel) ?_
        refine lv_icmp_ge hx hb dR_cross_31 (tgt := 134) rfl (fun hc => ?_) (fun hc => ?_)
        · skip
          have hc6 : 169 ≤ j := (nI_leI (by omega) (by omega)).mp hc
          have hj : j = 169 := by omega
          refine lv_iinc (lv' := [(5, .int (nI (i + 1))), (0, .ref ma), (1, .int (nI eN)), (2, .int (nI fr)), (3, .int (nI tn)), (4, .int (nI z)), (6, .long (lN (c 10 (eN + i)))), (8, .int (nI j))]) hx hb dR_cross_134 hl (k := 5) rfl (ii_p _) (by decide) rfl (fun ls hl => ?_)
          refine lv_goto hx hb dR_cross_137 (tgt := 3) rfl ?_
          exact ihLP _ (by omega) (i + 1) d2 M2 _ _ _ rfl (by omega) hm hsQ (fun t ht => by
              rw [hT2 t ht]
              show (_ + _ + (if _ then fz p z (c 10 (eN + i)) * c 11 (fr + (t - i)) else 0)) % p = (_ + (crS (fun i => fz p z (c 10 (eN + i))) (fun x => c 11 (fr + x)) t i + fz p z (c 10 (eN + i)) * (if i ≤ t then c 11 (fr + (t - i)) else 0))) % p
              by_cases h9 : i ≤ t
              · rw [if_pos ⟨h9, by omega⟩, if_pos h9, Nat.add_assoc]
              · rw [if_neg (fun z => h9 z.1), if_neg h9, Nat.mul_zero, Nat.add_zero, Nat.add_zero]) hO2 ho2 hst (lv_sub hl [1, 2, 3, 4, 5, 0] rfl)
        · skip
          have hc6 : ¬ 169 ≤ j := fun z => hc ((nI_leI (by omega) (by omega)).mpr z)
          refine lv_lload hx hb dR_cross_34 (lv_at hl 6 rfl) ?_
          refine lv_lconst (v := lN 0) hx hb dR_cross_36 (by decide +kernel) ?_
          refine lv_lcmp hx hb dR_cross_37 ?_
          have hcI : (lN (c 10 (eN + i))).toInt = ((c 10 (eN + i) : Nat) : Int) := lN_big (by omega)
          have hzI : (lN 0).toInt = 0 := lN_big (by omega)
          refine lv_if_le hx hb dR_cross_38 (tgt := 134) rfl (fun hc => ?_) (fun hc => ?_)
          · skip
            have hz0 : c 10 (eN + i) = 0 := by have := lcm3_le.mp hc; omega
            refine lv_iinc (lv' := [(5, .int (nI (i + 1))), (0, .ref ma), (1, .int (nI eN)), (2, .int (nI fr)), (3, .int (nI tn)), (4, .int (nI z)), (6, .long (lN (c 10 (eN + i)))), (8, .int (nI j))]) hx hb dR_cross_134 hl (k := 5) rfl (ii_p _) (by decide) rfl (fun ls hl => ?_)
            refine lv_goto hx hb dR_cross_137 (tgt := 3) rfl ?_
            exact ihLP _ (by omega) (i + 1) d2 M2 _ _ _ rfl (by omega) hm hsQ (fun t ht => by
                rw [hT2 t ht]
                show (_ + _ + (if _ then fz p z (c 10 (eN + i)) * c 11 (fr + (t - i)) else 0)) % p = (_ + (crS (fun i => fz p z (c 10 (eN + i))) (fun x => c 11 (fr + x)) t i + fz p z (c 10 (eN + i)) * (if i ≤ t then c 11 (fr + (t - i)) else 0))) % p
                rw [hz0, fz_0, Nat.zero_mul, Nat.zero_mul, Nat.add_zero, if_same, Nat.add_zero]) hO2 ho2 hst (lv_sub hl [1, 2, 3, 4, 5, 0] rfl)
          · skip
            have hz1 : c 10 (eN + i) ≠ 0 := fun z9 => hc (lcm3_le.mpr (by omega))
            have hj : j < 169 := by omega
            have hFj := hF j hj
            have f11 : d2 11 (fr + j) = c 11 (fr + j) := hO2 _ (by omega)
            refine lv_aload_n hx hb dR_cross_41 rfl (lv_at hl 0 rfl) ?_
            refine hp_get hx hb hG in_R hown hK hst hm.ob rfl 13 (by decide) (hG _ fl_R_43) rfl rfl dR_cross_42 ?_
            refine lv_iload_n hx hb dR_cross_45 rfl (lv_at hl 2 rfl) ?_
            refine lv_iload hx hb dR_cross_46 (lv_at hl 7 rfl) ?_
            refine t_iadd hx hb dR_cross_48 (v := nI (fr + j)) (nI_add _ _) ?_
            refine hp_iald hx hb hK rfl hst hm.a11 (j := (fr + j)) (by omega) (by omega) dR_cross_49 ?_
            refine tp_n (e2 := c 11 (fr + j)) f11 ?_
            refine lv_if_ne hx hb dR_cross_50 (tgt := 56) rfl (fun hc => ?_) (fun hc => ?_)
            · skip
              rw [← nI_0] at hc
              have hcz : ¬ (c 11 (fr + j)) = 0 := fun z => hc ((nI_eq (by omega) (by omega)).mpr z)
              have hij := hin i j hi hj hz1 hcz
              have hold : d2 11 (tn + (i + j)) = (c 11 (tn + (i + j)) + crS (fun i => fz p z (c 10 (eN + i))) (fun x => c 11 (fr + x)) (i + j) i) % p := by
                rw [hT2 (i + j) hij, if_neg (by omega), Nat.add_zero]
              have hol : d2 11 (tn + (i + j)) < p := by rw [hold]; exact Nat.mod_lt _ (by omega)
              have l4 : c 10 (eN + i) * c 11 (fr + j) ≤ 46337 * 46337 := Nat.mul_le_mul (by omega) (by omega)
              refine lv_iload_n hx hb dR_cross_56 rfl (lv_at hl 3 rfl) ?_
              refine lv_iload hx hb dR_cross_57 (lv_at hl 5 rfl) ?_
              refine t_iadd hx hb dR_cross_59 (v := nI (tn + i)) (nI_add _ _) ?_
              refine lv_iload hx hb dR_cross_60 (lv_at hl 7 rfl) ?_
              refine t_iadd hx hb dR_cross_62 (v := nI ((tn + i) + j)) (nI_add _ _) ?_
              refine tp_n (e2 := tn + (i + j)) (by omega) ?_
              refine lv_istore (lv' := [(9, .int (nI (tn + (i + j)))), (0, .ref ma), (1, .int (nI eN)), (2, .int (nI fr)), (3, .int (nI tn)), (4, .int (nI z)), (5, .int (nI i)), (6, .long (lN (c 10 (eN + i)))), (8, .int (nI j))]) hx hb dR_cross_63 hl (by decide) rfl (fun ls hl => ?_)
              refine lv_aload_n hx hb dR_cross_65 rfl (lv_at hl 1 rfl) ?_
              refine hp_get hx hb hG in_R hown hK hst hm.ob rfl 13 (by decide) (hG _ fl_R_43) rfl rfl dR_cross_66 ?_
              refine lv_iload hx hb dR_cross_69 (lv_at hl 0 rfl) ?_
              refine lv_aload_n hx hb dR_cross_71 rfl (lv_at hl 1 rfl) ?_
              refine lv_iload hx hb dR_cross_72 (lv_at hl 5 rfl) ?_
              refine lv_if_eq hx hb dR_cross_74 (tgt := 102) rfl (fun hc => ?_) (fun hc => ?_)
              · skip
                rw [← nI_0] at hc
                have hcl : z = 0 := (nI_eq (by omega) (by omega)).mp hc
                refine lv_aload_n hx hb dR_cross_102 rfl (lv_at hl 1 rfl) ?_
                refine hp_get hx hb hG in_R hown hK hst hm.ob rfl 13 (by decide) (hG _ fl_R_43) rfl rfl dR_cross_103 ?_
                refine lv_iload hx hb dR_cross_106 (lv_at hl 0 rfl) ?_
                refine hp_iald hx hb hK rfl hst hm.a11 (j := (tn + (i + j))) (by omega) (by omega) dR_cross_108 ?_
                refine lv_i2l (v := lN ((d2 11) (tn + (i + j)))) hx hb dR_cross_109 (nI_l (by omega)) ?_
                refine lv_lload hx hb dR_cross_110 (lv_at hl 7 rfl) ?_
                refine lv_aload_n hx hb dR_cross_112 rfl (lv_at hl 1 rfl) ?_
                refine hp_get hx hb hG in_R hown hK hst hm.ob rfl 13 (by decide) (hG _ fl_R_43) rfl rfl dR_cross_113 ?_
                refine lv_iload_n hx hb dR_cross_116 rfl (lv_at hl 3 rfl) ?_
                refine lv_iload hx hb dR_cross_117 (lv_at hl 8 rfl) ?_
                refine t_iadd hx hb dR_cross_119 (v := nI (fr + j)) (nI_add _ _) ?_
                refine hp_iald hx hb hK rfl hst hm.a11 (j := (fr + j)) (by omega) (by omega) dR_cross_120 ?_
                refine tp_n (e2 := c 11 (fr + j)) f11 ?_
                refine lv_i2l (v := lN (c 11 (fr + j))) hx hb dR_cross_121 (nI_l (by omega)) ?_
                refine lv_lmul hx hb dR_cross_122 ?_
                refine tp_l (e2 := lN ((c 10 (eN + i)) * (c 11 (fr + j)))) (lN_mul _ _) ?_
                refine lv_ladd hx hb dR_cross_123 ?_
                refine tp_l (e2 := lN (((d2 11) (tn + (i + j))) + ((c 10 (eN + i)) * (c 11 (fr + j))))) (lN_add _ _) ?_
                refine ct_callV (av2 := [.long (lN (((d2 11) (tn + (i + j))) + ((c 10 (eN + i)) * (c 11 (fr + j)))))]) (rest := [.int (nI (tn + (i + j))), .ref (E 11)]) (b := ma) X hst (c_R_reduced l D Y lo hm (lN (d2 11 (tn + (i + j)) + c 10 (eN + i) * c 11 (fr + j)))) hm.ob rfl wc_R_reduced ml_R_66 wi_R_reduced wl_R_reduced wn_R md_R_reduced (by decide) hl.1 rfl (Nat.le_of_ble_eq_true rfl) ⟨by omega, by omega⟩ (fun _ _ h => h.elim) dR_cross_124 (fun r M' H locs hp hst => ?_)
                obtain ⟨rfl, rfl⟩ := hp
                refine tp_n (e2 := (d2 11 (tn + (i + j)) + fz p z (c 10 (eN + i)) * c 11 (fr + j)) % p) (by rw [lN_big (by omega), rd_nat]; unfold fz; rw [if_pos hcl]) ?_
                refine hp_iast hx hb hK rfl hst hm.a11 (j := (tn + (i + j))) (v := ((d2 11 (tn + (i + j)) + fz p z (c 10 (eN + i)) * c 11 (fr + j)) % p)) (by omega) (by omega) dR_cross_127 (fun H locs hst => ?_)
                obtain ⟨hm1, hs2⟩ := hm.s11 (va_up (d2 11) (tn + (i + j)) ((d2 11 (tn + (i + j)) + fz p z (c 10 (eN + i)) * c 11 (fr + j)) % p))
                generalize hp_up M2 (E 11) ((1000, 11), e_n Y 43264 (va_up (d2 11) (tn + (i + j)) ((d2 11 (tn + (i + j)) + fz p z (c 10 (eN + i)) * c 11 (fr + j)) % p))) = M3 at hst hm1 hs2
                have ho4 := ho2.tr hs2
                have hT3 : ∀ t, t < 169 → (va_up d2 11 (va_up (d2 11) (tn + (i + j)) ((d2 11 (tn + (i + j)) + fz p z (c 10 (eN + i)) * c 11 (fr + j)) % p))) 11 (tn + t) = (c 11 (tn + t) + crS (fun i => fz p z (c 10 (eN + i))) (fun x => c 11 (fr + x)) t i + (if i ≤ t ∧ t < i + (j + 1) then (fun i => fz p z (c 10 (eN + i))) i * (fun x => c 11 (fr + x)) (t - i) else 0)) % p := fun t ht => by
                  rw [va_up_self]
                  by_cases h9 : t = i + j
                  · subst h9
                    rw [va_up_self, if_pos ⟨by omega, by omega⟩, hold, Nat.mod_add_mod, show i + j - i = j by omega]
                  · rw [va_up_ne _ _ (by omega), hT2 t ht]
                    by_cases h8 : i ≤ t ∧ t < i + j
                    · rw [if_pos h8, if_pos ⟨h8.1, by omega⟩]
                    · rw [if_neg h8, if_neg (fun z9 => h8 ⟨z9.1, by omega⟩)]
                refine lv_iinc (lv' := [(8, .int (nI (j + 1))), (9, .int (nI (tn + (i + j)))), (0, .ref ma), (1, .int (nI eN)), (2, .int (nI fr)), (3, .int (nI tn)), (4, .int (nI z)), (5, .int (nI i)), (6, .long (lN (c 10 (eN + i))))]) hx hb dR_cross_128 hl (k := 8) rfl (ii_p _) (by decide) rfl (fun ls hl => ?_)
                refine lv_goto hx hb dR_cross_131 (tgt := 26) rfl ?_
                exact ihLQ _ (by omega) (j + 1) (va_up d2 11 (va_up (d2 11) (tn + (i + j)) ((d2 11 (tn + (i + j)) + fz p z (c 10 (eN + i)) * c 11 (fr + j)) % p))) M3 _ _ _ rfl (by omega) hm1 (fun x hx => by rw [va_up_ne _ _ hx]; exact hsQ x hx) hT3 (fun x hx => by rw [va_up_self, va_up_ne _ _ (by omega)]; exact hO2 x hx) ho4 hst (lv_sub hl [2, 3, 4, 5, 6, 7, 8, 0] rfl)
              · skip
                rw [← nI_0] at hc
                have hcl : ¬ z = 0 := fun z => hc ((nI_eq (by omega) (by omega)).mpr z)
                refine lv_aload_n hx hb dR_cross_77 rfl (lv_at hl 1 rfl) ?_
                refine hp_get hx hb hG in_R hown hK hst hm.ob rfl 13 (by decide) (hG _ fl_R_43) rfl rfl dR_cross_78 ?_
                refine lv_iload hx hb dR_cross_81 (lv_at hl 0 rfl) ?_
                refine hp_iald hx hb hK rfl hst hm.a11 (j := (tn + (i + j))) (by omega) (by omega) dR_cross_83 ?_
                refine lv_i2l (v := lN ((d2 11) (tn + (i + j)))) hx hb dR_cross_84 (nI_l (by omega)) ?_
                refine lv_lload hx hb dR_cross_85 (lv_at hl 7 rfl) ?_
                refine lv_aload_n hx hb dR_cross_87 rfl (lv_at hl 1 rfl) ?_
                refine hp_get hx hb hG in_R hown hK hst hm.ob rfl 13 (by decide) (hG _ fl_R_43) rfl rfl dR_cross_88 ?_
                refine lv_iload_n hx hb dR_cross_91 rfl (lv_at hl 3 rfl) ?_
                refine lv_iload hx hb dR_cross_92 (lv_at hl 8 rfl) ?_
                refine t_iadd hx hb dR_cross_94 (v := nI (fr + j)) (nI_add _ _) ?_
                refine hp_iald hx hb hK rfl hst hm.a11 (j := (fr + j)) (by omega) (by omega) dR_cross_95 ?_
                refine tp_n (e2 := c 11 (fr + j)) f11 ?_
                refine lv_i2l (v := lN (c 11 (fr + j))) hx hb dR_cross_96 (nI_l (by omega)) ?_
                refine lv_lmul hx hb dR_cross_97 ?_
                refine tp_l (e2 := lN ((c 10 (eN + i)) * (c 11 (fr + j)))) (lN_mul _ _) ?_
                refine lv_lsub hx hb dR_cross_98 ?_
                refine lv_goto hx hb dR_cross_99 (tgt := 124) rfl ?_
                refine ct_callV (av2 := [.long ((lN ((d2 11) (tn + (i + j)))) - (lN ((c 10 (eN + i)) * (c 11 (fr + j)))))]) (rest := [.int (nI (tn + (i + j))), .ref (E 11)]) (b := ma) X hst (c_R_reduced l D Y lo hm (lN (d2 11 (tn + (i + j))) - lN (c 10 (eN + i) * c 11 (fr + j)))) hm.ob rfl wc_R_reduced ml_R_66 wi_R_reduced wl_R_reduced wn_R md_R_reduced (by decide) hl.1 rfl (Nat.le_of_ble_eq_true rfl) ⟨by omega, by omega⟩ (fun _ _ h => h.elim) dR_cross_124 (fun r M' H locs hp hst => ?_)
                obtain ⟨rfl, rfl⟩ := hp
                refine tp_n (e2 := (d2 11 (tn + (i + j)) + fz p z (c 10 (eN + i)) * c 11 (fr + j)) % p) (by rw [lN_subI (by omega) (by omega), rd_sub hEi]; unfold fz; rw [if_neg hcl]) ?_
                refine hp_iast hx hb hK rfl hst hm.a11 (j := (tn + (i + j))) (v := ((d2 11 (tn + (i + j)) + fz p z (c 10 (eN + i)) * c 11 (fr + j)) % p)) (by omega) (by omega) dR_cross_127 (fun H locs hst => ?_)
                obtain ⟨hm1, hs2⟩ := hm.s11 (va_up (d2 11) (tn + (i + j)) ((d2 11 (tn + (i + j)) + fz p z (c 10 (eN + i)) * c 11 (fr + j)) % p))
                generalize hp_up M2 (E 11) ((1000, 11), e_n Y 43264 (va_up (d2 11) (tn + (i + j)) ((d2 11 (tn + (i + j)) + fz p z (c 10 (eN + i)) * c 11 (fr + j)) % p))) = M3 at hst hm1 hs2
                have ho4 := ho2.tr hs2
                have hT3 : ∀ t, t < 169 → (va_up d2 11 (va_up (d2 11) (tn + (i + j)) ((d2 11 (tn + (i + j)) + fz p z (c 10 (eN + i)) * c 11 (fr + j)) % p))) 11 (tn + t) = (c 11 (tn + t) + crS (fun i => fz p z (c 10 (eN + i))) (fun x => c 11 (fr + x)) t i + (if i ≤ t ∧ t < i + (j + 1) then (fun i => fz p z (c 10 (eN + i))) i * (fun x => c 11 (fr + x)) (t - i) else 0)) % p := fun t ht => by
                  rw [va_up_self]
                  by_cases h9 : t = i + j
                  · subst h9
                    rw [va_up_self, if_pos ⟨by omega, by omega⟩, hold, Nat.mod_add_mod, show i + j - i = j by omega]
                  · rw [va_up_ne _ _ (by omega), hT2 t ht]
                    by_cases h8 : i ≤ t ∧ t < i + j
                    · rw [if_pos h8, if_pos ⟨h8.1, by omega⟩]
                    · rw [if_neg h8, if_neg (fun z9 => h8 ⟨z9.1, by omega⟩)]
                refine lv_iinc (lv' := [(8, .int (nI (j + 1))), (9, .int (nI (tn + (i + j)))), (0, .ref ma), (1, .int (nI eN)), (2, .int (nI fr)), (3, .int (nI tn)), (4, .int (nI z)), (5, .int (nI i)), (6, .long (lN (c 10 (eN + i))))]) hx hb dR_cross_128 hl (k := 8) rfl (ii_p _) (by decide) rfl (fun ls hl => ?_)
                refine lv_goto hx hb dR_cross_131 (tgt := 26) rfl ?_
                exact ihLQ _ (by omega) (j + 1) (va_up d2 11 (va_up (d2 11) (tn + (i + j)) ((d2 11 (tn + (i + j)) + fz p z (c 10 (eN + i)) * c 11 (fr + j)) % p))) M3 _ _ _ rfl (by omega) hm1 (fun x hx => by rw [va_up_ne _ _ hx]; exact hsQ x hx) hT3 (fun x hx => by rw [va_up_self, va_up_ne _ _ (by omega)]; exact hO2 x hx) ho4 hst (lv_sub hl [2, 3, 4, 5, 6, 7, 8, 0] rfl)
            · skip
              rw [← nI_0] at hc
              have hcz : (c 11 (fr + j)) = 0 := (nI_eq (by omega) (by omega)).mp hc
              refine lv_goto hx hb dR_cross_53 (tgt := 128) rfl ?_
              refine lv_iinc (lv' := [(8, .int (nI (j + 1))), (0, .ref ma), (1, .int (nI eN)), (2, .int (nI fr)), (3, .int (nI tn)), (4, .int (nI z)), (5, .int (nI i)), (6, .long (lN (c 10 (eN + i))))]) hx hb dR_cross_128 hl (k := 7) rfl (ii_p _) (by decide) rfl (fun ls hl => ?_)
              refine lv_goto hx hb dR_cross_131 (tgt := 26) rfl ?_
              exact ihLQ _ (by omega) (j + 1) d2 M2 _ _ _ rfl (by omega) hm hsQ (fun t ht => by
                  rw [hT2 t ht]
                  by_cases h9 : t = i + j
                  · rw [if_neg (by omega), if_pos ⟨by omega, by omega⟩, h9, show i + j - i = j by omega]
                    show _ = (_ + _ + _ * c 11 (fr + j)) % p
                    rw [hcz, Nat.mul_zero]
                  · by_cases h8 : i ≤ t ∧ t < i + j
                    · rw [if_pos h8, if_pos ⟨h8.1, by omega⟩]
                    · rw [if_neg h8, if_neg (fun z9 => h8 ⟨z9.1, by omega⟩)]) hO2 ho2 hst (lv_sub hl [1, 2, 3, 4, 5, 6, 7, 0] rfl)
      exact LQ _ 0 d M1 _ _ _ rfl (by omega) hm hsm (fun t ht => by rw [hT1 t ht, if_neg (by omega), Nat.add_zero]) hO1 ho hst (lv_sub hl [2, 3, 4, 5, 6, 7, 1, 0] rfl)
  exact LP _ 0 c M _ _ _ rfl (by omega) hm (fun x hx => rfl) (fun t ht => (Nat.mod_eq_of_lt (hT t ht)).symm) (fun x hx => rfl) hp_off.rf hst (lv_sub hl [1, 2, 3, 4, 5, 0] rfl)

theorem u13_0 {v t : Nat} (hv : v < 3) (ht : t < 169) : cst 1 (u13 v t) = if t = 0 then 1 else 0 := by
  by_cases h : t = 0
  · subst h
    rw [if_pos rfl]
    have hv3 : v = 0 ∨ v = 1 ∨ v = 2 := by omega
    rcases hv3 with rfl | rfl | rfl <;> rfl
  · rw [if_neg h]
    obtain ⟨h1, h2⟩ := u13_bx hv ht
    rw [← cst_up, va_up_ne _ _ (fun z => h ?_)]
    rw [z] at h2
    rw [← h2]
    have hv3 : v = 0 ∨ v = 1 ∨ v = 2 := by omega
    rcases hv3 with rfl | rfl | rfl <;> decide +kernel

set_option maxHeartbeats 4000000 in
set_option maxRecDepth 100000 in
theorem c_R_determinant (l : Launch) (D : va_G) (Y : Nat → ClassId) (lo : Nat) {M : Hm} {ma p rf th : Nat} {E : Nat → Nat} {c : Nat → Nat → Nat} (hm : mo Y M ma E p rf th c) {v m n sz : Nat} {a b : Pf} (hW : rw3 p v m n a b) (hsz : m + n = sz) (hen : en v m n a b (c 10) (m + n) 0) : ct l D Y lo y_R_determinant b_R_determinant 6 none 2 [.ref ma, .int (nI sz)] M (fun r9 M' => ∃ c' : Nat → Nat → Nat, r9 = none ∧ mo Y M' ma E p rf th c' ∧ (∀ i, i ≠ 11 → c' i = c i) ∧ (∀ s, s < 2 ^ sz → ∀ t, t < 169 → c' 11 (169 * s + t) = mnT p v m n a b s s (u13 v t)) ∧ hp_off (fun i => i = 1000) M M') nx 0 0 := by
  refine ct_of (by decide) (Nat.le_of_ble_eq_true rfl) ?_
  intro pg eg sg mg bw mt cg ls X hst hl
  have X1 := X
  obtain ⟨hx, hb, hml, hrt, hlocks, hown, hnm, hts, hkz, hex⟩ := X1
  have hG : ∀ w ∈ GW, w.before _ sg = true := fun w h => hts w (List.mem_cons_of_mem _ h)
  have hK := hkz.1
  have hl : lv_has ls 6 [(0, .ref ma), (1, .int (nI sz))] := hl
  obtain ⟨hp2, hp3⟩ := hm.p2
  have h8 := hW.h8
  have hv := hW.hv
  rw [hsz] at h8
  obtain ⟨q1, q2⟩ := p2_le h8
  have hsq : sz * sz ≤ 64 := Nat.mul_le_mul h8 h8
  have hmlt : ∀ s, s < 2 ^ sz → ∀ x, mnT p v m n a b s s x < p := fun s hs => (mnT_ok hp2 hv hW.hm hW.hn hW.h8 hW.hd s (by rw [hsz]; exact hs) s (Nat.le_refl _)).1
  refine lv_iconst (v := nI 0) hx hb dR_determinant_0 (by decide +kernel) ?_
  refine lv_istore_n (lv' := [(2, .int (nI 0)), (0, .ref ma), (1, .int (nI sz))]) hx hb dR_determinant_1 rfl hl (by decide) rfl (fun ls hl => ?_)
  have LS : ∀ (kk : Nat) (st : Nat) (d : Nat → Nat → Nat) (M1 : Hm) (H : Heap) (locs : List Loc) (ls : Array Slot), kk = 2 ^ sz - st → (st ≤ 2 ^ sz) → (mo Y M1 ma E p rf th d) → (∀ x, x ≠ 11 → d x = c x) → (∀ s, s < st → ∀ t, t < 169 → d 11 (169 * s + t) = mnT p v m n a b s s (u13 v t)) → (hp_off (fun i => i = 1000) M M1) → hp_st D vC lo M1 sg.heap H locs → lv_has ls 6 [(0, .ref ma), (1, .int (nI sz)), (2, .int (nI st))] → cW pg l eg sg mg [.ref ma, .int (nI sz)] bw mt cg y_R_determinant b_R_determinant 6 none 2 D lo (fun r9 M' => ∃ c' : Nat → Nat → Nat, r9 = none ∧ mo Y M' ma E p rf th c' ∧ (∀ i, i ≠ 11 → c' i = c i) ∧ (∀ s, s < 2 ^ sz → ∀ t, t < 169 → c' 11 (169 * s + t) = mnT p v m n a b s s (u13 v t)) ∧ hp_off (fun i => i = 1000) M M') nx 0 0 H locs 0 0 (F0 mg 2 ls []) := by
    intro kk
    induction kk using Nat.strongRecOn with
    | _ kk ihLS =>
    intro st d M1 H locs ls hkk hs9 hm hsm hS ho hst hl
    refine lv_iload_n hx hb dR_determinant_2 rfl (lv_at hl 2 rfl) ?_
    refine lv_iconst (v := nI 1) hx hb dR_determinant_3 (by decide +kernel) ?_
    refine lv_iload_n hx hb dR_determinant_4 rfl (lv_at hl 1 rfl) ?_
    refine lv_ishl hx hb dR_determinant_5 ?_
    refine tp_i (e2 := nI (1 * 2 ^ sz)) (sh_l (by omega) (by omega)) ?_
    refine tp_n (e2 := 2 ^ sz) (Nat.one_mul _) ?_
    refine lv_icmp_ge hx hb dR_determinant_6 (tgt := 141) rfl (fun hc => ?_) (fun hc => ?_)
    · skip
      have hc5 : (2 ^ sz) ≤ st := (nI_leI (by omega) (by omega)).mp hc
      have hk : st = 2 ^ sz := by omega
      rw [hk] at hS
      exact ct_vret X hst ⟨d, rfl, hm, hsm, hS, ho⟩ (by omega) (by omega) dR_determinant_141
    · skip
      have hc5 : ¬ (2 ^ sz) ≤ st := fun z => hc ((nI_leI (by omega) (by omega)).mpr z)
      have hst2 : st < 2 ^ sz := by omega
      refine lv_iconst (v := nI 0) hx hb dR_determinant_9 (by decide +kernel) ?_
      refine lv_istore_n (lv' := [(3, .int (nI 0)), (0, .ref ma), (1, .int (nI sz)), (2, .int (nI st))]) hx hb dR_determinant_10 rfl hl (by decide) rfl (fun ls hl => ?_)
      have LZ : ∀ (kk : Nat) (k : Nat) (d2 : Nat → Nat → Nat) (M2 : Hm) (H : Heap) (locs : List Loc) (ls : Array Slot), kk = 169 - k → (k ≤ 169) → (mo Y M2 ma E p rf th d2) → (∀ x, x ≠ 11 → d2 x = c x) → (∀ s, s < st → ∀ t, t < 169 → d2 11 (169 * s + t) = mnT p v m n a b s s (u13 v t)) → (hp_off (fun i => i = 1000) M M2) → (∀ t, t < k → d2 11 (169 * st + t) = 0) → hp_st D vC lo M2 sg.heap H locs → lv_has ls 6 [(0, .ref ma), (1, .int (nI sz)), (2, .int (nI st)), (3, .int (nI k))] → cW pg l eg sg mg [.ref ma, .int (nI sz)] bw mt cg y_R_determinant b_R_determinant 6 none 2 D lo (fun r9 M' => ∃ c' : Nat → Nat → Nat, r9 = none ∧ mo Y M' ma E p rf th c' ∧ (∀ i, i ≠ 11 → c' i = c i) ∧ (∀ s, s < 2 ^ sz → ∀ t, t < 169 → c' 11 (169 * s + t) = mnT p v m n a b s s (u13 v t)) ∧ hp_off (fun i => i = 1000) M M') nx 0 0 H locs 0 0 (F0 mg 11 ls []) := by
        intro kk
        induction kk using Nat.strongRecOn with
        | _ kk ihLZ =>
        intro k d2 M2 H locs ls hkk hk9 hm hsm hS ho hZ hst hl
        refine lv_iload_n hx hb dR_determinant_11 rfl (lv_at hl 3 rfl) ?_
        refine lv_sipush (v := nI 169) hx hb dR_determinant_12 (by decide +kernel) ?_
        refine lv_icmp_ge hx hb dR_determinant_15 (tgt := 37) rfl (fun hc => ?_) (fun hc => ?_)
        · skip
          have hc6 : 169 ≤ k := (nI_leI (by omega) (by omega)).mp hc
          have hk : k = 169 := by omega
          rw [hk] at hZ
          have hp9 := pcn_9 st
          refine lv_iload_n hx hb dR_determinant_37 rfl (lv_at hl 2 rfl) ?_
          refine ct_callS (av2 := [.int (nI st)]) (rest := []) X hst (c_R_bits l D Y lo (n := st) (by omega)) wc_R_bits ml_R_133 ws_R_bits wn_R md_R_bits (by decide) hl.1 rfl (Nat.le_of_ble_eq_true rfl) ⟨by omega, by omega⟩ (fun _ _ h => h.elim) dR_determinant_38 (fun r M' H locs hp hst => ?_)
          obtain ⟨rfl, rfl⟩ := hp
          refine lv_iconst (v := nI 1) hx hb dR_determinant_41 (by decide +kernel) ?_
          by_cases h0 : st = 0
          · skip
            refine t_isub hx hb dR_determinant_42 (v := (nI (pcn st)) - (nI 1)) rfl ?_
            refine tp_i (e2 := (-1 : Int32)) (by rw [h0]; decide +kernel) ?_
            refine lv_istore_n (lv' := [(3, .int (-1 : Int32)), (0, .ref ma), (1, .int (nI sz)), (2, .int (nI st))]) hx hb dR_determinant_43 rfl hl (by decide) rfl (fun ls hl => ?_)
            refine lv_iload_n hx hb dR_determinant_44 rfl (lv_at hl 0 rfl) ?_
            refine lv_if_ge hx hb dR_determinant_45 (tgt := 55) rfl (fun hc => absurd hc (by decide)) (fun hc => ?_)
            refine lv_aload_n hx hb dR_determinant_48 rfl (lv_at hl 1 rfl) ?_
            refine hp_get hx hb hG in_R hown hK hst hm.ob rfl 13 (by decide) (hG _ fl_R_43) rfl rfl dR_determinant_49 ?_
            refine lv_iconst (v := nI 0) hx hb dR_determinant_52 (by decide +kernel) ?_
            refine lv_iconst (v := nI 1) hx hb dR_determinant_53 (by decide +kernel) ?_
            refine hp_iast hx hb hK rfl hst hm.a11 (j := 0) (v := 1) (by omega) (by omega) dR_determinant_54 (fun H locs hst => ?_)
            obtain ⟨hm1, hs2⟩ := hm.s11 (va_up (d2 11) 0 1)
            generalize hp_up M2 (E 11) ((1000, 11), e_n Y 43264 (va_up (d2 11) 0 1)) = M3 at hst hm1 hs2
            have ho4 := ho.tr hs2
            have hmZ := hm1
            have hoZ := ho4
            have hsZ : ∀ x, x ≠ 11 → (va_up d2 11 (va_up (d2 11) 0 1)) x = c x := fun x hx => by rw [va_up_ne _ _ hx]; exact hsm x hx
            have hB : ∀ s, s < st + 1 → ∀ t, t < 169 → (va_up d2 11 (va_up (d2 11) 0 1)) 11 (169 * s + t) = mnT p v m n a b s s (u13 v t) := fun s hs t ht => by
              have e0 : s = 0 := by omega
              subst e0
              show _ = cst 1 (u13 v t)
              rw [va_up_self, u13_0 hv ht]
              by_cases h9 : t = 0
              · rw [h9, if_pos rfl]; exact va_up_self _ _ _
              · rw [if_neg h9, va_up_ne _ _ (by omega)]
                have h7 := hZ t ht
                rw [h0] at h7
                exact h7
            generalize hgc : (va_up d2 11 (va_up (d2 11) 0 1)) = cZ at hmZ hsZ hB
            refine lv_iconst (v := nI 0) hx hb dR_determinant_55 (by decide +kernel) ?_
            refine lv_istore (lv' := [(4, .int (nI 0)), (3, .int (-1 : Int32)), (0, .ref ma), (1, .int (nI sz)), (2, .int (nI st))]) hx hb dR_determinant_56 hl (by decide) rfl (fun ls hl => ?_)
            have LW : ∀ (kk : Nat) (j : Nat) (H : Heap) (locs : List Loc) (ls : Array Slot), kk = sz - j → (j ≤ sz) → hp_st D vC lo M3 sg.heap H locs → lv_has ls 6 [(0, .ref ma), (1, .int (nI sz)), (2, .int (nI st)), (4, .int (nI j))] → cW pg l eg sg mg [.ref ma, .int (nI sz)] bw mt cg y_R_determinant b_R_determinant 6 none 2 D lo (fun r9 M' => ∃ c' : Nat → Nat → Nat, r9 = none ∧ mo Y M' ma E p rf th c' ∧ (∀ i, i ≠ 11 → c' i = c i) ∧ (∀ s, s < 2 ^ sz → ∀ t, t < 169 → c' 11 (169 * s + t) = mnT p v m n a b s s (u13 v t)) ∧ hp_off (fun i => i = 1000) M M') nx 0 0 H locs 0 0 (F0 mg 58 ls []) := by
              intro kk
              induction kk using Nat.strongRecOn with
              | _ kk ihLW =>
              intro j H locs ls hkk hj9 hst hl
              refine lv_iload hx hb dR_determinant_58 (lv_at hl 3 rfl) ?_
              refine lv_iload_n hx hb dR_determinant_60 rfl (lv_at hl 1 rfl) ?_
              refine lv_icmp_ge hx hb dR_determinant_61 (tgt := 135) rfl (fun hc => ?_) (fun hc => ?_)
              · skip
                have hc7 : sz ≤ j := (nI_leI (by omega) (by omega)).mp hc
                refine lv_iinc (lv' := [(2, .int (nI (st + 1))), (0, .ref ma), (1, .int (nI sz)), (4, .int (nI j))]) hx hb dR_determinant_135 hl (k := 2) rfl (ii_p _) (by decide) rfl (fun ls hl => ?_)
                refine lv_goto hx hb dR_determinant_138 (tgt := 2) rfl ?_
                exact ihLS _ (by omega) (st + 1) cZ M3 _ _ _ rfl (by omega) hmZ hsZ hB hoZ hst (lv_sub hl [1, 2, 0] rfl)
              · skip
                have hc7 : ¬ sz ≤ j := fun z => hc ((nI_leI (by omega) (by omega)).mpr z)
                refine lv_iload_n hx hb dR_determinant_64 rfl (lv_at hl 2 rfl) ?_
                refine lv_iload hx hb dR_determinant_65 (lv_at hl 3 rfl) ?_
                refine lv_ishr hx hb dR_determinant_67 ?_
                refine tp_i (e2 := nI (st / 2 ^ j)) (sh_r (by omega) (by omega)) ?_
                refine lv_iconst (v := nI 1) hx hb dR_determinant_68 (by decide +kernel) ?_
                refine lv_iand hx hb dR_determinant_69 ?_
                refine tp_i (e2 := nI ((st / 2 ^ j) &&& 1)) (bt_and _ _) ?_
                refine tp_n (e2 := 0) (by rw [h0, Nat.zero_div]; rfl) ?_
                refine lv_if_ne hx hb dR_determinant_70 (tgt := 76) rfl (fun hc => absurd hc (by decide)) (fun hc => ?_)
                refine lv_goto hx hb dR_determinant_73 (tgt := 129) rfl ?_
                refine lv_iinc (lv' := [(4, .int (nI (j + 1))), (0, .ref ma), (1, .int (nI sz)), (2, .int (nI st))]) hx hb dR_determinant_129 hl (k := 3) rfl (ii_p _) (by decide) rfl (fun ls hl => ?_)
                refine lv_goto hx hb dR_determinant_132 (tgt := 58) rfl ?_
                exact ihLW _ (by omega) (j + 1) _ _ _ rfl (by omega) hst (lv_sub hl [1, 2, 3, 0] rfl)
            exact LW _ 0 _ _ _ rfl (by omega) hst (lv_sub hl [2, 3, 4, 0] rfl)
          · skip
            have hpp := pcn_pos st (by omega) (by omega)
            have hpl := pcn_le sz (by omega) st hst2
            have hrow : sz * (pcn st - 1) + sz ≤ sz * sz := by rw [← Nat.mul_succ]; exact Nat.mul_le_mul_left _ (by omega)
            refine t_isub hx hb dR_determinant_42 (v := nI ((pcn st) - 1)) (pk_sub (by omega)) ?_
            refine lv_istore_n (lv' := [(3, .int (nI ((pcn st) - 1))), (0, .ref ma), (1, .int (nI sz)), (2, .int (nI st))]) hx hb dR_determinant_43 rfl hl (by decide) rfl (fun ls hl => ?_)
            refine lv_iload_n hx hb dR_determinant_44 rfl (lv_at hl 0 rfl) ?_
            refine lv_if_ge hx hb dR_determinant_45 (tgt := 55) rfl (fun hc => ?_) (fun hc => ?_)
            · skip
              rw [← nI_0] at hc
              have hc7 : 0 ≤ ((pcn st) - 1) := (nI_leI (by omega) (by omega)).mp hc
              refine lv_iconst (v := nI 0) hx hb dR_determinant_55 (by decide +kernel) ?_
              refine lv_istore (lv' := [(4, .int (nI 0)), (3, .int (nI ((pcn st) - 1))), (0, .ref ma), (1, .int (nI sz)), (2, .int (nI st))]) hx hb dR_determinant_56 hl (by decide) rfl (fun ls hl => ?_)
              have LJ : ∀ (kk : Nat) (j : Nat) (d3 : Nat → Nat → Nat) (M3 : Hm) (H : Heap) (locs : List Loc) (ls : Array Slot), kk = sz - j → (j ≤ sz) → (mo Y M3 ma E p rf th d3) → (∀ x, x ≠ 11 → d3 x = c x) → (∀ s, s < st → ∀ t, t < 169 → d3 11 (169 * s + t) = mnT p v m n a b s s (u13 v t)) → (hp_off (fun i => i = 1000) M M3) → (∀ t, t < 169 → d3 11 (169 * st + t) = dtS p st (fun k => c 10 (169 * (sz * (pcn st - 1)) + k)) (fun s x => mnT p v m n a b s s (u13 v x)) t j % p) → hp_st D vC lo M3 sg.heap H locs → lv_has ls 6 [(0, .ref ma), (1, .int (nI sz)), (2, .int (nI st)), (3, .int (nI (pcn st - 1))), (4, .int (nI j))] → cW pg l eg sg mg [.ref ma, .int (nI sz)] bw mt cg y_R_determinant b_R_determinant 6 none 2 D lo (fun r9 M' => ∃ c' : Nat → Nat → Nat, r9 = none ∧ mo Y M' ma E p rf th c' ∧ (∀ i, i ≠ 11 → c' i = c i) ∧ (∀ s, s < 2 ^ sz → ∀ t, t < 169 → c' 11 (169 * s + t) = mnT p v m n a b s s (u13 v t)) ∧ hp_off (fun i => i = 1000) M M') nx 0 0 H locs 0 0 (F0 mg 58 ls []) := by
                intro kk
                induction kk using Nat.strongRecOn with
                | _ kk ihLJ =>
                intro j d3 M3 H locs ls hkk hj9 hm hsm hS ho hJ hst hl
                refine lv_iload hx hb dR_determinant_58 (lv_at hl 4 rfl) ?_
                refine lv_iload_n hx hb dR_determinant_60 rfl (lv_at hl 1 rfl) ?_
                refine lv_icmp_ge hx hb dR_determinant_61 (tgt := 135) rfl (fun hc => ?_) (fun hc => ?_)
                · skip
                  have hc8 : sz ≤ j := (nI_leI (by omega) (by omega)).mp hc
                  have hj : j = sz := by omega
                  rw [hj] at hJ
                  have hB : ∀ s, s < st + 1 → ∀ t, t < 169 → d3 11 (169 * s + t) = mnT p v m n a b s s (u13 v t) := fun s hs t ht => by
                    by_cases h9 : s = st
                    · subst h9
                      rw [hJ t ht]
                      have h7 := dt_eq hW hen (f := (fun s x => mnT p v m n a b s s (u13 v x))) (c := s) (t := t) (by omega) (by rw [hsz]; exact hst2) ht (fun _ _ _ _ => rfl)
                      rw [hsz] at h7
                      exact h7
                    · exact hS s (by omega) t ht
                  refine lv_iinc (lv' := [(2, .int (nI (st + 1))), (0, .ref ma), (1, .int (nI sz)), (3, .int (nI (pcn st - 1))), (4, .int (nI j))]) hx hb dR_determinant_135 hl (k := 2) rfl (ii_p _) (by decide) rfl (fun ls hl => ?_)
                  refine lv_goto hx hb dR_determinant_138 (tgt := 2) rfl ?_
                  exact ihLS _ (by omega) (st + 1) d3 M3 _ _ _ rfl (by omega) hm hsm hB ho hst (lv_sub hl [1, 2, 0] rfl)
                · skip
                  have hc8 : ¬ sz ≤ j := fun z => hc ((nI_leI (by omega) (by omega)).mpr z)
                  have hj : j < sz := by omega
                  refine lv_iload_n hx hb dR_determinant_64 rfl (lv_at hl 2 rfl) ?_
                  refine lv_iload hx hb dR_determinant_65 (lv_at hl 4 rfl) ?_
                  refine lv_ishr hx hb dR_determinant_67 ?_
                  refine tp_i (e2 := nI (st / 2 ^ j)) (sh_r (by omega) (by omega)) ?_
                  refine lv_iconst (v := nI 1) hx hb dR_determinant_68 (by decide +kernel) ?_
                  refine lv_iand hx hb dR_determinant_69 ?_
                  refine tp_i (e2 := nI ((st / 2 ^ j) &&& 1)) (bt_and _ _) ?_
                  refine tp_n (e2 := st / 2 ^ j % 2) (Nat.and_one_is_mod _) ?_
                  refine lv_if_ne hx hb dR_determinant_70 (tgt := 76) rfl (fun hc => ?_) (fun hc => ?_)
                  · skip
                    rw [← nI_0] at hc
                    have hcb : ¬ (st / 2 ^ j % 2) = 0 := fun z => hc ((nI_eq (by omega) (by omega)).mpr z)
                    have hbt : st / 2 ^ j % 2 = 1 := by omega
                    obtain ⟨-, k2, k3, k4, -⟩ := hW.few (c := st) (j := j) (by omega) (by rw [hsz]; exact hst2) (by omega) hbt
                    have hd9 : st / 2 ^ (j + 1) ≤ st := Nat.div_le_self _ _
                    have hpj := pcn_9 (st / 2 ^ (j + 1))
                    refine lv_iload_n hx hb dR_determinant_76 rfl (lv_at hl 2 rfl) ?_
                    refine lv_iload hx hb dR_determinant_77 (lv_at hl 4 rfl) ?_
                    refine lv_iconst (v := nI 1) hx hb dR_determinant_79 (by decide +kernel) ?_
                    refine t_iadd hx hb dR_determinant_80 (v := nI (j + 1)) (nI_add _ _) ?_
                    refine lv_ishr hx hb dR_determinant_81 ?_
                    refine tp_i (e2 := nI (st / 2 ^ (j + 1))) (sh_r (by omega) (by omega)) ?_
                    refine ct_callS (av2 := [.int (nI (st / 2 ^ (j + 1)))]) (rest := []) X hst (c_R_bits l D Y lo (n := st / 2 ^ (j + 1)) (by omega)) wc_R_bits ml_R_133 ws_R_bits wn_R md_R_bits (by decide) hl.1 rfl (Nat.le_of_ble_eq_true rfl) ⟨by omega, by omega⟩ (fun _ _ h => h.elim) dR_determinant_82 (fun r M' H locs hp hst => ?_)
                    obtain ⟨rfl, rfl⟩ := hp
                    refine lv_iconst (v := nI 2) hx hb dR_determinant_85 (by decide +kernel) ?_
                    have hmod := Nat.mod_lt (pcn (st / 2 ^ (j + 1))) (show 0 < 2 from (by omega))
                    refine t_irem hx hb dR_determinant_86 (nI_ne0 (by omega) (by omega)) (v := nI ((pcn (st / 2 ^ (j + 1))) % 2)) (pk_rem (by omega) (by omega) (by omega)) ?_
                    refine lv_iconst (v := nI 1) hx hb dR_determinant_87 (by decide +kernel) ?_
                    refine lv_icmp_ne hx hb dR_determinant_88 (tgt := 95) rfl (fun hc => ?_) (fun hc => ?_)
                    · skip
                      have hcl : ¬ ((pcn (st / 2 ^ (j + 1))) % 2) = 1 := fun z => hc ((nI_eq (by omega) (by omega)).mpr z)
                      refine lv_iconst (v := nI 0) hx hb dR_determinant_95 (by decide +kernel) ?_
                      refine tp_n (e2 := pcn (st / 2 ^ (j + 1)) % 2) (by omega) ?_
                      refine lv_istore (lv' := [(5, .int (nI (pcn (st / 2 ^ (j + 1)) % 2))), (0, .ref ma), (1, .int (nI sz)), (2, .int (nI st)), (3, .int (nI (pcn st - 1))), (4, .int (nI j))]) hx hb dR_determinant_96 hl (by decide) rfl (fun ls hl => ?_)
                      refine lv_aload_n hx hb dR_determinant_98 rfl (lv_at hl 1 rfl) ?_
                      refine lv_sipush (v := nI 169) hx hb dR_determinant_99 (by decide +kernel) ?_
                      refine lv_iload_n hx hb dR_determinant_102 rfl (lv_at hl 2 rfl) ?_
                      refine lv_iload_n hx hb dR_determinant_103 rfl (lv_at hl 4 rfl) ?_
                      refine t_imul hx hb dR_determinant_104 (v := nI (sz * (pcn st - 1))) (pk_mul _ _) ?_
                      refine lv_iload hx hb dR_determinant_105 (lv_at hl 5 rfl) ?_
                      refine t_iadd hx hb dR_determinant_107 (v := nI ((sz * (pcn st - 1)) + j)) (nI_add _ _) ?_
                      refine t_imul hx hb dR_determinant_108 (v := nI (169 * ((sz * (pcn st - 1)) + j))) (pk_mul _ _) ?_
                      refine lv_sipush (v := nI 169) hx hb dR_determinant_109 (by decide +kernel) ?_
                      refine lv_iload_n hx hb dR_determinant_112 rfl (lv_at hl 3 rfl) ?_
                      refine lv_iconst (v := nI 1) hx hb dR_determinant_113 (by decide +kernel) ?_
                      refine lv_iload hx hb dR_determinant_114 (lv_at hl 5 rfl) ?_
                      refine lv_ishl hx hb dR_determinant_116 ?_
                      refine tp_i (e2 := nI (1 * 2 ^ j)) (sh_l (by omega) (by omega)) ?_
                      refine tp_n (e2 := 2 ^ j) (Nat.one_mul _) ?_
                      refine t_isub hx hb dR_determinant_117 (v := nI (st - (2 ^ j))) (pk_sub (by omega)) ?_
                      refine t_imul hx hb dR_determinant_118 (v := nI (169 * (st - (2 ^ j)))) (pk_mul _ _) ?_
                      refine lv_sipush (v := nI 169) hx hb dR_determinant_119 (by decide +kernel) ?_
                      refine lv_iload_n hx hb dR_determinant_122 rfl (lv_at hl 3 rfl) ?_
                      refine t_imul hx hb dR_determinant_123 (v := nI (169 * st)) (pk_mul _ _) ?_
                      refine lv_iload hx hb dR_determinant_124 (lv_at hl 0 rfl) ?_
                      have hix : ∀ i, 169 * (sz * (pcn st - 1) + j) + i = 169 * (sz * (pcn st - 1)) + (169 * j + i) := fun i => by omega
                      refine ct_callV (av2 := [.int (nI (169 * ((sz * (pcn st - 1)) + j))), .int (nI (169 * (st - (2 ^ j)))), .int (nI (169 * st)), .int (nI (pcn (st / 2 ^ (j + 1)) % 2))]) (rest := []) (b := ma) X hst (c_R_cross l D Y lo hm (eN := 169 * (sz * (pcn st - 1) + j)) (fr := 169 * (st - 2 ^ j)) (tn := 169 * st) (z := pcn (st / 2 ^ (j + 1)) % 2) (by omega) (by omega) (by omega) (by omega) (fun i hi => by rw [hsm 10 (by omega)]; exact en_lt hW hen _ (by rw [hsz]; omega)) (fun x hx => by rw [hS _ (by omega) x hx]; exact hmlt _ (by omega) _) (fun t ht => by rw [hJ t ht]; exact Nat.mod_lt _ (by omega)) (fun i x hi hx g1 g2 => by
                          rw [hsm 10 (by omega), hix] at g1
                          rw [hS _ (by omega) x hx] at g2
                          rw [← hsz] at g1
                          exact dt_in hW hen (by omega) (by rw [hsz]; exact hst2) (by omega) hbt hi hx g1 g2)) hm.ob rfl wc_R_cross ml_R_136 wi_R_cross wl_R_cross wn_R md_R_cross (by decide) hl.1 rfl (Nat.le_of_ble_eq_true rfl) ⟨by omega, by omega⟩ (fun _ _ h => h.elim) dR_determinant_126 (fun r M4 H locs hp hst => ?_)
                      obtain ⟨c4, rfl, hm4, s4, t4, o4, ho4⟩ := hp
                      have hJ4 : ∀ t, t < 169 → c4 11 (169 * st + t) = dtS p st (fun k => c 10 (169 * (sz * (pcn st - 1)) + k)) (fun s x => mnT p v m n a b s s (u13 v x)) t (j + 1) % p := fun t ht => by
                        rw [t4 t ht, hJ t ht]
                        show _ = (dtS p st (fun k => c 10 (169 * (sz * (pcn st - 1)) + k)) (fun s x => mnT p v m n a b s s (u13 v x)) t j + (if st / 2 ^ j % 2 = 1 then _ else 0)) % p
                        rw [if_pos hbt, Nat.mod_add_mod]
                        congr 2
                        refine crS_eq (fun i hi => ?_) (fun x hx => ?_)
                        · show fz p _ (d3 10 _) = fz p _ (c 10 _)
                          rw [hsm 10 (by omega), hix]
                        · exact hS _ (by omega) x (by omega)
                      refine lv_iinc (lv' := [(4, .int (nI (j + 1))), (5, .int (nI (pcn (st / 2 ^ (j + 1)) % 2))), (0, .ref ma), (1, .int (nI sz)), (2, .int (nI st)), (3, .int (nI (pcn st - 1)))]) hx hb dR_determinant_129 hl (k := 5) rfl (ii_p _) (by decide) rfl (fun ls hl => ?_)
                      refine lv_goto hx hb dR_determinant_132 (tgt := 58) rfl ?_
                      exact ihLJ _ (by omega) (j + 1) c4 M4 _ _ _ rfl (by omega) hm4 (fun x hx => (s4 x hx).trans (hsm x hx)) (fun s hs t ht => by rw [o4 _ (by omega)]; exact hS s hs t ht) (ho.tr ho4) hJ4 hst (lv_sub hl [2, 3, 4, 5, 0] rfl)
                    · skip
                      have hcl : ((pcn (st / 2 ^ (j + 1))) % 2) = 1 := (nI_eq (by omega) (by omega)).mp hc
                      refine lv_iconst (v := nI 1) hx hb dR_determinant_91 (by decide +kernel) ?_
                      refine lv_goto hx hb dR_determinant_92 (tgt := 96) rfl ?_
                      refine tp_n (e2 := pcn (st / 2 ^ (j + 1)) % 2) (by omega) ?_
                      refine lv_istore (lv' := [(5, .int (nI (pcn (st / 2 ^ (j + 1)) % 2))), (0, .ref ma), (1, .int (nI sz)), (2, .int (nI st)), (3, .int (nI (pcn st - 1))), (4, .int (nI j))]) hx hb dR_determinant_96 hl (by decide) rfl (fun ls hl => ?_)
                      refine lv_aload_n hx hb dR_determinant_98 rfl (lv_at hl 1 rfl) ?_
                      refine lv_sipush (v := nI 169) hx hb dR_determinant_99 (by decide +kernel) ?_
                      refine lv_iload_n hx hb dR_determinant_102 rfl (lv_at hl 2 rfl) ?_
                      refine lv_iload_n hx hb dR_determinant_103 rfl (lv_at hl 4 rfl) ?_
                      refine t_imul hx hb dR_determinant_104 (v := nI (sz * (pcn st - 1))) (pk_mul _ _) ?_
                      refine lv_iload hx hb dR_determinant_105 (lv_at hl 5 rfl) ?_
                      refine t_iadd hx hb dR_determinant_107 (v := nI ((sz * (pcn st - 1)) + j)) (nI_add _ _) ?_
                      refine t_imul hx hb dR_determinant_108 (v := nI (169 * ((sz * (pcn st - 1)) + j))) (pk_mul _ _) ?_
                      refine lv_sipush (v := nI 169) hx hb dR_determinant_109 (by decide +kernel) ?_
                      refine lv_iload_n hx hb dR_determinant_112 rfl (lv_at hl 3 rfl) ?_
                      refine lv_iconst (v := nI 1) hx hb dR_determinant_113 (by decide +kernel) ?_
                      refine lv_iload hx hb dR_determinant_114 (lv_at hl 5 rfl) ?_
                      refine lv_ishl hx hb dR_determinant_116 ?_
                      refine tp_i (e2 := nI (1 * 2 ^ j)) (sh_l (by omega) (by omega)) ?_
                      refine tp_n (e2 := 2 ^ j) (Nat.one_mul _) ?_
                      refine t_isub hx hb dR_determinant_117 (v := nI (st - (2 ^ j))) (pk_sub (by omega)) ?_
                      refine t_imul hx hb dR_determinant_118 (v := nI (169 * (st - (2 ^ j)))) (pk_mul _ _) ?_
                      refine lv_sipush (v := nI 169) hx hb dR_determinant_119 (by decide +kernel) ?_
                      refine lv_iload_n hx hb dR_determinant_122 rfl (lv_at hl 3 rfl) ?_
                      refine t_imul hx hb dR_determinant_123 (v := nI (169 * st)) (pk_mul _ _) ?_
                      refine lv_iload hx hb dR_determinant_124 (lv_at hl 0 rfl) ?_
                      have hix : ∀ i, 169 * (sz * (pcn st - 1) + j) + i = 169 * (sz * (pcn st - 1)) + (169 * j + i) := fun i => by omega
                      refine ct_callV (av2 := [.int (nI (169 * ((sz * (pcn st - 1)) + j))), .int (nI (169 * (st - (2 ^ j)))), .int (nI (169 * st)), .int (nI (pcn (st / 2 ^ (j + 1)) % 2))]) (rest := []) (b := ma) X hst (c_R_cross l D Y lo hm (eN := 169 * (sz * (pcn st - 1) + j)) (fr := 169 * (st - 2 ^ j)) (tn := 169 * st) (z := pcn (st / 2 ^ (j + 1)) % 2) (by omega) (by omega) (by omega) (by omega) (fun i hi => by rw [hsm 10 (by omega)]; exact en_lt hW hen _ (by rw [hsz]; omega)) (fun x hx => by rw [hS _ (by omega) x hx]; exact hmlt _ (by omega) _) (fun t ht => by rw [hJ t ht]; exact Nat.mod_lt _ (by omega)) (fun i x hi hx g1 g2 => by
                          rw [hsm 10 (by omega), hix] at g1
                          rw [hS _ (by omega) x hx] at g2
                          rw [← hsz] at g1
                          exact dt_in hW hen (by omega) (by rw [hsz]; exact hst2) (by omega) hbt hi hx g1 g2)) hm.ob rfl wc_R_cross ml_R_136 wi_R_cross wl_R_cross wn_R md_R_cross (by decide) hl.1 rfl (Nat.le_of_ble_eq_true rfl) ⟨by omega, by omega⟩ (fun _ _ h => h.elim) dR_determinant_126 (fun r M4 H locs hp hst => ?_)
                      obtain ⟨c4, rfl, hm4, s4, t4, o4, ho4⟩ := hp
                      have hJ4 : ∀ t, t < 169 → c4 11 (169 * st + t) = dtS p st (fun k => c 10 (169 * (sz * (pcn st - 1)) + k)) (fun s x => mnT p v m n a b s s (u13 v x)) t (j + 1) % p := fun t ht => by
                        rw [t4 t ht, hJ t ht]
                        show _ = (dtS p st (fun k => c 10 (169 * (sz * (pcn st - 1)) + k)) (fun s x => mnT p v m n a b s s (u13 v x)) t j + (if st / 2 ^ j % 2 = 1 then _ else 0)) % p
                        rw [if_pos hbt, Nat.mod_add_mod]
                        congr 2
                        refine crS_eq (fun i hi => ?_) (fun x hx => ?_)
                        · show fz p _ (d3 10 _) = fz p _ (c 10 _)
                          rw [hsm 10 (by omega), hix]
                        · exact hS _ (by omega) x (by omega)
                      refine lv_iinc (lv' := [(4, .int (nI (j + 1))), (5, .int (nI (pcn (st / 2 ^ (j + 1)) % 2))), (0, .ref ma), (1, .int (nI sz)), (2, .int (nI st)), (3, .int (nI (pcn st - 1)))]) hx hb dR_determinant_129 hl (k := 5) rfl (ii_p _) (by decide) rfl (fun ls hl => ?_)
                      refine lv_goto hx hb dR_determinant_132 (tgt := 58) rfl ?_
                      exact ihLJ _ (by omega) (j + 1) c4 M4 _ _ _ rfl (by omega) hm4 (fun x hx => (s4 x hx).trans (hsm x hx)) (fun s hs t ht => by rw [o4 _ (by omega)]; exact hS s hs t ht) (ho.tr ho4) hJ4 hst (lv_sub hl [2, 3, 4, 5, 0] rfl)
                  · skip
                    rw [← nI_0] at hc
                    have hcb : (st / 2 ^ j % 2) = 0 := (nI_eq (by omega) (by omega)).mp hc
                    refine lv_goto hx hb dR_determinant_73 (tgt := 129) rfl ?_
                    refine lv_iinc (lv' := [(4, .int (nI (j + 1))), (0, .ref ma), (1, .int (nI sz)), (2, .int (nI st)), (3, .int (nI (pcn st - 1)))]) hx hb dR_determinant_129 hl (k := 4) rfl (ii_p _) (by decide) rfl (fun ls hl => ?_)
                    refine lv_goto hx hb dR_determinant_132 (tgt := 58) rfl ?_
                    exact ihLJ _ (by omega) (j + 1) d3 M3 _ _ _ rfl (by omega) hm hsm hS ho (fun t ht => by
                        rw [hJ t ht]
                        show _ = (dtS p st (fun k => c 10 (169 * (sz * (pcn st - 1)) + k)) (fun s x => mnT p v m n a b s s (u13 v x)) t j + (if st / 2 ^ j % 2 = 1 then _ else 0)) % p
                        rw [if_neg (by omega), Nat.add_zero]) hst (lv_sub hl [1, 2, 3, 4, 0] rfl)
              exact LJ _ 0 d2 M2 _ _ _ rfl (by omega) hm hsm hS ho (fun t ht => (hZ t ht).trans (Nat.zero_mod p).symm) hst (lv_sub hl [2, 3, 4, 1, 0] rfl)
            · skip
              rw [← nI_0] at hc
              have hc7 : ¬ 0 ≤ ((pcn st) - 1) := fun z => hc ((nI_leI (by omega) (by omega)).mpr z)
              omega
        · skip
          have hc6 : ¬ 169 ≤ k := fun z => hc ((nI_leI (by omega) (by omega)).mpr z)
          refine lv_aload_n hx hb dR_determinant_18 rfl (lv_at hl 0 rfl) ?_
          refine hp_get hx hb hG in_R hown hK hst hm.ob rfl 13 (by decide) (hG _ fl_R_43) rfl rfl dR_determinant_19 ?_
          refine lv_sipush (v := nI 169) hx hb dR_determinant_22 (by decide +kernel) ?_
          refine lv_iload_n hx hb dR_determinant_25 rfl (lv_at hl 2 rfl) ?_
          refine t_imul hx hb dR_determinant_26 (v := nI (169 * st)) (pk_mul _ _) ?_
          refine lv_iload_n hx hb dR_determinant_27 rfl (lv_at hl 3 rfl) ?_
          refine t_iadd hx hb dR_determinant_28 (v := nI ((169 * st) + k)) (nI_add _ _) ?_
          refine lv_iconst (v := nI 0) hx hb dR_determinant_29 (by decide +kernel) ?_
          refine hp_iast hx hb hK rfl hst hm.a11 (j := ((169 * st) + k)) (v := 0) (by omega) (by omega) dR_determinant_30 (fun H locs hst => ?_)
          obtain ⟨hm1, hs2⟩ := hm.s11 (va_up (d2 11) ((169 * st) + k) 0)
          generalize hp_up M2 (E 11) ((1000, 11), e_n Y 43264 (va_up (d2 11) ((169 * st) + k) 0)) = M3 at hst hm1 hs2
          have ho4 := ho.tr hs2
          refine lv_iinc (lv' := [(3, .int (nI (k + 1))), (0, .ref ma), (1, .int (nI sz)), (2, .int (nI st))]) hx hb dR_determinant_31 hl (k := 3) rfl (ii_p _) (by decide) rfl (fun ls hl => ?_)
          refine lv_goto hx hb dR_determinant_34 (tgt := 11) rfl ?_
          exact ihLZ _ (by omega) (k + 1) (va_up d2 11 (va_up (d2 11) ((169 * st) + k) 0)) M3 _ _ _ rfl (by omega) hm1 (fun x hx => by rw [va_up_ne _ _ hx]; exact hsm x hx) (fun s hs t ht => by rw [va_up_self, va_up_ne _ _ (by omega)]; exact hS s hs t ht) ho4 (fun t ht => by
              rw [va_up_self]
              by_cases h9 : t = k
              · rw [h9, va_up_self]
              · rw [va_up_ne _ _ (by omega)]; exact hZ t (by omega)) hst (lv_sub hl [1, 2, 3, 0] rfl)
      exact LZ _ 0 d M1 _ _ _ rfl (by omega) hm hsm hS ho (fun t ht => by omega) hst (lv_sub hl [1, 2, 3, 0] rfl)
  exact LS _ 0 c M _ _ _ rfl (by omega) hm (fun x hx => rfl) (fun s hs => by omega) hp_off.rf hst (lv_sub hl [1, 2, 0] rfl)
