/-! The reference: constant, variable, add, multiply, power, derive. -/
theorem g_R_isRegister (l : Launch) (D : va_G) (Y : Nat → ClassId) (lo : Nat) {M : Hm} {r : Nat} (hr : r < 12) : ct l D Y lo y_R_isRegister b_R_isRegister 1 (some .boolean) 0 [.int (nI r)] M (fun r9 M' => r9 = some (.int (nI 1)) ∧ M = M') nx 0 0 :=
  ct_wk (c_R_isRegister l D Y lo (nI r)) (fun r9 M' ⟨b, h1, h2, h3, h4⟩ => ⟨by rw [h1, h3.mpr ⟨r, hr, rfl⟩], h4⟩) (fun _ _ h => h) (Nat.le_refl _) (Nat.le_refl _) (Nat.le_refl _)
theorem e_R_isRegister (l : Launch) (D : va_G) (Y : Nat → ClassId) (lo : Nat) {M : Hm} {x : Int32} (hx : ¬ inR x) : ct l D Y lo y_R_isRegister b_R_isRegister 1 (some .boolean) 0 [.int x] M (fun r9 M' => r9 = some (.int (nI 0)) ∧ M = M') nx 0 0 :=
  ct_wk (c_R_isRegister l D Y lo x) (fun r9 M' ⟨b, h1, h2, h3, h4⟩ => ⟨by rw [h1, show b = 0 by have : b ≠ 1 := fun z => hx (h3.mp z); omega], h4⟩) (fun _ _ h => h) (Nat.le_refl _) (Nat.le_refl _) (Nat.le_refl _)

theorem g_R_isVariable (l : Launch) (D : va_G) (Y : Nat → ClassId) (lo : Nat) {M : Hm} {r : Nat} (hr : r < 3) : ct l D Y lo y_R_isVariable b_R_isVariable 1 (some .boolean) 0 [.int (nI r)] M (fun r9 M' => r9 = some (.int (nI 1)) ∧ M = M') nx 0 0 :=
  ct_wk (c_R_isVariable l D Y lo (nI r)) (fun r9 M' ⟨b, h1, h2, h3, h4⟩ => ⟨by rw [h1, h3.mpr ⟨r, hr, rfl⟩], h4⟩) (fun _ _ h => h) (Nat.le_refl _) (Nat.le_refl _) (Nat.le_refl _)
theorem e_R_isVariable (l : Launch) (D : va_G) (Y : Nat → ClassId) (lo : Nat) {M : Hm} {x : Int32} (hx : ¬ inV x) : ct l D Y lo y_R_isVariable b_R_isVariable 1 (some .boolean) 0 [.int x] M (fun r9 M' => r9 = some (.int (nI 0)) ∧ M = M') nx 0 0 :=
  ct_wk (c_R_isVariable l D Y lo x) (fun r9 M' ⟨b, h1, h2, h3, h4⟩ => ⟨by rw [h1, show b = 0 by have : b ≠ 1 := fun z => hx (h3.mp z); omega], h4⟩) (fun _ _ h => h) (Nat.le_refl _) (Nat.le_refl _) (Nat.le_refl _)

theorem rk_0 : rk 0 = 0 := by decide +kernel
theorem cst_up (x : Nat) : va_up (fun _ => 0) 0 x = cst x := rfl
theorem vv_mp : mp 1 0 0 = vv 0 ∧ mp 0 1 0 = vv 1 ∧ mp 0 0 1 = vv 2 := by decide
theorem p31 {P : Nat → Pf} {p : Nat} (hp : p ≤ 46337) (h : ∀ r, r < 12 → ∀ m, P r m < p) {r : Nat} (hr : r < 12) : ∀ m, P r m < 2 ^ 31 := fun m => by have := h r hr m; omega

set_option maxHeartbeats 4000000 in
set_option maxRecDepth 100000 in
theorem c_R_constant (l : Launch) (D : va_G) (Y : Nat → ClassId) (lo : Nat) {M : Hm} {ma p rf th : Nat} {E : Nat → Nat} {c : Nat → Nat → Nat} (hm : mo Y M ma E p rf th c) {P : Nat → Pf} (hP : rr c P) (hPp : ∀ r, r < 12 → ∀ m, P r m < p) {r : Nat} (hr : r < 12) (x : Int32) : ct l D Y lo y_R_constant b_R_constant 3 none 1 [.ref ma, .int (nI r), .int x] M (fun r9 M' => ∃ c' : Nat → Nat → Nat, r9 = none ∧ mo Y M' ma E p rf 0 c' ∧ rr c' (va_up P r (cst (rd p x.toInt))) ∧ hp_off (fun i => i = 1000) M M') nx 0 0 := by
  refine ct_of (by decide) (Nat.le_of_ble_eq_true rfl) ?_
  intro pg eg sg mg bw mt cg ls X hst hl
  have X1 := X
  obtain ⟨hx, hb, hml, hrt, hlocks, hown, hnm, hts, hkz, hex⟩ := X1
  have hG : ∀ w ∈ GW, w.before _ sg = true := fun w h => hts w (List.mem_cons_of_mem _ h)
  have hK := hkz.1
  have hl : lv_has ls 3 [(0, .ref ma), (1, .int (nI r)), (2, .int x)] := hl
  obtain ⟨hp2, hp3⟩ := hm.p2
  refine lv_aload_n hx hb dR_constant_0 rfl (lv_at hl 0 rfl) ?_
  refine lv_iload_n hx hb dR_constant_1 rfl (lv_at hl 1 rfl) ?_
  refine ct_callS (av2 := [.int (nI r)]) (rest := [.ref ma]) X hst (g_R_isRegister l D Y lo hr) wc_R_isRegister ml_R_85 ws_R_isRegister wn_R md_R_isRegister (by decide) hl.1 rfl (Nat.le_of_ble_eq_true rfl) ⟨by omega, by omega⟩ (fun _ _ h => h.elim) dR_constant_2 (fun r M' H locs hp hst => ?_)
  obtain ⟨rfl, rfl⟩ := hp
  refine lv_if_ne hx hb dR_constant_5 (tgt := 12) rfl (fun hc => ?_) (fun hc => absurd hc (by decide))
  refine lv_iconst (v := nI 0) hx hb dR_constant_12 (by decide +kernel) ?_
  refine lv_iconst (v := nI 0) hx hb dR_constant_13 (by decide +kernel) ?_
  refine ct_callV (av2 := [.int (nI 0), .int (nI 0)]) (rest := []) (b := ma) X hst (c_R_fails l D Y lo hm (a := 0) (b := 0) (by omega) (by omega)) hm.ob rfl wc_R_fails ml_R_88 wi_R_fails wl_R_fails wn_R md_R_fails (by decide) hl.1 rfl (Nat.le_of_ble_eq_true rfl) ⟨by omega, by omega⟩ (fun _ _ h => h.elim) dR_constant_14 (fun r MF H locs hp hst => ?_)
  obtain ⟨rfl, hmF, hoF⟩ := hp
  have hmF : mo Y MF ma E p rf 0 c := hmF
  refine lv_if_eq hx hb dR_constant_17 (tgt := 21) rfl (fun hc => ?_) (fun hc => absurd hc (by decide))
  refine lv_aload_n hx hb dR_constant_21 rfl (lv_at hl 0 rfl) ?_
  refine hp_get hx hb hG in_R hown hK hst hmF.ob rfl 6 (by decide) (hG _ fl_R_21) rfl rfl dR_constant_22 ?_
  refine ct_callS (av2 := [.ref (E 4)]) (rest := []) X hst (c_R_clear l D Y lo hmF (j := 4) (by omega) (by omega)) wc_R_clear ml_R_70 ws_R_clear wn_R md_R_clear (by decide) hl.1 rfl (Nat.le_of_ble_eq_true rfl) ⟨by omega, by omega⟩ (fun _ _ h => h.elim) dR_constant_25 (fun r M3 H locs hp hst => ?_)
  obtain ⟨c3, rfl, hm3, s3a, z3, ho3⟩ := hp
  refine lv_aload_n hx hb dR_constant_28 rfl (lv_at hl 0 rfl) ?_
  refine hp_get hx hb hG in_R hown hK hst hm3.ob rfl 6 (by decide) (hG _ fl_R_21) rfl rfl dR_constant_29 ?_
  refine lv_sipush (v := nI 9138) hx hb dR_constant_32 (by decide +kernel) ?_
  refine lv_aload_n hx hb dR_constant_35 rfl (lv_at hl 0 rfl) ?_
  refine lv_iload_n hx hb dR_constant_36 rfl (lv_at hl 2 rfl) ?_
  refine lv_i2l (v := x.toInt64) hx hb dR_constant_37 rfl ?_
  refine ct_callV (av2 := [.long x.toInt64]) (rest := [.int (nI 9138), .ref (E 4)]) (b := ma) X hst (c_R_reduced l D Y lo hm3 (x.toInt64)) hm3.ob rfl wc_R_reduced ml_R_66 wi_R_reduced wl_R_reduced wn_R md_R_reduced (by decide) hl.1 rfl (Nat.le_of_ble_eq_true rfl) ⟨by omega, by omega⟩ (fun _ _ h => h.elim) dR_constant_38 (fun r M' H locs hp hst => ?_)
  obtain ⟨rfl, rfl⟩ := hp
  refine tp_n (e2 := rd p x.toInt) (by rw [Int32.toInt_toInt64]) ?_
  refine hp_iast hx hb hK rfl hst (hm3.rw (j := 4) (by omega) (by omega)) (j := 9138) (v := (rd p x.toInt)) (by omega) (by omega) dR_constant_41 (fun H locs hst => ?_)
  obtain ⟨hm1, hs2⟩ := hm3.sr (j := 4) (by omega) (by omega) (va_up (c3 4) 9138 (rd p x.toInt))
  generalize hp_up M3 (E 4) ((1000, 4), e_n Y 9139 (va_up (c3 4) 9138 (rd p x.toInt))) = M3 at hst hm1 hs2
  have ho4 := (hoF.tr ho3).tr hs2
  have h3 : (va_up c3 4 (va_up (c3 4) 9138 (rd p x.toInt))) 3 = c 3 := by rw [va_up_ne _ _ (by omega)]; exact s3a 3 (by omega)
  have hr9 : rp ((va_up c3 4 (va_up (c3 4) 9138 (rd p x.toInt))) 4) (cst (rd p x.toInt)) := by
    rw [va_up_self]
    have h9 := rp_up (v := rd p x.toInt) (h := fun _ => 0) z3 mv_0
    rw [rk_0] at h9
    exact h9
  have hPn : rr (va_up c3 4 (va_up (c3 4) 9138 (rd p x.toInt))) P := fun r hr k hk => by rw [h3]; exact hP r hr k hk
  refine lv_aload_n hx hb dR_constant_42 rfl (lv_at hl 0 rfl) ?_
  refine lv_iload_n hx hb dR_constant_43 rfl (lv_at hl 1 rfl) ?_
  refine lv_aload_n hx hb dR_constant_44 rfl (lv_at hl 0 rfl) ?_
  refine hp_get hx hb hG in_R hown hK hst hm1.ob rfl 6 (by decide) (hG _ fl_R_21) rfl rfl dR_constant_45 ?_
  refine ct_callV (av2 := [.int (nI r), .ref (E 4)]) (rest := []) (b := ma) X hst (c_R_keep l D Y lo hm1 hr (j := 4) (by omega) (by omega)) hm1.ob rfl wc_R_keep ml_R_92 wi_R_keep wl_R_keep wn_R md_R_keep (by decide) hl.1 rfl (Nat.le_of_ble_eq_true rfl) ⟨by omega, by omega⟩ (fun _ _ h => h.elim) dR_constant_48 (fun r MK H locs hp hst => ?_)
  obtain ⟨cK, rfl, hmK, sK, vK, nK, hoK⟩ := hp
  have hrK : rr cK (va_up P r (cst (rd p x.toInt))) := rr_keep hPn vK nK hr9
  exact ct_vret X hst ⟨cK, rfl, hmK, hrK, ho4.tr hoK⟩ (by omega) (by omega) dR_constant_51

set_option maxHeartbeats 4000000 in
set_option maxRecDepth 100000 in
theorem e_R_constant (l : Launch) (D : va_G) (Y : Nat → ClassId) (lo : Nat) {M : Hm} {ma p rf th : Nat} {E : Nat → Nat} {c : Nat → Nat → Nat} (hm : mo Y M ma E p rf th c) {x1 x2 : Int32} (hno : ¬ inR x1) : ct l D Y lo y_R_constant b_R_constant 3 none 1 [.ref ma, .int x1, .int x2] M (fun r9 M' => ∃ t : Nat, r9 = none ∧ mo Y M' ma E p rf t c ∧ (t = 1 ∧ ¬ (inR x1) ∨ t = 2 ∧ (inR x1)) ∧ hp_off (fun i => i = 1000) M M') nx 0 0 := by
  refine ct_of (by decide) (Nat.le_of_ble_eq_true rfl) ?_
  intro pg eg sg mg bw mt cg ls X hst hl
  have X1 := X
  obtain ⟨hx, hb, hml, hrt, hlocks, hown, hnm, hts, hkz, hex⟩ := X1
  have hG : ∀ w ∈ GW, w.before _ sg = true := fun w h => hts w (List.mem_cons_of_mem _ h)
  have hK := hkz.1
  have hl : lv_has ls 3 [(0, .ref ma), (1, .int x1), (2, .int x2)] := hl
  refine lv_aload_n hx hb dR_constant_0 rfl (lv_at hl 0 rfl) ?_
  refine lv_iload_n hx hb dR_constant_1 rfl (lv_at hl 1 rfl) ?_
  refine ct_callS (av2 := [.int x1]) (rest := [.ref ma]) X hst (e_R_isRegister l D Y lo hno) wc_R_isRegister ml_R_85 ws_R_isRegister wn_R md_R_isRegister (by decide) hl.1 rfl (Nat.le_of_ble_eq_true rfl) ⟨by omega, by omega⟩ (fun _ _ h => h.elim) dR_constant_2 (fun r M' H locs hp hst => ?_)
  obtain ⟨rfl, rfl⟩ := hp
  refine lv_if_ne hx hb dR_constant_5 (tgt := 12) rfl (fun hc => absurd hc (by decide)) (fun hc => ?_)
  refine lv_iconst (v := nI 1) hx hb dR_constant_8 (by decide +kernel) ?_
  refine lv_goto hx hb dR_constant_9 (tgt := 13) rfl ?_
  refine lv_iconst (v := nI 0) hx hb dR_constant_13 (by decide +kernel) ?_
  refine ct_callV (av2 := [.int (nI 1), .int (nI 0)]) (rest := []) (b := ma) X hst (c_R_fails l D Y lo hm (a := 1) (b := 0) (by omega) (by omega)) hm.ob rfl wc_R_fails ml_R_88 wi_R_fails wl_R_fails wn_R md_R_fails (by decide) hl.1 rfl (Nat.le_of_ble_eq_true rfl) ⟨by omega, by omega⟩ (fun _ _ h => h.elim) dR_constant_14 (fun r MF H locs hp hst => ?_)
  obtain ⟨rfl, hmF, hoF⟩ := hp
  have hmF : mo Y MF ma E p rf 1 c := hmF
  refine lv_if_eq hx hb dR_constant_17 (tgt := 21) rfl (fun hc => absurd hc (by decide)) (fun hc => ?_)
  exact ct_vret X hst ⟨1, rfl, hmF, Or.inl ⟨rfl, hno⟩, hoF⟩ (by omega) (by omega) dR_constant_20

set_option maxHeartbeats 4000000 in
set_option maxRecDepth 100000 in
theorem c_R_variable (l : Launch) (D : va_G) (Y : Nat → ClassId) (lo : Nat) {M : Hm} {ma p rf th : Nat} {E : Nat → Nat} {c : Nat → Nat → Nat} (hm : mo Y M ma E p rf th c) {P : Nat → Pf} (hP : rr c P) (hPp : ∀ r, r < 12 → ∀ m, P r m < p) {r v : Nat} (hr : r < 12) (hv : v < 3) : ct l D Y lo y_R_variable b_R_variable 3 none 1 [.ref ma, .int (nI r), .int (nI v)] M (fun r9 M' => ∃ c' : Nat → Nat → Nat, r9 = none ∧ mo Y M' ma E p rf 0 c' ∧ rr c' (va_up P r (vrb v)) ∧ hp_off (fun i => i = 1000) M M') nx 0 0 := by
  refine ct_of (by decide) (Nat.le_of_ble_eq_true rfl) ?_
  intro pg eg sg mg bw mt cg ls X hst hl
  have X1 := X
  obtain ⟨hx, hb, hml, hrt, hlocks, hown, hnm, hts, hkz, hex⟩ := X1
  have hG : ∀ w ∈ GW, w.before _ sg = true := fun w h => hts w (List.mem_cons_of_mem _ h)
  have hK := hkz.1
  have hl : lv_has ls 3 [(0, .ref ma), (1, .int (nI r)), (2, .int (nI v))] := hl
  refine lv_aload_n hx hb dR_variable_0 rfl (lv_at hl 0 rfl) ?_
  refine lv_iload_n hx hb dR_variable_1 rfl (lv_at hl 1 rfl) ?_
  refine ct_callS (av2 := [.int (nI r)]) (rest := [.ref ma]) X hst (g_R_isRegister l D Y lo hr) wc_R_isRegister ml_R_85 ws_R_isRegister wn_R md_R_isRegister (by decide) hl.1 rfl (Nat.le_of_ble_eq_true rfl) ⟨by omega, by omega⟩ (fun _ _ h => h.elim) dR_variable_2 (fun r M' H locs hp hst => ?_)
  obtain ⟨rfl, rfl⟩ := hp
  refine lv_if_ne hx hb dR_variable_5 (tgt := 12) rfl (fun hc => ?_) (fun hc => absurd hc (by decide))
  refine lv_iconst (v := nI 0) hx hb dR_variable_12 (by decide +kernel) ?_
  refine lv_iload_n hx hb dR_variable_13 rfl (lv_at hl 1 rfl) ?_
  refine ct_callS (av2 := [.int (nI r)]) (rest := [.int (nI 0), .ref ma]) X hst (g_R_isRegister l D Y lo hr) wc_R_isRegister ml_R_85 ws_R_isRegister wn_R md_R_isRegister (by decide) hl.1 rfl (Nat.le_of_ble_eq_true rfl) ⟨by omega, by omega⟩ (fun _ _ h => h.elim) dR_variable_14 (fun r M' H locs hp hst => ?_)
  obtain ⟨rfl, rfl⟩ := hp
  refine lv_if_eq hx hb dR_variable_17 (tgt := 31) rfl (fun hc => absurd hc (by decide)) (fun hc => ?_)
  refine lv_iload_n hx hb dR_variable_20 rfl (lv_at hl 2 rfl) ?_
  refine ct_callS (av2 := [.int (nI v)]) (rest := [.int (nI 0), .ref ma]) X hst (g_R_isVariable l D Y lo hv) wc_R_isVariable ml_R_96 ws_R_isVariable wn_R md_R_isVariable (by decide) hl.1 rfl (Nat.le_of_ble_eq_true rfl) ⟨by omega, by omega⟩ (fun _ _ h => h.elim) dR_variable_21 (fun r M' H locs hp hst => ?_)
  obtain ⟨rfl, rfl⟩ := hp
  refine lv_if_ne hx hb dR_variable_24 (tgt := 31) rfl (fun hc => ?_) (fun hc => absurd hc (by decide))
  refine lv_iconst (v := nI 0) hx hb dR_variable_31 (by decide +kernel) ?_
  refine ct_callV (av2 := [.int (nI 0), .int (nI 0)]) (rest := []) (b := ma) X hst (c_R_fails l D Y lo hm (a := 0) (b := 0) (by omega) (by omega)) hm.ob rfl wc_R_fails ml_R_88 wi_R_fails wl_R_fails wn_R md_R_fails (by decide) hl.1 rfl (Nat.le_of_ble_eq_true rfl) ⟨by omega, by omega⟩ (fun _ _ h => h.elim) dR_variable_32 (fun r MF H locs hp hst => ?_)
  obtain ⟨rfl, hmF, hoF⟩ := hp
  have hmF : mo Y MF ma E p rf 0 c := hmF
  refine lv_if_eq hx hb dR_variable_35 (tgt := 39) rfl (fun hc => ?_) (fun hc => absurd hc (by decide))
  refine lv_aload_n hx hb dR_variable_39 rfl (lv_at hl 0 rfl) ?_
  refine hp_get hx hb hG in_R hown hK hst hmF.ob rfl 6 (by decide) (hG _ fl_R_21) rfl rfl dR_variable_40 ?_
  refine ct_callS (av2 := [.ref (E 4)]) (rest := []) X hst (c_R_clear l D Y lo hmF (j := 4) (by omega) (by omega)) wc_R_clear ml_R_70 ws_R_clear wn_R md_R_clear (by decide) hl.1 rfl (Nat.le_of_ble_eq_true rfl) ⟨by omega, by omega⟩ (fun _ _ h => h.elim) dR_variable_43 (fun r M3 H locs hp hst => ?_)
  obtain ⟨c3, rfl, hm3, s3a, z3, ho3⟩ := hp
  have vmv := vv_mv hv
  have hrv := rk_lt vmv
  obtain ⟨w0, w1, w2⟩ := vv_mp
  refine lv_aload_n hx hb dR_variable_46 rfl (lv_at hl 0 rfl) ?_
  refine hp_get hx hb hG in_R hown hK hst hm3.ob rfl 6 (by decide) (hG _ fl_R_21) rfl rfl dR_variable_47 ?_
  refine lv_aload_n hx hb dR_variable_50 rfl (lv_at hl 0 rfl) ?_
  refine lv_iload_n hx hb dR_variable_51 rfl (lv_at hl 2 rfl) ?_
  refine lv_if_ne hx hb dR_variable_52 (tgt := 59) rfl (fun hc => ?_) (fun hc => ?_)
  · skip
    rw [← nI_0] at hc
    have hv0 : ¬ v = 0 := fun z => hc ((nI_eq (by omega) (by omega)).mpr z)
    refine lv_iconst (v := nI 0) hx hb dR_variable_59 (by decide +kernel) ?_
    refine lv_iload_n hx hb dR_variable_60 rfl (lv_at hl 2 rfl) ?_
    refine lv_iconst (v := nI 1) hx hb dR_variable_61 (by decide +kernel) ?_
    refine lv_icmp_ne hx hb dR_variable_62 (tgt := 69) rfl (fun hc => ?_) (fun hc => ?_)
    · skip
      have hv1 : ¬ v = 1 := fun z => hc ((nI_eq (by omega) (by omega)).mpr z)
      refine lv_iconst (v := nI 0) hx hb dR_variable_69 (by decide +kernel) ?_
      refine lv_iload_n hx hb dR_variable_70 rfl (lv_at hl 2 rfl) ?_
      refine lv_iconst (v := nI 2) hx hb dR_variable_71 (by decide +kernel) ?_
      refine lv_icmp_ne hx hb dR_variable_72 (tgt := 79) rfl (fun hc => ?_) (fun hc => ?_)
      · skip
        have hv2 : ¬ v = 2 := fun z => hc ((nI_eq (by omega) (by omega)).mpr z)
        refine lv_iconst (v := nI 0) hx hb dR_variable_79 (by decide +kernel) ?_
        exact absurd hv (by omega)
      · skip
        have hv2 : v = 2 := (nI_eq (by omega) (by omega)).mp hc
        refine lv_iconst (v := nI 1) hx hb dR_variable_75 (by decide +kernel) ?_
        refine lv_goto hx hb dR_variable_76 (tgt := 80) rfl ?_
        have hvu : v = 2 := by omega
        refine ct_callV (av2 := [.int (nI 0), .int (nI 0), .int (nI 1)]) (rest := [.ref (E 4)]) (b := ma) X hst (c_R_place l D Y lo hm3 (a := 0) (b := 0) (d := 1) (by omega)) hm3.ob rfl wc_R_place ml_R_62 wi_R_place wl_R_place wn_R md_R_place (by decide) hl.1 rfl (Nat.le_of_ble_eq_true rfl) ⟨by omega, by omega⟩ (fun _ _ h => h.elim) dR_variable_80 (fun r M' H locs hp hst => ?_)
        obtain ⟨rfl, rfl⟩ := hp
        refine tp_n (e2 := 9138 - rk (vv v)) (by rw [w2, hvu]) ?_
        refine lv_iconst (v := nI 1) hx hb dR_variable_83 (by decide +kernel) ?_
        refine hp_iast hx hb hK rfl hst (hm3.rw (j := 4) (by omega) (by omega)) (j := (9138 - rk (vv v))) (v := 1) (by omega) (by omega) dR_variable_84 (fun H locs hst => ?_)
        obtain ⟨hm1, hs2⟩ := hm3.sr (j := 4) (by omega) (by omega) (va_up (c3 4) (9138 - rk (vv v)) 1)
        generalize hp_up M3 (E 4) ((1000, 4), e_n Y 9139 (va_up (c3 4) (9138 - rk (vv v)) 1)) = M3 at hst hm1 hs2
        have ho4 := (hoF.tr ho3).tr hs2
        have h3 : (va_up c3 4 (va_up (c3 4) (9138 - rk (vv v)) 1)) 3 = c 3 := by rw [va_up_ne _ _ (by omega)]; exact s3a 3 (by omega)
        have hr9 : rp ((va_up c3 4 (va_up (c3 4) (9138 - rk (vv v)) 1)) 4) (vrb v) := by rw [va_up_self]; exact rp_up (h := fun _ => 0) z3 vmv
        have hPn : rr (va_up c3 4 (va_up (c3 4) (9138 - rk (vv v)) 1)) P := fun r hr k hk => by rw [h3]; exact hP r hr k hk
        refine lv_aload_n hx hb dR_variable_85 rfl (lv_at hl 0 rfl) ?_
        refine lv_iload_n hx hb dR_variable_86 rfl (lv_at hl 1 rfl) ?_
        refine lv_aload_n hx hb dR_variable_87 rfl (lv_at hl 0 rfl) ?_
        refine hp_get hx hb hG in_R hown hK hst hm1.ob rfl 6 (by decide) (hG _ fl_R_21) rfl rfl dR_variable_88 ?_
        refine ct_callV (av2 := [.int (nI r), .ref (E 4)]) (rest := []) (b := ma) X hst (c_R_keep l D Y lo hm1 hr (j := 4) (by omega) (by omega)) hm1.ob rfl wc_R_keep ml_R_92 wi_R_keep wl_R_keep wn_R md_R_keep (by decide) hl.1 rfl (Nat.le_of_ble_eq_true rfl) ⟨by omega, by omega⟩ (fun _ _ h => h.elim) dR_variable_91 (fun r MK H locs hp hst => ?_)
        obtain ⟨cK, rfl, hmK, sK, vK, nK, hoK⟩ := hp
        have hrK : rr cK (va_up P r (vrb v)) := rr_keep hPn vK nK hr9
        exact ct_vret X hst ⟨cK, rfl, hmK, hrK, ho4.tr hoK⟩ (by omega) (by omega) dR_variable_94
    · skip
      have hv1 : v = 1 := (nI_eq (by omega) (by omega)).mp hc
      refine lv_iconst (v := nI 1) hx hb dR_variable_65 (by decide +kernel) ?_
      refine lv_goto hx hb dR_variable_66 (tgt := 70) rfl ?_
      refine lv_iload_n hx hb dR_variable_70 rfl (lv_at hl 2 rfl) ?_
      refine lv_iconst (v := nI 2) hx hb dR_variable_71 (by decide +kernel) ?_
      refine lv_icmp_ne hx hb dR_variable_72 (tgt := 79) rfl (fun hc => ?_) (fun hc => ?_)
      · skip
        have hv2 : ¬ v = 2 := fun z => hc ((nI_eq (by omega) (by omega)).mpr z)
        refine lv_iconst (v := nI 0) hx hb dR_variable_79 (by decide +kernel) ?_
        have hvu : v = 1 := by omega
        refine ct_callV (av2 := [.int (nI 0), .int (nI 1), .int (nI 0)]) (rest := [.ref (E 4)]) (b := ma) X hst (c_R_place l D Y lo hm3 (a := 0) (b := 1) (d := 0) (by omega)) hm3.ob rfl wc_R_place ml_R_62 wi_R_place wl_R_place wn_R md_R_place (by decide) hl.1 rfl (Nat.le_of_ble_eq_true rfl) ⟨by omega, by omega⟩ (fun _ _ h => h.elim) dR_variable_80 (fun r M' H locs hp hst => ?_)
        obtain ⟨rfl, rfl⟩ := hp
        refine tp_n (e2 := 9138 - rk (vv v)) (by rw [w1, hvu]) ?_
        refine lv_iconst (v := nI 1) hx hb dR_variable_83 (by decide +kernel) ?_
        refine hp_iast hx hb hK rfl hst (hm3.rw (j := 4) (by omega) (by omega)) (j := (9138 - rk (vv v))) (v := 1) (by omega) (by omega) dR_variable_84 (fun H locs hst => ?_)
        obtain ⟨hm1, hs2⟩ := hm3.sr (j := 4) (by omega) (by omega) (va_up (c3 4) (9138 - rk (vv v)) 1)
        generalize hp_up M3 (E 4) ((1000, 4), e_n Y 9139 (va_up (c3 4) (9138 - rk (vv v)) 1)) = M3 at hst hm1 hs2
        have ho4 := (hoF.tr ho3).tr hs2
        have h3 : (va_up c3 4 (va_up (c3 4) (9138 - rk (vv v)) 1)) 3 = c 3 := by rw [va_up_ne _ _ (by omega)]; exact s3a 3 (by omega)
        have hr9 : rp ((va_up c3 4 (va_up (c3 4) (9138 - rk (vv v)) 1)) 4) (vrb v) := by rw [va_up_self]; exact rp_up (h := fun _ => 0) z3 vmv
        have hPn : rr (va_up c3 4 (va_up (c3 4) (9138 - rk (vv v)) 1)) P := fun r hr k hk => by rw [h3]; exact hP r hr k hk
        refine lv_aload_n hx hb dR_variable_85 rfl (lv_at hl 0 rfl) ?_
        refine lv_iload_n hx hb dR_variable_86 rfl (lv_at hl 1 rfl) ?_
        refine lv_aload_n hx hb dR_variable_87 rfl (lv_at hl 0 rfl) ?_
        refine hp_get hx hb hG in_R hown hK hst hm1.ob rfl 6 (by decide) (hG _ fl_R_21) rfl rfl dR_variable_88 ?_
        refine ct_callV (av2 := [.int (nI r), .ref (E 4)]) (rest := []) (b := ma) X hst (c_R_keep l D Y lo hm1 hr (j := 4) (by omega) (by omega)) hm1.ob rfl wc_R_keep ml_R_92 wi_R_keep wl_R_keep wn_R md_R_keep (by decide) hl.1 rfl (Nat.le_of_ble_eq_true rfl) ⟨by omega, by omega⟩ (fun _ _ h => h.elim) dR_variable_91 (fun r MK H locs hp hst => ?_)
        obtain ⟨cK, rfl, hmK, sK, vK, nK, hoK⟩ := hp
        have hrK : rr cK (va_up P r (vrb v)) := rr_keep hPn vK nK hr9
        exact ct_vret X hst ⟨cK, rfl, hmK, hrK, ho4.tr hoK⟩ (by omega) (by omega) dR_variable_94
      · skip
        have hv2 : v = 2 := (nI_eq (by omega) (by omega)).mp hc
        refine lv_iconst (v := nI 1) hx hb dR_variable_75 (by decide +kernel) ?_
        refine lv_goto hx hb dR_variable_76 (tgt := 80) rfl ?_
        exact absurd hv (by omega)
  · skip
    rw [← nI_0] at hc
    have hv0 : v = 0 := (nI_eq (by omega) (by omega)).mp hc
    refine lv_iconst (v := nI 1) hx hb dR_variable_55 (by decide +kernel) ?_
    refine lv_goto hx hb dR_variable_56 (tgt := 60) rfl ?_
    refine lv_iload_n hx hb dR_variable_60 rfl (lv_at hl 2 rfl) ?_
    refine lv_iconst (v := nI 1) hx hb dR_variable_61 (by decide +kernel) ?_
    refine lv_icmp_ne hx hb dR_variable_62 (tgt := 69) rfl (fun hc => ?_) (fun hc => ?_)
    · skip
      have hv1 : ¬ v = 1 := fun z => hc ((nI_eq (by omega) (by omega)).mpr z)
      refine lv_iconst (v := nI 0) hx hb dR_variable_69 (by decide +kernel) ?_
      refine lv_iload_n hx hb dR_variable_70 rfl (lv_at hl 2 rfl) ?_
      refine lv_iconst (v := nI 2) hx hb dR_variable_71 (by decide +kernel) ?_
      refine lv_icmp_ne hx hb dR_variable_72 (tgt := 79) rfl (fun hc => ?_) (fun hc => ?_)
      · skip
        have hv2 : ¬ v = 2 := fun z => hc ((nI_eq (by omega) (by omega)).mpr z)
        refine lv_iconst (v := nI 0) hx hb dR_variable_79 (by decide +kernel) ?_
        have hvu : v = 0 := by omega
        refine ct_callV (av2 := [.int (nI 1), .int (nI 0), .int (nI 0)]) (rest := [.ref (E 4)]) (b := ma) X hst (c_R_place l D Y lo hm3 (a := 1) (b := 0) (d := 0) (by omega)) hm3.ob rfl wc_R_place ml_R_62 wi_R_place wl_R_place wn_R md_R_place (by decide) hl.1 rfl (Nat.le_of_ble_eq_true rfl) ⟨by omega, by omega⟩ (fun _ _ h => h.elim) dR_variable_80 (fun r M' H locs hp hst => ?_)
        obtain ⟨rfl, rfl⟩ := hp
        refine tp_n (e2 := 9138 - rk (vv v)) (by rw [w0, hvu]) ?_
        refine lv_iconst (v := nI 1) hx hb dR_variable_83 (by decide +kernel) ?_
        refine hp_iast hx hb hK rfl hst (hm3.rw (j := 4) (by omega) (by omega)) (j := (9138 - rk (vv v))) (v := 1) (by omega) (by omega) dR_variable_84 (fun H locs hst => ?_)
        obtain ⟨hm1, hs2⟩ := hm3.sr (j := 4) (by omega) (by omega) (va_up (c3 4) (9138 - rk (vv v)) 1)
        generalize hp_up M3 (E 4) ((1000, 4), e_n Y 9139 (va_up (c3 4) (9138 - rk (vv v)) 1)) = M3 at hst hm1 hs2
        have ho4 := (hoF.tr ho3).tr hs2
        have h3 : (va_up c3 4 (va_up (c3 4) (9138 - rk (vv v)) 1)) 3 = c 3 := by rw [va_up_ne _ _ (by omega)]; exact s3a 3 (by omega)
        have hr9 : rp ((va_up c3 4 (va_up (c3 4) (9138 - rk (vv v)) 1)) 4) (vrb v) := by rw [va_up_self]; exact rp_up (h := fun _ => 0) z3 vmv
        have hPn : rr (va_up c3 4 (va_up (c3 4) (9138 - rk (vv v)) 1)) P := fun r hr k hk => by rw [h3]; exact hP r hr k hk
        refine lv_aload_n hx hb dR_variable_85 rfl (lv_at hl 0 rfl) ?_
        refine lv_iload_n hx hb dR_variable_86 rfl (lv_at hl 1 rfl) ?_
        refine lv_aload_n hx hb dR_variable_87 rfl (lv_at hl 0 rfl) ?_
        refine hp_get hx hb hG in_R hown hK hst hm1.ob rfl 6 (by decide) (hG _ fl_R_21) rfl rfl dR_variable_88 ?_
        refine ct_callV (av2 := [.int (nI r), .ref (E 4)]) (rest := []) (b := ma) X hst (c_R_keep l D Y lo hm1 hr (j := 4) (by omega) (by omega)) hm1.ob rfl wc_R_keep ml_R_92 wi_R_keep wl_R_keep wn_R md_R_keep (by decide) hl.1 rfl (Nat.le_of_ble_eq_true rfl) ⟨by omega, by omega⟩ (fun _ _ h => h.elim) dR_variable_91 (fun r MK H locs hp hst => ?_)
        obtain ⟨cK, rfl, hmK, sK, vK, nK, hoK⟩ := hp
        have hrK : rr cK (va_up P r (vrb v)) := rr_keep hPn vK nK hr9
        exact ct_vret X hst ⟨cK, rfl, hmK, hrK, ho4.tr hoK⟩ (by omega) (by omega) dR_variable_94
      · skip
        have hv2 : v = 2 := (nI_eq (by omega) (by omega)).mp hc
        refine lv_iconst (v := nI 1) hx hb dR_variable_75 (by decide +kernel) ?_
        refine lv_goto hx hb dR_variable_76 (tgt := 80) rfl ?_
        exact absurd hv (by omega)
    · skip
      have hv1 : v = 1 := (nI_eq (by omega) (by omega)).mp hc
      refine lv_iconst (v := nI 1) hx hb dR_variable_65 (by decide +kernel) ?_
      refine lv_goto hx hb dR_variable_66 (tgt := 70) rfl ?_
      refine lv_iload_n hx hb dR_variable_70 rfl (lv_at hl 2 rfl) ?_
      refine lv_iconst (v := nI 2) hx hb dR_variable_71 (by decide +kernel) ?_
      refine lv_icmp_ne hx hb dR_variable_72 (tgt := 79) rfl (fun hc => ?_) (fun hc => ?_)
      · skip
        have hv2 : ¬ v = 2 := fun z => hc ((nI_eq (by omega) (by omega)).mpr z)
        refine lv_iconst (v := nI 0) hx hb dR_variable_79 (by decide +kernel) ?_
        exact absurd hv (by omega)
      · skip
        have hv2 : v = 2 := (nI_eq (by omega) (by omega)).mp hc
        refine lv_iconst (v := nI 1) hx hb dR_variable_75 (by decide +kernel) ?_
        refine lv_goto hx hb dR_variable_76 (tgt := 80) rfl ?_
        exact absurd hv (by omega)

set_option maxHeartbeats 4000000 in
set_option maxRecDepth 100000 in
theorem e_R_variable (l : Launch) (D : va_G) (Y : Nat → ClassId) (lo : Nat) {M : Hm} {ma p rf th : Nat} {E : Nat → Nat} {c : Nat → Nat → Nat} (hm : mo Y M ma E p rf th c) {x1 x2 : Int32} (hno : ¬ (inR x1 ∧ inV x2)) : ct l D Y lo y_R_variable b_R_variable 3 none 1 [.ref ma, .int x1, .int x2] M (fun r9 M' => ∃ t : Nat, r9 = none ∧ mo Y M' ma E p rf t c ∧ (t = 1 ∧ ¬ (inR x1) ∨ t = 2 ∧ (inR x1)) ∧ hp_off (fun i => i = 1000) M M') nx 0 0 := by
  refine ct_of (by decide) (Nat.le_of_ble_eq_true rfl) ?_
  intro pg eg sg mg bw mt cg ls X hst hl
  have X1 := X
  obtain ⟨hx, hb, hml, hrt, hlocks, hown, hnm, hts, hkz, hex⟩ := X1
  have hG : ∀ w ∈ GW, w.before _ sg = true := fun w h => hts w (List.mem_cons_of_mem _ h)
  have hK := hkz.1
  have hl : lv_has ls 3 [(0, .ref ma), (1, .int x1), (2, .int x2)] := hl
  by_cases h1 : inR x1
  · skip
    have h2 : ¬ inV x2 := fun z => hno ⟨h1, z⟩
    have h1b := h1
    obtain ⟨r, hr, rfl⟩ := h1
    refine lv_aload_n hx hb dR_variable_0 rfl (lv_at hl 0 rfl) ?_
    refine lv_iload_n hx hb dR_variable_1 rfl (lv_at hl 1 rfl) ?_
    refine ct_callS (av2 := [.int (nI r)]) (rest := [.ref ma]) X hst (g_R_isRegister l D Y lo hr) wc_R_isRegister ml_R_85 ws_R_isRegister wn_R md_R_isRegister (by decide) hl.1 rfl (Nat.le_of_ble_eq_true rfl) ⟨by omega, by omega⟩ (fun _ _ h => h.elim) dR_variable_2 (fun r M' H locs hp hst => ?_)
    obtain ⟨rfl, rfl⟩ := hp
    refine lv_if_ne hx hb dR_variable_5 (tgt := 12) rfl (fun hc => ?_) (fun hc => absurd hc (by decide))
    refine lv_iconst (v := nI 0) hx hb dR_variable_12 (by decide +kernel) ?_
    refine lv_iload_n hx hb dR_variable_13 rfl (lv_at hl 1 rfl) ?_
    refine ct_callS (av2 := [.int (nI r)]) (rest := [.int (nI 0), .ref ma]) X hst (g_R_isRegister l D Y lo hr) wc_R_isRegister ml_R_85 ws_R_isRegister wn_R md_R_isRegister (by decide) hl.1 rfl (Nat.le_of_ble_eq_true rfl) ⟨by omega, by omega⟩ (fun _ _ h => h.elim) dR_variable_14 (fun r M' H locs hp hst => ?_)
    obtain ⟨rfl, rfl⟩ := hp
    refine lv_if_eq hx hb dR_variable_17 (tgt := 31) rfl (fun hc => absurd hc (by decide)) (fun hc => ?_)
    refine lv_iload_n hx hb dR_variable_20 rfl (lv_at hl 2 rfl) ?_
    refine ct_callS (av2 := [.int x2]) (rest := [.int (nI 0), .ref ma]) X hst (e_R_isVariable l D Y lo h2) wc_R_isVariable ml_R_96 ws_R_isVariable wn_R md_R_isVariable (by decide) hl.1 rfl (Nat.le_of_ble_eq_true rfl) ⟨by omega, by omega⟩ (fun _ _ h => h.elim) dR_variable_21 (fun r M' H locs hp hst => ?_)
    obtain ⟨rfl, rfl⟩ := hp
    refine lv_if_ne hx hb dR_variable_24 (tgt := 31) rfl (fun hc => absurd hc (by decide)) (fun hc => ?_)
    refine lv_iconst (v := nI 1) hx hb dR_variable_27 (by decide +kernel) ?_
    refine lv_goto hx hb dR_variable_28 (tgt := 32) rfl ?_
    refine ct_callV (av2 := [.int (nI 0), .int (nI 1)]) (rest := []) (b := ma) X hst (c_R_fails l D Y lo hm (a := 0) (b := 1) (by omega) (by omega)) hm.ob rfl wc_R_fails ml_R_88 wi_R_fails wl_R_fails wn_R md_R_fails (by decide) hl.1 rfl (Nat.le_of_ble_eq_true rfl) ⟨by omega, by omega⟩ (fun _ _ h => h.elim) dR_variable_32 (fun r MF H locs hp hst => ?_)
    obtain ⟨rfl, hmF, hoF⟩ := hp
    have hmF : mo Y MF ma E p rf 2 c := hmF
    refine lv_if_eq hx hb dR_variable_35 (tgt := 39) rfl (fun hc => absurd hc (by decide)) (fun hc => ?_)
    exact ct_vret X hst ⟨2, rfl, hmF, Or.inr ⟨rfl, h1b⟩, hoF⟩ (by omega) (by omega) dR_variable_38
  · skip
    refine lv_aload_n hx hb dR_variable_0 rfl (lv_at hl 0 rfl) ?_
    refine lv_iload_n hx hb dR_variable_1 rfl (lv_at hl 1 rfl) ?_
    refine ct_callS (av2 := [.int x1]) (rest := [.ref ma]) X hst (e_R_isRegister l D Y lo h1) wc_R_isRegister ml_R_85 ws_R_isRegister wn_R md_R_isRegister (by decide) hl.1 rfl (Nat.le_of_ble_eq_true rfl) ⟨by omega, by omega⟩ (fun _ _ h => h.elim) dR_variable_2 (fun r M' H locs hp hst => ?_)
    obtain ⟨rfl, rfl⟩ := hp
    refine lv_if_ne hx hb dR_variable_5 (tgt := 12) rfl (fun hc => absurd hc (by decide)) (fun hc => ?_)
    refine lv_iconst (v := nI 1) hx hb dR_variable_8 (by decide +kernel) ?_
    refine lv_goto hx hb dR_variable_9 (tgt := 13) rfl ?_
    refine lv_iload_n hx hb dR_variable_13 rfl (lv_at hl 1 rfl) ?_
    refine ct_callS (av2 := [.int x1]) (rest := [.int (nI 1), .ref ma]) X hst (e_R_isRegister l D Y lo h1) wc_R_isRegister ml_R_85 ws_R_isRegister wn_R md_R_isRegister (by decide) hl.1 rfl (Nat.le_of_ble_eq_true rfl) ⟨by omega, by omega⟩ (fun _ _ h => h.elim) dR_variable_14 (fun r M' H locs hp hst => ?_)
    obtain ⟨rfl, rfl⟩ := hp
    refine lv_if_eq hx hb dR_variable_17 (tgt := 31) rfl (fun hc => ?_) (fun hc => absurd hc (by decide))
    refine lv_iconst (v := nI 0) hx hb dR_variable_31 (by decide +kernel) ?_
    refine ct_callV (av2 := [.int (nI 1), .int (nI 0)]) (rest := []) (b := ma) X hst (c_R_fails l D Y lo hm (a := 1) (b := 0) (by omega) (by omega)) hm.ob rfl wc_R_fails ml_R_88 wi_R_fails wl_R_fails wn_R md_R_fails (by decide) hl.1 rfl (Nat.le_of_ble_eq_true rfl) ⟨by omega, by omega⟩ (fun _ _ h => h.elim) dR_variable_32 (fun r MF H locs hp hst => ?_)
    obtain ⟨rfl, hmF, hoF⟩ := hp
    have hmF : mo Y MF ma E p rf 1 c := hmF
    refine lv_if_eq hx hb dR_variable_35 (tgt := 39) rfl (fun hc => absurd hc (by decide)) (fun hc => ?_)
    exact ct_vret X hst ⟨1, rfl, hmF, Or.inl ⟨rfl, h1⟩, hoF⟩ (by omega) (by omega) dR_variable_38

set_option maxHeartbeats 4000000 in
set_option maxRecDepth 100000 in
theorem c_R_add (l : Launch) (D : va_G) (Y : Nat → ClassId) (lo : Nat) {M : Hm} {ma p rf th : Nat} {E : Nat → Nat} {c : Nat → Nat → Nat} (hm : mo Y M ma E p rf th c) {P : Nat → Pf} (hP : rr c P) (hPp : ∀ r, r < 12 → ∀ m, P r m < p) {r a b : Nat} (hr : r < 12) (ha : a < 12) (hb9 : b < 12) (x : Int32) : ct l D Y lo y_R_add b_R_add 8 none 1 [.ref ma, .int (nI r), .int (nI a), .int (nI b), .int x] M (fun r9 M' => ∃ c' : Nat → Nat → Nat, r9 = none ∧ mo Y M' ma E p rf 0 c' ∧ rr c' (va_up P r (addP p (P a) (P b) (rd p x.toInt))) ∧ hp_off (fun i => i = 1000) M M') nx 0 0 := by
  refine ct_of (by decide) (Nat.le_of_ble_eq_true rfl) ?_
  intro pg eg sg mg bw mt cg ls X hst hl
  have X1 := X
  obtain ⟨hx, hb, hml, hrt, hlocks, hown, hnm, hts, hkz, hex⟩ := X1
  have hG : ∀ w ∈ GW, w.before _ sg = true := fun w h => hts w (List.mem_cons_of_mem _ h)
  have hK := hkz.1
  have hl : lv_has ls 8 [(0, .ref ma), (1, .int (nI r)), (2, .int (nI a)), (3, .int (nI b)), (4, .int x)] := hl
  obtain ⟨hp2, hp3⟩ := hm.p2
  refine lv_aload_n hx hb dR_add_0 rfl (lv_at hl 0 rfl) ?_
  refine lv_iload_n hx hb dR_add_1 rfl (lv_at hl 1 rfl) ?_
  refine ct_callS (av2 := [.int (nI r)]) (rest := [.ref ma]) X hst (g_R_isRegister l D Y lo hr) wc_R_isRegister ml_R_85 ws_R_isRegister wn_R md_R_isRegister (by decide) hl.1 rfl (Nat.le_of_ble_eq_true rfl) ⟨by omega, by omega⟩ (fun _ _ h => h.elim) dR_add_2 (fun r M' H locs hp hst => ?_)
  obtain ⟨rfl, rfl⟩ := hp
  refine lv_if_eq hx hb dR_add_5 (tgt := 22) rfl (fun hc => absurd hc (by decide)) (fun hc => ?_)
  refine lv_iload_n hx hb dR_add_8 rfl (lv_at hl 2 rfl) ?_
  refine ct_callS (av2 := [.int (nI a)]) (rest := [.ref ma]) X hst (g_R_isRegister l D Y lo ha) wc_R_isRegister ml_R_85 ws_R_isRegister wn_R md_R_isRegister (by decide) hl.1 rfl (Nat.le_of_ble_eq_true rfl) ⟨by omega, by omega⟩ (fun _ _ h => h.elim) dR_add_9 (fun r M' H locs hp hst => ?_)
  obtain ⟨rfl, rfl⟩ := hp
  refine lv_if_eq hx hb dR_add_12 (tgt := 22) rfl (fun hc => absurd hc (by decide)) (fun hc => ?_)
  refine lv_iload_n hx hb dR_add_15 rfl (lv_at hl 3 rfl) ?_
  refine ct_callS (av2 := [.int (nI b)]) (rest := [.ref ma]) X hst (g_R_isRegister l D Y lo hb9) wc_R_isRegister ml_R_85 ws_R_isRegister wn_R md_R_isRegister (by decide) hl.1 rfl (Nat.le_of_ble_eq_true rfl) ⟨by omega, by omega⟩ (fun _ _ h => h.elim) dR_add_16 (fun r M' H locs hp hst => ?_)
  obtain ⟨rfl, rfl⟩ := hp
  refine lv_if_ne hx hb dR_add_19 (tgt := 26) rfl (fun hc => ?_) (fun hc => absurd hc (by decide))
  refine lv_iconst (v := nI 0) hx hb dR_add_26 (by decide +kernel) ?_
  refine lv_iconst (v := nI 0) hx hb dR_add_27 (by decide +kernel) ?_
  refine ct_callV (av2 := [.int (nI 0), .int (nI 0)]) (rest := []) (b := ma) X hst (c_R_fails l D Y lo hm (a := 0) (b := 0) (by omega) (by omega)) hm.ob rfl wc_R_fails ml_R_88 wi_R_fails wl_R_fails wn_R md_R_fails (by decide) hl.1 rfl (Nat.le_of_ble_eq_true rfl) ⟨by omega, by omega⟩ (fun _ _ h => h.elim) dR_add_28 (fun r MF H locs hp hst => ?_)
  obtain ⟨rfl, hmF, hoF⟩ := hp
  have hmF : mo Y MF ma E p rf 0 c := hmF
  refine lv_if_eq hx hb dR_add_31 (tgt := 35) rfl (fun hc => ?_) (fun hc => absurd hc (by decide))
  refine lv_aload_n hx hb dR_add_35 rfl (lv_at hl 0 rfl) ?_
  refine lv_iload_n hx hb dR_add_36 rfl (lv_at hl 2 rfl) ?_
  refine lv_aload_n hx hb dR_add_37 rfl (lv_at hl 0 rfl) ?_
  refine hp_get hx hb hG in_R hown hK hst hmF.ob rfl 6 (by decide) (hG _ fl_R_21) rfl rfl dR_add_38 ?_
  refine ct_callV (av2 := [.int (nI a), .ref (E 4)]) (rest := []) (b := ma) X hst (c_R_load l D Y lo hmF ha (j := 4) (by omega) (by omega)) hmF.ob rfl wc_R_load ml_R_99 wi_R_load wl_R_load wn_R md_R_load (by decide) hl.1 rfl (Nat.le_of_ble_eq_true rfl) ⟨by omega, by omega⟩ (fun _ _ h => h.elim) dR_add_41 (fun r ML4 H locs hp hst => ?_)
  obtain ⟨cL4, rfl, hmL4, sL4, vL4, hoL4⟩ := hp
  refine lv_aload_n hx hb dR_add_44 rfl (lv_at hl 0 rfl) ?_
  refine lv_iload_n hx hb dR_add_45 rfl (lv_at hl 3 rfl) ?_
  refine lv_aload_n hx hb dR_add_46 rfl (lv_at hl 0 rfl) ?_
  refine hp_get hx hb hG in_R hown hK hst hmL4.ob rfl 7 (by decide) (hG _ fl_R_24) rfl rfl dR_add_47 ?_
  refine ct_callV (av2 := [.int (nI b), .ref (E 5)]) (rest := []) (b := ma) X hst (c_R_load l D Y lo hmL4 hb9 (j := 5) (by omega) (by omega)) hmL4.ob rfl wc_R_load ml_R_99 wi_R_load wl_R_load wn_R md_R_load (by decide) hl.1 rfl (Nat.le_of_ble_eq_true rfl) ⟨by omega, by omega⟩ (fun _ _ h => h.elim) dR_add_50 (fun r ML5 H locs hp hst => ?_)
  obtain ⟨cL5, rfl, hmL5, sL5, vL5, hoL5⟩ := hp
  have e3 : cL5 3 = c 3 := (sL5 3 (by omega)).trans (sL4 3 (by omega))
  have e4 : rp (cL5 4) (P a) := fun k hk => by rw [sL5 4 (by omega), vL4 k hk]; exact hP a ha k hk
  have e5 : rp (cL5 5) (P b) := fun k hk => by rw [vL5 k hk, sL4 3 (by omega)]; exact hP b hb9 k hk
  refine lv_aload_n hx hb dR_add_53 rfl (lv_at hl 0 rfl) ?_
  refine lv_iload hx hb dR_add_54 (lv_at hl 4 rfl) ?_
  refine lv_i2l (v := x.toInt64) hx hb dR_add_56 rfl ?_
  refine ct_callV (av2 := [.long x.toInt64]) (rest := []) (b := ma) X hst (c_R_reduced l D Y lo hmL5 (x.toInt64)) hmL5.ob rfl wc_R_reduced ml_R_66 wi_R_reduced wl_R_reduced wn_R md_R_reduced (by decide) hl.1 rfl (Nat.le_of_ble_eq_true rfl) ⟨by omega, by omega⟩ (fun _ _ h => h.elim) dR_add_57 (fun r M' H locs hp hst => ?_)
  obtain ⟨rfl, rfl⟩ := hp
  refine tp_n (e2 := rd p x.toInt) (by rw [Int32.toInt_toInt64]) ?_
  have hrd := rd_lt (p := p) (by omega) x.toInt
  refine lv_i2l (v := lN (rd p x.toInt)) hx hb dR_add_60 (nI_l (by omega)) ?_
  refine lv_lstore (lv' := [(5, .long (lN (rd p x.toInt))), (0, .ref ma), (1, .int (nI r)), (2, .int (nI a)), (3, .int (nI b)), (4, .int x)]) hx hb dR_add_61 hl (by decide) rfl (fun ls hl => ?_)
  refine lv_iconst (v := nI 0) hx hb dR_add_63 (by decide +kernel) ?_
  refine lv_istore (lv' := [(7, .int (nI 0)), (5, .long (lN (rd p x.toInt))), (0, .ref ma), (1, .int (nI r)), (2, .int (nI a)), (3, .int (nI b)), (4, .int x)]) hx hb dR_add_64 hl (by decide) rfl (fun ls hl => ?_)
  have LP : ∀ (kk : Nat) (k : Nat) (d : Nat → Nat → Nat) (M1 : Hm) (H : Heap) (locs : List Loc) (ls : Array Slot), kk = 9139 - k → (k ≤ 9139) → (mo Y M1 ma E p rf 0 d) → (∀ i, i ≠ 4 → d i = cL5 i) → (∀ i, i < k → d 4 i = addP p (P a) (P b) (rd p x.toInt) (pl i)) → (∀ i, k ≤ i → i < 9139 → d 4 i = P a (pl i)) → (hp_off (fun i => i = 1000) M M1) → hp_st D vC lo M1 sg.heap H locs → lv_has ls 8 [(0, .ref ma), (1, .int (nI r)), (5, .long (lN (rd p x.toInt))), (7, .int (nI k))] → cW pg l eg sg mg [.ref ma, .int (nI r), .int (nI a), .int (nI b), .int x] bw mt cg y_R_add b_R_add 8 none 1 D lo (fun r9 M' => ∃ c' : Nat → Nat → Nat, r9 = none ∧ mo Y M' ma E p rf 0 c' ∧ rr c' (va_up P r (addP p (P a) (P b) (rd p x.toInt))) ∧ hp_off (fun i => i = 1000) M M') nx 0 0 H locs 0 0 (F0 mg 66 ls []) := by
    intro kk
    induction kk using Nat.strongRecOn with
    | _ kk ihLP =>
    intro k d M1 H locs ls hkk hk9 hm hsm hv hw ho hst hl
    refine lv_iload hx hb dR_add_66 (lv_at hl 3 rfl) ?_
    refine lv_sipush (v := nI 9139) hx hb dR_add_68 (by decide +kernel) ?_
    refine lv_icmp_ge hx hb dR_add_71 (tgt := 111) rfl (fun hc => ?_) (fun hc => ?_)
    · skip
      have hc5 : 9139 ≤ k := (nI_leI (by omega) (by omega)).mp hc
      refine lv_aload_n hx hb dR_add_111 rfl (lv_at hl 0 rfl) ?_
      refine lv_iload_n hx hb dR_add_112 rfl (lv_at hl 1 rfl) ?_
      refine lv_aload_n hx hb dR_add_113 rfl (lv_at hl 0 rfl) ?_
      refine hp_get hx hb hG in_R hown hK hst hm.ob rfl 6 (by decide) (hG _ fl_R_21) rfl rfl dR_add_114 ?_
      have hr9 : rp (d 4) (addP p (P a) (P b) (rd p x.toInt)) := fun i hi => hv i (by omega)
      have hPn : rr d P := fun r hr k hk => by rw [hsm 3 (by omega), e3]; exact hP r hr k hk
      refine ct_callV (av2 := [.int (nI r), .ref (E 4)]) (rest := []) (b := ma) X hst (c_R_keep l D Y lo hm hr (j := 4) (by omega) (by omega)) hm.ob rfl wc_R_keep ml_R_92 wi_R_keep wl_R_keep wn_R md_R_keep (by decide) hl.1 rfl (Nat.le_of_ble_eq_true rfl) ⟨by omega, by omega⟩ (fun _ _ h => h.elim) dR_add_117 (fun r MK H locs hp hst => ?_)
      obtain ⟨cK, rfl, hmK, sK, vK, nK, hoK⟩ := hp
      have hrK : rr cK (va_up P r (addP p (P a) (P b) (rd p x.toInt))) := rr_keep hPn vK nK hr9
      exact ct_vret X hst ⟨cK, rfl, hmK, hrK, ho.tr hoK⟩ (by omega) (by omega) dR_add_120
    · skip
      have hc5 : ¬ 9139 ≤ k := fun z => hc ((nI_leI (by omega) (by omega)).mpr z)
      have u1 : d 4 k = P a (pl k) := hw k (by omega) (by omega)
      have u2 : d 5 k = P b (pl k) := by rw [hsm 5 (by omega)]; exact e5 k (by omega)
      have l1 := hPp a ha (pl k)
      have l2 := hPp b hb9 (pl k)
      have l3 : (rd p x.toInt) * P b (pl k) ≤ 46337 * 46337 := Nat.mul_le_mul (by omega) (by omega)
      refine lv_aload_n hx hb dR_add_74 rfl (lv_at hl 0 rfl) ?_
      refine hp_get hx hb hG in_R hown hK hst hm.ob rfl 6 (by decide) (hG _ fl_R_21) rfl rfl dR_add_75 ?_
      refine lv_iload hx hb dR_add_78 (lv_at hl 3 rfl) ?_
      refine lv_aload_n hx hb dR_add_80 rfl (lv_at hl 0 rfl) ?_
      refine lv_aload_n hx hb dR_add_81 rfl (lv_at hl 0 rfl) ?_
      refine hp_get hx hb hG in_R hown hK hst hm.ob rfl 6 (by decide) (hG _ fl_R_21) rfl rfl dR_add_82 ?_
      refine lv_iload hx hb dR_add_85 (lv_at hl 3 rfl) ?_
      refine hp_iald hx hb hK rfl hst (hm.rw (j := 4) (by omega) (by omega)) (j := k) (by omega) (by omega) dR_add_87 ?_
      refine tp_n (e2 := P a (pl k)) u1 ?_
      refine lv_i2l (v := lN (P a (pl k))) hx hb dR_add_88 (nI_l (by omega)) ?_
      refine lv_lload hx hb dR_add_89 (lv_at hl 2 rfl) ?_
      refine lv_aload_n hx hb dR_add_91 rfl (lv_at hl 0 rfl) ?_
      refine hp_get hx hb hG in_R hown hK hst hm.ob rfl 7 (by decide) (hG _ fl_R_24) rfl rfl dR_add_92 ?_
      refine lv_iload hx hb dR_add_95 (lv_at hl 3 rfl) ?_
      refine hp_iald hx hb hK rfl hst (hm.rw (j := 5) (by omega) (by omega)) (j := k) (by omega) (by omega) dR_add_97 ?_
      refine tp_n (e2 := P b (pl k)) u2 ?_
      refine lv_i2l (v := lN (P b (pl k))) hx hb dR_add_98 (nI_l (by omega)) ?_
      refine lv_lmul hx hb dR_add_99 ?_
      refine tp_l (e2 := lN ((rd p x.toInt) * (P b (pl k)))) (lN_mul _ _) ?_
      refine lv_ladd hx hb dR_add_100 ?_
      refine tp_l (e2 := lN ((P a (pl k)) + ((rd p x.toInt) * (P b (pl k))))) (lN_add _ _) ?_
      refine ct_callV (av2 := [.long (lN ((P a (pl k)) + ((rd p x.toInt) * (P b (pl k)))))]) (rest := [.int (nI k), .ref (E 4)]) (b := ma) X hst (c_R_reduced l D Y lo hm (lN (P a (pl k) + (rd p x.toInt) * P b (pl k)))) hm.ob rfl wc_R_reduced ml_R_66 wi_R_reduced wl_R_reduced wn_R md_R_reduced (by decide) hl.1 rfl (Nat.le_of_ble_eq_true rfl) ⟨by omega, by omega⟩ (fun _ _ h => h.elim) dR_add_101 (fun r M' H locs hp hst => ?_)
      obtain ⟨rfl, rfl⟩ := hp
      refine tp_n (e2 := addP p (P a) (P b) (rd p x.toInt) (pl k)) (by rw [lN_big (by omega), rd_nat, addP_at (hPp a ha) (by omega)]) ?_
      refine hp_iast hx hb hK rfl hst (hm.rw (j := 4) (by omega) (by omega)) (j := k) (v := (addP p (P a) (P b) (rd p x.toInt) (pl k))) (by omega) (by omega) dR_add_104 (fun H locs hst => ?_)
      obtain ⟨hm1, hs2⟩ := hm.sr (j := 4) (by omega) (by omega) (va_up (d 4) k (addP p (P a) (P b) (rd p x.toInt) (pl k)))
      generalize hp_up M1 (E 4) ((1000, 4), e_n Y 9139 (va_up (d 4) k (addP p (P a) (P b) (rd p x.toInt) (pl k)))) = M3 at hst hm1 hs2
      have ho4 := ho.tr hs2
      refine lv_iinc (lv' := [(7, .int (nI (k + 1))), (0, .ref ma), (1, .int (nI r)), (5, .long (lN (rd p x.toInt)))]) hx hb dR_add_105 hl (k := 3) rfl (ii_p _) (by decide) rfl (fun ls hl => ?_)
      refine lv_goto hx hb dR_add_108 (tgt := 66) rfl ?_
      exact ihLP _ (by omega) (k + 1) (va_up d 4 (va_up (d 4) k (addP p (P a) (P b) (rd p x.toInt) (pl k)))) M3 _ _ _ rfl (by omega) hm1 (fun i hi => by rw [va_up_ne _ _ hi]; exact hsm i hi) (fun i hi => by
          rw [va_up_self]
          by_cases h9 : i = k
          · subst h9; exact va_up_self _ _ _
          · rw [va_up_ne _ _ h9]; exact hv i (by omega)) (fun i h1 h2 => by rw [va_up_self, va_up_ne _ _ (by omega)]; exact hw i (by omega) h2) ho4 hst (lv_sub hl [1, 2, 3, 0] rfl)
  exact LP _ 0 cL5 ML5 _ _ _ rfl (by omega) hmL5 (fun i hi => rfl) (fun i hi => by omega) (fun i _ hi => e4 i hi) ((hoF.tr hoL4).tr hoL5) hst (lv_sub hl [2, 3, 1, 0] rfl)

set_option maxHeartbeats 4000000 in
set_option maxRecDepth 100000 in
theorem e_R_add (l : Launch) (D : va_G) (Y : Nat → ClassId) (lo : Nat) {M : Hm} {ma p rf th : Nat} {E : Nat → Nat} {c : Nat → Nat → Nat} (hm : mo Y M ma E p rf th c) {x1 x2 x3 x4 : Int32} (hno : ¬ (inR x1 ∧ inR x2 ∧ inR x3)) : ct l D Y lo y_R_add b_R_add 8 none 1 [.ref ma, .int x1, .int x2, .int x3, .int x4] M (fun r9 M' => ∃ t : Nat, r9 = none ∧ mo Y M' ma E p rf t c ∧ (t = 1 ∧ ¬ (inR x1 ∧ inR x2 ∧ inR x3) ∨ t = 2 ∧ (inR x1 ∧ inR x2 ∧ inR x3)) ∧ hp_off (fun i => i = 1000) M M') nx 0 0 := by
  refine ct_of (by decide) (Nat.le_of_ble_eq_true rfl) ?_
  intro pg eg sg mg bw mt cg ls X hst hl
  have X1 := X
  obtain ⟨hx, hb, hml, hrt, hlocks, hown, hnm, hts, hkz, hex⟩ := X1
  have hG : ∀ w ∈ GW, w.before _ sg = true := fun w h => hts w (List.mem_cons_of_mem _ h)
  have hK := hkz.1
  have hl : lv_has ls 8 [(0, .ref ma), (1, .int x1), (2, .int x2), (3, .int x3), (4, .int x4)] := hl
  refine lv_aload_n hx hb dR_add_0 rfl (lv_at hl 0 rfl) ?_
  refine lv_iload_n hx hb dR_add_1 rfl (lv_at hl 1 rfl) ?_
  refine ct_callS (av2 := [.int x1]) (rest := [.ref ma]) X hst (c_R_isRegister l D Y lo x1) wc_R_isRegister ml_R_85 ws_R_isRegister wn_R md_R_isRegister (by decide) hl.1 rfl (Nat.le_of_ble_eq_true rfl) ⟨by omega, by omega⟩ (fun _ _ h => h.elim) dR_add_2 (fun r M' H locs hp hst => ?_)
  obtain ⟨b1, rfl, hb1, ib1, rfl⟩ := hp
  refine lv_if_eq hx hb dR_add_5 (tgt := 22) rfl (fun hc => ?_) (fun hc => ?_)
  · skip
    rw [← nI_0] at hc
    have hz1 : b1 = 0 := (nI_eq (by omega) (by omega)).mp hc
    refine lv_iconst (v := nI 1) hx hb dR_add_22 (by decide +kernel) ?_
    refine lv_goto hx hb dR_add_23 (tgt := 27) rfl ?_
    refine lv_iconst (v := nI 0) hx hb dR_add_27 (by decide +kernel) ?_
    refine ct_callV (av2 := [.int (nI 1), .int (nI 0)]) (rest := []) (b := ma) X hst (c_R_fails l D Y lo hm (a := 1) (b := 0) (by omega) (by omega)) hm.ob rfl wc_R_fails ml_R_88 wi_R_fails wl_R_fails wn_R md_R_fails (by decide) hl.1 rfl (Nat.le_of_ble_eq_true rfl) ⟨by omega, by omega⟩ (fun _ _ h => h.elim) dR_add_28 (fun r MF H locs hp hst => ?_)
    obtain ⟨rfl, hmF, hoF⟩ := hp
    have hmF : mo Y MF ma E p rf 1 c := hmF
    refine lv_if_eq hx hb dR_add_31 (tgt := 35) rfl (fun hc => absurd hc (by decide)) (fun hc => ?_)
    exact ct_vret X hst ⟨1, rfl, hmF, Or.inl ⟨rfl, hno⟩, hoF⟩ (by omega) (by omega) dR_add_34
  · skip
    rw [← nI_0] at hc
    have hz1 : ¬ b1 = 0 := fun z => hc ((nI_eq (by omega) (by omega)).mpr z)
    refine lv_iload_n hx hb dR_add_8 rfl (lv_at hl 2 rfl) ?_
    refine ct_callS (av2 := [.int x2]) (rest := [.ref ma]) X hst (c_R_isRegister l D Y lo x2) wc_R_isRegister ml_R_85 ws_R_isRegister wn_R md_R_isRegister (by decide) hl.1 rfl (Nat.le_of_ble_eq_true rfl) ⟨by omega, by omega⟩ (fun _ _ h => h.elim) dR_add_9 (fun r M' H locs hp hst => ?_)
    obtain ⟨b2, rfl, hb2, ib2, rfl⟩ := hp
    refine lv_if_eq hx hb dR_add_12 (tgt := 22) rfl (fun hc => ?_) (fun hc => ?_)
    · skip
      rw [← nI_0] at hc
      have hz2 : b2 = 0 := (nI_eq (by omega) (by omega)).mp hc
      refine lv_iconst (v := nI 1) hx hb dR_add_22 (by decide +kernel) ?_
      refine lv_goto hx hb dR_add_23 (tgt := 27) rfl ?_
      refine lv_iconst (v := nI 0) hx hb dR_add_27 (by decide +kernel) ?_
      refine ct_callV (av2 := [.int (nI 1), .int (nI 0)]) (rest := []) (b := ma) X hst (c_R_fails l D Y lo hm (a := 1) (b := 0) (by omega) (by omega)) hm.ob rfl wc_R_fails ml_R_88 wi_R_fails wl_R_fails wn_R md_R_fails (by decide) hl.1 rfl (Nat.le_of_ble_eq_true rfl) ⟨by omega, by omega⟩ (fun _ _ h => h.elim) dR_add_28 (fun r MF H locs hp hst => ?_)
      obtain ⟨rfl, hmF, hoF⟩ := hp
      have hmF : mo Y MF ma E p rf 1 c := hmF
      refine lv_if_eq hx hb dR_add_31 (tgt := 35) rfl (fun hc => absurd hc (by decide)) (fun hc => ?_)
      exact ct_vret X hst ⟨1, rfl, hmF, Or.inl ⟨rfl, hno⟩, hoF⟩ (by omega) (by omega) dR_add_34
    · skip
      rw [← nI_0] at hc
      have hz2 : ¬ b2 = 0 := fun z => hc ((nI_eq (by omega) (by omega)).mpr z)
      refine lv_iload_n hx hb dR_add_15 rfl (lv_at hl 3 rfl) ?_
      refine ct_callS (av2 := [.int x3]) (rest := [.ref ma]) X hst (c_R_isRegister l D Y lo x3) wc_R_isRegister ml_R_85 ws_R_isRegister wn_R md_R_isRegister (by decide) hl.1 rfl (Nat.le_of_ble_eq_true rfl) ⟨by omega, by omega⟩ (fun _ _ h => h.elim) dR_add_16 (fun r M' H locs hp hst => ?_)
      obtain ⟨b3, rfl, hb3, ib3, rfl⟩ := hp
      refine lv_if_ne hx hb dR_add_19 (tgt := 26) rfl (fun hc => ?_) (fun hc => ?_)
      · skip
        rw [← nI_0] at hc
        have hz3 : ¬ b3 = 0 := fun z => hc ((nI_eq (by omega) (by omega)).mpr z)
        exact absurd ⟨ib1.mp (by omega), ib2.mp (by omega), ib3.mp (by omega)⟩ hno
      · skip
        rw [← nI_0] at hc
        have hz3 : b3 = 0 := (nI_eq (by omega) (by omega)).mp hc
        refine lv_iconst (v := nI 1) hx hb dR_add_22 (by decide +kernel) ?_
        refine lv_goto hx hb dR_add_23 (tgt := 27) rfl ?_
        refine lv_iconst (v := nI 0) hx hb dR_add_27 (by decide +kernel) ?_
        refine ct_callV (av2 := [.int (nI 1), .int (nI 0)]) (rest := []) (b := ma) X hst (c_R_fails l D Y lo hm (a := 1) (b := 0) (by omega) (by omega)) hm.ob rfl wc_R_fails ml_R_88 wi_R_fails wl_R_fails wn_R md_R_fails (by decide) hl.1 rfl (Nat.le_of_ble_eq_true rfl) ⟨by omega, by omega⟩ (fun _ _ h => h.elim) dR_add_28 (fun r MF H locs hp hst => ?_)
        obtain ⟨rfl, hmF, hoF⟩ := hp
        have hmF : mo Y MF ma E p rf 1 c := hmF
        refine lv_if_eq hx hb dR_add_31 (tgt := 35) rfl (fun hc => absurd hc (by decide)) (fun hc => ?_)
        exact ct_vret X hst ⟨1, rfl, hmF, Or.inl ⟨rfl, hno⟩, hoF⟩ (by omega) (by omega) dR_add_34

set_option maxHeartbeats 4000000 in
set_option maxRecDepth 100000 in
theorem c_R_multiply (l : Launch) (D : va_G) (Y : Nat → ClassId) (lo : Nat) {M : Hm} {ma p rf th : Nat} {E : Nat → Nat} {c : Nat → Nat → Nat} (hm : mo Y M ma E p rf th c) {P : Nat → Pf} (hP : rr c P) (hPp : ∀ r, r < 12 → ∀ m, P r m < p) {r a b : Nat} (hr : r < 12) (ha : a < 12) (hb9 : b < 12) (hdg : ∀ u, u < 3 → dgl u (tp (P a)) 0 + dgl u (tp (P b)) 0 ≤ 12) : ct l D Y lo y_R_multiply b_R_multiply 6 (some .boolean) 3 [.ref ma, .int (nI r), .int (nI a), .int (nI b)] M (fun r9 M' => ∃ c' : Nat → Nat → Nat, r9 = some (.int (nI 1)) ∧ mo Y M' ma E p rf 0 c' ∧ rr c' (va_up P r (mulP p (P a) (P b))) ∧ hp_off (fun i => i = 1000) M M') nx 0 0 := by
  refine ct_of (by decide) (Nat.le_of_ble_eq_true rfl) ?_
  intro pg eg sg mg bw mt cg ls X hst hl
  have X1 := X
  obtain ⟨hx, hb, hml, hrt, hlocks, hown, hnm, hts, hkz, hex⟩ := X1
  have hG : ∀ w ∈ GW, w.before _ sg = true := fun w h => hts w (List.mem_cons_of_mem _ h)
  have hK := hkz.1
  have hl : lv_has ls 6 [(0, .ref ma), (1, .int (nI r)), (2, .int (nI a)), (3, .int (nI b))] := hl
  obtain ⟨hp2, hp3⟩ := hm.p2
  refine lv_aload_n hx hb dR_multiply_0 rfl (lv_at hl 0 rfl) ?_
  refine lv_iload_n hx hb dR_multiply_1 rfl (lv_at hl 1 rfl) ?_
  refine ct_callS (av2 := [.int (nI r)]) (rest := [.ref ma]) X hst (g_R_isRegister l D Y lo hr) wc_R_isRegister ml_R_85 ws_R_isRegister wn_R md_R_isRegister (by decide) hl.1 rfl (Nat.le_of_ble_eq_true rfl) ⟨by omega, by omega⟩ (fun _ _ h => h.elim) dR_multiply_2 (fun r M' H locs hp hst => ?_)
  obtain ⟨rfl, rfl⟩ := hp
  refine lv_if_eq hx hb dR_multiply_5 (tgt := 22) rfl (fun hc => absurd hc (by decide)) (fun hc => ?_)
  refine lv_iload_n hx hb dR_multiply_8 rfl (lv_at hl 2 rfl) ?_
  refine ct_callS (av2 := [.int (nI a)]) (rest := [.ref ma]) X hst (g_R_isRegister l D Y lo ha) wc_R_isRegister ml_R_85 ws_R_isRegister wn_R md_R_isRegister (by decide) hl.1 rfl (Nat.le_of_ble_eq_true rfl) ⟨by omega, by omega⟩ (fun _ _ h => h.elim) dR_multiply_9 (fun r M' H locs hp hst => ?_)
  obtain ⟨rfl, rfl⟩ := hp
  refine lv_if_eq hx hb dR_multiply_12 (tgt := 22) rfl (fun hc => absurd hc (by decide)) (fun hc => ?_)
  refine lv_iload_n hx hb dR_multiply_15 rfl (lv_at hl 3 rfl) ?_
  refine ct_callS (av2 := [.int (nI b)]) (rest := [.ref ma]) X hst (g_R_isRegister l D Y lo hb9) wc_R_isRegister ml_R_85 ws_R_isRegister wn_R md_R_isRegister (by decide) hl.1 rfl (Nat.le_of_ble_eq_true rfl) ⟨by omega, by omega⟩ (fun _ _ h => h.elim) dR_multiply_16 (fun r M' H locs hp hst => ?_)
  obtain ⟨rfl, rfl⟩ := hp
  refine lv_if_ne hx hb dR_multiply_19 (tgt := 26) rfl (fun hc => ?_) (fun hc => absurd hc (by decide))
  refine lv_iconst (v := nI 0) hx hb dR_multiply_26 (by decide +kernel) ?_
  refine lv_iconst (v := nI 0) hx hb dR_multiply_27 (by decide +kernel) ?_
  refine ct_callV (av2 := [.int (nI 0), .int (nI 0)]) (rest := []) (b := ma) X hst (c_R_fails l D Y lo hm (a := 0) (b := 0) (by omega) (by omega)) hm.ob rfl wc_R_fails ml_R_88 wi_R_fails wl_R_fails wn_R md_R_fails (by decide) hl.1 rfl (Nat.le_of_ble_eq_true rfl) ⟨by omega, by omega⟩ (fun _ _ h => h.elim) dR_multiply_28 (fun r MF H locs hp hst => ?_)
  obtain ⟨rfl, hmF, hoF⟩ := hp
  have hmF : mo Y MF ma E p rf 0 c := hmF
  refine lv_if_eq hx hb dR_multiply_31 (tgt := 36) rfl (fun hc => ?_) (fun hc => absurd hc (by decide))
  refine lv_aload_n hx hb dR_multiply_36 rfl (lv_at hl 0 rfl) ?_
  refine lv_iload_n hx hb dR_multiply_37 rfl (lv_at hl 2 rfl) ?_
  refine lv_aload_n hx hb dR_multiply_38 rfl (lv_at hl 0 rfl) ?_
  refine hp_get hx hb hG in_R hown hK hst hmF.ob rfl 6 (by decide) (hG _ fl_R_21) rfl rfl dR_multiply_39 ?_
  refine ct_callV (av2 := [.int (nI a), .ref (E 4)]) (rest := []) (b := ma) X hst (c_R_load l D Y lo hmF ha (j := 4) (by omega) (by omega)) hmF.ob rfl wc_R_load ml_R_99 wi_R_load wl_R_load wn_R md_R_load (by decide) hl.1 rfl (Nat.le_of_ble_eq_true rfl) ⟨by omega, by omega⟩ (fun _ _ h => h.elim) dR_multiply_42 (fun r ML4 H locs hp hst => ?_)
  obtain ⟨cL4, rfl, hmL4, sL4, vL4, hoL4⟩ := hp
  refine lv_aload_n hx hb dR_multiply_45 rfl (lv_at hl 0 rfl) ?_
  refine lv_iload_n hx hb dR_multiply_46 rfl (lv_at hl 3 rfl) ?_
  refine lv_aload_n hx hb dR_multiply_47 rfl (lv_at hl 0 rfl) ?_
  refine hp_get hx hb hG in_R hown hK hst hmL4.ob rfl 7 (by decide) (hG _ fl_R_24) rfl rfl dR_multiply_48 ?_
  refine ct_callV (av2 := [.int (nI b), .ref (E 5)]) (rest := []) (b := ma) X hst (c_R_load l D Y lo hmL4 hb9 (j := 5) (by omega) (by omega)) hmL4.ob rfl wc_R_load ml_R_99 wi_R_load wl_R_load wn_R md_R_load (by decide) hl.1 rfl (Nat.le_of_ble_eq_true rfl) ⟨by omega, by omega⟩ (fun _ _ h => h.elim) dR_multiply_51 (fun r ML5 H locs hp hst => ?_)
  obtain ⟨cL5, rfl, hmL5, sL5, vL5, hoL5⟩ := hp
  have e3 : cL5 3 = c 3 := (sL5 3 (by omega)).trans (sL4 3 (by omega))
  have e4 : rp (cL5 4) (P a) := fun k hk => by rw [sL5 4 (by omega), vL4 k hk]; exact hP a ha k hk
  have e5 : rp (cL5 5) (P b) := fun k hk => by rw [vL5 k hk, sL4 3 (by omega)]; exact hP b hb9 k hk
  refine lv_iconst (v := nI 0) hx hb dR_multiply_54 (by decide +kernel) ?_
  refine lv_istore (lv' := [(4, .int (nI 0)), (0, .ref ma), (1, .int (nI r)), (2, .int (nI a)), (3, .int (nI b))]) hx hb dR_multiply_55 hl (by decide) rfl (fun ls hl => ?_)
  refine lv_iconst (v := nI 0) hx hb dR_multiply_57 (by decide +kernel) ?_
  refine lv_istore (lv' := [(5, .int (nI 0)), (4, .int (nI 0)), (0, .ref ma), (1, .int (nI r)), (2, .int (nI a)), (3, .int (nI b))]) hx hb dR_multiply_58 hl (by decide) rfl (fun ls hl => ?_)
  have LP : ∀ (kk : Nat) (z u : Nat) (H : Heap) (locs : List Loc) (ls : Array Slot), kk = 3 - u → (u ≤ 3) → (z ≤ 1) → (z = 1 ↔ ∃ y, y < u ∧ ¬ dgl y (tp (P a)) 0 + dgl y (tp (P b)) 0 ≤ 12) → hp_st D vC lo ML5 sg.heap H locs → lv_has ls 6 [(0, .ref ma), (1, .int (nI r)), (4, .int (nI z)), (5, .int (nI u))] → cW pg l eg sg mg [.ref ma, .int (nI r), .int (nI a), .int (nI b)] bw mt cg y_R_multiply b_R_multiply 6 (some .boolean) 3 D lo (fun r9 M' => ∃ c' : Nat → Nat → Nat, r9 = some (.int (nI 1)) ∧ mo Y M' ma E p rf 0 c' ∧ rr c' (va_up P r (mulP p (P a) (P b))) ∧ hp_off (fun i => i = 1000) M M') nx 0 0 H locs 0 0 (F0 mg 60 ls []) := by
    intro kk
    induction kk using Nat.strongRecOn with
    | _ kk ihLP =>
    intro z u H locs ls hkk hu9 hz1 hz2 hst hl
    refine lv_iload hx hb dR_multiply_60 (lv_at hl 3 rfl) ?_
    refine lv_iconst (v := nI 3) hx hb dR_multiply_62 (by decide +kernel) ?_
    refine lv_icmp_ge hx hb dR_multiply_63 (tgt := 110) rfl (fun hc => ?_) (fun hc => ?_)
    · skip
      have hc5 : 3 ≤ u := (nI_leI (by omega) (by omega)).mp hc
      refine lv_aload_n hx hb dR_multiply_110 rfl (lv_at hl 0 rfl) ?_
      refine lv_iload hx hb dR_multiply_111 (lv_at hl 2 rfl) ?_
      refine ct_callV (av2 := [.int (nI z)]) (rest := []) (b := ma) X hst (c_R_refuses l D Y lo hmL5 (a := z) hz1) hmL5.ob rfl wc_R_refuses ml_R_106 wi_R_refuses wl_R_refuses wn_R md_R_refuses (by decide) hl.1 rfl (Nat.le_of_ble_eq_true rfl) ⟨by omega, by omega⟩ (fun _ _ h => h.elim) dR_multiply_113 (fun r MR H locs hp hst => ?_)
      obtain ⟨rfl, hmR, hoR⟩ := hp
      have hoo := ((hoF.tr hoL4).tr hoL5).tr hoR
      have hz0 : z = 0 := by
        have : z ≠ 1 := fun q => by
          obtain ⟨y, y1, y2⟩ := hz2.mp q
          exact y2 (hdg y (by omega))
        omega
      subst hz0
      have hmR : mo Y MR ma E p rf 0 cL5 := hmR
      refine lv_if_eq hx hb dR_multiply_116 (tgt := 121) rfl (fun hc => ?_) (fun hc => absurd hc (by decide))
      refine lv_aload_n hx hb dR_multiply_121 rfl (lv_at hl 0 rfl) ?_
      refine lv_aload_n hx hb dR_multiply_122 rfl (lv_at hl 0 rfl) ?_
      refine hp_get hx hb hG in_R hown hK hst hmR.ob rfl 6 (by decide) (hG _ fl_R_21) rfl rfl dR_multiply_123 ?_
      refine lv_aload_n hx hb dR_multiply_126 rfl (lv_at hl 0 rfl) ?_
      refine hp_get hx hb hG in_R hown hK hst hmR.ob rfl 7 (by decide) (hG _ fl_R_24) rfl rfl dR_multiply_127 ?_
      refine ct_callV (av2 := [.ref (E 4), .ref (E 5)]) (rest := []) (b := ma) X hst (c_R_times l D Y lo hmR (ja := 4) (jb := 5) (by omega) (by omega) (by omega) (by omega) (by omega) (by omega) (by omega) (by omega) e4 e5 (hPp a ha) (hPp b hb9) (mul_s3 hdg)) hmR.ob rfl wc_R_times ml_R_110 wi_R_times wl_R_times wn_R md_R_times (by decide) hl.1 rfl (Nat.le_of_ble_eq_true rfl) ⟨by omega, by omega⟩ (fun _ _ h => h.elim) dR_multiply_130 (fun r MT H locs hp hst => ?_)
      obtain ⟨cT, rfl, hmT, sT, rT, hoT⟩ := hp
      have hPn : rr cT P := fun r hr k hk => by rw [sT 3 (by omega) (by omega) (by omega), e3]; exact hP r hr k hk
      refine lv_aload_n hx hb dR_multiply_133 rfl (lv_at hl 0 rfl) ?_
      refine lv_iload_n hx hb dR_multiply_134 rfl (lv_at hl 1 rfl) ?_
      refine lv_aload_n hx hb dR_multiply_135 rfl (lv_at hl 0 rfl) ?_
      refine hp_get hx hb hG in_R hown hK hst hmT.ob rfl 6 (by decide) (hG _ fl_R_21) rfl rfl dR_multiply_136 ?_
      refine ct_callV (av2 := [.int (nI r), .ref (E 4)]) (rest := []) (b := ma) X hst (c_R_keep l D Y lo hmT hr (j := 4) (by omega) (by omega)) hmT.ob rfl wc_R_keep ml_R_92 wi_R_keep wl_R_keep wn_R md_R_keep (by decide) hl.1 rfl (Nat.le_of_ble_eq_true rfl) ⟨by omega, by omega⟩ (fun _ _ h => h.elim) dR_multiply_139 (fun r MK H locs hp hst => ?_)
      obtain ⟨cK, rfl, hmK, sK, vK, nK, hoK⟩ := hp
      have hrK : rr cK (va_up P r (mulP p (P a) (P b))) := rr_keep hPn vK nK rT
      refine lv_iconst (v := nI 1) hx hb dR_multiply_142 (by decide +kernel) ?_
      exact ct_zret X hst (by omega) ⟨cK, rfl, hmK, hrK, (hoo.tr hoT).tr hoK⟩ (by omega) (by omega) dR_multiply_143
    · skip
      have hc5 : ¬ 3 ≤ u := fun z => hc ((nI_leI (by omega) (by omega)).mpr z)
      have hu : u < 3 := by omega
      have d1 := dgl_lt (v := u) (g := 0) (L := tp (P a)) (by omega)
      have d2 := dgl_lt (v := u) (g := 0) (L := tp (P b)) (by omega)
      refine lv_iload hx hb dR_multiply_66 (lv_at hl 2 rfl) ?_
      refine lv_if_ne hx hb dR_multiply_68 (tgt := 97) rfl (fun hc => ?_) (fun hc => ?_)
      · skip
        rw [← nI_0] at hc
        have hcz : ¬ z = 0 := fun z => hc ((nI_eq (by omega) (by omega)).mpr z)
        refine lv_iconst (v := nI 1) hx hb dR_multiply_97 (by decide +kernel) ?_
        refine lv_goto hx hb dR_multiply_98 (tgt := 102) rfl ?_
        refine lv_istore (lv' := [(4, .int (nI 1)), (0, .ref ma), (1, .int (nI r)), (5, .int (nI u))]) hx hb dR_multiply_102 hl (by decide) rfl (fun ls hl => ?_)
        refine lv_iinc (lv' := [(5, .int (nI (u + 1))), (4, .int (nI 1)), (0, .ref ma), (1, .int (nI r))]) hx hb dR_multiply_104 hl (k := 3) rfl (ii_p _) (by decide) rfl (fun ls hl => ?_)
        refine lv_goto hx hb dR_multiply_107 (tgt := 60) rfl ?_
        exact ihLP _ (by omega) 1 (u + 1) _ _ _ rfl (by omega) (by omega) ⟨fun _ => by obtain ⟨y, y1, y2⟩ := hz2.mp (by omega); exact ⟨y, by omega, y2⟩, fun _ => rfl⟩ hst (lv_sub hl [2, 3, 1, 0] rfl)
      · skip
        rw [← nI_0] at hc
        have hcz : z = 0 := (nI_eq (by omega) (by omega)).mp hc
        refine lv_aload_n hx hb dR_multiply_71 rfl (lv_at hl 0 rfl) ?_
        refine lv_aload_n hx hb dR_multiply_72 rfl (lv_at hl 0 rfl) ?_
        refine hp_get hx hb hG in_R hown hK hst hmL5.ob rfl 6 (by decide) (hG _ fl_R_21) rfl rfl dR_multiply_73 ?_
        refine lv_iload hx hb dR_multiply_76 (lv_at hl 3 rfl) ?_
        refine ct_callV (av2 := [.ref (E 4), .int (nI u)]) (rest := []) (b := ma) X hst (c_R_degreeOf l D Y lo hmL5 (j := 4) (by omega) (by omega) e4 (p31 hp3 hPp ha) (v := u) hu) hmL5.ob rfl wc_R_degreeOf ml_R_102 wi_R_degreeOf wl_R_degreeOf wn_R md_R_degreeOf (by decide) hl.1 rfl (Nat.le_of_ble_eq_true rfl) ⟨by omega, by omega⟩ (fun _ _ h => h.elim) dR_multiply_78 (fun r M' H locs hp hst => ?_)
        obtain ⟨rfl, rfl⟩ := hp
        refine lv_aload_n hx hb dR_multiply_81 rfl (lv_at hl 0 rfl) ?_
        refine lv_aload_n hx hb dR_multiply_82 rfl (lv_at hl 0 rfl) ?_
        refine hp_get hx hb hG in_R hown hK hst hmL5.ob rfl 7 (by decide) (hG _ fl_R_24) rfl rfl dR_multiply_83 ?_
        refine lv_iload hx hb dR_multiply_86 (lv_at hl 3 rfl) ?_
        refine ct_callV (av2 := [.ref (E 5), .int (nI u)]) (rest := [.int (nI (dgl u (tp (P a)) 0))]) (b := ma) X hst (c_R_degreeOf l D Y lo hmL5 (j := 5) (by omega) (by omega) e5 (p31 hp3 hPp hb9) (v := u) hu) hmL5.ob rfl wc_R_degreeOf ml_R_102 wi_R_degreeOf wl_R_degreeOf wn_R md_R_degreeOf (by decide) hl.1 rfl (Nat.le_of_ble_eq_true rfl) ⟨by omega, by omega⟩ (fun _ _ h => h.elim) dR_multiply_88 (fun r M' H locs hp hst => ?_)
        obtain ⟨rfl, rfl⟩ := hp
        refine t_iadd hx hb dR_multiply_91 (v := nI ((dgl u (tp (P a)) 0) + (dgl u (tp (P b)) 0))) (nI_add _ _) ?_
        refine lv_bipush (v := nI 12) hx hb dR_multiply_92 (by decide +kernel) ?_
        refine lv_icmp_le hx hb dR_multiply_94 (tgt := 101) rfl (fun hc => ?_) (fun hc => ?_)
        · skip
          have hcd : ((dgl u (tp (P a)) 0) + (dgl u (tp (P b)) 0)) ≤ 12 := (nI_leI (by omega) (by omega)).mp hc
          refine lv_iconst (v := nI 0) hx hb dR_multiply_101 (by decide +kernel) ?_
          refine lv_istore (lv' := [(4, .int (nI 0)), (0, .ref ma), (1, .int (nI r)), (5, .int (nI u))]) hx hb dR_multiply_102 hl (by decide) rfl (fun ls hl => ?_)
          refine lv_iinc (lv' := [(5, .int (nI (u + 1))), (4, .int (nI 0)), (0, .ref ma), (1, .int (nI r))]) hx hb dR_multiply_104 hl (k := 3) rfl (ii_p _) (by decide) rfl (fun ls hl => ?_)
          refine lv_goto hx hb dR_multiply_107 (tgt := 60) rfl ?_
          exact ihLP _ (by omega) 0 (u + 1) _ _ _ rfl (by omega) (by omega) ⟨fun q => by omega, fun ⟨y, y1, y2⟩ => by
              by_cases h9 : y = u
              · subst h9; exact absurd hcd y2
              · exact absurd (hz2.mpr ⟨y, by omega, y2⟩) (by omega)⟩ hst (lv_sub hl [2, 3, 1, 0] rfl)
        · skip
          have hcd : ¬ ((dgl u (tp (P a)) 0) + (dgl u (tp (P b)) 0)) ≤ 12 := fun z => hc ((nI_leI (by omega) (by omega)).mpr z)
          refine lv_iconst (v := nI 1) hx hb dR_multiply_97 (by decide +kernel) ?_
          refine lv_goto hx hb dR_multiply_98 (tgt := 102) rfl ?_
          refine lv_istore (lv' := [(4, .int (nI 1)), (0, .ref ma), (1, .int (nI r)), (5, .int (nI u))]) hx hb dR_multiply_102 hl (by decide) rfl (fun ls hl => ?_)
          refine lv_iinc (lv' := [(5, .int (nI (u + 1))), (4, .int (nI 1)), (0, .ref ma), (1, .int (nI r))]) hx hb dR_multiply_104 hl (k := 3) rfl (ii_p _) (by decide) rfl (fun ls hl => ?_)
          refine lv_goto hx hb dR_multiply_107 (tgt := 60) rfl ?_
          exact ihLP _ (by omega) 1 (u + 1) _ _ _ rfl (by omega) (by omega) ⟨fun _ => ⟨u, by omega, hcd⟩, fun _ => rfl⟩ hst (lv_sub hl [2, 3, 1, 0] rfl)
  exact LP _ 0 0 _ _ _ rfl (by omega) (by omega) ⟨fun q => by omega, fun ⟨y, y1, _⟩ => by omega⟩ hst (lv_sub hl [2, 3, 1, 0] rfl)

set_option maxHeartbeats 4000000 in
set_option maxRecDepth 100000 in
theorem n_R_multiply (l : Launch) (D : va_G) (Y : Nat → ClassId) (lo : Nat) {M : Hm} {ma p rf th : Nat} {E : Nat → Nat} {c : Nat → Nat → Nat} (hm : mo Y M ma E p rf th c) {P : Nat → Pf} (hP : rr c P) (hPp : ∀ r, r < 12 → ∀ m, P r m < p) {r a b : Nat} (hr : r < 12) (ha : a < 12) (hb9 : b < 12) (hdg : ¬ ∀ u, u < 3 → dgl u (tp (P a)) 0 + dgl u (tp (P b)) 0 ≤ 12) : ct l D Y lo y_R_multiply b_R_multiply 6 (some .boolean) 3 [.ref ma, .int (nI r), .int (nI a), .int (nI b)] M (fun r9 M' => ∃ c' : Nat → Nat → Nat, r9 = some (.int (nI 0)) ∧ mo Y M' ma E p (rf + 1) 0 c' ∧ rr c' (P) ∧ hp_off (fun i => i = 1000) M M') nx 0 0 := by
  refine ct_of (by decide) (Nat.le_of_ble_eq_true rfl) ?_
  intro pg eg sg mg bw mt cg ls X hst hl
  have X1 := X
  obtain ⟨hx, hb, hml, hrt, hlocks, hown, hnm, hts, hkz, hex⟩ := X1
  have hG : ∀ w ∈ GW, w.before _ sg = true := fun w h => hts w (List.mem_cons_of_mem _ h)
  have hK := hkz.1
  have hl : lv_has ls 6 [(0, .ref ma), (1, .int (nI r)), (2, .int (nI a)), (3, .int (nI b))] := hl
  obtain ⟨hp2, hp3⟩ := hm.p2
  refine lv_aload_n hx hb dR_multiply_0 rfl (lv_at hl 0 rfl) ?_
  refine lv_iload_n hx hb dR_multiply_1 rfl (lv_at hl 1 rfl) ?_
  refine ct_callS (av2 := [.int (nI r)]) (rest := [.ref ma]) X hst (g_R_isRegister l D Y lo hr) wc_R_isRegister ml_R_85 ws_R_isRegister wn_R md_R_isRegister (by decide) hl.1 rfl (Nat.le_of_ble_eq_true rfl) ⟨by omega, by omega⟩ (fun _ _ h => h.elim) dR_multiply_2 (fun r M' H locs hp hst => ?_)
  obtain ⟨rfl, rfl⟩ := hp
  refine lv_if_eq hx hb dR_multiply_5 (tgt := 22) rfl (fun hc => absurd hc (by decide)) (fun hc => ?_)
  refine lv_iload_n hx hb dR_multiply_8 rfl (lv_at hl 2 rfl) ?_
  refine ct_callS (av2 := [.int (nI a)]) (rest := [.ref ma]) X hst (g_R_isRegister l D Y lo ha) wc_R_isRegister ml_R_85 ws_R_isRegister wn_R md_R_isRegister (by decide) hl.1 rfl (Nat.le_of_ble_eq_true rfl) ⟨by omega, by omega⟩ (fun _ _ h => h.elim) dR_multiply_9 (fun r M' H locs hp hst => ?_)
  obtain ⟨rfl, rfl⟩ := hp
  refine lv_if_eq hx hb dR_multiply_12 (tgt := 22) rfl (fun hc => absurd hc (by decide)) (fun hc => ?_)
  refine lv_iload_n hx hb dR_multiply_15 rfl (lv_at hl 3 rfl) ?_
  refine ct_callS (av2 := [.int (nI b)]) (rest := [.ref ma]) X hst (g_R_isRegister l D Y lo hb9) wc_R_isRegister ml_R_85 ws_R_isRegister wn_R md_R_isRegister (by decide) hl.1 rfl (Nat.le_of_ble_eq_true rfl) ⟨by omega, by omega⟩ (fun _ _ h => h.elim) dR_multiply_16 (fun r M' H locs hp hst => ?_)
  obtain ⟨rfl, rfl⟩ := hp
  refine lv_if_ne hx hb dR_multiply_19 (tgt := 26) rfl (fun hc => ?_) (fun hc => absurd hc (by decide))
  refine lv_iconst (v := nI 0) hx hb dR_multiply_26 (by decide +kernel) ?_
  refine lv_iconst (v := nI 0) hx hb dR_multiply_27 (by decide +kernel) ?_
  refine ct_callV (av2 := [.int (nI 0), .int (nI 0)]) (rest := []) (b := ma) X hst (c_R_fails l D Y lo hm (a := 0) (b := 0) (by omega) (by omega)) hm.ob rfl wc_R_fails ml_R_88 wi_R_fails wl_R_fails wn_R md_R_fails (by decide) hl.1 rfl (Nat.le_of_ble_eq_true rfl) ⟨by omega, by omega⟩ (fun _ _ h => h.elim) dR_multiply_28 (fun r MF H locs hp hst => ?_)
  obtain ⟨rfl, hmF, hoF⟩ := hp
  have hmF : mo Y MF ma E p rf 0 c := hmF
  refine lv_if_eq hx hb dR_multiply_31 (tgt := 36) rfl (fun hc => ?_) (fun hc => absurd hc (by decide))
  refine lv_aload_n hx hb dR_multiply_36 rfl (lv_at hl 0 rfl) ?_
  refine lv_iload_n hx hb dR_multiply_37 rfl (lv_at hl 2 rfl) ?_
  refine lv_aload_n hx hb dR_multiply_38 rfl (lv_at hl 0 rfl) ?_
  refine hp_get hx hb hG in_R hown hK hst hmF.ob rfl 6 (by decide) (hG _ fl_R_21) rfl rfl dR_multiply_39 ?_
  refine ct_callV (av2 := [.int (nI a), .ref (E 4)]) (rest := []) (b := ma) X hst (c_R_load l D Y lo hmF ha (j := 4) (by omega) (by omega)) hmF.ob rfl wc_R_load ml_R_99 wi_R_load wl_R_load wn_R md_R_load (by decide) hl.1 rfl (Nat.le_of_ble_eq_true rfl) ⟨by omega, by omega⟩ (fun _ _ h => h.elim) dR_multiply_42 (fun r ML4 H locs hp hst => ?_)
  obtain ⟨cL4, rfl, hmL4, sL4, vL4, hoL4⟩ := hp
  refine lv_aload_n hx hb dR_multiply_45 rfl (lv_at hl 0 rfl) ?_
  refine lv_iload_n hx hb dR_multiply_46 rfl (lv_at hl 3 rfl) ?_
  refine lv_aload_n hx hb dR_multiply_47 rfl (lv_at hl 0 rfl) ?_
  refine hp_get hx hb hG in_R hown hK hst hmL4.ob rfl 7 (by decide) (hG _ fl_R_24) rfl rfl dR_multiply_48 ?_
  refine ct_callV (av2 := [.int (nI b), .ref (E 5)]) (rest := []) (b := ma) X hst (c_R_load l D Y lo hmL4 hb9 (j := 5) (by omega) (by omega)) hmL4.ob rfl wc_R_load ml_R_99 wi_R_load wl_R_load wn_R md_R_load (by decide) hl.1 rfl (Nat.le_of_ble_eq_true rfl) ⟨by omega, by omega⟩ (fun _ _ h => h.elim) dR_multiply_51 (fun r ML5 H locs hp hst => ?_)
  obtain ⟨cL5, rfl, hmL5, sL5, vL5, hoL5⟩ := hp
  have e3 : cL5 3 = c 3 := (sL5 3 (by omega)).trans (sL4 3 (by omega))
  have e4 : rp (cL5 4) (P a) := fun k hk => by rw [sL5 4 (by omega), vL4 k hk]; exact hP a ha k hk
  have e5 : rp (cL5 5) (P b) := fun k hk => by rw [vL5 k hk, sL4 3 (by omega)]; exact hP b hb9 k hk
  refine lv_iconst (v := nI 0) hx hb dR_multiply_54 (by decide +kernel) ?_
  refine lv_istore (lv' := [(4, .int (nI 0)), (0, .ref ma), (1, .int (nI r)), (2, .int (nI a)), (3, .int (nI b))]) hx hb dR_multiply_55 hl (by decide) rfl (fun ls hl => ?_)
  refine lv_iconst (v := nI 0) hx hb dR_multiply_57 (by decide +kernel) ?_
  refine lv_istore (lv' := [(5, .int (nI 0)), (4, .int (nI 0)), (0, .ref ma), (1, .int (nI r)), (2, .int (nI a)), (3, .int (nI b))]) hx hb dR_multiply_58 hl (by decide) rfl (fun ls hl => ?_)
  have LP : ∀ (kk : Nat) (z u : Nat) (H : Heap) (locs : List Loc) (ls : Array Slot), kk = 3 - u → (u ≤ 3) → (z ≤ 1) → (z = 1 ↔ ∃ y, y < u ∧ ¬ dgl y (tp (P a)) 0 + dgl y (tp (P b)) 0 ≤ 12) → hp_st D vC lo ML5 sg.heap H locs → lv_has ls 6 [(0, .ref ma), (1, .int (nI r)), (4, .int (nI z)), (5, .int (nI u))] → cW pg l eg sg mg [.ref ma, .int (nI r), .int (nI a), .int (nI b)] bw mt cg y_R_multiply b_R_multiply 6 (some .boolean) 3 D lo (fun r9 M' => ∃ c' : Nat → Nat → Nat, r9 = some (.int (nI 0)) ∧ mo Y M' ma E p (rf + 1) 0 c' ∧ rr c' (P) ∧ hp_off (fun i => i = 1000) M M') nx 0 0 H locs 0 0 (F0 mg 60 ls []) := by
    intro kk
    induction kk using Nat.strongRecOn with
    | _ kk ihLP =>
    intro z u H locs ls hkk hu9 hz1 hz2 hst hl
    refine lv_iload hx hb dR_multiply_60 (lv_at hl 3 rfl) ?_
    refine lv_iconst (v := nI 3) hx hb dR_multiply_62 (by decide +kernel) ?_
    refine lv_icmp_ge hx hb dR_multiply_63 (tgt := 110) rfl (fun hc => ?_) (fun hc => ?_)
    · skip
      have hc5 : 3 ≤ u := (nI_leI (by omega) (by omega)).mp hc
      refine lv_aload_n hx hb dR_multiply_110 rfl (lv_at hl 0 rfl) ?_
      refine lv_iload hx hb dR_multiply_111 (lv_at hl 2 rfl) ?_
      refine ct_callV (av2 := [.int (nI z)]) (rest := []) (b := ma) X hst (c_R_refuses l D Y lo hmL5 (a := z) hz1) hmL5.ob rfl wc_R_refuses ml_R_106 wi_R_refuses wl_R_refuses wn_R md_R_refuses (by decide) hl.1 rfl (Nat.le_of_ble_eq_true rfl) ⟨by omega, by omega⟩ (fun _ _ h => h.elim) dR_multiply_113 (fun r MR H locs hp hst => ?_)
      obtain ⟨rfl, hmR, hoR⟩ := hp
      have hoo := ((hoF.tr hoL4).tr hoL5).tr hoR
      have hz0 : z = 1 := hz2.mpr (by
        apply Classical.byContradiction
        intro q
        exact hdg (fun u hu => Classical.byContradiction (fun y => q ⟨u, by omega, y⟩)))
      subst hz0
      refine lv_if_eq hx hb dR_multiply_116 (tgt := 121) rfl (fun hc => absurd hc (by decide)) (fun hc => ?_)
      refine lv_iconst (v := nI 0) hx hb dR_multiply_119 (by decide +kernel) ?_
      exact ct_zret X hst (by omega) ⟨cL5, rfl, hmR, fun r hr k hk => by rw [e3]; exact hP r hr k hk, hoo⟩ (by omega) (by omega) dR_multiply_120
    · skip
      have hc5 : ¬ 3 ≤ u := fun z => hc ((nI_leI (by omega) (by omega)).mpr z)
      have hu : u < 3 := by omega
      have d1 := dgl_lt (v := u) (g := 0) (L := tp (P a)) (by omega)
      have d2 := dgl_lt (v := u) (g := 0) (L := tp (P b)) (by omega)
      refine lv_iload hx hb dR_multiply_66 (lv_at hl 2 rfl) ?_
      refine lv_if_ne hx hb dR_multiply_68 (tgt := 97) rfl (fun hc => ?_) (fun hc => ?_)
      · skip
        rw [← nI_0] at hc
        have hcz : ¬ z = 0 := fun z => hc ((nI_eq (by omega) (by omega)).mpr z)
        refine lv_iconst (v := nI 1) hx hb dR_multiply_97 (by decide +kernel) ?_
        refine lv_goto hx hb dR_multiply_98 (tgt := 102) rfl ?_
        refine lv_istore (lv' := [(4, .int (nI 1)), (0, .ref ma), (1, .int (nI r)), (5, .int (nI u))]) hx hb dR_multiply_102 hl (by decide) rfl (fun ls hl => ?_)
        refine lv_iinc (lv' := [(5, .int (nI (u + 1))), (4, .int (nI 1)), (0, .ref ma), (1, .int (nI r))]) hx hb dR_multiply_104 hl (k := 3) rfl (ii_p _) (by decide) rfl (fun ls hl => ?_)
        refine lv_goto hx hb dR_multiply_107 (tgt := 60) rfl ?_
        exact ihLP _ (by omega) 1 (u + 1) _ _ _ rfl (by omega) (by omega) ⟨fun _ => by obtain ⟨y, y1, y2⟩ := hz2.mp (by omega); exact ⟨y, by omega, y2⟩, fun _ => rfl⟩ hst (lv_sub hl [2, 3, 1, 0] rfl)
      · skip
        rw [← nI_0] at hc
        have hcz : z = 0 := (nI_eq (by omega) (by omega)).mp hc
        refine lv_aload_n hx hb dR_multiply_71 rfl (lv_at hl 0 rfl) ?_
        refine lv_aload_n hx hb dR_multiply_72 rfl (lv_at hl 0 rfl) ?_
        refine hp_get hx hb hG in_R hown hK hst hmL5.ob rfl 6 (by decide) (hG _ fl_R_21) rfl rfl dR_multiply_73 ?_
        refine lv_iload hx hb dR_multiply_76 (lv_at hl 3 rfl) ?_
        refine ct_callV (av2 := [.ref (E 4), .int (nI u)]) (rest := []) (b := ma) X hst (c_R_degreeOf l D Y lo hmL5 (j := 4) (by omega) (by omega) e4 (p31 hp3 hPp ha) (v := u) hu) hmL5.ob rfl wc_R_degreeOf ml_R_102 wi_R_degreeOf wl_R_degreeOf wn_R md_R_degreeOf (by decide) hl.1 rfl (Nat.le_of_ble_eq_true rfl) ⟨by omega, by omega⟩ (fun _ _ h => h.elim) dR_multiply_78 (fun r M' H locs hp hst => ?_)
        obtain ⟨rfl, rfl⟩ := hp
        refine lv_aload_n hx hb dR_multiply_81 rfl (lv_at hl 0 rfl) ?_
        refine lv_aload_n hx hb dR_multiply_82 rfl (lv_at hl 0 rfl) ?_
        refine hp_get hx hb hG in_R hown hK hst hmL5.ob rfl 7 (by decide) (hG _ fl_R_24) rfl rfl dR_multiply_83 ?_
        refine lv_iload hx hb dR_multiply_86 (lv_at hl 3 rfl) ?_
        refine ct_callV (av2 := [.ref (E 5), .int (nI u)]) (rest := [.int (nI (dgl u (tp (P a)) 0))]) (b := ma) X hst (c_R_degreeOf l D Y lo hmL5 (j := 5) (by omega) (by omega) e5 (p31 hp3 hPp hb9) (v := u) hu) hmL5.ob rfl wc_R_degreeOf ml_R_102 wi_R_degreeOf wl_R_degreeOf wn_R md_R_degreeOf (by decide) hl.1 rfl (Nat.le_of_ble_eq_true rfl) ⟨by omega, by omega⟩ (fun _ _ h => h.elim) dR_multiply_88 (fun r M' H locs hp hst => ?_)
        obtain ⟨rfl, rfl⟩ := hp
        refine t_iadd hx hb dR_multiply_91 (v := nI ((dgl u (tp (P a)) 0) + (dgl u (tp (P b)) 0))) (nI_add _ _) ?_
        refine lv_bipush (v := nI 12) hx hb dR_multiply_92 (by decide +kernel) ?_
        refine lv_icmp_le hx hb dR_multiply_94 (tgt := 101) rfl (fun hc => ?_) (fun hc => ?_)
        · skip
          have hcd : ((dgl u (tp (P a)) 0) + (dgl u (tp (P b)) 0)) ≤ 12 := (nI_leI (by omega) (by omega)).mp hc
          refine lv_iconst (v := nI 0) hx hb dR_multiply_101 (by decide +kernel) ?_
          refine lv_istore (lv' := [(4, .int (nI 0)), (0, .ref ma), (1, .int (nI r)), (5, .int (nI u))]) hx hb dR_multiply_102 hl (by decide) rfl (fun ls hl => ?_)
          refine lv_iinc (lv' := [(5, .int (nI (u + 1))), (4, .int (nI 0)), (0, .ref ma), (1, .int (nI r))]) hx hb dR_multiply_104 hl (k := 3) rfl (ii_p _) (by decide) rfl (fun ls hl => ?_)
          refine lv_goto hx hb dR_multiply_107 (tgt := 60) rfl ?_
          exact ihLP _ (by omega) 0 (u + 1) _ _ _ rfl (by omega) (by omega) ⟨fun q => by omega, fun ⟨y, y1, y2⟩ => by
              by_cases h9 : y = u
              · subst h9; exact absurd hcd y2
              · exact absurd (hz2.mpr ⟨y, by omega, y2⟩) (by omega)⟩ hst (lv_sub hl [2, 3, 1, 0] rfl)
        · skip
          have hcd : ¬ ((dgl u (tp (P a)) 0) + (dgl u (tp (P b)) 0)) ≤ 12 := fun z => hc ((nI_leI (by omega) (by omega)).mpr z)
          refine lv_iconst (v := nI 1) hx hb dR_multiply_97 (by decide +kernel) ?_
          refine lv_goto hx hb dR_multiply_98 (tgt := 102) rfl ?_
          refine lv_istore (lv' := [(4, .int (nI 1)), (0, .ref ma), (1, .int (nI r)), (5, .int (nI u))]) hx hb dR_multiply_102 hl (by decide) rfl (fun ls hl => ?_)
          refine lv_iinc (lv' := [(5, .int (nI (u + 1))), (4, .int (nI 1)), (0, .ref ma), (1, .int (nI r))]) hx hb dR_multiply_104 hl (k := 3) rfl (ii_p _) (by decide) rfl (fun ls hl => ?_)
          refine lv_goto hx hb dR_multiply_107 (tgt := 60) rfl ?_
          exact ihLP _ (by omega) 1 (u + 1) _ _ _ rfl (by omega) (by omega) ⟨fun _ => ⟨u, by omega, hcd⟩, fun _ => rfl⟩ hst (lv_sub hl [2, 3, 1, 0] rfl)
  exact LP _ 0 0 _ _ _ rfl (by omega) (by omega) ⟨fun q => by omega, fun ⟨y, y1, _⟩ => by omega⟩ hst (lv_sub hl [2, 3, 1, 0] rfl)

set_option maxHeartbeats 4000000 in
set_option maxRecDepth 100000 in
theorem e_R_multiply (l : Launch) (D : va_G) (Y : Nat → ClassId) (lo : Nat) {M : Hm} {ma p rf th : Nat} {E : Nat → Nat} {c : Nat → Nat → Nat} (hm : mo Y M ma E p rf th c) {x1 x2 x3 : Int32} (hno : ¬ (inR x1 ∧ inR x2 ∧ inR x3)) : ct l D Y lo y_R_multiply b_R_multiply 6 (some .boolean) 3 [.ref ma, .int x1, .int x2, .int x3] M (fun r9 M' => ∃ t : Nat, r9 = some (.int (nI 0)) ∧ mo Y M' ma E p rf t c ∧ (t = 1 ∧ ¬ (inR x1 ∧ inR x2 ∧ inR x3) ∨ t = 2 ∧ (inR x1 ∧ inR x2 ∧ inR x3)) ∧ hp_off (fun i => i = 1000) M M') nx 0 0 := by
  refine ct_of (by decide) (Nat.le_of_ble_eq_true rfl) ?_
  intro pg eg sg mg bw mt cg ls X hst hl
  have X1 := X
  obtain ⟨hx, hb, hml, hrt, hlocks, hown, hnm, hts, hkz, hex⟩ := X1
  have hG : ∀ w ∈ GW, w.before _ sg = true := fun w h => hts w (List.mem_cons_of_mem _ h)
  have hK := hkz.1
  have hl : lv_has ls 6 [(0, .ref ma), (1, .int x1), (2, .int x2), (3, .int x3)] := hl
  refine lv_aload_n hx hb dR_multiply_0 rfl (lv_at hl 0 rfl) ?_
  refine lv_iload_n hx hb dR_multiply_1 rfl (lv_at hl 1 rfl) ?_
  refine ct_callS (av2 := [.int x1]) (rest := [.ref ma]) X hst (c_R_isRegister l D Y lo x1) wc_R_isRegister ml_R_85 ws_R_isRegister wn_R md_R_isRegister (by decide) hl.1 rfl (Nat.le_of_ble_eq_true rfl) ⟨by omega, by omega⟩ (fun _ _ h => h.elim) dR_multiply_2 (fun r M' H locs hp hst => ?_)
  obtain ⟨b1, rfl, hb1, ib1, rfl⟩ := hp
  refine lv_if_eq hx hb dR_multiply_5 (tgt := 22) rfl (fun hc => ?_) (fun hc => ?_)
  · skip
    rw [← nI_0] at hc
    have hz1 : b1 = 0 := (nI_eq (by omega) (by omega)).mp hc
    refine lv_iconst (v := nI 1) hx hb dR_multiply_22 (by decide +kernel) ?_
    refine lv_goto hx hb dR_multiply_23 (tgt := 27) rfl ?_
    refine lv_iconst (v := nI 0) hx hb dR_multiply_27 (by decide +kernel) ?_
    refine ct_callV (av2 := [.int (nI 1), .int (nI 0)]) (rest := []) (b := ma) X hst (c_R_fails l D Y lo hm (a := 1) (b := 0) (by omega) (by omega)) hm.ob rfl wc_R_fails ml_R_88 wi_R_fails wl_R_fails wn_R md_R_fails (by decide) hl.1 rfl (Nat.le_of_ble_eq_true rfl) ⟨by omega, by omega⟩ (fun _ _ h => h.elim) dR_multiply_28 (fun r MF H locs hp hst => ?_)
    obtain ⟨rfl, hmF, hoF⟩ := hp
    have hmF : mo Y MF ma E p rf 1 c := hmF
    refine lv_if_eq hx hb dR_multiply_31 (tgt := 36) rfl (fun hc => absurd hc (by decide)) (fun hc => ?_)
    refine lv_iconst (v := nI 0) hx hb dR_multiply_34 (by decide +kernel) ?_
    exact ct_zret X hst (by omega) ⟨1, rfl, hmF, Or.inl ⟨rfl, hno⟩, hoF⟩ (by omega) (by omega) dR_multiply_35
  · skip
    rw [← nI_0] at hc
    have hz1 : ¬ b1 = 0 := fun z => hc ((nI_eq (by omega) (by omega)).mpr z)
    refine lv_iload_n hx hb dR_multiply_8 rfl (lv_at hl 2 rfl) ?_
    refine ct_callS (av2 := [.int x2]) (rest := [.ref ma]) X hst (c_R_isRegister l D Y lo x2) wc_R_isRegister ml_R_85 ws_R_isRegister wn_R md_R_isRegister (by decide) hl.1 rfl (Nat.le_of_ble_eq_true rfl) ⟨by omega, by omega⟩ (fun _ _ h => h.elim) dR_multiply_9 (fun r M' H locs hp hst => ?_)
    obtain ⟨b2, rfl, hb2, ib2, rfl⟩ := hp
    refine lv_if_eq hx hb dR_multiply_12 (tgt := 22) rfl (fun hc => ?_) (fun hc => ?_)
    · skip
      rw [← nI_0] at hc
      have hz2 : b2 = 0 := (nI_eq (by omega) (by omega)).mp hc
      refine lv_iconst (v := nI 1) hx hb dR_multiply_22 (by decide +kernel) ?_
      refine lv_goto hx hb dR_multiply_23 (tgt := 27) rfl ?_
      refine lv_iconst (v := nI 0) hx hb dR_multiply_27 (by decide +kernel) ?_
      refine ct_callV (av2 := [.int (nI 1), .int (nI 0)]) (rest := []) (b := ma) X hst (c_R_fails l D Y lo hm (a := 1) (b := 0) (by omega) (by omega)) hm.ob rfl wc_R_fails ml_R_88 wi_R_fails wl_R_fails wn_R md_R_fails (by decide) hl.1 rfl (Nat.le_of_ble_eq_true rfl) ⟨by omega, by omega⟩ (fun _ _ h => h.elim) dR_multiply_28 (fun r MF H locs hp hst => ?_)
      obtain ⟨rfl, hmF, hoF⟩ := hp
      have hmF : mo Y MF ma E p rf 1 c := hmF
      refine lv_if_eq hx hb dR_multiply_31 (tgt := 36) rfl (fun hc => absurd hc (by decide)) (fun hc => ?_)
      refine lv_iconst (v := nI 0) hx hb dR_multiply_34 (by decide +kernel) ?_
      exact ct_zret X hst (by omega) ⟨1, rfl, hmF, Or.inl ⟨rfl, hno⟩, hoF⟩ (by omega) (by omega) dR_multiply_35
    · skip
      rw [← nI_0] at hc
      have hz2 : ¬ b2 = 0 := fun z => hc ((nI_eq (by omega) (by omega)).mpr z)
      refine lv_iload_n hx hb dR_multiply_15 rfl (lv_at hl 3 rfl) ?_
      refine ct_callS (av2 := [.int x3]) (rest := [.ref ma]) X hst (c_R_isRegister l D Y lo x3) wc_R_isRegister ml_R_85 ws_R_isRegister wn_R md_R_isRegister (by decide) hl.1 rfl (Nat.le_of_ble_eq_true rfl) ⟨by omega, by omega⟩ (fun _ _ h => h.elim) dR_multiply_16 (fun r M' H locs hp hst => ?_)
      obtain ⟨b3, rfl, hb3, ib3, rfl⟩ := hp
      refine lv_if_ne hx hb dR_multiply_19 (tgt := 26) rfl (fun hc => ?_) (fun hc => ?_)
      · skip
        rw [← nI_0] at hc
        have hz3 : ¬ b3 = 0 := fun z => hc ((nI_eq (by omega) (by omega)).mpr z)
        exact absurd ⟨ib1.mp (by omega), ib2.mp (by omega), ib3.mp (by omega)⟩ hno
      · skip
        rw [← nI_0] at hc
        have hz3 : b3 = 0 := (nI_eq (by omega) (by omega)).mp hc
        refine lv_iconst (v := nI 1) hx hb dR_multiply_22 (by decide +kernel) ?_
        refine lv_goto hx hb dR_multiply_23 (tgt := 27) rfl ?_
        refine lv_iconst (v := nI 0) hx hb dR_multiply_27 (by decide +kernel) ?_
        refine ct_callV (av2 := [.int (nI 1), .int (nI 0)]) (rest := []) (b := ma) X hst (c_R_fails l D Y lo hm (a := 1) (b := 0) (by omega) (by omega)) hm.ob rfl wc_R_fails ml_R_88 wi_R_fails wl_R_fails wn_R md_R_fails (by decide) hl.1 rfl (Nat.le_of_ble_eq_true rfl) ⟨by omega, by omega⟩ (fun _ _ h => h.elim) dR_multiply_28 (fun r MF H locs hp hst => ?_)
        obtain ⟨rfl, hmF, hoF⟩ := hp
        have hmF : mo Y MF ma E p rf 1 c := hmF
        refine lv_if_eq hx hb dR_multiply_31 (tgt := 36) rfl (fun hc => absurd hc (by decide)) (fun hc => ?_)
        refine lv_iconst (v := nI 0) hx hb dR_multiply_34 (by decide +kernel) ?_
        exact ct_zret X hst (by omega) ⟨1, rfl, hmF, Or.inl ⟨rfl, hno⟩, hoF⟩ (by omega) (by omega) dR_multiply_35
