/-! The law: its loop, its beginning. -/
set_option maxHeartbeats 4000000 in
set_option maxRecDepth 100000 in
theorem law_loop {pg : Program} {l : Launch} {eg : Env} {sg : State} {mg : MethodId} {bw : List Frame} {mt : Method} {cg : Code} {D : va_G} {Y : Nat → ClassId} {lo b L : Nat} {xs : Nat → Int32} {xa ma oa p : Nat} {A E : Nat → Nat} (hlt : l.stackTraces = false) (hL : L ≤ 2561) (X : lwx pg sg mg #[Value.ref b] cg D Y lo b L xs) (hr : mt.sig.returnType = ret) (hlocks : mt.locks = false) (hloe : lo = sg.heap.size) : ∀ (kk i : Nat), kk = L - i → i ≤ L + 1 → LG pg l eg sg mg bw mt cg D Y lo b L xs xa ma oa p A E i := by
  have X1 := X
  obtain ⟨hx, hb, hml, hown, hG, hbl, hlo, hkx⟩ := X1
  have hK := hkx.1.1
  have hXs := hkx.2.2
  have hbs : b < sg.heap.size := Nat.lt_of_lt_of_le hbl hlo
  have hbA : ¬ lo ≤ b := by omega
  intro kk
  induction kk using Nat.strongRecOn with
  | _ kk ih =>
  intro i hkk hi9 M P cap si rf th c f H locs ls hinv hst hl
  have hinv0 := hinv
  obtain ⟨hcs, hmo, hrr, hoa, hcb⟩ := hinv0
  have hsm := cb_sm hcb
  refine lv_iload hx hb dL_law_33 (lv_at hl 4 rfl) ?_
  refine lv_aload_n hx hb dL_law_35 rfl (lv_at hl 0 rfl) ?_
  refine va_slen (A := fun q => lo ≤ q) hx hb hXs hbs hbA hst.2.1 dL_law_36 ?_
  refine lv_iconst (v := nI 5) hx hb dL_law_37 (by decide +kernel) ?_
  refine t_isub hx hb dL_law_38 (v := nI L - nI 5) rfl ?_
  refine lv_icmp_gt hx hb dL_law_39 (tgt := 1310) rfl (fun hc => ?_) (fun hc => ?_)
  · skip
    refine lv_iconst (v := nI 1) hx hb dL_law_1310 (by decide +kernel) ?_
    refine tp_i (e2 := (1 : Int32)) (by decide +kernel) ?_
    refine W.widen (k := 601024) (n := 7293000) (by omega) (by omega) ?_
    refine va_forget (fun q hq => by rw [← hloe]; exact hst.2.1.2.2 q hq) ?_
    exact lw_ret hx hb hr hlocks dL_law_1311
  · skip
    have hi5 : i + 4 < L := by
      have h9 : ¬ L < i + 5 := fun z => hc ((lw_cmp hL (by omega)).mpr z)
      omega
    have hnext := ih _ (by omega) (i + 5) rfl (by omega)
    refine lv_aload_n hx hb dL_law_42 rfl (lv_at hl 0 rfl) ?_
    refine lv_iload hx hb dL_law_43 (lv_at hl 4 rfl) ?_
    refine va_sld (A := fun q => lo ≤ q) hx hb hXs hbs hbA hst.2.1 (i := nI i) (vp_in_nI (by omega) (by omega)) dL_law_45 ?_
    refine tp_i (e2 := xs i) (by rw [nI_clamp (by omega)]) ?_
    refine lv_bipush (v := nI 15) hx hb dL_law_46 (by decide +kernel) ?_
    refine lv_iand hx hb dL_law_48 ?_
    obtain ⟨k9, hk9, hk8⟩ := and15 (xs i)
    refine tp_i (e2 := nI k9) hk8 ?_
    rcases (show k9 = 0 ∨ k9 = 1 ∨ k9 = 2 ∨ k9 = 3 ∨ k9 = 4 ∨ k9 = 5 ∨ k9 = 6 ∨ k9 = 7 ∨ k9 = 8 ∨ k9 = 9 ∨ k9 = 10 ∨ k9 = 11 ∨ k9 = 12 ∨ k9 = 13 ∨ k9 = 14 ∨ k9 = 15 by omega) with rfl | rfl | rfl | rfl | rfl | rfl | rfl | rfl | rfl | rfl | rfl | rfl | rfl | rfl | rfl | rfl
    · refine lv_tableIn hx hb dL_law_49 (off := 79) (tgt := 128) (by decide +kernel) (by decide +kernel) (by decide +kernel) rfl ?_
      exact lc_constant hlt hL X hi5 hnext hinv hst hl
    · refine lv_tableIn hx hb dL_law_49 (off := 127) (tgt := 176) (by decide +kernel) (by decide +kernel) (by decide +kernel) rfl ?_
      exact lc_variable hlt hL X hi5 hnext hinv hst hl
    · refine lv_tableIn hx hb dL_law_49 (off := 175) (tgt := 224) (by decide +kernel) (by decide +kernel) (by decide +kernel) rfl ?_
      exact lc_add hlt hL X hi5 hnext hinv hst hl
    · refine lv_tableIn hx hb dL_law_49 (off := 247) (tgt := 296) (by decide +kernel) (by decide +kernel) (by decide +kernel) rfl ?_
      exact lc_multiply hlt hL X hi5 hnext hinv hst hl
    · refine lv_tableIn hx hb dL_law_49 (off := 334) (tgt := 383) (by decide +kernel) (by decide +kernel) (by decide +kernel) rfl ?_
      exact lc_power hlt hL X hi5 hnext hinv hst hl
    · refine lv_tableIn hx hb dL_law_49 (off := 421) (tgt := 470) (by decide +kernel) (by decide +kernel) (by decide +kernel) rfl ?_
      exact lc_divide hlt hL X hi5 hnext hinv hst hl
    · refine lv_tableIn hx hb dL_law_49 (off := 509) (tgt := 558) (by decide +kernel) (by decide +kernel) (by decide +kernel) rfl ?_
      exact lc_derive hlt hL X hi5 hnext hinv hst hl
    · refine lv_tableIn hx hb dL_law_49 (off := 569) (tgt := 618) (by decide +kernel) (by decide +kernel) (by decide +kernel) rfl ?_
      exact lc_put hlt hL X hi5 hnext hinv hst hl
    · refine lv_tableIn hx hb dL_law_49 (off := 668) (tgt := 717) (by decide +kernel) (by decide +kernel) (by decide +kernel) rfl ?_
      exact lc_resultant hlt hL X hi5 hnext hinv hst hl
    · refine lv_tableIn hx hb dL_law_49 (off := 767) (tgt := 816) (by decide +kernel) (by decide +kernel) (by decide +kernel) rfl ?_
      exact lc_value hlt hL X hi5 hnext hinv hst hl
    · refine lv_tableIn hx hb dL_law_49 (off := 859) (tgt := 908) (by decide +kernel) (by decide +kernel) (by decide +kernel) rfl ?_
      exact lc_terms hlt hL X hi5 hnext hinv hst hl
    · refine lv_tableIn hx hb dL_law_49 (off := 915) (tgt := 964) (by decide +kernel) (by decide +kernel) (by decide +kernel) rfl ?_
      exact lc_term hlt hL X hi5 hnext hinv hst hl
    · refine lv_tableIn hx hb dL_law_49 (off := 995) (tgt := 1044) (by decide +kernel) (by decide +kernel) (by decide +kernel) rfl ?_
      exact lc_coefficient hlt hL X hi5 hnext hinv hst hl
    · refine lv_tableIn hx hb dL_law_49 (off := 1087) (tgt := 1136) (by decide +kernel) (by decide +kernel) (by decide +kernel) rfl ?_
      exact lc_degree hlt hL X hi5 hnext hinv hst hl
    · refine lv_tableIn hx hb dL_law_49 (off := 1155) (tgt := 1204) (by decide +kernel) (by decide +kernel) (by decide +kernel) rfl ?_
      exact lc_isSame hlt hL X hi5 hnext hinv hst hl
    · refine lv_tableIn hx hb dL_law_49 (off := 1230) (tgt := 1279) (by decide +kernel) (by decide +kernel) (by decide +kernel) rfl ?_
      exact lc_count hlt hL X hi5 hnext hinv hst hl

theorem fs0_H : ∀ j, j < 7 → defaultValue (ty_H j) = vp_V [.null, .null, .null, .null, .null, .null, .int (nI 0)] j := by
  intro j hj
  have : j = 0 ∨ j = 1 ∨ j = 2 ∨ j = 3 ∨ j = 4 ∨ j = 5 ∨ j = 6 := by omega
  rcases this with rfl | rfl | rfl | rfl | rfl | rfl | rfl <;> rfl
theorem fs0_R : ∀ j, j < 14 → defaultValue (ty_R j) = vp_V [.int (nI 0), .int (nI 0), .int (nI 0), .null, .null, .null, .null, .null, .null, .null, .null, .null, .null, .null] j := by
  intro j hj
  have : j = 0 ∨ j = 1 ∨ j = 2 ∨ j = 3 ∨ j = 4 ∨ j = 5 ∨ j = 6 ∨ j = 7 ∨ j = 8 ∨ j = 9 ∨ j = 10 ∨ j = 11 ∨ j = 12 ∨ j = 13 := by omega
  rcases this with rfl | rfl | rfl | rfl | rfl | rfl | rfl | rfl | rfl | rfl | rfl | rfl | rfl | rfl <;> rfl
set_option maxHeartbeats 4000000 in
set_option maxRecDepth 100000 in
theorem law_body {pg : Program} {l : Launch} {eg : Env} {sg : State} {mg : MethodId} {bw : List Frame} {mt : Method} {cg : Code} {D : va_G} {Y : Nat → ClassId} {lo b L : Nat} {xs : Nat → Int32} (hlt : l.stackTraces = false) (hL : L ≤ 2561) (X : lwx pg sg mg #[Value.ref b] cg D Y lo b L xs) (hr : mt.sig.returnType = ret) (hlocks : mt.locks = false) (hloe : lo = sg.heap.size) {ls : Array Slot} (hst : hp_st D vC lo (fun _ => none) sg.heap sg.heap []) (hl : lv_has ls 7 [(0, .ref b)]) : W pg l eg room_1 sg mg #[Value.ref b] bw mt cg sg.heap [] 0 0 (lw_Z bw #[Value.ref b] sg) (F0 mg 0 ls []) := by
  have X1 := X
  obtain ⟨hx, hb, hml, hown, hG, hbl, hlo, hkx⟩ := X1
  have hK := hkx.1.1
  have hXs := hkx.2.2
  have hbs : b < sg.heap.size := Nat.lt_of_lt_of_le hbl hlo
  have hbA : ¬ lo ≤ b := by omega
  obtain ⟨x0, hx0⟩ : ∃ x0 : Int32, x0 = if 0 < L then xs 0 else 0 := ⟨_, rfl⟩
  refine hp_new hx hb hG in_H ty_H tyok_H hown (hG _ cl_L_8) (hG _ is_H) (hG _ wn_H) hK hst (0, 0) (ci := 4) rfl (fs := [.null, .null, .null, .null, .null, .null, .int (nI 0)]) fs0_H (Nat.le_of_ble_eq_true rfl) (Nat.le_of_ble_eq_true rfl) dL_law_0 (fun xa H hq_xa hst => ?_)
  have h_xa := hp_up_self (fun _ => none) xa ((0, 0), .inr (4, [.null, .null, .null, .null, .null, .null, .int (nI 0)]))
  generalize hM_xa : hp_up (fun _ => none) xa ((0, 0), .inr (4, [.null, .null, .null, .null, .null, .null, .int (nI 0)])) = M1 at hst h_xa
  refine lv_dup hx hb dL_law_3 rfl ?_
  refine lv_aload_n hx hb dL_law_4 rfl (lv_at hl 0 rfl) ?_
  refine lv_iconst (v := nI 0) hx hb dL_law_5 (by decide +kernel) ?_
  refine lw_callC (av2 := [.ref b, .int (nI 0)]) (rest := [.ref xa, .ref xa]) X hst (w_cell l D Y lo hL) wc_L_cell ml_L_69 ws_L_cell wn_L md_L_cell (by decide) hl.1 rfl (Nat.le_of_ble_eq_true rfl) ⟨(Nat.le_of_ble_eq_true rfl), (Nat.le_of_ble_eq_true rfl)⟩ dL_law_6 (fun r M1x H locs hp hst => ?_)
  obtain ⟨hr9, rfl⟩ := hp
  rw [← hx0] at hr9
  subst hr9
  refine lw_callI (av2 := [.int x0]) (rest := [.ref xa]) (x := xa) X hst (c_H_init l D Y lo x0 h_xa) wc_H_init ml_L_75 wi_H_init wn_H rfl md_H_init (by decide) hl.1 rfl (Nat.le_of_ble_eq_true rfl) ⟨(Nat.le_of_ble_eq_true rfl), (Nat.le_of_ble_eq_true rfl)⟩ dL_law_9 (fun r M2 H locs hp hst => ?_)
  obtain ⟨p, A, rfl, hlp, hcs, ho1⟩ := hp
  refine lv_astore_n (lv' := [(1, .ref xa), (0, .ref b)]) hx hb dL_law_12 rfl hl (by decide) rfl (fun ls hl => ?_)
  refine hp_new hx hb hG in_R ty_R tyok_R hown (hG _ cl_L_78) (hG _ is_R) (hG _ wn_R) hK hst (1000, 0) (ci := 5) rfl (fs := [.int (nI 0), .int (nI 0), .int (nI 0), .null, .null, .null, .null, .null, .null, .null, .null, .null, .null, .null]) fs0_R (Nat.le_of_ble_eq_true rfl) (Nat.le_of_ble_eq_true rfl) dL_law_13 (fun ma H hq_ma hst => ?_)
  have h_ma := hp_up_self M2 ma ((1000, 0), .inr (5, [.int (nI 0), .int (nI 0), .int (nI 0), .null, .null, .null, .null, .null, .null, .null, .null, .null, .null, .null]))
  generalize hM_ma : hp_up M2 ma ((1000, 0), .inr (5, [.int (nI 0), .int (nI 0), .int (nI 0), .null, .null, .null, .null, .null, .null, .null, .null, .null, .null, .null])) = M3 at hst h_ma
  have hcs3 : cs Y M3 xa A p (fun _ _ => 0) (fun _ => 16) (fun i => 10 + i) 0 := by rw [← hM_ma]; exact hcs.off (hp_off.nw (S := fun i => i = 1000) hq_ma rfl) (by omega)
  refine lv_dup hx hb dL_law_16 rfl ?_
  refine lv_aload_n hx hb dL_law_17 rfl (lv_at hl 1 rfl) ?_
  refine lv_iconst (v := nI 0) hx hb dL_law_18 (by decide +kernel) ?_
  refine lw_callC (av2 := [.ref b, .int (nI 0)]) (rest := [.ref ma, .ref ma]) X hst (w_cell l D Y lo hL) wc_L_cell ml_L_69 ws_L_cell wn_L md_L_cell (by decide) hl.1 rfl (Nat.le_of_ble_eq_true rfl) ⟨(Nat.le_of_ble_eq_true rfl), (Nat.le_of_ble_eq_true rfl)⟩ dL_law_19 (fun r M3x H locs hp hst => ?_)
  obtain ⟨hr9, rfl⟩ := hp
  rw [← hx0] at hr9
  subst hr9
  refine lw_callI (av2 := [.int x0]) (rest := [.ref ma]) (x := ma) X hst (c_R_init l D Y lo x0 h_ma) wc_R_init ml_L_80 wi_R_init wn_R rfl md_R_init (by decide) hl.1 rfl (Nat.le_of_ble_eq_true rfl) ⟨(Nat.le_of_ble_eq_true rfl), (Nat.le_of_ble_eq_true rfl)⟩ dL_law_22 (fun r M4 H locs hp hst => ?_)
  obtain ⟨p2, E, c, rfl, hlp2, hmo, hrr, ho2⟩ := hp
  have hpp := lpr_eq hlp2 hlp
  subst hpp
  have hcs4 := hcs3.off ho2 (by omega)
  refine lv_astore_n (lv' := [(2, .ref ma), (1, .ref xa), (0, .ref b)]) hx hb dL_law_25 rfl hl (by decide) rfl (fun ls hl => ?_)
  refine lv_iconst (v := nI 1) hx hb dL_law_26 (by decide +kernel) ?_
  refine hp_newl hx hb (hG _ ac_long) hK rfl hst (2000, 0) (N' := 1) (by omega) (Nat.le_of_ble_eq_true rfl) (Nat.le_of_ble_eq_true rfl) dL_law_27 (fun oa H hq_oa hst => ?_)
  have h_oa := hp_up_self M4 oa ((2000, 0), e_l Y 1 (fun _ => 0))
  have hcs5 := hcs4.off (hp_off.nw (S := fun i => i = 2000) (t := (2000, 0)) (e := e_l Y 1 (fun _ => 0)) hq_oa rfl) (by omega)
  have hmo5 := hmo.off (hp_off.nw (S := fun i => i = 2000) (t := (2000, 0)) (e := e_l Y 1 (fun _ => 0)) hq_oa rfl) (by omega)
  refine lv_astore_n (lv' := [(3, .ref oa), (2, .ref ma), (1, .ref xa), (0, .ref b)]) hx hb dL_law_29 rfl hl (by decide) rfl (fun ls hl => ?_)
  refine lv_iconst (v := nI 1) hx hb dL_law_30 (by decide +kernel) ?_
  refine lv_istore (lv' := [(4, .int (nI 1)), (3, .ref oa), (2, .ref ma), (1, .ref xa), (0, .ref b)]) hx hb dL_law_31 hl (by decide) rfl (fun ls hl => ?_)
  have hs0 : sm (fun _ => 16) 300 = 4800 := by decide +kernel
  have hcb : cb (fun _ => 16) := ⟨fun _ _ _ => (by omega : 16 ≤ 18278), fun _ _ _ => (by omega : 16 ≤ 338), fun _ _ => (by omega : 16 ≤ 16)⟩
  refine W.widen (k := sm (fun _ => 16) 300 + 1) (n := 327125 + 6 * sm (fun _ => 16) 300 + 6 * 1) (by omega) (by omega) ?_
  exact law_loop hlt hL X hr hlocks hloe _ 1 rfl (by omega) _ _ _ _ _ _ _ _ _ _ _ ⟨hcs5, hmo5, hrr, h_oa, hcb⟩ hst (lv_sub hl [4, 3, 2, 1, 0] rfl)

/-- the law from its entry -/
theorem whole_start {p : Program} {e : Env} {s : State} {m : MethodId} {below : List Frame} {meth : Method} {c : Code} (l : Launch) (hlt : l.stackTraces = false) {b L : Nat} {xs : Nat → Int32} (hL : L ≤ 2561) (C0 : lw_At p s m meth c b L xs) : W p l e room_1 s m #[Value.ref b] below meth c s.heap [] 0 0 (lw_Z below #[Value.ref b] s) (entryFrame m ([Value.ref b] : List Value).toArray 7) := by
  obtain ⟨hx, hb, hr, hml, hown, hts, hX, hbl, hlocks, hgv⟩ := C0
  obtain ⟨D, Y, hkx⟩ := law_kx hts hX hgv
  have hl := lv_entry [Value.ref b] (n := 7) (Nat.le_of_ble_eq_true rfl)
  rw [lg_entry_eq]
  have hG : ∀ w ∈ GW, w.before #[Value.ref b] s = true := fun w hw => hts w (List.mem_filter.mp hw).1
  exact law_body (lo := s.heap.size) hlt hL ⟨hx, hb, hml, hown, hG, hbl, Nat.le_refl _, hkx⟩ hr hlocks rfl ⟨⟨Nat.le_refl _, fun a t e h => by cases h⟩, va_S.rf, Nat.le_refl _⟩ hl

