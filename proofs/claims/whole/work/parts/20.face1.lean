/-! The face, the short methods: where the arguments are good, and where the call throws. -/
set_option maxHeartbeats 4000000 in
set_option maxRecDepth 100000 in
theorem c_H_constant (l : Launch) (D : va_G) (Y : Nat → ClassId) (lo : Nat) {M : Hm} {xa p rf : Nat} {A cap si : Nat → Nat} {P : Nat → Pf} (hcs : cs Y M xa A p P cap si rf) {r : Nat} (x : Int32) (hr : r < 12) : ct l D Y lo y_H_constant b_H_constant 3 none 4 [.ref xa, .int (nI r), .int x] M (fun r9 M' => r9 = none ∧ cs Y M' xa A p (va_up P r (cst (rd p x.toInt))) cap si rf ∧ hp_off (fun i => i < 300) M M') nx 0 0 := by
  refine ct_of (by decide) (Nat.le_of_ble_eq_true rfl) ?_
  intro pg eg sg mg bw mt cg ls X hst hl
  have X1 := X
  obtain ⟨hx, hb, hml, hrt, hlocks, hown, hnm, hts, hkz, hex⟩ := X1
  have hG : ∀ w ∈ GW, w.before _ sg = true := fun w h => hts w (List.mem_cons_of_mem _ h)
  have hK := hkz.1
  have hl : lv_has ls 3 [(0, .ref xa), (1, .int (nI r)), (2, .int x)] := hl
  have hcs0 := hcs
  obtain ⟨x0, ⟨gr, x1, hgr⟩, ⟨gn, x2, hgn⟩, ⟨hf, hpr⟩, hs, ⟨gw, ht⟩, ⟨hs1, hs2⟩, hP, ⟨LS, hS⟩, hN, hc1, hc2, hPp⟩ := hcs
  have hpp := hf.2.1
  have hpp3 := hf.2.2
  have hf0 := hf.1
  refine lv_iload_n hx hb dH_constant_0 rfl (lv_at hl 1 rfl) ?_
  refine ct_callS (av2 := [.int (nI r)]) (rest := []) X hst (c_H_checkRegister l D Y lo hr) wc_H_checkRegister ml_H_48 ws_H_checkRegister wn_H md_H_checkRegister (by decide) hl.1 rfl (Nat.le_of_ble_eq_true rfl) ⟨by omega, by omega⟩ (fun _ _ h => h.elim) dH_constant_1 (fun r M' H locs hp hst => ?_)
  obtain ⟨rfl, rfl⟩ := hp
  refine lv_aload_n hx hb dH_constant_4 rfl (lv_at hl 0 rfl) ?_
  refine hp_get hx hb hG in_H hown hK hst x0 rfl 3 (by decide) (hG _ fl_H_11) rfl rfl dH_constant_5 ?_
  refine lv_iload_n hx hb dH_constant_8 rfl (lv_at hl 1 rfl) ?_
  refine hp_aald hx hb hK rfl hst x1 (j := r) (v := (A (si r))) (by omega) (by omega) (hgr r hr) dH_constant_9 ?_
  obtain ⟨fs_r, cell_r⟩ := (hP r hr).cell
  refine lv_aload_n hx hb dH_constant_10 rfl (lv_at hl 0 rfl) ?_
  refine hp_get hx hb hG in_H hown hK hst x0 rfl 0 (by decide) (hG _ fl_H_23) rfl rfl dH_constant_11 ?_
  refine lv_iload_n hx hb dH_constant_14 rfl (lv_at hl 2 rfl) ?_
  refine ct_callV (av2 := [.int x]) (rest := [.ref (A (si r))]) (b := (A 0)) X hst (c_F_reduced l D Y lo x hf) hf0 rfl wc_F_reduced ml_H_51 wi_F_reduced wl_F_reduced wn_F md_F_reduced (by decide) hl.1 rfl (Nat.le_of_ble_eq_true rfl) ⟨by omega, by omega⟩ (fun _ _ h => h.elim) dH_constant_15 (fun r M' H locs hp hst => ?_)
  obtain ⟨rfl, rfl⟩ := hp
  have hrd := rd_lt (p := p) (by omega) x.toInt
  have hc18 := hc1 r (by omega)
  have hb9 := hs1 r (by omega)
  refine ct_callV (av2 := [.int (nI (rd p x.toInt))]) (rest := []) (b := (A (si r))) X hst (c_P_becomeNumber l D Y lo (hP r hr) (x := rd p x.toInt) (by omega) (by omega)) cell_r rfl wc_P_becomeNumber ml_H_55 wi_P_becomeNumber wl_P_becomeNumber wn_P md_P_becomeNumber (by decide) hl.1 rfl (Nat.le_of_ble_eq_true rfl) ⟨by omega, by omega⟩ (fun _ _ h => h.elim) dH_constant_18 (fun r M' H locs hp hst => ?_)
  obtain ⟨rfl, hp1, ho1⟩ := hp
  rw [← tp_cst] at hp1
  have ho2 : hp_off (fun i => i = 2 ∨ i = si r) M M' := ho1.wk (fun i hi => Or.inr hi)
  have hs9 : sh Y M' (A 1) (A 0) (fun _ => 0) := hs.off ho1 (by omega)
  have hcs1 := hcs0.reg hr ho2 hs9 hp1 hc18 (cst_lt hrd)
  rw [up_id] at hcs1
  exact ct_vret X hst ⟨rfl, hcs1, ho1.wk (fun i hi => by omega)⟩ (by omega) (by omega) dH_constant_21

set_option maxHeartbeats 4000000 in
set_option maxRecDepth 100000 in
theorem x_H_constant (l : Launch) (D : va_G) (Y : Nat → ClassId) (lo : Nat) (hlt : l.stackTraces = false) {M : Hm} {xa : Nat} {x1 x2 : Int32} (hno : ¬ inR x1) : ct l D Y lo y_H_constant b_H_constant 3 none 7 [.ref xa, .int x1, .int x2] M (fun _ _ => False) (fun E M' => E = EI ∧ M = M') 1 6 := by
  refine ct_of (by decide) (Nat.le_of_ble_eq_true rfl) ?_
  intro pg eg sg mg bw mt cg ls X hst hl
  have X1 := X
  obtain ⟨hx, hb, hml, hrt, hlocks, hown, hnm, hts, hkz, hex⟩ := X1
  have hG : ∀ w ∈ GW, w.before _ sg = true := fun w h => hts w (List.mem_cons_of_mem _ h)
  have hK := hkz.1
  have hl : lv_has ls 3 [(0, .ref xa), (1, .int x1), (2, .int x2)] := hl
  refine lv_iload_n hx hb dH_constant_0 rfl (lv_at hl 1 rfl) ?_
  refine ct_callS (av2 := [.int x1]) (rest := []) X hst (x_H_checkRegister l D Y lo hlt hno) wc_H_checkRegister ml_H_48 ws_H_checkRegister wn_H md_H_checkRegister (by decide) hl.1 rfl (Nat.le_of_ble_eq_true rfl) ⟨by omega, by omega⟩ (fun E M1 h => h) dH_constant_1 (fun r M' H locs hp hst => ?_)
  exact False.elim hp

set_option maxHeartbeats 4000000 in
set_option maxRecDepth 100000 in
theorem c_H_variable (l : Launch) (D : va_G) (Y : Nat → ClassId) (lo : Nat) {M : Hm} {xa p rf : Nat} {A cap si : Nat → Nat} {P : Nat → Pf} (hcs : cs Y M xa A p P cap si rf) {r v : Nat} (hr : r < 12) (hv : v < 3) : ct l D Y lo y_H_variable b_H_variable 3 none 4 [.ref xa, .int (nI r), .int (nI v)] M (fun r9 M' => r9 = none ∧ cs Y M' xa A p (va_up P r (vrb v)) cap si rf ∧ hp_off (fun i => i < 300) M M') nx 0 0 := by
  refine ct_of (by decide) (Nat.le_of_ble_eq_true rfl) ?_
  intro pg eg sg mg bw mt cg ls X hst hl
  have X1 := X
  obtain ⟨hx, hb, hml, hrt, hlocks, hown, hnm, hts, hkz, hex⟩ := X1
  have hG : ∀ w ∈ GW, w.before _ sg = true := fun w h => hts w (List.mem_cons_of_mem _ h)
  have hK := hkz.1
  have hl : lv_has ls 3 [(0, .ref xa), (1, .int (nI r)), (2, .int (nI v))] := hl
  have hcs0 := hcs
  obtain ⟨x0, ⟨gr, x1, hgr⟩, ⟨gn, x2, hgn⟩, ⟨hf, hpr⟩, hs, ⟨gw, ht⟩, ⟨hs1, hs2⟩, hP, ⟨LS, hS⟩, hN, hc1, hc2, hPp⟩ := hcs
  have hpp := hf.2.1
  have hpp3 := hf.2.2
  have hf0 := hf.1
  refine lv_iload_n hx hb dH_variable_0 rfl (lv_at hl 1 rfl) ?_
  refine ct_callS (av2 := [.int (nI r)]) (rest := []) X hst (c_H_checkRegister l D Y lo hr) wc_H_checkRegister ml_H_48 ws_H_checkRegister wn_H md_H_checkRegister (by decide) hl.1 rfl (Nat.le_of_ble_eq_true rfl) ⟨by omega, by omega⟩ (fun _ _ h => h.elim) dH_variable_1 (fun r M' H locs hp hst => ?_)
  obtain ⟨rfl, rfl⟩ := hp
  refine lv_iload_n hx hb dH_variable_4 rfl (lv_at hl 2 rfl) ?_
  refine ct_callS (av2 := [.int (nI v)]) (rest := []) X hst (c_H_checkVariable l D Y lo hv) wc_H_checkVariable ml_H_58 ws_H_checkVariable wn_H md_H_checkVariable (by decide) hl.1 rfl (Nat.le_of_ble_eq_true rfl) ⟨by omega, by omega⟩ (fun _ _ h => h.elim) dH_variable_5 (fun r M' H locs hp hst => ?_)
  obtain ⟨rfl, rfl⟩ := hp
  have hc18 := hc1 r (by omega)
  have hb9 := hs1 r (by omega)
  refine lv_aload_n hx hb dH_variable_8 rfl (lv_at hl 0 rfl) ?_
  refine hp_get hx hb hG in_H hown hK hst x0 rfl 3 (by decide) (hG _ fl_H_11) rfl rfl dH_variable_9 ?_
  refine lv_iload_n hx hb dH_variable_12 rfl (lv_at hl 1 rfl) ?_
  refine hp_aald hx hb hK rfl hst x1 (j := r) (v := (A (si r))) (by omega) (by omega) (hgr r hr) dH_variable_13 ?_
  obtain ⟨fs_r, cell_r⟩ := (hP r hr).cell
  refine ct_callV (av2 := []) (rest := []) (b := (A (si r))) X hst (c_P_clear l D Y lo (hP r hr)) cell_r rfl wc_P_clear ml_H_61 wi_P_clear wl_P_clear wn_P md_P_clear (by decide) hl.1 rfl (Nat.le_of_ble_eq_true rfl) ⟨by omega, by omega⟩ (fun _ _ h => h.elim) dH_variable_14 (fun r M' H locs hp hst => ?_)
  obtain ⟨rfl, hp1, ho1⟩ := hp
  have x0' := ho1.of x0 (by omega)
  have x1' := ho1.of x1 (by omega)
  refine lv_aload_n hx hb dH_variable_17 rfl (lv_at hl 0 rfl) ?_
  refine hp_get hx hb hG in_H hown hK hst x0' rfl 3 (by decide) (hG _ fl_H_11) rfl rfl dH_variable_18 ?_
  refine lv_iload_n hx hb dH_variable_21 rfl (lv_at hl 1 rfl) ?_
  refine hp_aald hx hb hK rfl hst x1' (j := r) (v := (A (si r))) (by omega) (by omega) (hgr r hr) dH_variable_22 ?_
  refine lv_iload_n hx hb dH_variable_23 rfl (lv_at hl 2 rfl) ?_
  refine ct_callS (av2 := [.int (nI v)]) (rest := [.ref (A (si r))]) X hst (c_Q_ofVariable l D Y lo (v := v) hv) wc_Q_ofVariable ml_H_64 ws_Q_ofVariable wn_Q md_Q_ofVariable (by decide) hl.1 rfl (Nat.le_of_ble_eq_true rfl) ⟨by omega, by omega⟩ (fun _ _ h => h.elim) dH_variable_24 (fun r M' H locs hp hst => ?_)
  obtain ⟨rfl, rfl⟩ := hp
  refine lv_iconst (v := nI 1) hx hb dH_variable_27 (by decide +kernel) ?_
  obtain ⟨fs1, cell1⟩ := hp1.cell
  have hcp : 16 ≤ cap (si r) := by obtain ⟨_, _, _, _, _, _, _, _, _, h9, _⟩ := hp1; exact h9
  have hg0 : gc1 ([] : List (Nat × Nat)).length (cap (si r)) = cap (si r) := if_neg (by show ¬ 0 = cap (si r); omega)
  refine ct_callV (av2 := [.int (nI (vv v)), .int (nI 1)]) (rest := []) (b := (A (si r))) X hst (c_P_append l D Y lo hp1 (mo := vv v) (co := 1) (by omega)) cell1 rfl wc_P_append ml_H_69 wi_P_append wl_P_append wn_P md_P_append (by decide) hl.1 rfl (Nat.le_of_ble_eq_true rfl) ⟨by omega, by omega⟩ (fun _ _ h => h.elim) dH_variable_28 (fun r M' H locs hp hst => ?_)
  obtain ⟨rfl, hp2, ho2⟩ := hp
  rw [hg0] at hp2
  have hp2 : po Y M' (si r) (A (si r)) (cap (si r)) [(vv v, 1)] := hp2
  rw [← tp_single (vv_mv hv) (by omega)] at hp2
  have ho3 := ho1.tr ho2
  have hs9 : sh Y M' (A 1) (A 0) (fun _ => 0) := hs.off ho3 (by omega)
  have hcs1 := hcs0.reg hr (ho3.wk (fun i hi => Or.inr hi)) hs9 hp2 hc18 (fun m => by show (if m = vv v then 1 else 0) < p; split <;> omega)
  rw [up_id] at hcs1
  exact ct_vret X hst ⟨rfl, hcs1, ho3.wk (fun i hi => by omega)⟩ (by omega) (by omega) dH_variable_31

set_option maxHeartbeats 4000000 in
set_option maxRecDepth 100000 in
theorem x_H_variable (l : Launch) (D : va_G) (Y : Nat → ClassId) (lo : Nat) (hlt : l.stackTraces = false) {M : Hm} {xa : Nat} {x1 x2 : Int32} (hno : ¬ (inR x1 ∧ inV x2)) : ct l D Y lo y_H_variable b_H_variable 3 none 7 [.ref xa, .int x1, .int x2] M (fun _ _ => False) (fun E M' => M = M' ∧ (E = EI ∧ ¬ (inR x1) ∨ E = EA ∧ (inR x1))) 2 12 := by
  refine ct_of (by decide) (Nat.le_of_ble_eq_true rfl) ?_
  intro pg eg sg mg bw mt cg ls X hst hl
  have X1 := X
  obtain ⟨hx, hb, hml, hrt, hlocks, hown, hnm, hts, hkz, hex⟩ := X1
  have hG : ∀ w ∈ GW, w.before _ sg = true := fun w h => hts w (List.mem_cons_of_mem _ h)
  have hK := hkz.1
  have hl : lv_has ls 3 [(0, .ref xa), (1, .int x1), (2, .int x2)] := hl
  refine lv_iload_n hx hb dH_variable_0 rfl (lv_at hl 1 rfl) ?_
  refine ct_callS (av2 := [.int x1]) (rest := []) X hst (x_cr_call hlt x1 M) wc_H_checkRegister ml_H_48 ws_H_checkRegister wn_H md_H_checkRegister (by decide) hl.1 rfl (Nat.le_of_ble_eq_true rfl) ⟨by omega, by omega⟩ (fun E M1 h => ⟨h.2.1, Or.inl ⟨h.1, h.2.2⟩⟩) dH_variable_1 (fun r M' H locs hp hst => ?_)
  obtain ⟨rfl, rfl, h1⟩ := hp
  refine lv_iload_n hx hb dH_variable_4 rfl (lv_at hl 2 rfl) ?_
  refine ct_callS (av2 := [.int x2]) (rest := []) X hst (x_cv_call hlt x2 M) wc_H_checkVariable ml_H_58 ws_H_checkVariable wn_H md_H_checkVariable (by decide) hl.1 rfl (Nat.le_of_ble_eq_true rfl) ⟨by omega, by omega⟩ (fun E M1 h => ⟨h.2.1, Or.inr ⟨h.1, h1⟩⟩) dH_variable_5 (fun r M' H locs hp hst => ?_)
  obtain ⟨rfl, rfl, h2⟩ := hp
  exact absurd ⟨h1, h2⟩ hno

set_option maxHeartbeats 4000000 in
set_option maxRecDepth 100000 in
theorem c_H_add (l : Launch) (D : va_G) (Y : Nat → ClassId) (lo : Nat) {M : Hm} {xa p rf : Nat} {A cap si : Nat → Nat} {P : Nat → Pf} (hcs : cs Y M xa A p P cap si rf) {r a b : Nat} (x : Int32) (hr : r < 12) (ha : a < 12) (hb9 : b < 12) : ct l D Y lo y_H_add b_H_add 5 none 5 [.ref xa, .int (nI r), .int (nI a), .int (nI b), .int x] M (fun r9 M' => r9 = none ∧ cs Y M' xa A p (va_up P r (addP p (P a) (P b) (rd p x.toInt))) (va_up cap (si r) (gcn (cap (si r)) 0 (td (addP p (P a) (P b) (rd p x.toInt)) 9139).length)) si rf ∧ hp_off (fun i => i < 300) M M') nx (gcn (cap (si r)) 0 (td (addP p (P a) (P b) (rd p x.toInt)) 9139).length - cap (si r)) (4 * (gcn (cap (si r)) 0 (td (addP p (P a) (P b) (rd p x.toInt)) 9139).length - cap (si r))) := by
  refine ct_of (by decide) (Nat.le_of_ble_eq_true rfl) ?_
  intro pg eg sg mg bw mt cg ls X hst hl
  have X1 := X
  obtain ⟨hx, hb, hml, hrt, hlocks, hown, hnm, hts, hkz, hex⟩ := X1
  have hG : ∀ w ∈ GW, w.before _ sg = true := fun w h => hts w (List.mem_cons_of_mem _ h)
  have hK := hkz.1
  have hl : lv_has ls 5 [(0, .ref xa), (1, .int (nI r)), (2, .int (nI a)), (3, .int (nI b)), (4, .int x)] := hl
  have hcs0 := hcs
  obtain ⟨x0, ⟨gr, x1, hgr⟩, ⟨gn, x2, hgn⟩, ⟨hf, hpr⟩, hs, ⟨gw, ht⟩, ⟨hs1, hs2⟩, hP, ⟨LS, hS⟩, hN, hc1, hc2, hPp⟩ := hcs
  have hpp := hf.2.1
  have hpp3 := hf.2.2
  have hf0 := hf.1
  refine lv_iload_n hx hb dH_add_0 rfl (lv_at hl 1 rfl) ?_
  refine lv_iload_n hx hb dH_add_1 rfl (lv_at hl 2 rfl) ?_
  refine lv_iload_n hx hb dH_add_2 rfl (lv_at hl 3 rfl) ?_
  refine ct_callS (av2 := [.int (nI r), .int (nI a), .int (nI b)]) (rest := []) X hst (c_H_checkRegisters l D Y lo hr ha hb9) wc_H_checkRegisters ml_H_73 ws_H_checkRegisters wn_H md_H_checkRegisters (by decide) hl.1 rfl (Nat.le_of_ble_eq_true rfl) ⟨by omega, by omega⟩ (fun _ _ h => h.elim) dH_add_3 (fun r M' H locs hp hst => ?_)
  obtain ⟨rfl, rfl⟩ := hp
  have hc18 := hc1 r (by omega)
  have hbr := hs1 r (by omega)
  have hba := hs1 a (by omega)
  have hbb := hs1 b (by omega)
  obtain ⟨fss, cells9⟩ := hs.cell
  refine lv_aload_n hx hb dH_add_6 rfl (lv_at hl 0 rfl) ?_
  refine hp_get hx hb hG in_H hown hK hst x0 rfl 1 (by decide) (hG _ fl_H_32) rfl rfl dH_add_7 ?_
  refine lv_aload_n hx hb dH_add_10 rfl (lv_at hl 0 rfl) ?_
  refine hp_get hx hb hG in_H hown hK hst x0 rfl 3 (by decide) (hG _ fl_H_11) rfl rfl dH_add_11 ?_
  refine lv_iload_n hx hb dH_add_14 rfl (lv_at hl 2 rfl) ?_
  refine hp_aald hx hb hK rfl hst x1 (j := a) (v := (A (si a))) (by omega) (by omega) (hgr a ha) dH_add_15 ?_
  refine lv_iconst (v := nI 1) hx hb dH_add_16 (by decide +kernel) ?_
  refine lv_iconst (v := nI 0) hx hb dH_add_17 (by decide +kernel) ?_
  refine ct_callV (av2 := [.ref (A (si a)), .int (nI 1), .int (nI 0)]) (rest := []) (b := (A 1)) X hst (c_S_addMultiple l D Y lo hs hf (fun _ => by omega) (hP a ha) (by omega) (f := 1) (t := 0) (by omega) (fun q hq => ⟨(tp_mem hq).1, by rw [(tp_mem hq).2.1]; exact hPp a ha _⟩)) cells9 rfl wc_S_addMultiple ml_H_77 wi_S_addMultiple wl_S_addMultiple wn_S md_S_addMultiple (by decide) hl.1 rfl (Nat.le_of_ble_eq_true rfl) ⟨by omega, by omega⟩ (fun _ _ h => h.elim) dH_add_18 (fun r M' H locs hp hst => ?_)
  obtain ⟨rfl, hs3, ho3⟩ := hp
  have x0a := ho3.of x0 (by omega)
  have x1a := ho3.of x1 (by omega)
  have hfa := hf.off ho3 (by omega)
  have hf0a := hfa.1
  have hPb := (hP b hb9).off ho3 (by omega)
  refine lv_aload_n hx hb dH_add_21 rfl (lv_at hl 0 rfl) ?_
  refine hp_get hx hb hG in_H hown hK hst x0a rfl 1 (by decide) (hG _ fl_H_32) rfl rfl dH_add_22 ?_
  refine lv_aload_n hx hb dH_add_25 rfl (lv_at hl 0 rfl) ?_
  refine hp_get hx hb hG in_H hown hK hst x0a rfl 3 (by decide) (hG _ fl_H_11) rfl rfl dH_add_26 ?_
  refine lv_iload_n hx hb dH_add_29 rfl (lv_at hl 3 rfl) ?_
  refine hp_aald hx hb hK rfl hst x1a (j := b) (v := (A (si b))) (by omega) (by omega) (hgr b hb9) dH_add_30 ?_
  refine lv_aload_n hx hb dH_add_31 rfl (lv_at hl 0 rfl) ?_
  refine hp_get hx hb hG in_H hown hK hst x0a rfl 0 (by decide) (hG _ fl_H_23) rfl rfl dH_add_32 ?_
  refine lv_iload hx hb dH_add_35 (lv_at hl 4 rfl) ?_
  refine ct_callV (av2 := [.int x]) (rest := [.ref (A (si b)), .ref (A 1)]) (b := (A 0)) X hst (c_F_reduced l D Y lo x hfa) hf0a rfl wc_F_reduced ml_H_51 wi_F_reduced wl_F_reduced wn_F md_F_reduced (by decide) hl.1 rfl (Nat.le_of_ble_eq_true rfl) ⟨by omega, by omega⟩ (fun _ _ h => h.elim) dH_add_37 (fun r M' H locs hp hst => ?_)
  obtain ⟨rfl, rfl⟩ := hp
  have hrd := rd_lt (p := p) (by omega) x.toInt
  obtain ⟨fst, cellt⟩ := hs3.cell
  refine lv_iconst (v := nI 0) hx hb dH_add_40 (by decide +kernel) ?_
  have hcp1 : ∀ m, addL p 1 0 (tp (P a)) (fun _ => 0) m < p := addL_lt (by omega) (fun _ => by omega)
  refine ct_callV (av2 := [.ref (A (si b)), .int (nI (rd p x.toInt)), .int (nI 0)]) (rest := []) (b := (A 1)) X hst (c_S_addMultiple l D Y lo hs3 hfa hcp1 hPb (by omega) (f := rd p x.toInt) (t := 0) hrd (fun q hq => ⟨(tp_mem hq).1, by rw [(tp_mem hq).2.1]; exact hPp b hb9 _⟩)) cellt rfl wc_S_addMultiple ml_H_77 wi_S_addMultiple wl_S_addMultiple wn_S md_S_addMultiple (by decide) hl.1 rfl (Nat.le_of_ble_eq_true rfl) ⟨by omega, by omega⟩ (fun _ _ h => h.elim) dH_add_41 (fun r M' H locs hp hst => ?_)
  obtain ⟨rfl, hs4, ho4⟩ := hp
  have ho5 := ho3.tr ho4
  have x0b := ho5.of x0 (by omega)
  have x1b := ho5.of x1 (by omega)
  have hPr := (hP r hr).off ho5 (by omega)
  obtain ⟨fsu, cellu⟩ := hs4.cell
  refine lv_aload_n hx hb dH_add_44 rfl (lv_at hl 0 rfl) ?_
  refine hp_get hx hb hG in_H hown hK hst x0b rfl 1 (by decide) (hG _ fl_H_32) rfl rfl dH_add_45 ?_
  refine lv_aload_n hx hb dH_add_48 rfl (lv_at hl 0 rfl) ?_
  refine hp_get hx hb hG in_H hown hK hst x0b rfl 3 (by decide) (hG _ fl_H_11) rfl rfl dH_add_49 ?_
  refine lv_iload_n hx hb dH_add_52 rfl (lv_at hl 1 rfl) ?_
  refine hp_aald hx hb hK rfl hst x1b (j := r) (v := (A (si r))) (by omega) (by omega) (hgr r hr) dH_add_53 ?_
  have hs4 : sh Y M' (A 1) (A 0) (addP p (P a) (P b) (rd p x.toInt)) := hs4
  have hcp2 := addP_lt (p := p) (by omega) (P a) (P b) (rd p x.toInt)
  refine ct_callV (av2 := [.ref (A (si r))]) (rest := []) (b := (A 1)) X hst (c_S_moveTo l D Y lo hs4 hPr (by omega) hc18 (fun m => by have := hcp2 m; omega)) cellu rfl wc_S_moveTo ml_H_81 wi_S_moveTo wl_S_moveTo wn_S md_S_moveTo (by decide) hl.1 rfl (Nat.le_of_ble_eq_true rfl) ⟨by omega, by omega⟩ (fun _ _ h => h.elim) dH_add_54 (fun r M' H locs hp hst => ?_)
  obtain ⟨rfl, hp6, hs6, ho6⟩ := hp
  have ho7 := (ho5.wk (fun i hi => Or.inl hi : ∀ i, i = 2 → (i = 2 ∨ i = si r))).tr ho6
  have hl9 := td_len (addP p (P a) (P b) (rd p x.toInt)) 9139
  have hgl := gcn_le (td (addP p (P a) (P b) (rd p x.toInt)) 9139).length (cap (si r)) 0 18278 hc18 (by omega)
  have hcs1 := hcs0.reg hr ho7 hs6 (g := addP p (P a) (P b) (rd p x.toInt)) hp6 hgl hcp2
  exact ct_vret X hst ⟨rfl, hcs1, ho7.wk (fun i hi => by omega)⟩ (by omega) (by omega) dH_add_57

set_option maxHeartbeats 4000000 in
set_option maxRecDepth 100000 in
theorem x_H_add (l : Launch) (D : va_G) (Y : Nat → ClassId) (lo : Nat) (hlt : l.stackTraces = false) {M : Hm} {xa : Nat} {x1 x2 x3 x4 : Int32} (hno : ¬ (inR x1 ∧ inR x2 ∧ inR x3)) : ct l D Y lo y_H_add b_H_add 5 none 8 [.ref xa, .int x1, .int x2, .int x3, .int x4] M (fun _ _ => False) (fun E M' => E = EI ∧ M = M') 3 18 := by
  refine ct_of (by decide) (Nat.le_of_ble_eq_true rfl) ?_
  intro pg eg sg mg bw mt cg ls X hst hl
  have X1 := X
  obtain ⟨hx, hb, hml, hrt, hlocks, hown, hnm, hts, hkz, hex⟩ := X1
  have hG : ∀ w ∈ GW, w.before _ sg = true := fun w h => hts w (List.mem_cons_of_mem _ h)
  have hK := hkz.1
  have hl : lv_has ls 5 [(0, .ref xa), (1, .int x1), (2, .int x2), (3, .int x3), (4, .int x4)] := hl
  refine lv_iload_n hx hb dH_add_0 rfl (lv_at hl 1 rfl) ?_
  refine lv_iload_n hx hb dH_add_1 rfl (lv_at hl 2 rfl) ?_
  refine lv_iload_n hx hb dH_add_2 rfl (lv_at hl 3 rfl) ?_
  refine ct_callS (av2 := [.int x1, .int x2, .int x3]) (rest := []) X hst (x_H_checkRegisters l D Y lo hlt hno) wc_H_checkRegisters ml_H_73 ws_H_checkRegisters wn_H md_H_checkRegisters (by decide) hl.1 rfl (Nat.le_of_ble_eq_true rfl) ⟨by omega, by omega⟩ (fun E M1 h => h) dH_add_3 (fun r M' H locs hp hst => ?_)
  exact False.elim hp
