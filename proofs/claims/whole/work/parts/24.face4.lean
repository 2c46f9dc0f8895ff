/-! The face: term's throws, multiply, power. -/
set_option maxHeartbeats 4000000 in
set_option maxRecDepth 100000 in
theorem x_H_term (l : Launch) (D : va_G) (Y : Nat → ClassId) (lo : Nat) (hlt : l.stackTraces = false) {M : Hm} {xa : Nat} {x1 x2 x3 : Int32} (hno : ¬ inR x1) : ct l D Y lo y_H_term b_H_term 5 (some .int) 7 [.ref xa, .int x1, .int x2, .int x3] M (fun _ _ => False) (fun E M' => E = EI ∧ M = M') 1 6 := by
  refine ct_of (by decide) (Nat.le_of_ble_eq_true rfl) ?_
  intro pg eg sg mg bw mt cg ls X hst hl
  have X1 := X
  obtain ⟨hx, hb, hml, hrt, hlocks, hown, hnm, hts, hkz, hex⟩ := X1
  have hG : ∀ w ∈ GW, w.before _ sg = true := fun w h => hts w (List.mem_cons_of_mem _ h)
  have hK := hkz.1
  have hl : lv_has ls 5 [(0, .ref xa), (1, .int x1), (2, .int x2), (3, .int x3)] := hl
  refine lv_iload_n hx hb dH_term_0 rfl (lv_at hl 1 rfl) ?_
  refine ct_callS (av2 := [.int x1]) (rest := []) X hst (x_H_checkRegister l D Y lo hlt hno) wc_H_checkRegister ml_H_48 ws_H_checkRegister wn_H md_H_checkRegister (by decide) hl.1 rfl (Nat.le_of_ble_eq_true rfl) ⟨by omega, by omega⟩ (fun E M1 h => h) dH_term_1 (fun r M' H locs hp hst => ?_)
  exact False.elim hp

set_option maxHeartbeats 4000000 in
set_option maxRecDepth 100000 in
theorem x_H_term_i (l : Launch) (D : va_G) (Y : Nat → ClassId) (lo : Nat) (hlt : l.stackTraces = false) {M : Hm} {xa p rf : Nat} {A cap si : Nat → Nat} {P : Nat → Pf} (hcs : cs Y M xa A p P cap si rf) {r : Nat} {z2 z3 : Int32} (hr : r < 12) (hno : ¬ ∃ i : Nat, i < (tp (P r)).length ∧ z2 = nI i) : ct l D Y lo y_H_term b_H_term 5 (some .int) 7 [.ref xa, .int (nI r), .int z2, .int z3] M (fun _ _ => False) (fun E M' => E = EI ∧ M = M') 1 6 := by
  refine ct_of (by decide) (Nat.le_of_ble_eq_true rfl) ?_
  intro pg eg sg mg bw mt cg ls X hst hl
  have X1 := X
  obtain ⟨hx, hb, hml, hrt, hlocks, hown, hnm, hts, hkz, hex⟩ := X1
  have hG : ∀ w ∈ GW, w.before _ sg = true := fun w h => hts w (List.mem_cons_of_mem _ h)
  have hK := hkz.1
  have hl : lv_has ls 5 [(0, .ref xa), (1, .int (nI r)), (2, .int z2), (3, .int z3)] := hl
  have hcs0 := hcs
  obtain ⟨x0, ⟨gr, x1, hgr⟩, ⟨gn, x2, hgn⟩, ⟨hf, hpr⟩, hs, ⟨gw, ht⟩, ⟨hs1, hs2⟩, hP, ⟨LS, hS⟩, hN, hc1, hc2, hPp⟩ := hcs
  have hpp := hf.2.1
  have hpp3 := hf.2.2
  have hf0 := hf.1
  refine lv_iload_n hx hb dH_term_0 rfl (lv_at hl 1 rfl) ?_
  refine ct_callS (av2 := [.int (nI r)]) (rest := []) X hst (c_H_checkRegister l D Y lo hr) wc_H_checkRegister ml_H_48 ws_H_checkRegister wn_H md_H_checkRegister (by decide) hl.1 rfl (Nat.le_of_ble_eq_true rfl) ⟨by omega, by omega⟩ (fun _ _ h => h.elim) dH_term_1 (fun r M' H locs hp hst => ?_)
  obtain ⟨rfl, rfl⟩ := hp
  refine lv_aload_n hx hb dH_term_4 rfl (lv_at hl 0 rfl) ?_
  refine hp_get hx hb hG in_H hown hK hst x0 rfl 3 (by decide) (hG _ fl_H_11) rfl rfl dH_term_5 ?_
  refine lv_iload_n hx hb dH_term_8 rfl (lv_at hl 1 rfl) ?_
  refine hp_aald hx hb hK rfl hst x1 (j := r) (v := (A (si r))) (by omega) (by omega) (hgr r hr) dH_term_9 ?_
  have hPr := hP r hr
  obtain ⟨a9, b9, fa9, fb9, h09, h19, h29, hL9, hn9, hc19, hc29⟩ := hPr
  refine lv_astore (lv' := [(4, .ref (A (si r))), (0, .ref xa), (1, .int (nI r)), (2, .int z2), (3, .int z3)]) hx hb dH_term_10 hl (by decide) rfl (fun ls hl => ?_)
  refine lv_iload_n hx hb dH_term_12 rfl (lv_at hl 3 rfl) ?_
  refine lv_if_lt hx hb dH_term_13 (tgt := 25) rfl (fun hc => ?_) (fun hc => ?_)
  · skip
    exact ct_throw (cls := EI) (ik := 149) (ic := 151) X hst hlt rfl (by decide +kernel) cl_H_149 wn_IndexOutOfBoundsException at_I gd_I hl.1 (by decide) (Nat.le_of_ble_eq_true rfl) (by omega) (by omega) ⟨rfl, rfl⟩ dH_term_25 dH_term_28 dH_term_29 dH_term_32
  · skip
    have n1 := hc
    refine lv_iload_n hx hb dH_term_16 rfl (lv_at hl 3 rfl) ?_
    refine lv_aload hx hb dH_term_17 (lv_at hl 0 rfl) ?_
    refine hp_get hx hb hG in_P hown hK hst h09 rfl 2 (by decide) (hG _ fl_H_109) rfl rfl dH_term_19 ?_
    refine lv_icmp_lt hx hb dH_term_22 (tgt := 33) rfl (fun hc => ?_) (fun hc => ?_)
    · exact absurd (in_of n1 hc (by omega)) hno
    · skip
      exact ct_throw (cls := EI) (ik := 149) (ic := 151) X hst hlt rfl (by decide +kernel) cl_H_149 wn_IndexOutOfBoundsException at_I gd_I hl.1 (by decide) (Nat.le_of_ble_eq_true rfl) (by omega) (by omega) ⟨rfl, rfl⟩ dH_term_25 dH_term_28 dH_term_29 dH_term_32

set_option maxHeartbeats 4000000 in
set_option maxRecDepth 100000 in
theorem x_H_term_w (l : Launch) (D : va_G) (Y : Nat → ClassId) (lo : Nat) (hlt : l.stackTraces = false) {M : Hm} {xa p rf : Nat} {A cap si : Nat → Nat} {P : Nat → Pf} (hcs : cs Y M xa A p P cap si rf) {r i : Nat} {z3 : Int32} (hr : r < 12) (hi : i < (tp (P r)).length) (hno : ¬ ∃ k : Nat, k ≤ 3 ∧ z3 = nI k) : ct l D Y lo y_H_term b_H_term 5 (some .int) 7 [.ref xa, .int (nI r), .int (nI i), .int z3] M (fun _ _ => False) (fun E M' => E = EA ∧ M = M') 1 6 := by
  refine ct_of (by decide) (Nat.le_of_ble_eq_true rfl) ?_
  intro pg eg sg mg bw mt cg ls X hst hl
  have X1 := X
  obtain ⟨hx, hb, hml, hrt, hlocks, hown, hnm, hts, hkz, hex⟩ := X1
  have hG : ∀ w ∈ GW, w.before _ sg = true := fun w h => hts w (List.mem_cons_of_mem _ h)
  have hK := hkz.1
  have hl : lv_has ls 5 [(0, .ref xa), (1, .int (nI r)), (2, .int (nI i)), (3, .int z3)] := hl
  have hcs0 := hcs
  obtain ⟨x0, ⟨gr, x1, hgr⟩, ⟨gn, x2, hgn⟩, ⟨hf, hpr⟩, hs, ⟨gw, ht⟩, ⟨hs1, hs2⟩, hP, ⟨LS, hS⟩, hN, hc1, hc2, hPp⟩ := hcs
  have hpp := hf.2.1
  have hpp3 := hf.2.2
  have hf0 := hf.1
  refine lv_iload_n hx hb dH_term_0 rfl (lv_at hl 1 rfl) ?_
  refine ct_callS (av2 := [.int (nI r)]) (rest := []) X hst (c_H_checkRegister l D Y lo hr) wc_H_checkRegister ml_H_48 ws_H_checkRegister wn_H md_H_checkRegister (by decide) hl.1 rfl (Nat.le_of_ble_eq_true rfl) ⟨by omega, by omega⟩ (fun _ _ h => h.elim) dH_term_1 (fun r M' H locs hp hst => ?_)
  obtain ⟨rfl, rfl⟩ := hp
  refine lv_aload_n hx hb dH_term_4 rfl (lv_at hl 0 rfl) ?_
  refine hp_get hx hb hG in_H hown hK hst x0 rfl 3 (by decide) (hG _ fl_H_11) rfl rfl dH_term_5 ?_
  refine lv_iload_n hx hb dH_term_8 rfl (lv_at hl 1 rfl) ?_
  refine hp_aald hx hb hK rfl hst x1 (j := r) (v := (A (si r))) (by omega) (by omega) (hgr r hr) dH_term_9 ?_
  have hPr := hP r hr
  obtain ⟨a9, b9, fa9, fb9, h09, h19, h29, hL9, hn9, hc19, hc29⟩ := hPr
  refine lv_astore (lv' := [(4, .ref (A (si r))), (0, .ref xa), (1, .int (nI r)), (2, .int (nI i)), (3, .int z3)]) hx hb dH_term_10 hl (by decide) rfl (fun ls hl => ?_)
  refine lv_iload_n hx hb dH_term_12 rfl (lv_at hl 3 rfl) ?_
  refine lv_if_lt hx hb dH_term_13 (tgt := 25) rfl (fun hc => ?_) (fun hc => ?_)
  · skip
    rw [← nI_0] at hc
    have hc9 : i < 0 := (nI_ltI (by omega) (by omega)).mp hc
    exact absurd hc9 (by omega)
  · skip
    rw [← nI_0] at hc
    have hc9 : ¬ i < 0 := fun z => hc ((nI_ltI (by omega) (by omega)).mpr z)
    refine lv_iload_n hx hb dH_term_16 rfl (lv_at hl 3 rfl) ?_
    refine lv_aload hx hb dH_term_17 (lv_at hl 0 rfl) ?_
    refine hp_get hx hb hG in_P hown hK hst h09 rfl 2 (by decide) (hG _ fl_H_109) rfl rfl dH_term_19 ?_
    refine lv_icmp_lt hx hb dH_term_22 (tgt := 33) rfl (fun hc => ?_) (fun hc => ?_)
    · skip
      have hc9 : i < ((tp (P r)).length) := (nI_ltI (by omega) (by omega)).mp hc
      refine lv_iload_n hx hb dH_term_33 rfl (lv_at hl 4 rfl) ?_
      refine lv_if_lt hx hb dH_term_34 (tgt := 42) rfl (fun hc => ?_) (fun hc => ?_)
      · skip
        exact ct_throw (cls := EA) (ik := 96) (ic := 98) X hst hlt rfl (by decide +kernel) cl_H_96 wn_IllegalArgumentException at_A gd_A hl.1 (by decide) (Nat.le_of_ble_eq_true rfl) (by omega) (by omega) ⟨rfl, rfl⟩ dH_term_42 dH_term_45 dH_term_46 dH_term_49
      · skip
        have n1 := hc
        refine lv_iload_n hx hb dH_term_37 rfl (lv_at hl 4 rfl) ?_
        refine lv_iconst (v := nI 3) hx hb dH_term_38 (by decide +kernel) ?_
        refine lv_icmp_le hx hb dH_term_39 (tgt := 50) rfl (fun hc => ?_) (fun hc => ?_)
        · obtain ⟨k3, hk3, rfl⟩ := nI_of n1
          exact absurd ⟨k3, (nI_leI hk3 (by omega)).mp hc, rfl⟩ hno
        · skip
          exact ct_throw (cls := EA) (ik := 96) (ic := 98) X hst hlt rfl (by decide +kernel) cl_H_96 wn_IllegalArgumentException at_A gd_A hl.1 (by decide) (Nat.le_of_ble_eq_true rfl) (by omega) (by omega) ⟨rfl, rfl⟩ dH_term_42 dH_term_45 dH_term_46 dH_term_49
    · skip
      have hc9 : ¬ i < ((tp (P r)).length) := fun z => hc ((nI_ltI (by omega) (by omega)).mpr z)
      exact absurd hc9 (by omega)

set_option maxHeartbeats 4000000 in
set_option maxRecDepth 100000 in
theorem c_H_multiply (l : Launch) (D : va_G) (Y : Nat → ClassId) (lo : Nat) {M : Hm} {xa p rf : Nat} {A cap si : Nat → Nat} {P : Nat → Pf} (hcs : cs Y M xa A p P cap si rf) {r a b : Nat} (hr : r < 12) (ha : a < 12) (hb9 : b < 12) (hdg : ∀ u, u < 3 → dgl u (tp (P a)) 0 + dgl u (tp (P b)) 0 ≤ 12) : ct l D Y lo y_H_multiply b_H_multiply 7 (some .boolean) 5 [.ref xa, .int (nI r), .int (nI a), .int (nI b)] M (fun r9 M' => r9 = some (.int (nI 1)) ∧ cs Y M' xa A p (va_up P r (mulP p (P a) (P b))) (va_up cap (si r) (gcn (cap (si r)) 0 (td (mulP p (P a) (P b)) 9139).length)) si rf ∧ hp_off (fun i => i < 300) M M') nx (gcn (cap (si r)) 0 (td (mulP p (P a) (P b)) 9139).length - cap (si r)) (4 * (gcn (cap (si r)) 0 (td (mulP p (P a) (P b)) 9139).length - cap (si r))) := by
  refine ct_of (by decide) (Nat.le_of_ble_eq_true rfl) ?_
  intro pg eg sg mg bw mt cg ls X hst hl
  have X1 := X
  obtain ⟨hx, hb, hml, hrt, hlocks, hown, hnm, hts, hkz, hex⟩ := X1
  have hG : ∀ w ∈ GW, w.before _ sg = true := fun w h => hts w (List.mem_cons_of_mem _ h)
  have hK := hkz.1
  have hl : lv_has ls 7 [(0, .ref xa), (1, .int (nI r)), (2, .int (nI a)), (3, .int (nI b))] := hl
  have hcs0 := hcs
  obtain ⟨x0, ⟨gr, x1, hgr⟩, ⟨gn, x2, hgn⟩, ⟨hf, hpr⟩, hs, ⟨gw, ht⟩, ⟨hs1, hs2⟩, hP, ⟨LS, hS⟩, hN, hc1, hc2, hPp⟩ := hcs
  have hpp := hf.2.1
  have hpp3 := hf.2.2
  have hf0 := hf.1
  refine lv_iload_n hx hb dH_multiply_0 rfl (lv_at hl 1 rfl) ?_
  refine lv_iload_n hx hb dH_multiply_1 rfl (lv_at hl 2 rfl) ?_
  refine lv_iload_n hx hb dH_multiply_2 rfl (lv_at hl 3 rfl) ?_
  refine ct_callS (av2 := [.int (nI r), .int (nI a), .int (nI b)]) (rest := []) X hst (c_H_checkRegisters l D Y lo hr ha hb9) wc_H_checkRegisters ml_H_73 ws_H_checkRegisters wn_H md_H_checkRegisters (by decide) hl.1 rfl (Nat.le_of_ble_eq_true rfl) ⟨by omega, by omega⟩ (fun _ _ h => h.elim) dH_multiply_3 (fun r M' H locs hp hst => ?_)
  obtain ⟨rfl, rfl⟩ := hp
  have hs_r := hs1 r (by omega)
  have hs_a := hs1 a (by omega)
  have hs_b := hs1 b (by omega)
  have hc18 := hc1 r (by omega)
  obtain ⟨fs_a, cell_a⟩ := (hP a ha).cell
  obtain ⟨fs_b, cell_b⟩ := (hP b hb9).cell
  refine lv_aload_n hx hb dH_multiply_6 rfl (lv_at hl 0 rfl) ?_
  refine hp_get hx hb hG in_H hown hK hst x0 rfl 3 (by decide) (hG _ fl_H_11) rfl rfl dH_multiply_7 ?_
  refine lv_iload_n hx hb dH_multiply_10 rfl (lv_at hl 2 rfl) ?_
  refine hp_aald hx hb hK rfl hst x1 (j := a) (v := (A (si a))) (by omega) (by omega) (hgr a ha) dH_multiply_11 ?_
  refine lv_astore (lv' := [(4, .ref (A (si a))), (0, .ref xa), (1, .int (nI r)), (2, .int (nI a)), (3, .int (nI b))]) hx hb dH_multiply_12 hl (by decide) rfl (fun ls hl => ?_)
  refine lv_aload_n hx hb dH_multiply_14 rfl (lv_at hl 1 rfl) ?_
  refine hp_get hx hb hG in_H hown hK hst x0 rfl 3 (by decide) (hG _ fl_H_11) rfl rfl dH_multiply_15 ?_
  refine lv_iload_n hx hb dH_multiply_18 rfl (lv_at hl 4 rfl) ?_
  refine hp_aald hx hb hK rfl hst x1 (j := b) (v := (A (si b))) (by omega) (by omega) (hgr b hb9) dH_multiply_19 ?_
  refine lv_astore (lv' := [(5, .ref (A (si b))), (4, .ref (A (si a))), (0, .ref xa), (1, .int (nI r)), (2, .int (nI a)), (3, .int (nI b))]) hx hb dH_multiply_20 hl (by decide) rfl (fun ls hl => ?_)
  refine lv_iconst (v := nI 0) hx hb dH_multiply_22 (by decide +kernel) ?_
  refine lv_istore (lv' := [(6, .int (nI 0)), (5, .ref (A (si b))), (4, .ref (A (si a))), (0, .ref xa), (1, .int (nI r)), (2, .int (nI a)), (3, .int (nI b))]) hx hb dH_multiply_23 hl (by decide) rfl (fun ls hl => ?_)
  have LP : ∀ (kk : Nat) (u : Nat) (H : Heap) (locs : List Loc) (ls : Array Slot), kk = 4 - u → (u ≤ 3) → (∀ v, v < u → dgl v (tp (P a)) 0 + dgl v (tp (P b)) 0 ≤ 12) → hp_st D vC lo M sg.heap H locs → lv_has ls 7 [(0, .ref xa), (1, .int (nI r)), (2, .int (nI a)), (3, .int (nI b)), (4, .ref (A (si a))), (5, .ref (A (si b))), (6, .int (nI u))] → cW pg l eg sg mg [.ref xa, .int (nI r), .int (nI a), .int (nI b)] bw mt cg y_H_multiply b_H_multiply 7 (some .boolean) 5 D lo (fun r9 M' => r9 = some (.int (nI 1)) ∧ cs Y M' xa A p (va_up P r (mulP p (P a) (P b))) (va_up cap (si r) (gcn (cap (si r)) 0 (td (mulP p (P a) (P b)) 9139).length)) si rf ∧ hp_off (fun i => i < 300) M M') nx (gcn (cap (si r)) 0 (td (mulP p (P a) (P b)) 9139).length - cap (si r)) (4 * (gcn (cap (si r)) 0 (td (mulP p (P a) (P b)) 9139).length - cap (si r))) H locs 0 0 (F0 mg 25 ls []) := by
    intro kk
    induction kk using Nat.strongRecOn with
    | _ kk ihLP =>
    intro u H locs ls hkk hu9 hok hst hl
    refine lv_iload hx hb dH_multiply_25 (lv_at hl 6 rfl) ?_
    refine lv_iconst (v := nI 3) hx hb dH_multiply_27 (by decide +kernel) ?_
    refine lv_icmp_ge hx hb dH_multiply_28 (tgt := 62) rfl (fun hc => ?_) (fun hc => ?_)
    · skip
      have hc7 : 3 ≤ u := (nI_leI (by omega) (by omega)).mp hc
      obtain ⟨fss, cells9⟩ := hs.cell
      have hmm := mul_mv hdg (fun q hq => (tp_mem hq).1) (fun q hq => (tp_mem hq).1)
      refine lv_aload_n hx hb dH_multiply_62 rfl (lv_at hl 0 rfl) ?_
      refine hp_get hx hb hG in_H hown hK hst x0 rfl 1 (by decide) (hG _ fl_H_32) rfl rfl dH_multiply_63 ?_
      refine lv_aload hx hb dH_multiply_66 (lv_at hl 4 rfl) ?_
      refine lv_aload hx hb dH_multiply_68 (lv_at hl 5 rfl) ?_
      refine ct_callV (av2 := [.ref (A (si a)), .ref (A (si b))]) (rest := []) (b := (A 1)) X hst (c_S_addProduct l D Y lo hs hf (fun _ => by omega) (hP a ha) (by omega) (hP b hb9) (by omega) (fun q hq => ⟨by rw [(tp_mem hq).2.1]; exact hPp a ha _, fun q2 hq2 => ⟨(hmm q hq q2 hq2).1, by rw [(tp_mem hq2).2.1]; exact hPp b hb9 _⟩⟩)) cells9 rfl wc_S_addProduct ml_H_92 wi_S_addProduct wl_S_addProduct wn_S md_S_addProduct (by decide) hl.1 rfl (Nat.le_of_ble_eq_true rfl) ⟨by omega, by omega⟩ (fun _ _ h => h.elim) dH_multiply_70 (fun r M' H locs hp hst => ?_)
      obtain ⟨rfl, hs3, ho3⟩ := hp
      have hs3 : sh Y M' (A 1) (A 0) (mulP p (P a) (P b)) := hs3
      have x0a := ho3.of x0 (by omega)
      have x1a := ho3.of x1 (by omega)
      have hPr := (hP r hr).off ho3 (by omega)
      obtain ⟨fst, cellt⟩ := hs3.cell
      have hcp2 := mulP_lt (p := p) (by omega) (P a) (P b)
      refine lv_aload_n hx hb dH_multiply_73 rfl (lv_at hl 0 rfl) ?_
      refine hp_get hx hb hG in_H hown hK hst x0a rfl 1 (by decide) (hG _ fl_H_32) rfl rfl dH_multiply_74 ?_
      refine lv_aload_n hx hb dH_multiply_77 rfl (lv_at hl 0 rfl) ?_
      refine hp_get hx hb hG in_H hown hK hst x0a rfl 3 (by decide) (hG _ fl_H_11) rfl rfl dH_multiply_78 ?_
      refine lv_iload_n hx hb dH_multiply_81 rfl (lv_at hl 1 rfl) ?_
      refine hp_aald hx hb hK rfl hst x1a (j := r) (v := (A (si r))) (by omega) (by omega) (hgr r hr) dH_multiply_82 ?_
      refine ct_callV (av2 := [.ref (A (si r))]) (rest := []) (b := (A 1)) X hst (c_S_moveTo l D Y lo hs3 hPr (by omega) hc18 (fun m => by have := hcp2 m; omega)) cellt rfl wc_S_moveTo ml_H_81 wi_S_moveTo wl_S_moveTo wn_S md_S_moveTo (by decide) hl.1 rfl (Nat.le_of_ble_eq_true rfl) ⟨by omega, by omega⟩ (fun _ _ h => h.elim) dH_multiply_83 (fun r M' H locs hp hst => ?_)
      obtain ⟨rfl, hp6, hs6, ho6⟩ := hp
      have ho7 := (ho3.wk (fun i hi => Or.inl hi : ∀ i, i = 2 → (i = 2 ∨ i = si r))).tr ho6
      have hl9 := td_len (mulP p (P a) (P b)) 9139
      have hgl := gcn_le (td (mulP p (P a) (P b)) 9139).length (cap (si r)) 0 18278 hc18 (by omega)
      have hcs1 := hcs0.reg hr ho7 hs6 (g := mulP p (P a) (P b)) hp6 hgl hcp2
      refine lv_iconst (v := nI 1) hx hb dH_multiply_86 (by decide +kernel) ?_
      exact ct_zret X hst (by omega) ⟨rfl, hcs1, ho7.wk (fun i hi => by omega)⟩ (by omega) (by omega) dH_multiply_87
    · skip
      have hc7 : ¬ 3 ≤ u := fun z => hc ((nI_leI (by omega) (by omega)).mpr z)
      have hu : u < 3 := by omega
      have d1 := dgl_lt (v := u) (g := 0) (L := tp (P a)) (by omega)
      have d2 := dgl_lt (v := u) (g := 0) (L := tp (P b)) (by omega)
      refine lv_aload hx hb dH_multiply_31 (lv_at hl 4 rfl) ?_
      refine lv_iload hx hb dH_multiply_33 (lv_at hl 6 rfl) ?_
      refine ct_callV (av2 := [.int (nI u)]) (rest := []) (b := (A (si a))) X hst (c_P_degreeIn l D Y lo (hP a ha) hu (fun q hq => (tp_b hpp3 (hPp a ha) q hq).1)) cell_a rfl wc_P_degreeIn ml_H_85 wi_P_degreeIn wl_P_degreeIn wn_P md_P_degreeIn (by decide) hl.1 rfl (Nat.le_of_ble_eq_true rfl) ⟨by omega, by omega⟩ (fun _ _ h => h.elim) dH_multiply_35 (fun r M' H locs hp hst => ?_)
      obtain ⟨rfl, rfl⟩ := hp
      refine lv_aload hx hb dH_multiply_38 (lv_at hl 5 rfl) ?_
      refine lv_iload hx hb dH_multiply_40 (lv_at hl 6 rfl) ?_
      refine ct_callV (av2 := [.int (nI u)]) (rest := [.int (nI (dgl u (tp (P a)) 0))]) (b := (A (si b))) X hst (c_P_degreeIn l D Y lo (hP b hb9) hu (fun q hq => (tp_b hpp3 (hPp b hb9) q hq).1)) cell_b rfl wc_P_degreeIn ml_H_85 wi_P_degreeIn wl_P_degreeIn wn_P md_P_degreeIn (by decide) hl.1 rfl (Nat.le_of_ble_eq_true rfl) ⟨by omega, by omega⟩ (fun _ _ h => h.elim) dH_multiply_42 (fun r M' H locs hp hst => ?_)
      obtain ⟨rfl, rfl⟩ := hp
      refine t_iadd hx hb dH_multiply_45 (v := nI ((dgl u (tp (P a)) 0) + (dgl u (tp (P b)) 0))) (nI_add _ _) ?_
      refine lv_bipush (v := nI 12) hx hb dH_multiply_46 (by decide +kernel) ?_
      refine lv_icmp_le hx hb dH_multiply_48 (tgt := 56) rfl (fun hc => ?_) (fun hc => ?_)
      · skip
        have hc8 : ((dgl u (tp (P a)) 0) + (dgl u (tp (P b)) 0)) ≤ 12 := (nI_leI (by omega) (by omega)).mp hc
        refine lv_iinc (lv' := [(6, .int (nI (u + 1))), (0, .ref xa), (1, .int (nI r)), (2, .int (nI a)), (3, .int (nI b)), (4, .ref (A (si a))), (5, .ref (A (si b)))]) hx hb dH_multiply_56 hl (k := 6) rfl (ii_p _) (by decide) rfl (fun ls hl => ?_)
        refine lv_goto hx hb dH_multiply_59 (tgt := 25) rfl ?_
        exact ihLP _ (by omega) (u + 1) _ _ _ rfl (by omega) (fun v hv => by
            by_cases h9 : v = u
            · subst h9; exact hc8
            · exact hok v (by omega)) hst (lv_sub hl [1, 2, 3, 4, 5, 6, 0] rfl)
      · skip
        have hc8 : ¬ ((dgl u (tp (P a)) 0) + (dgl u (tp (P b)) 0)) ≤ 12 := fun z => hc ((nI_leI (by omega) (by omega)).mpr z)
        exact absurd (hdg u hu) hc8
  exact LP _ 0 _ _ _ rfl (by omega) (fun v hv => by omega) hst (lv_sub hl [3, 4, 5, 6, 2, 1, 0] rfl)

set_option maxHeartbeats 4000000 in
set_option maxRecDepth 100000 in
theorem n_H_multiply (l : Launch) (D : va_G) (Y : Nat → ClassId) (lo : Nat) {M : Hm} {xa p rf : Nat} {A cap si : Nat → Nat} {P : Nat → Pf} (hcs : cs Y M xa A p P cap si rf) {r a b : Nat} (hr : r < 12) (ha : a < 12) (hb9 : b < 12) (hdg : ¬ ∀ u, u < 3 → dgl u (tp (P a)) 0 + dgl u (tp (P b)) 0 ≤ 12) : ct l D Y lo y_H_multiply b_H_multiply 7 (some .boolean) 5 [.ref xa, .int (nI r), .int (nI a), .int (nI b)] M (fun r9 M' => r9 = some (.int (nI 0)) ∧ cs Y M' xa A p P cap si (rf + 1) ∧ hp_off (fun i => i < 300) M M') nx 0 0 := by
  refine ct_of (by decide) (Nat.le_of_ble_eq_true rfl) ?_
  intro pg eg sg mg bw mt cg ls X hst hl
  have X1 := X
  obtain ⟨hx, hb, hml, hrt, hlocks, hown, hnm, hts, hkz, hex⟩ := X1
  have hG : ∀ w ∈ GW, w.before _ sg = true := fun w h => hts w (List.mem_cons_of_mem _ h)
  have hK := hkz.1
  have hl : lv_has ls 7 [(0, .ref xa), (1, .int (nI r)), (2, .int (nI a)), (3, .int (nI b))] := hl
  have hcs0 := hcs
  obtain ⟨x0, ⟨gr, x1, hgr⟩, ⟨gn, x2, hgn⟩, ⟨hf, hpr⟩, hs, ⟨gw, ht⟩, ⟨hs1, hs2⟩, hP, ⟨LS, hS⟩, hN, hc1, hc2, hPp⟩ := hcs
  have hpp := hf.2.1
  have hpp3 := hf.2.2
  have hf0 := hf.1
  refine lv_iload_n hx hb dH_multiply_0 rfl (lv_at hl 1 rfl) ?_
  refine lv_iload_n hx hb dH_multiply_1 rfl (lv_at hl 2 rfl) ?_
  refine lv_iload_n hx hb dH_multiply_2 rfl (lv_at hl 3 rfl) ?_
  refine ct_callS (av2 := [.int (nI r), .int (nI a), .int (nI b)]) (rest := []) X hst (c_H_checkRegisters l D Y lo hr ha hb9) wc_H_checkRegisters ml_H_73 ws_H_checkRegisters wn_H md_H_checkRegisters (by decide) hl.1 rfl (Nat.le_of_ble_eq_true rfl) ⟨by omega, by omega⟩ (fun _ _ h => h.elim) dH_multiply_3 (fun r M' H locs hp hst => ?_)
  obtain ⟨rfl, rfl⟩ := hp
  have hs_r := hs1 r (by omega)
  have hs_a := hs1 a (by omega)
  have hs_b := hs1 b (by omega)
  have hc18 := hc1 r (by omega)
  obtain ⟨fs_a, cell_a⟩ := (hP a ha).cell
  obtain ⟨fs_b, cell_b⟩ := (hP b hb9).cell
  refine lv_aload_n hx hb dH_multiply_6 rfl (lv_at hl 0 rfl) ?_
  refine hp_get hx hb hG in_H hown hK hst x0 rfl 3 (by decide) (hG _ fl_H_11) rfl rfl dH_multiply_7 ?_
  refine lv_iload_n hx hb dH_multiply_10 rfl (lv_at hl 2 rfl) ?_
  refine hp_aald hx hb hK rfl hst x1 (j := a) (v := (A (si a))) (by omega) (by omega) (hgr a ha) dH_multiply_11 ?_
  refine lv_astore (lv' := [(4, .ref (A (si a))), (0, .ref xa), (1, .int (nI r)), (2, .int (nI a)), (3, .int (nI b))]) hx hb dH_multiply_12 hl (by decide) rfl (fun ls hl => ?_)
  refine lv_aload_n hx hb dH_multiply_14 rfl (lv_at hl 1 rfl) ?_
  refine hp_get hx hb hG in_H hown hK hst x0 rfl 3 (by decide) (hG _ fl_H_11) rfl rfl dH_multiply_15 ?_
  refine lv_iload_n hx hb dH_multiply_18 rfl (lv_at hl 4 rfl) ?_
  refine hp_aald hx hb hK rfl hst x1 (j := b) (v := (A (si b))) (by omega) (by omega) (hgr b hb9) dH_multiply_19 ?_
  refine lv_astore (lv' := [(5, .ref (A (si b))), (4, .ref (A (si a))), (0, .ref xa), (1, .int (nI r)), (2, .int (nI a)), (3, .int (nI b))]) hx hb dH_multiply_20 hl (by decide) rfl (fun ls hl => ?_)
  refine lv_iconst (v := nI 0) hx hb dH_multiply_22 (by decide +kernel) ?_
  refine lv_istore (lv' := [(6, .int (nI 0)), (5, .ref (A (si b))), (4, .ref (A (si a))), (0, .ref xa), (1, .int (nI r)), (2, .int (nI a)), (3, .int (nI b))]) hx hb dH_multiply_23 hl (by decide) rfl (fun ls hl => ?_)
  have LP : ∀ (kk : Nat) (u : Nat) (H : Heap) (locs : List Loc) (ls : Array Slot), kk = 4 - u → (u ≤ 3) → (∀ v, v < u → dgl v (tp (P a)) 0 + dgl v (tp (P b)) 0 ≤ 12) → hp_st D vC lo M sg.heap H locs → lv_has ls 7 [(0, .ref xa), (1, .int (nI r)), (2, .int (nI a)), (3, .int (nI b)), (4, .ref (A (si a))), (5, .ref (A (si b))), (6, .int (nI u))] → cW pg l eg sg mg [.ref xa, .int (nI r), .int (nI a), .int (nI b)] bw mt cg y_H_multiply b_H_multiply 7 (some .boolean) 5 D lo (fun r9 M' => r9 = some (.int (nI 0)) ∧ cs Y M' xa A p P cap si (rf + 1) ∧ hp_off (fun i => i < 300) M M') nx 0 0 H locs 0 0 (F0 mg 25 ls []) := by
    intro kk
    induction kk using Nat.strongRecOn with
    | _ kk ihLP =>
    intro u H locs ls hkk hu9 hok hst hl
    refine lv_iload hx hb dH_multiply_25 (lv_at hl 6 rfl) ?_
    refine lv_iconst (v := nI 3) hx hb dH_multiply_27 (by decide +kernel) ?_
    refine lv_icmp_ge hx hb dH_multiply_28 (tgt := 62) rfl (fun hc => ?_) (fun hc => ?_)
    · skip
      have hc7 : 3 ≤ u := (nI_leI (by omega) (by omega)).mp hc
      exact absurd (fun u hu => hok u (by omega)) hdg
    · skip
      have hc7 : ¬ 3 ≤ u := fun z => hc ((nI_leI (by omega) (by omega)).mpr z)
      have hu : u < 3 := by omega
      have d1 := dgl_lt (v := u) (g := 0) (L := tp (P a)) (by omega)
      have d2 := dgl_lt (v := u) (g := 0) (L := tp (P b)) (by omega)
      refine lv_aload hx hb dH_multiply_31 (lv_at hl 4 rfl) ?_
      refine lv_iload hx hb dH_multiply_33 (lv_at hl 6 rfl) ?_
      refine ct_callV (av2 := [.int (nI u)]) (rest := []) (b := (A (si a))) X hst (c_P_degreeIn l D Y lo (hP a ha) hu (fun q hq => (tp_b hpp3 (hPp a ha) q hq).1)) cell_a rfl wc_P_degreeIn ml_H_85 wi_P_degreeIn wl_P_degreeIn wn_P md_P_degreeIn (by decide) hl.1 rfl (Nat.le_of_ble_eq_true rfl) ⟨by omega, by omega⟩ (fun _ _ h => h.elim) dH_multiply_35 (fun r M' H locs hp hst => ?_)
      obtain ⟨rfl, rfl⟩ := hp
      refine lv_aload hx hb dH_multiply_38 (lv_at hl 5 rfl) ?_
      refine lv_iload hx hb dH_multiply_40 (lv_at hl 6 rfl) ?_
      refine ct_callV (av2 := [.int (nI u)]) (rest := [.int (nI (dgl u (tp (P a)) 0))]) (b := (A (si b))) X hst (c_P_degreeIn l D Y lo (hP b hb9) hu (fun q hq => (tp_b hpp3 (hPp b hb9) q hq).1)) cell_b rfl wc_P_degreeIn ml_H_85 wi_P_degreeIn wl_P_degreeIn wn_P md_P_degreeIn (by decide) hl.1 rfl (Nat.le_of_ble_eq_true rfl) ⟨by omega, by omega⟩ (fun _ _ h => h.elim) dH_multiply_42 (fun r M' H locs hp hst => ?_)
      obtain ⟨rfl, rfl⟩ := hp
      refine t_iadd hx hb dH_multiply_45 (v := nI ((dgl u (tp (P a)) 0) + (dgl u (tp (P b)) 0))) (nI_add _ _) ?_
      refine lv_bipush (v := nI 12) hx hb dH_multiply_46 (by decide +kernel) ?_
      refine lv_icmp_le hx hb dH_multiply_48 (tgt := 56) rfl (fun hc => ?_) (fun hc => ?_)
      · skip
        have hc8 : ((dgl u (tp (P a)) 0) + (dgl u (tp (P b)) 0)) ≤ 12 := (nI_leI (by omega) (by omega)).mp hc
        refine lv_iinc (lv' := [(6, .int (nI (u + 1))), (0, .ref xa), (1, .int (nI r)), (2, .int (nI a)), (3, .int (nI b)), (4, .ref (A (si a))), (5, .ref (A (si b)))]) hx hb dH_multiply_56 hl (k := 6) rfl (ii_p _) (by decide) rfl (fun ls hl => ?_)
        refine lv_goto hx hb dH_multiply_59 (tgt := 25) rfl ?_
        exact ihLP _ (by omega) (u + 1) _ _ _ rfl (by omega) (fun v hv => by
            by_cases h9 : v = u
            · subst h9; exact hc8
            · exact hok v (by omega)) hst (lv_sub hl [1, 2, 3, 4, 5, 6, 0] rfl)
      · skip
        have hc8 : ¬ ((dgl u (tp (P a)) 0) + (dgl u (tp (P b)) 0)) ≤ 12 := fun z => hc ((nI_leI (by omega) (by omega)).mpr z)
        refine lv_aload_n hx hb dH_multiply_51 rfl (lv_at hl 0 rfl) ?_
        refine ct_callV (av2 := []) (rest := []) (b := xa) X hst (c_H_refuse l D Y lo hcs0) x0 rfl wc_H_refuse ml_H_88 wi_H_refuse wl_H_refuse wn_H md_H_refuse (by decide) hl.1 rfl (Nat.le_of_ble_eq_true rfl) ⟨by omega, by omega⟩ (fun _ _ h => h.elim) dH_multiply_52 (fun r M' H locs hp hst => ?_)
        obtain ⟨rfl, hcs1, ho1⟩ := hp
        exact ct_zret X hst (by omega) ⟨rfl, hcs1, ho1.wk (fun i hi => by omega)⟩ (by omega) (by omega) dH_multiply_55
  exact LP _ 0 _ _ _ rfl (by omega) (fun v hv => by omega) hst (lv_sub hl [3, 4, 5, 6, 2, 1, 0] rfl)

set_option maxHeartbeats 4000000 in
set_option maxRecDepth 100000 in
theorem x_H_multiply (l : Launch) (D : va_G) (Y : Nat → ClassId) (lo : Nat) (hlt : l.stackTraces = false) {M : Hm} {xa : Nat} {x1 x2 x3 : Int32} (hno : ¬ (inR x1 ∧ inR x2 ∧ inR x3)) : ct l D Y lo y_H_multiply b_H_multiply 7 (some .boolean) 8 [.ref xa, .int x1, .int x2, .int x3] M (fun _ _ => False) (fun E M' => E = EI ∧ M = M') 3 18 := by
  refine ct_of (by decide) (Nat.le_of_ble_eq_true rfl) ?_
  intro pg eg sg mg bw mt cg ls X hst hl
  have X1 := X
  obtain ⟨hx, hb, hml, hrt, hlocks, hown, hnm, hts, hkz, hex⟩ := X1
  have hG : ∀ w ∈ GW, w.before _ sg = true := fun w h => hts w (List.mem_cons_of_mem _ h)
  have hK := hkz.1
  have hl : lv_has ls 7 [(0, .ref xa), (1, .int x1), (2, .int x2), (3, .int x3)] := hl
  refine lv_iload_n hx hb dH_multiply_0 rfl (lv_at hl 1 rfl) ?_
  refine lv_iload_n hx hb dH_multiply_1 rfl (lv_at hl 2 rfl) ?_
  refine lv_iload_n hx hb dH_multiply_2 rfl (lv_at hl 3 rfl) ?_
  refine ct_callS (av2 := [.int x1, .int x2, .int x3]) (rest := []) X hst (x_H_checkRegisters l D Y lo hlt hno) wc_H_checkRegisters ml_H_73 ws_H_checkRegisters wn_H md_H_checkRegisters (by decide) hl.1 rfl (Nat.le_of_ble_eq_true rfl) ⟨by omega, by omega⟩ (fun E M1 h => h) dH_multiply_3 (fun r M' H locs hp hst => ?_)
  exact False.elim hp

set_option maxHeartbeats 4000000 in
set_option maxRecDepth 100000 in
theorem c_H_power (l : Launch) (D : va_G) (Y : Nat → ClassId) (lo : Nat) {M : Hm} {xa p rf : Nat} {A cap si : Nat → Nat} {P : Nat → Pf} (hcs : cs Y M xa A p P cap si rf) {r a n : Nat} (hr : r < 12) (ha : a < 12) (hn : n ≤ 100) (hdg : ∀ u, u < 3 → n * dgl u (tp (P a)) 0 ≤ 12) : ct l D Y lo y_H_power b_H_power 6 (some .boolean) 5 [.ref xa, .int (nI r), .int (nI a), .int (nI n)] M (fun r9 M' => r9 = some (.int (nI 1)) ∧ cs Y M' xa A p (va_up P r (pwP p (P a) n)) (va_up cap (si 12) (cpw p (P a) (cap (si 12)) n)) (sw si r) rf ∧ hp_off (fun i => i < 300) M M') nx (cpw p (P a) (cap (si 12)) n - cap (si 12)) (4 * (cpw p (P a) (cap (si 12)) n - cap (si 12))) := by
  refine ct_of (by decide) (Nat.le_of_ble_eq_true rfl) ?_
  intro pg eg sg mg bw mt cg ls X hst hl
  have X1 := X
  obtain ⟨hx, hb, hml, hrt, hlocks, hown, hnm, hts, hkz, hex⟩ := X1
  have hG : ∀ w ∈ GW, w.before _ sg = true := fun w h => hts w (List.mem_cons_of_mem _ h)
  have hK := hkz.1
  have hl : lv_has ls 6 [(0, .ref xa), (1, .int (nI r)), (2, .int (nI a)), (3, .int (nI n))] := hl
  have hcs0 := hcs
  obtain ⟨x0, ⟨gr, x1, hgr⟩, ⟨gn, x2, hgn⟩, ⟨hf, hpr⟩, hs, ⟨gw, ht⟩, ⟨hs1, hs2⟩, hP, ⟨LS, hS⟩, hN, hc1, hc2, hPp⟩ := hcs
  have hpp := hf.2.1
  have hpp3 := hf.2.2
  have hf0 := hf.1
  refine lv_iload_n hx hb dH_power_0 rfl (lv_at hl 1 rfl) ?_
  refine ct_callS (av2 := [.int (nI r)]) (rest := []) X hst (c_H_checkRegister l D Y lo hr) wc_H_checkRegister ml_H_48 ws_H_checkRegister wn_H md_H_checkRegister (by decide) hl.1 rfl (Nat.le_of_ble_eq_true rfl) ⟨by omega, by omega⟩ (fun _ _ h => h.elim) dH_power_1 (fun r M' H locs hp hst => ?_)
  obtain ⟨rfl, rfl⟩ := hp
  refine lv_iload_n hx hb dH_power_4 rfl (lv_at hl 2 rfl) ?_
  refine ct_callS (av2 := [.int (nI a)]) (rest := []) X hst (c_H_checkRegister l D Y lo ha) wc_H_checkRegister ml_H_48 ws_H_checkRegister wn_H md_H_checkRegister (by decide) hl.1 rfl (Nat.le_of_ble_eq_true rfl) ⟨by omega, by omega⟩ (fun _ _ h => h.elim) dH_power_5 (fun r M' H locs hp hst => ?_)
  obtain ⟨rfl, rfl⟩ := hp
  have hs_r := hs1 r (by omega)
  have hs_a := hs1 a (by omega)
  have hs_12 := hs1 12 (by omega)
  have hne : si a ≠ si 12 := fun z => by have := hs2 a 12 (by omega) (by omega) z; omega
  have hc18 := hc1 12 (by omega)
  obtain ⟨fs_a, cell_a⟩ := (hP a ha).cell
  refine lv_iload_n hx hb dH_power_8 rfl (lv_at hl 3 rfl) ?_
  refine lv_if_lt hx hb dH_power_9 (tgt := 18) rfl (fun hc => ?_) (fun hc => ?_)
  · skip
    rw [← nI_0] at hc
    have hc9 : n < 0 := (nI_ltI (by omega) (by omega)).mp hc
    exact absurd hc9 (by omega)
  · skip
    rw [← nI_0] at hc
    have hc9 : ¬ n < 0 := fun z => hc ((nI_ltI (by omega) (by omega)).mpr z)
    refine lv_iload_n hx hb dH_power_12 rfl (lv_at hl 3 rfl) ?_
    refine lv_bipush (v := nI 100) hx hb dH_power_13 (by decide +kernel) ?_
    refine lv_icmp_le hx hb dH_power_15 (tgt := 26) rfl (fun hc => ?_) (fun hc => ?_)
    · skip
      have hc9 : n ≤ 100 := (nI_leI (by omega) (by omega)).mp hc
      refine lv_aload_n hx hb dH_power_26 rfl (lv_at hl 0 rfl) ?_
      refine hp_get hx hb hG in_H hown hK hst x0 rfl 3 (by decide) (hG _ fl_H_11) rfl rfl dH_power_27 ?_
      refine lv_iload_n hx hb dH_power_30 rfl (lv_at hl 2 rfl) ?_
      refine hp_aald hx hb hK rfl hst x1 (j := a) (v := (A (si a))) (by omega) (by omega) (hgr a ha) dH_power_31 ?_
      refine lv_astore (lv' := [(4, .ref (A (si a))), (0, .ref xa), (1, .int (nI r)), (2, .int (nI a)), (3, .int (nI n))]) hx hb dH_power_32 hl (by decide) rfl (fun ls hl => ?_)
      refine lv_iconst (v := nI 0) hx hb dH_power_34 (by decide +kernel) ?_
      refine lv_istore (lv' := [(5, .int (nI 0)), (4, .ref (A (si a))), (0, .ref xa), (1, .int (nI r)), (2, .int (nI a)), (3, .int (nI n))]) hx hb dH_power_35 hl (by decide) rfl (fun ls hl => ?_)
      have LP : ∀ (kk : Nat) (u : Nat) (H : Heap) (locs : List Loc) (ls : Array Slot), kk = 4 - u → (u ≤ 3) → (∀ v, v < u → n * dgl v (tp (P a)) 0 ≤ 12) → hp_st D vC lo M sg.heap H locs → lv_has ls 6 [(0, .ref xa), (1, .int (nI r)), (2, .int (nI a)), (3, .int (nI n)), (4, .ref (A (si a))), (5, .int (nI u))] → cW pg l eg sg mg [.ref xa, .int (nI r), .int (nI a), .int (nI n)] bw mt cg y_H_power b_H_power 6 (some .boolean) 5 D lo (fun r9 M' => r9 = some (.int (nI 1)) ∧ cs Y M' xa A p (va_up P r (pwP p (P a) n)) (va_up cap (si 12) (cpw p (P a) (cap (si 12)) n)) (sw si r) rf ∧ hp_off (fun i => i < 300) M M') nx (cpw p (P a) (cap (si 12)) n - cap (si 12)) (4 * (cpw p (P a) (cap (si 12)) n - cap (si 12))) H locs 0 0 (F0 mg 37 ls []) := by
        intro kk
        induction kk using Nat.strongRecOn with
        | _ kk ihLP =>
        intro u H locs ls hkk hu9 hok hst hl
        refine lv_iload hx hb dH_power_37 (lv_at hl 5 rfl) ?_
        refine lv_iconst (v := nI 3) hx hb dH_power_39 (by decide +kernel) ?_
        refine lv_icmp_ge hx hb dH_power_40 (tgt := 68) rfl (fun hc => ?_) (fun hc => ?_)
        · skip
          have hc7 : 3 ≤ u := (nI_leI (by omega) (by omega)).mp hc
          refine lv_aload_n hx hb dH_power_68 rfl (lv_at hl 0 rfl) ?_
          refine hp_get hx hb hG in_H hown hK hst x0 rfl 5 (by decide) (hG _ fl_H_44) rfl rfl dH_power_69 ?_
          refine lv_iconst (v := nI 1) hx hb dH_power_72 (by decide +kernel) ?_
          obtain ⟨fs12, cell12⟩ := hS.cell
          refine ct_callV (av2 := [.int (nI 1)]) (rest := []) (b := (A (si 12))) X hst (c_P_becomeNumber l D Y lo hS (x := 1) (by omega) (by omega)) cell12 rfl wc_P_becomeNumber ml_H_55 wi_P_becomeNumber wl_P_becomeNumber wn_P md_P_becomeNumber (by decide) hl.1 rfl (Nat.le_of_ble_eq_true rfl) ⟨by omega, by omega⟩ (fun _ _ h => h.elim) dH_power_73 (fun r M' H locs hp hst => ?_)
          obtain ⟨rfl, hp1, ho1⟩ := hp
          rw [← tp_cst] at hp1
          refine lv_iconst (v := nI 0) hx hb dH_power_76 (by decide +kernel) ?_
          refine lv_istore (lv' := [(5, .int (nI 0)), (0, .ref xa), (1, .int (nI r)), (2, .int (nI a)), (3, .int (nI n)), (4, .ref (A (si a)))]) hx hb dH_power_77 hl (by decide) rfl (fun ls hl => ?_)
          refine W.widen (k := cpw p (P a) (cap (si 12)) 0 - cap (si 12)) (n := 4 * (cpw p (P a) (cap (si 12)) 0 - cap (si 12))) (by omega) (by omega) ?_
          have LQ : ∀ (kk : Nat) (i : Nat) (M1 : Hm) (H : Heap) (locs : List Loc) (ls : Array Slot), kk = n - i → (i ≤ n) → (po Y M1 (si 12) (A (si 12)) (cpw p (P a) (cap (si 12)) i) (tp (pwP p (P a) i))) → (sh Y M1 (A 1) (A 0) (fun _ => 0)) → (hp_off (fun j => j = 2 ∨ j = si 12) M M1) → hp_st D vC lo M1 sg.heap H locs → lv_has ls 6 [(0, .ref xa), (1, .int (nI r)), (2, .int (nI a)), (3, .int (nI n)), (4, .ref (A (si a))), (5, .int (nI i))] → cW pg l eg sg mg [.ref xa, .int (nI r), .int (nI a), .int (nI n)] bw mt cg y_H_power b_H_power 6 (some .boolean) 5 D lo (fun r9 M' => r9 = some (.int (nI 1)) ∧ cs Y M' xa A p (va_up P r (pwP p (P a) n)) (va_up cap (si 12) (cpw p (P a) (cap (si 12)) n)) (sw si r) rf ∧ hp_off (fun i => i < 300) M M') nx (cpw p (P a) (cap (si 12)) n - cap (si 12)) (4 * (cpw p (P a) (cap (si 12)) n - cap (si 12))) H locs (cpw p (P a) (cap (si 12)) i - cap (si 12)) (4 * (cpw p (P a) (cap (si 12)) i - cap (si 12))) (F0 mg 79 ls []) := by
            intro kk
            induction kk using Nat.strongRecOn with
            | _ kk ihLQ =>
            intro i M1 H locs ls hkk hi9 hsp hsh ho hst hl
            have hcmw := cpw_le p (P a) hc18 i
            have hge := cpw_ge p (P a) (cap (si 12)) i
            have hmn := cpw_mono p (P a) (cap (si 12)) (n := n) hi9
            have x0a := ho.of x0 (by omega)
            have hfa := hf.off ho (by omega)
            have hPa := (hP a ha).off ho (by omega)
            obtain ⟨fst, cellt⟩ := hsh.cell
            refine lv_iload hx hb dH_power_79 (lv_at hl 5 rfl) ?_
            refine lv_iload_n hx hb dH_power_81 rfl (lv_at hl 3 rfl) ?_
            refine lv_icmp_ge hx hb dH_power_82 (tgt := 115) rfl (fun hc => ?_) (fun hc => ?_)
            · skip
              have hc6 : n ≤ i := (nI_leI (by omega) (by omega)).mp hc
              have hin : i = n := by omega
              subst hin
              have hcsS := hcs0.spr ho hsh hsp hcmw
              have hsp9 : po Y M1 (si 12) (A (si 12)) (va_up cap (si 12) (cpw p (P a) (cap (si 12)) i) (si 12)) (tp (pwP p (P a) i)) := by rw [va_up_self]; exact hsp
              refine lv_aload_n hx hb dH_power_115 rfl (lv_at hl 0 rfl) ?_
              refine lv_iload_n hx hb dH_power_116 rfl (lv_at hl 1 rfl) ?_
              refine ct_callV (av2 := [.int (nI r)]) (rest := []) (b := xa) X hst (c_H_exchangeSpare l D Y lo hcsS hr hsp9 (pwP_lt hpp (P a) i)) x0a rfl wc_H_exchangeSpare ml_H_99 wi_H_exchangeSpare wl_H_exchangeSpare wn_H md_H_exchangeSpare (by decide) hl.1 rfl (Nat.le_of_ble_eq_true rfl) ⟨by omega, by omega⟩ (fun _ _ h => h.elim) dH_power_117 (fun r M' H locs hp hst => ?_)
              obtain ⟨rfl, hcsT, hoT⟩ := hp
              refine lv_iconst (v := nI 1) hx hb dH_power_120 (by decide +kernel) ?_
              exact ct_zret X hst (by omega) ⟨rfl, hcsT, (ho.wk (fun i hi => by omega : ∀ j, (j = 2 ∨ j = si 12) → j < 300)).tr (hoT.wk (fun i hi => by omega))⟩ (by omega) (by omega) dH_power_121
            · skip
              have hc6 : ¬ n ≤ i := fun z => hc ((nI_leI (by omega) (by omega)).mpr z)
              have hmn2 := cpw_mono p (P a) (cap (si 12)) (i := i + 1) (n := n) (by omega)
              have hge2 := gcn_ge (td (pwP p (P a) (i + 1)) 9139).length (cpw p (P a) (cap (si 12)) i) 0
              have hcw1 : cpw p (P a) (cap (si 12)) (i + 1) = gcn (cpw p (P a) (cap (si 12)) i) 0 (td (pwP p (P a) (i + 1)) 9139).length := rfl
              have hdd : ∀ u, u < 3 → dgl u (tp (pwP p (P a) i)) 0 + dgl u (tp (P a)) 0 ≤ 12 := fun u hu => by
                have h1 := pwP_deg hpp hdg (i := i) (by omega) u hu
                have h2 := hdg u hu
                have h3 : (i + 1) * dgl u (tp (P a)) 0 ≤ n * dgl u (tp (P a)) 0 := Nat.mul_le_mul_right _ (by omega)
                rw [Nat.add_mul, Nat.one_mul] at h3
                omega
              have hmm := mul_mv hdd (fun q hq => (tp_mem hq).1) (fun q hq => (tp_mem hq).1)
              refine lv_aload_n hx hb dH_power_85 rfl (lv_at hl 0 rfl) ?_
              refine hp_get hx hb hG in_H hown hK hst x0a rfl 1 (by decide) (hG _ fl_H_32) rfl rfl dH_power_86 ?_
              refine lv_aload_n hx hb dH_power_89 rfl (lv_at hl 0 rfl) ?_
              refine hp_get hx hb hG in_H hown hK hst x0a rfl 5 (by decide) (hG _ fl_H_44) rfl rfl dH_power_90 ?_
              refine lv_aload hx hb dH_power_93 (lv_at hl 4 rfl) ?_
              refine ct_callV (av2 := [.ref (A (si 12)), .ref (A (si a))]) (rest := []) (b := (A 1)) X hst (c_S_addProduct l D Y lo hsh hfa (fun _ => by omega) hsp (by omega) hPa (by omega) (fun q hq => ⟨by rw [(tp_mem hq).2.1]; exact pwP_lt hpp (P a) i _, fun q2 hq2 => ⟨(hmm q hq q2 hq2).1, by rw [(tp_mem hq2).2.1]; exact hPp a ha _⟩⟩)) cellt rfl wc_S_addProduct ml_H_92 wi_S_addProduct wl_S_addProduct wn_S md_S_addProduct (by decide) hl.1 rfl (Nat.le_of_ble_eq_true rfl) ⟨by omega, by omega⟩ (fun _ _ h => h.elim) dH_power_95 (fun r M' H locs hp hst => ?_)
              obtain ⟨rfl, hs3, ho3⟩ := hp
              have hs3 : sh Y M' (A 1) (A 0) (pwP p (P a) (i + 1)) := hs3
              have hoo := ho.tr (ho3.wk (fun j hj => Or.inl hj : ∀ j, j = 2 → (j = 2 ∨ j = si 12)))
              have x0b := hoo.of x0 (by omega)
              have hspb := hsp.off ho3 (by omega)
              obtain ⟨fsu, cellu⟩ := hs3.cell
              have hcp2 := pwP_lt hpp (P a) (i + 1)
              refine lv_aload_n hx hb dH_power_98 rfl (lv_at hl 0 rfl) ?_
              refine hp_get hx hb hG in_H hown hK hst x0b rfl 1 (by decide) (hG _ fl_H_32) rfl rfl dH_power_99 ?_
              refine lv_aload_n hx hb dH_power_102 rfl (lv_at hl 0 rfl) ?_
              refine hp_get hx hb hG in_H hown hK hst x0b rfl 5 (by decide) (hG _ fl_H_44) rfl rfl dH_power_103 ?_
              refine ct_callV (av2 := [.ref (A (si 12))]) (rest := []) (b := (A 1)) X hst (c_S_moveTo l D Y lo hs3 hspb (by omega) hcmw (fun m => by have := hcp2 m; omega)) cellu rfl wc_S_moveTo ml_H_81 wi_S_moveTo wl_S_moveTo wn_S md_S_moveTo (by decide) hl.1 rfl (Nat.le_of_ble_eq_true rfl) ⟨by omega, by omega⟩ (fun _ _ h => h.elim) dH_power_106 (fun r M' H locs hp hst => ?_)
              obtain ⟨rfl, hp6, hs6, ho6⟩ := hp
              refine W.widen (k := cpw p (P a) (cap (si 12)) (i + 1) - cap (si 12)) (n := 4 * (cpw p (P a) (cap (si 12)) (i + 1) - cap (si 12))) (by omega) (by omega) ?_
              refine lv_iinc (lv' := [(5, .int (nI (i + 1))), (0, .ref xa), (1, .int (nI r)), (2, .int (nI a)), (3, .int (nI n)), (4, .ref (A (si a)))]) hx hb dH_power_109 hl (k := 5) rfl (ii_p _) (by decide) rfl (fun ls hl => ?_)
              refine lv_goto hx hb dH_power_112 (tgt := 79) rfl ?_
              exact ihLQ _ (by omega) (i + 1) M' _ _ _ rfl (by omega) hp6 hs6 (hoo.tr ho6) hst (lv_sub hl [1, 2, 3, 4, 5, 0] rfl)
          exact LQ _ 0 M' _ _ _ rfl (by omega) hp1 (hs.off ho1 (by omega)) (ho1.wk (fun j hj => Or.inr hj)) hst (lv_sub hl [1, 2, 3, 4, 5, 0] rfl)
        · skip
          have hc7 : ¬ 3 ≤ u := fun z => hc ((nI_leI (by omega) (by omega)).mpr z)
          have hu : u < 3 := by omega
          have d1 := dgl_lt (v := u) (g := 0) (L := tp (P a)) (by omega)
          have d2 : n * dgl u (tp (P a)) 0 ≤ 100 * 64 := Nat.mul_le_mul hn (by omega)
          refine lv_iload_n hx hb dH_power_43 rfl (lv_at hl 3 rfl) ?_
          refine lv_aload hx hb dH_power_44 (lv_at hl 4 rfl) ?_
          refine lv_iload hx hb dH_power_46 (lv_at hl 5 rfl) ?_
          refine ct_callV (av2 := [.int (nI u)]) (rest := [.int (nI n)]) (b := (A (si a))) X hst (c_P_degreeIn l D Y lo (hP a ha) hu (fun q hq => (tp_b hpp3 (hPp a ha) q hq).1)) cell_a rfl wc_P_degreeIn ml_H_85 wi_P_degreeIn wl_P_degreeIn wn_P md_P_degreeIn (by decide) hl.1 rfl (Nat.le_of_ble_eq_true rfl) ⟨by omega, by omega⟩ (fun _ _ h => h.elim) dH_power_48 (fun r M' H locs hp hst => ?_)
          obtain ⟨rfl, rfl⟩ := hp
          refine t_imul hx hb dH_power_51 (v := nI (n * (dgl u (tp (P a)) 0))) (pk_mul _ _) ?_
          refine lv_bipush (v := nI 12) hx hb dH_power_52 (by decide +kernel) ?_
          refine lv_icmp_le hx hb dH_power_54 (tgt := 62) rfl (fun hc => ?_) (fun hc => ?_)
          · skip
            have hc8 : (n * (dgl u (tp (P a)) 0)) ≤ 12 := (nI_leI (by omega) (by omega)).mp hc
            refine lv_iinc (lv' := [(5, .int (nI (u + 1))), (0, .ref xa), (1, .int (nI r)), (2, .int (nI a)), (3, .int (nI n)), (4, .ref (A (si a)))]) hx hb dH_power_62 hl (k := 5) rfl (ii_p _) (by decide) rfl (fun ls hl => ?_)
            refine lv_goto hx hb dH_power_65 (tgt := 37) rfl ?_
            exact ihLP _ (by omega) (u + 1) _ _ _ rfl (by omega) (fun v hv => by
                by_cases h9 : v = u
                · subst h9; exact hc8
                · exact hok v (by omega)) hst (lv_sub hl [1, 2, 3, 4, 5, 0] rfl)
          · skip
            have hc8 : ¬ (n * (dgl u (tp (P a)) 0)) ≤ 12 := fun z => hc ((nI_leI (by omega) (by omega)).mpr z)
            exact absurd (hdg u hu) hc8
      exact LP _ 0 _ _ _ rfl (by omega) (fun v hv => by omega) hst (lv_sub hl [2, 3, 4, 5, 1, 0] rfl)
    · skip
      have hc9 : ¬ n ≤ 100 := fun z => hc ((nI_leI (by omega) (by omega)).mpr z)
      exact absurd hc9 (by omega)

set_option maxHeartbeats 4000000 in
set_option maxRecDepth 100000 in
theorem n_H_power (l : Launch) (D : va_G) (Y : Nat → ClassId) (lo : Nat) {M : Hm} {xa p rf : Nat} {A cap si : Nat → Nat} {P : Nat → Pf} (hcs : cs Y M xa A p P cap si rf) {r a n : Nat} (hr : r < 12) (ha : a < 12) (hn : n ≤ 100) (hdg : ¬ ∀ u, u < 3 → n * dgl u (tp (P a)) 0 ≤ 12) : ct l D Y lo y_H_power b_H_power 6 (some .boolean) 5 [.ref xa, .int (nI r), .int (nI a), .int (nI n)] M (fun r9 M' => r9 = some (.int (nI 0)) ∧ cs Y M' xa A p P cap si (rf + 1) ∧ hp_off (fun i => i < 300) M M') nx 0 0 := by
  refine ct_of (by decide) (Nat.le_of_ble_eq_true rfl) ?_
  intro pg eg sg mg bw mt cg ls X hst hl
  have X1 := X
  obtain ⟨hx, hb, hml, hrt, hlocks, hown, hnm, hts, hkz, hex⟩ := X1
  have hG : ∀ w ∈ GW, w.before _ sg = true := fun w h => hts w (List.mem_cons_of_mem _ h)
  have hK := hkz.1
  have hl : lv_has ls 6 [(0, .ref xa), (1, .int (nI r)), (2, .int (nI a)), (3, .int (nI n))] := hl
  have hcs0 := hcs
  obtain ⟨x0, ⟨gr, x1, hgr⟩, ⟨gn, x2, hgn⟩, ⟨hf, hpr⟩, hs, ⟨gw, ht⟩, ⟨hs1, hs2⟩, hP, ⟨LS, hS⟩, hN, hc1, hc2, hPp⟩ := hcs
  have hpp := hf.2.1
  have hpp3 := hf.2.2
  have hf0 := hf.1
  refine lv_iload_n hx hb dH_power_0 rfl (lv_at hl 1 rfl) ?_
  refine ct_callS (av2 := [.int (nI r)]) (rest := []) X hst (c_H_checkRegister l D Y lo hr) wc_H_checkRegister ml_H_48 ws_H_checkRegister wn_H md_H_checkRegister (by decide) hl.1 rfl (Nat.le_of_ble_eq_true rfl) ⟨by omega, by omega⟩ (fun _ _ h => h.elim) dH_power_1 (fun r M' H locs hp hst => ?_)
  obtain ⟨rfl, rfl⟩ := hp
  refine lv_iload_n hx hb dH_power_4 rfl (lv_at hl 2 rfl) ?_
  refine ct_callS (av2 := [.int (nI a)]) (rest := []) X hst (c_H_checkRegister l D Y lo ha) wc_H_checkRegister ml_H_48 ws_H_checkRegister wn_H md_H_checkRegister (by decide) hl.1 rfl (Nat.le_of_ble_eq_true rfl) ⟨by omega, by omega⟩ (fun _ _ h => h.elim) dH_power_5 (fun r M' H locs hp hst => ?_)
  obtain ⟨rfl, rfl⟩ := hp
  have hs_r := hs1 r (by omega)
  have hs_a := hs1 a (by omega)
  have hs_12 := hs1 12 (by omega)
  have hne : si a ≠ si 12 := fun z => by have := hs2 a 12 (by omega) (by omega) z; omega
  have hc18 := hc1 12 (by omega)
  obtain ⟨fs_a, cell_a⟩ := (hP a ha).cell
  refine lv_iload_n hx hb dH_power_8 rfl (lv_at hl 3 rfl) ?_
  refine lv_if_lt hx hb dH_power_9 (tgt := 18) rfl (fun hc => ?_) (fun hc => ?_)
  · skip
    rw [← nI_0] at hc
    have hc9 : n < 0 := (nI_ltI (by omega) (by omega)).mp hc
    exact absurd hc9 (by omega)
  · skip
    rw [← nI_0] at hc
    have hc9 : ¬ n < 0 := fun z => hc ((nI_ltI (by omega) (by omega)).mpr z)
    refine lv_iload_n hx hb dH_power_12 rfl (lv_at hl 3 rfl) ?_
    refine lv_bipush (v := nI 100) hx hb dH_power_13 (by decide +kernel) ?_
    refine lv_icmp_le hx hb dH_power_15 (tgt := 26) rfl (fun hc => ?_) (fun hc => ?_)
    · skip
      have hc9 : n ≤ 100 := (nI_leI (by omega) (by omega)).mp hc
      refine lv_aload_n hx hb dH_power_26 rfl (lv_at hl 0 rfl) ?_
      refine hp_get hx hb hG in_H hown hK hst x0 rfl 3 (by decide) (hG _ fl_H_11) rfl rfl dH_power_27 ?_
      refine lv_iload_n hx hb dH_power_30 rfl (lv_at hl 2 rfl) ?_
      refine hp_aald hx hb hK rfl hst x1 (j := a) (v := (A (si a))) (by omega) (by omega) (hgr a ha) dH_power_31 ?_
      refine lv_astore (lv' := [(4, .ref (A (si a))), (0, .ref xa), (1, .int (nI r)), (2, .int (nI a)), (3, .int (nI n))]) hx hb dH_power_32 hl (by decide) rfl (fun ls hl => ?_)
      refine lv_iconst (v := nI 0) hx hb dH_power_34 (by decide +kernel) ?_
      refine lv_istore (lv' := [(5, .int (nI 0)), (4, .ref (A (si a))), (0, .ref xa), (1, .int (nI r)), (2, .int (nI a)), (3, .int (nI n))]) hx hb dH_power_35 hl (by decide) rfl (fun ls hl => ?_)
      have LP : ∀ (kk : Nat) (u : Nat) (H : Heap) (locs : List Loc) (ls : Array Slot), kk = 4 - u → (u ≤ 3) → (∀ v, v < u → n * dgl v (tp (P a)) 0 ≤ 12) → hp_st D vC lo M sg.heap H locs → lv_has ls 6 [(0, .ref xa), (1, .int (nI r)), (2, .int (nI a)), (3, .int (nI n)), (4, .ref (A (si a))), (5, .int (nI u))] → cW pg l eg sg mg [.ref xa, .int (nI r), .int (nI a), .int (nI n)] bw mt cg y_H_power b_H_power 6 (some .boolean) 5 D lo (fun r9 M' => r9 = some (.int (nI 0)) ∧ cs Y M' xa A p P cap si (rf + 1) ∧ hp_off (fun i => i < 300) M M') nx 0 0 H locs 0 0 (F0 mg 37 ls []) := by
        intro kk
        induction kk using Nat.strongRecOn with
        | _ kk ihLP =>
        intro u H locs ls hkk hu9 hok hst hl
        refine lv_iload hx hb dH_power_37 (lv_at hl 5 rfl) ?_
        refine lv_iconst (v := nI 3) hx hb dH_power_39 (by decide +kernel) ?_
        refine lv_icmp_ge hx hb dH_power_40 (tgt := 68) rfl (fun hc => ?_) (fun hc => ?_)
        · skip
          have hc7 : 3 ≤ u := (nI_leI (by omega) (by omega)).mp hc
          exact absurd (fun u hu => hok u (by omega)) hdg
        · skip
          have hc7 : ¬ 3 ≤ u := fun z => hc ((nI_leI (by omega) (by omega)).mpr z)
          have hu : u < 3 := by omega
          have d1 := dgl_lt (v := u) (g := 0) (L := tp (P a)) (by omega)
          have d2 : n * dgl u (tp (P a)) 0 ≤ 100 * 64 := Nat.mul_le_mul hn (by omega)
          refine lv_iload_n hx hb dH_power_43 rfl (lv_at hl 3 rfl) ?_
          refine lv_aload hx hb dH_power_44 (lv_at hl 4 rfl) ?_
          refine lv_iload hx hb dH_power_46 (lv_at hl 5 rfl) ?_
          refine ct_callV (av2 := [.int (nI u)]) (rest := [.int (nI n)]) (b := (A (si a))) X hst (c_P_degreeIn l D Y lo (hP a ha) hu (fun q hq => (tp_b hpp3 (hPp a ha) q hq).1)) cell_a rfl wc_P_degreeIn ml_H_85 wi_P_degreeIn wl_P_degreeIn wn_P md_P_degreeIn (by decide) hl.1 rfl (Nat.le_of_ble_eq_true rfl) ⟨by omega, by omega⟩ (fun _ _ h => h.elim) dH_power_48 (fun r M' H locs hp hst => ?_)
          obtain ⟨rfl, rfl⟩ := hp
          refine t_imul hx hb dH_power_51 (v := nI (n * (dgl u (tp (P a)) 0))) (pk_mul _ _) ?_
          refine lv_bipush (v := nI 12) hx hb dH_power_52 (by decide +kernel) ?_
          refine lv_icmp_le hx hb dH_power_54 (tgt := 62) rfl (fun hc => ?_) (fun hc => ?_)
          · skip
            have hc8 : (n * (dgl u (tp (P a)) 0)) ≤ 12 := (nI_leI (by omega) (by omega)).mp hc
            refine lv_iinc (lv' := [(5, .int (nI (u + 1))), (0, .ref xa), (1, .int (nI r)), (2, .int (nI a)), (3, .int (nI n)), (4, .ref (A (si a)))]) hx hb dH_power_62 hl (k := 5) rfl (ii_p _) (by decide) rfl (fun ls hl => ?_)
            refine lv_goto hx hb dH_power_65 (tgt := 37) rfl ?_
            exact ihLP _ (by omega) (u + 1) _ _ _ rfl (by omega) (fun v hv => by
                by_cases h9 : v = u
                · subst h9; exact hc8
                · exact hok v (by omega)) hst (lv_sub hl [1, 2, 3, 4, 5, 0] rfl)
          · skip
            have hc8 : ¬ (n * (dgl u (tp (P a)) 0)) ≤ 12 := fun z => hc ((nI_leI (by omega) (by omega)).mpr z)
            refine lv_aload_n hx hb dH_power_57 rfl (lv_at hl 0 rfl) ?_
            refine ct_callV (av2 := []) (rest := []) (b := xa) X hst (c_H_refuse l D Y lo hcs0) x0 rfl wc_H_refuse ml_H_88 wi_H_refuse wl_H_refuse wn_H md_H_refuse (by decide) hl.1 rfl (Nat.le_of_ble_eq_true rfl) ⟨by omega, by omega⟩ (fun _ _ h => h.elim) dH_power_58 (fun r M' H locs hp hst => ?_)
            obtain ⟨rfl, hcs1, ho1⟩ := hp
            exact ct_zret X hst (by omega) ⟨rfl, hcs1, ho1.wk (fun i hi => by omega)⟩ (by omega) (by omega) dH_power_61
      exact LP _ 0 _ _ _ rfl (by omega) (fun v hv => by omega) hst (lv_sub hl [2, 3, 4, 5, 1, 0] rfl)
    · skip
      have hc9 : ¬ n ≤ 100 := fun z => hc ((nI_leI (by omega) (by omega)).mpr z)
      exact absurd hc9 (by omega)

set_option maxHeartbeats 4000000 in
set_option maxRecDepth 100000 in
theorem x_H_power (l : Launch) (D : va_G) (Y : Nat → ClassId) (lo : Nat) (hlt : l.stackTraces = false) {M : Hm} {xa : Nat} {x1 x2 x3 : Int32} (hno : ¬ ((inR x1 ∧ inR x2) ∧ ∃ n : Nat, n ≤ 100 ∧ x3 = nI n)) : ct l D Y lo y_H_power b_H_power 6 (some .boolean) 7 [.ref xa, .int x1, .int x2, .int x3] M (fun _ _ => False) (fun E M' => M = M' ∧ (E = EI ∧ ¬ (inR x1 ∧ inR x2) ∨ E = EA ∧ (inR x1 ∧ inR x2))) 3 18 := by
  refine ct_of (by decide) (Nat.le_of_ble_eq_true rfl) ?_
  intro pg eg sg mg bw mt cg ls X hst hl
  have X1 := X
  obtain ⟨hx, hb, hml, hrt, hlocks, hown, hnm, hts, hkz, hex⟩ := X1
  have hG : ∀ w ∈ GW, w.before _ sg = true := fun w h => hts w (List.mem_cons_of_mem _ h)
  have hK := hkz.1
  have hl : lv_has ls 6 [(0, .ref xa), (1, .int x1), (2, .int x2), (3, .int x3)] := hl
  refine lv_iload_n hx hb dH_power_0 rfl (lv_at hl 1 rfl) ?_
  refine ct_callS (av2 := [.int x1]) (rest := []) X hst (x_cr_call hlt x1 M) wc_H_checkRegister ml_H_48 ws_H_checkRegister wn_H md_H_checkRegister (by decide) hl.1 rfl (Nat.le_of_ble_eq_true rfl) ⟨by omega, by omega⟩ (fun E M1 h => ⟨h.2.1, Or.inl ⟨h.1, fun z => h.2.2 z.1⟩⟩) dH_power_1 (fun r M' H locs hp hst => ?_)
  obtain ⟨rfl, rfl, h1⟩ := hp
  refine lv_iload_n hx hb dH_power_4 rfl (lv_at hl 2 rfl) ?_
  refine ct_callS (av2 := [.int x2]) (rest := []) X hst (x_cr_call hlt x2 M) wc_H_checkRegister ml_H_48 ws_H_checkRegister wn_H md_H_checkRegister (by decide) hl.1 rfl (Nat.le_of_ble_eq_true rfl) ⟨by omega, by omega⟩ (fun E M1 h => ⟨h.2.1, Or.inl ⟨h.1, fun z => h.2.2 z.2⟩⟩) dH_power_5 (fun r M' H locs hp hst => ?_)
  obtain ⟨rfl, rfl, h2⟩ := hp
  refine lv_iload_n hx hb dH_power_8 rfl (lv_at hl 3 rfl) ?_
  refine lv_if_lt hx hb dH_power_9 (tgt := 18) rfl (fun hc => ?_) (fun hc => ?_)
  · skip
    exact ct_throw (cls := EA) (ik := 96) (ic := 98) X hst hlt rfl (by decide +kernel) cl_H_96 wn_IllegalArgumentException at_A gd_A hl.1 (by decide) (Nat.le_of_ble_eq_true rfl) (by omega) (by omega) ⟨rfl, Or.inr ⟨rfl, h1, h2⟩⟩ dH_power_18 dH_power_21 dH_power_22 dH_power_25
  · skip
    have n1 := hc
    refine lv_iload_n hx hb dH_power_12 rfl (lv_at hl 3 rfl) ?_
    refine lv_bipush (v := nI 100) hx hb dH_power_13 (by decide +kernel) ?_
    refine lv_icmp_le hx hb dH_power_15 (tgt := 26) rfl (fun hc => ?_) (fun hc => ?_)
    · obtain ⟨k3, hk3, rfl⟩ := nI_of n1
      exact absurd ⟨⟨h1, h2⟩, k3, (nI_leI hk3 (by omega)).mp hc, rfl⟩ hno
    · skip
      exact ct_throw (cls := EA) (ik := 96) (ic := 98) X hst hlt rfl (by decide +kernel) cl_H_96 wn_IllegalArgumentException at_A gd_A hl.1 (by decide) (Nat.le_of_ble_eq_true rfl) (by omega) (by omega) ⟨rfl, Or.inr ⟨rfl, h1, h2⟩⟩ dH_power_18 dH_power_21 dH_power_22 dH_power_25
