/-! The face: put. -/
theorem x_crs_call {l : Launch} {D : va_G} {Y : Nat → ClassId} {lo : Nat} (hlt : l.stackTraces = false) (x y z : Int32) (M : Hm) : ct l D Y lo y_H_checkRegisters b_H_checkRegisters 3 none 7 [.int x, .int y, .int z] M (fun r M' => r = none ∧ M = M' ∧ inR x ∧ inR y ∧ inR z) (fun E M' => E = EI ∧ M = M' ∧ ¬ (inR x ∧ inR y ∧ inR z)) 3 18 := by
  by_cases h : inR x ∧ inR y ∧ inR z
  · obtain ⟨⟨i, hi, rfl⟩, ⟨j, hj, rfl⟩, ⟨k, hk, rfl⟩⟩ := h
    exact ct_wk (c_H_checkRegisters l D Y lo hi hj hk) (fun r M' q => ⟨q.1, q.2, ⟨i, hi, rfl⟩, ⟨j, hj, rfl⟩, ⟨k, hk, rfl⟩⟩) (fun _ _ q => q.elim) (by omega) (by omega) (by omega)
  · exact ct_wk (x_H_checkRegisters l D Y lo hlt h) (fun _ _ q => q.elim) (fun E M' q => ⟨q.1, q.2, h⟩) (Nat.le_refl _) (Nat.le_refl _) (Nat.le_refl _)

set_option maxHeartbeats 4000000 in
set_option maxRecDepth 100000 in
theorem c_H_put (l : Launch) (D : va_G) (Y : Nat → ClassId) (lo : Nat) {M : Hm} {xa p rf : Nat} {A cap si : Nat → Nat} {P : Nat → Pf} (hcs : cs Y M xa A p P cap si rf) {r a v b : Nat} (hr : r < 12) (ha : a < 12) (hv : v < 3) (hb9 : b < 12) (hdg : ∀ u, u < 3 → hrD v (P a) (P b) (dgl v (tp (P a)) 0) u ≤ 12) : ct l D Y lo y_H_put b_H_put 10 (some .boolean) 5 [.ref xa, .int (nI r), .int (nI a), .int (nI v), .int (nI b)] M (fun r9 M' => r9 = some (.int (nI 1)) ∧ cs Y M' xa A p (va_up P r (hrP p v (dgl v (tp (P a)) 0) (P a) (P b) (dgl v (tp (P a)) 0 + 1))) (va_up cap (si 12) (cpF (hrP p v (dgl v (tp (P a)) 0) (P a) (P b)) (cap (si 12)) (dgl v (tp (P a)) 0 + 1))) (sw si r) rf ∧ hp_off (fun i => i < 300) M M') nx (cpF (hrP p v (dgl v (tp (P a)) 0) (P a) (P b)) (cap (si 12)) (dgl v (tp (P a)) 0 + 1) - cap (si 12)) (4 * (cpF (hrP p v (dgl v (tp (P a)) 0) (P a) (P b)) (cap (si 12)) (dgl v (tp (P a)) 0 + 1) - cap (si 12))) := by
  refine ct_of (by decide) (Nat.le_of_ble_eq_true rfl) ?_
  intro pg eg sg mg bw mt cg ls X hst hl
  have X1 := X
  obtain ⟨hx, hb, hml, hrt, hlocks, hown, hnm, hts, hkz, hex⟩ := X1
  have hG : ∀ w ∈ GW, w.before _ sg = true := fun w h => hts w (List.mem_cons_of_mem _ h)
  have hK := hkz.1
  have hl : lv_has ls 10 [(0, .ref xa), (1, .int (nI r)), (2, .int (nI a)), (3, .int (nI v)), (4, .int (nI b))] := hl
  have hcs0 := hcs
  obtain ⟨x0, ⟨gr, x1, hgr⟩, ⟨gn, x2, hgn⟩, ⟨hf, hpr⟩, hs, ⟨gw, ht⟩, ⟨hs1, hs2⟩, hP, ⟨LS, hS⟩, hN, hc1, hc2, hPp⟩ := hcs
  have hpp := hf.2.1
  have hpp3 := hf.2.2
  have hf0 := hf.1
  refine lv_iload_n hx hb dH_put_0 rfl (lv_at hl 1 rfl) ?_
  refine lv_iload_n hx hb dH_put_1 rfl (lv_at hl 2 rfl) ?_
  refine lv_iload hx hb dH_put_2 (lv_at hl 4 rfl) ?_
  refine ct_callS (av2 := [.int (nI r), .int (nI a), .int (nI b)]) (rest := []) X hst (c_H_checkRegisters l D Y lo hr ha hb9) wc_H_checkRegisters ml_H_73 ws_H_checkRegisters wn_H md_H_checkRegisters (by decide) hl.1 rfl (Nat.le_of_ble_eq_true rfl) ⟨by omega, by omega⟩ (fun _ _ h => h.elim) dH_put_4 (fun r M' H locs hp hst => ?_)
  obtain ⟨rfl, rfl⟩ := hp
  refine lv_iload_n hx hb dH_put_7 rfl (lv_at hl 3 rfl) ?_
  refine ct_callS (av2 := [.int (nI v)]) (rest := []) X hst (c_H_checkVariable l D Y lo hv) wc_H_checkVariable ml_H_58 ws_H_checkVariable wn_H md_H_checkVariable (by decide) hl.1 rfl (Nat.le_of_ble_eq_true rfl) ⟨by omega, by omega⟩ (fun _ _ h => h.elim) dH_put_8 (fun r M' H locs hp hst => ?_)
  obtain ⟨rfl, rfl⟩ := hp
  have hs_r := hs1 r (by omega)
  have hs_a := hs1 a (by omega)
  have hs_b := hs1 b (by omega)
  have hs_12 := hs1 12 (by omega)
  have hna : si a ≠ si 12 := fun z => by have := hs2 a 12 (by omega) (by omega) z; omega
  have hnb : si b ≠ si 12 := fun z => by have := hs2 b 12 (by omega) (by omega) z; omega
  have hc18 := hc1 12 (by omega)
  obtain ⟨fs_a, cell_a⟩ := (hP a ha).cell
  obtain ⟨fs_b, cell_b⟩ := (hP b hb9).cell
  refine lv_aload_n hx hb dH_put_11 rfl (lv_at hl 0 rfl) ?_
  refine hp_get hx hb hG in_H hown hK hst x0 rfl 3 (by decide) (hG _ fl_H_11) rfl rfl dH_put_12 ?_
  refine lv_iload_n hx hb dH_put_15 rfl (lv_at hl 2 rfl) ?_
  refine hp_aald hx hb hK rfl hst x1 (j := a) (v := (A (si a))) (by omega) (by omega) (hgr a ha) dH_put_16 ?_
  refine lv_astore (lv' := [(5, .ref (A (si a))), (0, .ref xa), (1, .int (nI r)), (2, .int (nI a)), (3, .int (nI v)), (4, .int (nI b))]) hx hb dH_put_17 hl (by decide) rfl (fun ls hl => ?_)
  refine lv_aload_n hx hb dH_put_19 rfl (lv_at hl 1 rfl) ?_
  refine hp_get hx hb hG in_H hown hK hst x0 rfl 3 (by decide) (hG _ fl_H_11) rfl rfl dH_put_20 ?_
  refine lv_iload hx hb dH_put_23 (lv_at hl 5 rfl) ?_
  refine hp_aald hx hb hK rfl hst x1 (j := b) (v := (A (si b))) (by omega) (by omega) (hgr b hb9) dH_put_25 ?_
  have dod := dgl_lt (v := v) (g := 0) (L := tp (P a)) (by omega)
  refine lv_astore (lv' := [(6, .ref (A (si b))), (5, .ref (A (si a))), (0, .ref xa), (1, .int (nI r)), (2, .int (nI a)), (3, .int (nI v)), (4, .int (nI b))]) hx hb dH_put_26 hl (by decide) rfl (fun ls hl => ?_)
  refine lv_aload hx hb dH_put_28 (lv_at hl 1 rfl) ?_
  refine lv_iload_n hx hb dH_put_30 rfl (lv_at hl 5 rfl) ?_
  refine ct_callV (av2 := [.int (nI v)]) (rest := []) (b := (A (si a))) X hst (c_P_degreeIn l D Y lo (hP a ha) hv (fun q hq => (tp_b hpp3 (hPp a ha) q hq).1)) cell_a rfl wc_P_degreeIn ml_H_85 wi_P_degreeIn wl_P_degreeIn wn_P md_P_degreeIn (by decide) hl.1 rfl (Nat.le_of_ble_eq_true rfl) ⟨by omega, by omega⟩ (fun _ _ h => h.elim) dH_put_31 (fun r M' H locs hp hst => ?_)
  obtain ⟨rfl, rfl⟩ := hp
  refine lv_istore (lv' := [(7, .int (nI (dgl v (tp (P a)) 0))), (6, .ref (A (si b))), (5, .ref (A (si a))), (0, .ref xa), (1, .int (nI r)), (2, .int (nI a)), (3, .int (nI v)), (4, .int (nI b))]) hx hb dH_put_34 hl (by decide) rfl (fun ls hl => ?_)
  refine lv_iconst (v := nI 0) hx hb dH_put_36 (by decide +kernel) ?_
  refine lv_istore (lv' := [(8, .int (nI 0)), (7, .int (nI (dgl v (tp (P a)) 0))), (6, .ref (A (si b))), (5, .ref (A (si a))), (0, .ref xa), (1, .int (nI r)), (2, .int (nI a)), (3, .int (nI v)), (4, .int (nI b))]) hx hb dH_put_37 hl (by decide) rfl (fun ls hl => ?_)
  have LP : ∀ (kk : Nat) (u : Nat) (H : Heap) (locs : List Loc) (ls : Array Slot), kk = 4 - u → (u ≤ 3) → (∀ y, y < u → hrD v (P a) (P b) (dgl v (tp (P a)) 0) y ≤ 12) → hp_st D vC lo M sg.heap H locs → lv_has ls 10 [(0, .ref xa), (1, .int (nI r)), (2, .int (nI a)), (3, .int (nI v)), (4, .int (nI b)), (5, .ref (A (si a))), (6, .ref (A (si b))), (7, .int (nI (dgl v (tp (P a)) 0))), (8, .int (nI u))] → cW pg l eg sg mg [.ref xa, .int (nI r), .int (nI a), .int (nI v), .int (nI b)] bw mt cg y_H_put b_H_put 10 (some .boolean) 5 D lo (fun r9 M' => r9 = some (.int (nI 1)) ∧ cs Y M' xa A p (va_up P r (hrP p v (dgl v (tp (P a)) 0) (P a) (P b) (dgl v (tp (P a)) 0 + 1))) (va_up cap (si 12) (cpF (hrP p v (dgl v (tp (P a)) 0) (P a) (P b)) (cap (si 12)) (dgl v (tp (P a)) 0 + 1))) (sw si r) rf ∧ hp_off (fun i => i < 300) M M') nx (cpF (hrP p v (dgl v (tp (P a)) 0) (P a) (P b)) (cap (si 12)) (dgl v (tp (P a)) 0 + 1) - cap (si 12)) (4 * (cpF (hrP p v (dgl v (tp (P a)) 0) (P a) (P b)) (cap (si 12)) (dgl v (tp (P a)) 0 + 1) - cap (si 12))) H locs 0 0 (F0 mg 39 ls []) := by
    intro kk
    induction kk using Nat.strongRecOn with
    | _ kk ihLP =>
    intro u H locs ls hkk hu9 hok hst hl
    refine lv_iload hx hb dH_put_39 (lv_at hl 8 rfl) ?_
    refine lv_iconst (v := nI 3) hx hb dH_put_41 (by decide +kernel) ?_
    refine lv_icmp_ge hx hb dH_put_42 (tgt := 93) rfl (fun hc => ?_) (fun hc => ?_)
    · skip
      have hc7 : 3 ≤ u := (nI_leI (by omega) (by omega)).mp hc
      obtain ⟨fs12, cell12⟩ := hS.cell
      refine lv_aload_n hx hb dH_put_93 rfl (lv_at hl 0 rfl) ?_
      refine hp_get hx hb hG in_H hown hK hst x0 rfl 5 (by decide) (hG _ fl_H_44) rfl rfl dH_put_94 ?_
      refine ct_callV (av2 := []) (rest := []) (b := (A (si 12))) X hst (c_P_clear l D Y lo hS) cell12 rfl wc_P_clear ml_H_61 wi_P_clear wl_P_clear wn_P md_P_clear (by decide) hl.1 rfl (Nat.le_of_ble_eq_true rfl) ⟨by omega, by omega⟩ (fun _ _ h => h.elim) dH_put_97 (fun r M' H locs hp hst => ?_)
      obtain ⟨rfl, hp1, ho1⟩ := hp
      refine lv_iload hx hb dH_put_100 (lv_at hl 7 rfl) ?_
      refine lv_istore (lv' := [(8, .int (nI (dgl v (tp (P a)) 0))), (0, .ref xa), (1, .int (nI r)), (2, .int (nI a)), (3, .int (nI v)), (4, .int (nI b)), (5, .ref (A (si a))), (6, .ref (A (si b))), (7, .int (nI (dgl v (tp (P a)) 0)))]) hx hb dH_put_102 hl (by decide) rfl (fun ls hl => ?_)
      refine W.widen (k := cpF (hrP p v (dgl v (tp (P a)) 0) (P a) (P b)) (cap (si 12)) 0 - cap (si 12)) (n := 4 * (cpF (hrP p v (dgl v (tp (P a)) 0) (P a) (P b)) (cap (si 12)) 0 - cap (si 12))) (by omega) (by omega) ?_
      have LQ : ∀ (kk : Nat) (n k : Nat) (M1 : Hm) (H : Heap) (locs : List Loc) (ls : Array Slot), kk = n → (n + k = dgl v (tp (P a)) 0 + 1) → (po Y M1 (si 12) (A (si 12)) (cpF (hrP p v (dgl v (tp (P a)) 0) (P a) (P b)) (cap (si 12)) k) (tp (hrP p v (dgl v (tp (P a)) 0) (P a) (P b) k))) → (sh Y M1 (A 1) (A 0) (fun _ => 0)) → (hp_off (fun j => j = 2 ∨ j = si 12) M M1) → hp_st D vC lo M1 sg.heap H locs → lv_has ls 10 [(0, .ref xa), (1, .int (nI r)), (2, .int (nI a)), (3, .int (nI v)), (4, .int (nI b)), (5, .ref (A (si a))), (6, .ref (A (si b))), (7, .int (nI (dgl v (tp (P a)) 0))), (8, .int (dn n))] → cW pg l eg sg mg [.ref xa, .int (nI r), .int (nI a), .int (nI v), .int (nI b)] bw mt cg y_H_put b_H_put 10 (some .boolean) 5 D lo (fun r9 M' => r9 = some (.int (nI 1)) ∧ cs Y M' xa A p (va_up P r (hrP p v (dgl v (tp (P a)) 0) (P a) (P b) (dgl v (tp (P a)) 0 + 1))) (va_up cap (si 12) (cpF (hrP p v (dgl v (tp (P a)) 0) (P a) (P b)) (cap (si 12)) (dgl v (tp (P a)) 0 + 1))) (sw si r) rf ∧ hp_off (fun i => i < 300) M M') nx (cpF (hrP p v (dgl v (tp (P a)) 0) (P a) (P b)) (cap (si 12)) (dgl v (tp (P a)) 0 + 1) - cap (si 12)) (4 * (cpF (hrP p v (dgl v (tp (P a)) 0) (P a) (P b)) (cap (si 12)) (dgl v (tp (P a)) 0 + 1) - cap (si 12))) H locs (cpF (hrP p v (dgl v (tp (P a)) 0) (P a) (P b)) (cap (si 12)) k - cap (si 12)) (4 * (cpF (hrP p v (dgl v (tp (P a)) 0) (P a) (P b)) (cap (si 12)) k - cap (si 12))) (F0 mg 104 ls []) := by
        intro kk
        induction kk using Nat.strongRecOn with
        | _ kk ihLQ =>
        intro n k M1 H locs ls hkk hi9 hsp hsh ho hst hl
        have hcmw := cpF_le (hrP p v (dgl v (tp (P a)) 0) (P a) (P b)) hc18 k
        have hge := cpF_ge (hrP p v (dgl v (tp (P a)) 0) (P a) (P b)) (cap (si 12)) k
        have hmn := cpF_mono (hrP p v (dgl v (tp (P a)) 0) (P a) (P b)) (cap (si 12)) (i := k) (n := dgl v (tp (P a)) 0 + 1) (by omega)
        have x0a := ho.of x0 (by omega)
        have hfa := hf.off ho (by omega)
        have hPa := (hP a ha).off ho (by omega)
        have hPb := (hP b hb9).off ho (by omega)
        obtain ⟨fst, cellt⟩ := hsh.cell
        cases n with
        | zero =>
          refine lv_iload hx hb dH_put_104 (lv_at hl 8 rfl) ?_
          refine lv_if_lt hx hb dH_put_106 (tgt := 151) rfl (fun hc => ?_) (fun hc => absurd dn_0 hc)
          have hk : k = dgl v (tp (P a)) 0 + 1 := by omega
          subst hk
          have hcsS := hcs0.spr ho hsh hsp hcmw
          have hsp9 : po Y M1 (si 12) (A (si 12)) (va_up cap (si 12) (cpF (hrP p v (dgl v (tp (P a)) 0) (P a) (P b)) (cap (si 12)) (dgl v (tp (P a)) 0 + 1)) (si 12)) (tp (hrP p v (dgl v (tp (P a)) 0) (P a) (P b) (dgl v (tp (P a)) 0 + 1))) := by rw [va_up_self]; exact hsp
          refine lv_aload_n hx hb dH_put_151 rfl (lv_at hl 0 rfl) ?_
          refine lv_iload_n hx hb dH_put_152 rfl (lv_at hl 1 rfl) ?_
          refine ct_callV (av2 := [.int (nI r)]) (rest := []) (b := xa) X hst (c_H_exchangeSpare l D Y lo hcsS hr hsp9 (hrP_lt (by omega) (P a) (P b) _)) x0a rfl wc_H_exchangeSpare ml_H_99 wi_H_exchangeSpare wl_H_exchangeSpare wn_H md_H_exchangeSpare (by decide) hl.1 rfl (Nat.le_of_ble_eq_true rfl) ⟨by omega, by omega⟩ (fun _ _ h => h.elim) dH_put_153 (fun r M' H locs hp hst => ?_)
          obtain ⟨rfl, hcsT, hoT⟩ := hp
          refine lv_iconst (v := nI 1) hx hb dH_put_156 (by decide +kernel) ?_
          exact ct_zret X hst (by omega) ⟨rfl, hcsT, (ho.wk (fun i hi => by omega : ∀ j, (j = 2 ∨ j = si 12) → j < 300)).tr (hoT.wk (fun i hi => by omega))⟩ (by omega) (by omega) dH_put_157
        | succ n =>
          rw [dn_s] at hl
          have hmn2 := cpF_mono (hrP p v (dgl v (tp (P a)) 0) (P a) (P b)) (cap (si 12)) (i := k + 1) (n := dgl v (tp (P a)) 0 + 1) (by omega)
          have hge2 := gcn_ge (td (hrP p v (dgl v (tp (P a)) 0) (P a) (P b) (k + 1)) 9139).length (cpF (hrP p v (dgl v (tp (P a)) 0) (P a) (P b)) (cap (si 12)) k) 0
          have hcw1 : cpF (hrP p v (dgl v (tp (P a)) 0) (P a) (P b)) (cap (si 12)) (k + 1) = gcn (cpF (hrP p v (dgl v (tp (P a)) 0) (P a) (P b)) (cap (si 12)) k) 0 (td (hrP p v (dgl v (tp (P a)) 0) (P a) (P b) (k + 1)) 9139).length := rfl
          have hmm := hrP_ok (p := p) (v := v) (by omega) hv hdg (k := k) (by omega)
          refine lv_iload hx hb dH_put_104 (lv_at hl 8 rfl) ?_
          refine lv_if_lt hx hb dH_put_106 (tgt := 151) rfl (fun hc => ?_) (fun hc => ?_)
          · skip
            rw [← nI_0] at hc
            have hc5 : n < 0 := (nI_ltI (by omega) (by omega)).mp hc
            exact absurd hc5 (by omega)
          · skip
            rw [← nI_0] at hc
            have hc5 : ¬ n < 0 := fun z => hc ((nI_ltI (by omega) (by omega)).mpr z)
            refine lv_aload_n hx hb dH_put_109 rfl (lv_at hl 0 rfl) ?_
            refine hp_get hx hb hG in_H hown hK hst x0a rfl 1 (by decide) (hG _ fl_H_32) rfl rfl dH_put_110 ?_
            refine lv_aload_n hx hb dH_put_113 rfl (lv_at hl 0 rfl) ?_
            refine hp_get hx hb hG in_H hown hK hst x0a rfl 5 (by decide) (hG _ fl_H_44) rfl rfl dH_put_114 ?_
            refine lv_aload hx hb dH_put_117 (lv_at hl 6 rfl) ?_
            refine ct_callV (av2 := [.ref (A (si 12)), .ref (A (si b))]) (rest := []) (b := (A 1)) X hst (c_S_addProduct l D Y lo hsh hfa (fun _ => by omega) hsp (by omega) hPb (by omega) (fun q hq => ⟨by rw [(tp_mem hq).2.1]; exact hrP_lt (by omega) (P a) (P b) k _, fun q2 hq2 => ⟨hmm q hq q2 hq2, by rw [(tp_mem hq2).2.1]; exact hPp b hb9 _⟩⟩)) cellt rfl wc_S_addProduct ml_H_92 wi_S_addProduct wl_S_addProduct wn_S md_S_addProduct (by decide) hl.1 rfl (Nat.le_of_ble_eq_true rfl) ⟨by omega, by omega⟩ (fun _ _ h => h.elim) dH_put_119 (fun r M' H locs hp hst => ?_)
            obtain ⟨rfl, hs3, ho3⟩ := hp
            have hs3 : sh Y M' (A 1) (A 0) (mulP p (hrP p v (dgl v (tp (P a)) 0) (P a) (P b) k) (P b)) := hs3
            have hoo := ho.tr (ho3.wk (fun j hj => Or.inl hj : ∀ j, j = 2 → (j = 2 ∨ j = si 12)))
            have x0b := hoo.of x0 (by omega)
            obtain ⟨fsu, cellu⟩ := hs3.cell
            refine lv_aload_n hx hb dH_put_122 rfl (lv_at hl 0 rfl) ?_
            refine hp_get hx hb hG in_H hown hK hst x0b rfl 1 (by decide) (hG _ fl_H_32) rfl rfl dH_put_123 ?_
            refine lv_aload hx hb dH_put_126 (lv_at hl 5 rfl) ?_
            refine lv_iload_n hx hb dH_put_128 rfl (lv_at hl 3 rfl) ?_
            refine lv_iload hx hb dH_put_129 (lv_at hl 8 rfl) ?_
            refine ct_callV (av2 := [.ref (A (si a)), .int (nI v), .int (nI n)]) (rest := []) (b := (A 1)) X hst (c_S_addCoefficientOf l D Y lo hs3 (hf.off hoo (by omega)) (mulP_lt (by omega) _ _) ((hP a ha).off hoo (by omega)) (by omega) (ex := n) hv (by omega) (fun q hq => ⟨(tp_mem hq).1, by rw [(tp_mem hq).2.1]; exact hPp a ha _⟩)) cellu rfl wc_S_addCoefficientOf ml_H_127 wi_S_addCoefficientOf wl_S_addCoefficientOf wn_S md_S_addCoefficientOf (by decide) hl.1 rfl (Nat.le_of_ble_eq_true rfl) ⟨by omega, by omega⟩ (fun _ _ h => h.elim) dH_put_131 (fun r M' H locs hp hst => ?_)
            obtain ⟨rfl, hs4, ho4⟩ := hp
            have hs4 : sh Y M' (A 1) (A 0) (hrP p v (dgl v (tp (P a)) 0) (P a) (P b) (k + 1)) := by
              show sh Y M' (A 1) (A 0) (addC p v (dgl v (tp (P a)) 0 - k) (tp (P a)) (mulP p (hrP p v (dgl v (tp (P a)) 0) (P a) (P b) k) (P b)))
              rw [show dgl v (tp (P a)) 0 - k = n by omega]
              exact hs4
            have hop := hoo.tr (ho4.wk (fun j hj => Or.inl hj : ∀ j, j = 2 → (j = 2 ∨ j = si 12)))
            have x0c := hop.of x0 (by omega)
            have hspb := (hsp.off ho3 (by omega)).off ho4 (by omega)
            obtain ⟨fsv, cellv⟩ := hs4.cell
            have hcp2 := hrP_lt (p := p) (v := v) (od := dgl v (tp (P a)) 0) (by omega) (P a) (P b) (k + 1)
            refine lv_aload_n hx hb dH_put_134 rfl (lv_at hl 0 rfl) ?_
            refine hp_get hx hb hG in_H hown hK hst x0c rfl 1 (by decide) (hG _ fl_H_32) rfl rfl dH_put_135 ?_
            refine lv_aload_n hx hb dH_put_138 rfl (lv_at hl 0 rfl) ?_
            refine hp_get hx hb hG in_H hown hK hst x0c rfl 5 (by decide) (hG _ fl_H_44) rfl rfl dH_put_139 ?_
            refine ct_callV (av2 := [.ref (A (si 12))]) (rest := []) (b := (A 1)) X hst (c_S_moveTo l D Y lo hs4 hspb (by omega) hcmw (fun m => by have := hcp2 m; omega)) cellv rfl wc_S_moveTo ml_H_81 wi_S_moveTo wl_S_moveTo wn_S md_S_moveTo (by decide) hl.1 rfl (Nat.le_of_ble_eq_true rfl) ⟨by omega, by omega⟩ (fun _ _ h => h.elim) dH_put_142 (fun r M' H locs hp hst => ?_)
            obtain ⟨rfl, hp6, hs6, ho6⟩ := hp
            refine W.widen (k := cpF (hrP p v (dgl v (tp (P a)) 0) (P a) (P b)) (cap (si 12)) (k + 1) - cap (si 12)) (n := 4 * (cpF (hrP p v (dgl v (tp (P a)) 0) (P a) (P b)) (cap (si 12)) (k + 1) - cap (si 12))) (by omega) (by omega) ?_
            refine lv_iinc (lv' := [(8, .int (dn n)), (0, .ref xa), (1, .int (nI r)), (2, .int (nI a)), (3, .int (nI v)), (4, .int (nI b)), (5, .ref (A (si a))), (6, .ref (A (si b))), (7, .int (nI (dgl v (tp (P a)) 0)))]) hx hb dH_put_145 hl (k := 8) rfl (ii_m _) (by decide) rfl (fun ls hl => ?_)
            refine lv_goto hx hb dH_put_148 (tgt := 104) rfl ?_
            exact ihLQ _ (by omega) n (k + 1) M' _ _ _ rfl (by omega) hp6 hs6 (hop.tr ho6) hst (lv_sub hl [1, 2, 3, 4, 5, 6, 7, 8, 0] rfl)
      have hl : lv_has ls 10 [(8, .int (dn (dgl v (tp (P a)) 0 + 1))), (0, .ref xa), (1, .int (nI r)), (2, .int (nI a)), (3, .int (nI v)), (4, .int (nI b)), (5, .ref (A (si a))), (6, .ref (A (si b))), (7, .int (nI (dgl v (tp (P a)) 0)))] := by rw [dn_s]; exact hl
      exact LQ _ (dgl v (tp (P a)) 0 + 1) 0 M' _ _ _ rfl (by omega) (by rw [show tp (hrP p v (dgl v (tp (P a)) 0) (P a) (P b) 0) = [] from td_nil _]; exact hp1) (hs.off ho1 (by omega)) (ho1.wk (fun j hj => Or.inr hj)) hst (lv_sub hl [1, 2, 3, 4, 5, 6, 7, 8, 0] rfl)
    · skip
      have hc7 : ¬ 3 ≤ u := fun z => hc ((nI_leI (by omega) (by omega)).mpr z)
      have hu : u < 3 := by omega
      have d1 := dgl_lt (v := u) (g := 0) (L := tp (P a)) (by omega)
      have d2 := dgl_lt (v := u) (g := 0) (L := tp (P b)) (by omega)
      have d3 : dgl v (tp (P a)) 0 * dgl u (tp (P b)) 0 ≤ 64 * 64 := Nat.mul_le_mul (by omega) (by omega)
      refine lv_iload hx hb dH_put_45 (lv_at hl 8 rfl) ?_
      refine lv_iload_n hx hb dH_put_47 rfl (lv_at hl 3 rfl) ?_
      refine lv_icmp_ne hx hb dH_put_48 (tgt := 55) rfl (fun hc => ?_) (fun hc => ?_)
      · skip
        have hcv : ¬ u = v := fun z => hc ((nI_eq (by omega) (by omega)).mpr z)
        refine lv_aload hx hb dH_put_55 (lv_at hl 5 rfl) ?_
        refine lv_iload hx hb dH_put_57 (lv_at hl 8 rfl) ?_
        refine ct_callV (av2 := [.int (nI u)]) (rest := []) (b := (A (si a))) X hst (c_P_degreeIn l D Y lo (hP a ha) hu (fun q hq => (tp_b hpp3 (hPp a ha) q hq).1)) cell_a rfl wc_P_degreeIn ml_H_85 wi_P_degreeIn wl_P_degreeIn wn_P md_P_degreeIn (by decide) hl.1 rfl (Nat.le_of_ble_eq_true rfl) ⟨by omega, by omega⟩ (fun _ _ h => h.elim) dH_put_59 (fun r M' H locs hp hst => ?_)
        obtain ⟨rfl, rfl⟩ := hp
        refine lv_istore (lv' := [(9, .int (nI (dgl u (tp (P a)) 0))), (0, .ref xa), (1, .int (nI r)), (2, .int (nI a)), (3, .int (nI v)), (4, .int (nI b)), (5, .ref (A (si a))), (6, .ref (A (si b))), (7, .int (nI (dgl v (tp (P a)) 0))), (8, .int (nI u))]) hx hb dH_put_62 hl (by decide) rfl (fun ls hl => ?_)
        refine lv_iload hx hb dH_put_64 (lv_at hl 0 rfl) ?_
        refine lv_iload hx hb dH_put_66 (lv_at hl 8 rfl) ?_
        refine lv_aload hx hb dH_put_68 (lv_at hl 7 rfl) ?_
        refine lv_iload hx hb dH_put_70 (lv_at hl 9 rfl) ?_
        refine ct_callV (av2 := [.int (nI u)]) (rest := [.int (nI (dgl v (tp (P a)) 0)), .int (nI (dgl u (tp (P a)) 0))]) (b := (A (si b))) X hst (c_P_degreeIn l D Y lo (hP b hb9) hu (fun q hq => (tp_b hpp3 (hPp b hb9) q hq).1)) cell_b rfl wc_P_degreeIn ml_H_85 wi_P_degreeIn wl_P_degreeIn wn_P md_P_degreeIn (by decide) hl.1 rfl (Nat.le_of_ble_eq_true rfl) ⟨by omega, by omega⟩ (fun _ _ h => h.elim) dH_put_72 (fun r M' H locs hp hst => ?_)
        obtain ⟨rfl, rfl⟩ := hp
        refine t_imul hx hb dH_put_75 (v := nI ((dgl v (tp (P a)) 0) * (dgl u (tp (P b)) 0))) (pk_mul _ _) ?_
        refine t_iadd hx hb dH_put_76 (v := nI ((dgl u (tp (P a)) 0) + ((dgl v (tp (P a)) 0) * (dgl u (tp (P b)) 0)))) (nI_add _ _) ?_
        refine lv_bipush (v := nI 12) hx hb dH_put_77 (by decide +kernel) ?_
        refine lv_icmp_le hx hb dH_put_79 (tgt := 87) rfl (fun hc => ?_) (fun hc => ?_)
        · skip
          have hc8 : ((dgl u (tp (P a)) 0) + ((dgl v (tp (P a)) 0) * (dgl u (tp (P b)) 0))) ≤ 12 := (nI_leI (by omega) (by omega)).mp hc
          refine lv_iinc (lv' := [(8, .int (nI (u + 1))), (9, .int (nI (dgl u (tp (P a)) 0))), (0, .ref xa), (1, .int (nI r)), (2, .int (nI a)), (3, .int (nI v)), (4, .int (nI b)), (5, .ref (A (si a))), (6, .ref (A (si b))), (7, .int (nI (dgl v (tp (P a)) 0)))]) hx hb dH_put_87 hl (k := 9) rfl (ii_p _) (by decide) rfl (fun ls hl => ?_)
          refine lv_goto hx hb dH_put_90 (tgt := 39) rfl ?_
          exact ihLP _ (by omega) (u + 1) _ _ _ rfl (by omega) (fun y hy => by
              by_cases h9 : y = u
              · subst h9; show (if _ then _ else _) + _ ≤ 12; rw [if_neg hcv]; exact hc8
              · exact hok y (by omega)) hst (lv_sub hl [2, 3, 4, 5, 6, 7, 8, 9, 0] rfl)
        · skip
          have hc8 : ¬ ((dgl u (tp (P a)) 0) + ((dgl v (tp (P a)) 0) * (dgl u (tp (P b)) 0))) ≤ 12 := fun z => hc ((nI_leI (by omega) (by omega)).mpr z)
          have hnu : ¬ hrD v (P a) (P b) (dgl v (tp (P a)) 0) u ≤ 12 := by
            show ¬ (if _ then _ else _) + _ ≤ 12
            rw [if_neg hcv]
            exact hc8
          exact absurd (hdg u hu) hnu
      · skip
        have hcv : u = v := (nI_eq (by omega) (by omega)).mp hc
        refine lv_iconst (v := nI 0) hx hb dH_put_51 (by decide +kernel) ?_
        refine lv_goto hx hb dH_put_52 (tgt := 62) rfl ?_
        refine lv_istore (lv' := [(9, .int (nI 0)), (0, .ref xa), (1, .int (nI r)), (2, .int (nI a)), (3, .int (nI v)), (4, .int (nI b)), (5, .ref (A (si a))), (6, .ref (A (si b))), (7, .int (nI (dgl v (tp (P a)) 0))), (8, .int (nI u))]) hx hb dH_put_62 hl (by decide) rfl (fun ls hl => ?_)
        refine lv_iload hx hb dH_put_64 (lv_at hl 0 rfl) ?_
        refine lv_iload hx hb dH_put_66 (lv_at hl 8 rfl) ?_
        refine lv_aload hx hb dH_put_68 (lv_at hl 7 rfl) ?_
        refine lv_iload hx hb dH_put_70 (lv_at hl 9 rfl) ?_
        refine ct_callV (av2 := [.int (nI u)]) (rest := [.int (nI (dgl v (tp (P a)) 0)), .int (nI 0)]) (b := (A (si b))) X hst (c_P_degreeIn l D Y lo (hP b hb9) hu (fun q hq => (tp_b hpp3 (hPp b hb9) q hq).1)) cell_b rfl wc_P_degreeIn ml_H_85 wi_P_degreeIn wl_P_degreeIn wn_P md_P_degreeIn (by decide) hl.1 rfl (Nat.le_of_ble_eq_true rfl) ⟨by omega, by omega⟩ (fun _ _ h => h.elim) dH_put_72 (fun r M' H locs hp hst => ?_)
        obtain ⟨rfl, rfl⟩ := hp
        refine t_imul hx hb dH_put_75 (v := nI ((dgl v (tp (P a)) 0) * (dgl u (tp (P b)) 0))) (pk_mul _ _) ?_
        refine t_iadd hx hb dH_put_76 (v := nI (0 + ((dgl v (tp (P a)) 0) * (dgl u (tp (P b)) 0)))) (nI_add _ _) ?_
        refine lv_bipush (v := nI 12) hx hb dH_put_77 (by decide +kernel) ?_
        refine lv_icmp_le hx hb dH_put_79 (tgt := 87) rfl (fun hc => ?_) (fun hc => ?_)
        · skip
          have hc8 : (0 + ((dgl v (tp (P a)) 0) * (dgl u (tp (P b)) 0))) ≤ 12 := (nI_leI (by omega) (by omega)).mp hc
          refine lv_iinc (lv' := [(8, .int (nI (u + 1))), (9, .int (nI 0)), (0, .ref xa), (1, .int (nI r)), (2, .int (nI a)), (3, .int (nI v)), (4, .int (nI b)), (5, .ref (A (si a))), (6, .ref (A (si b))), (7, .int (nI (dgl v (tp (P a)) 0)))]) hx hb dH_put_87 hl (k := 9) rfl (ii_p _) (by decide) rfl (fun ls hl => ?_)
          refine lv_goto hx hb dH_put_90 (tgt := 39) rfl ?_
          exact ihLP _ (by omega) (u + 1) _ _ _ rfl (by omega) (fun y hy => by
              by_cases h9 : y = u
              · subst h9; show (if _ then _ else _) + _ ≤ 12; rw [if_pos hcv]; exact hc8
              · exact hok y (by omega)) hst (lv_sub hl [2, 3, 4, 5, 6, 7, 8, 9, 0] rfl)
        · skip
          have hc8 : ¬ (0 + ((dgl v (tp (P a)) 0) * (dgl u (tp (P b)) 0))) ≤ 12 := fun z => hc ((nI_leI (by omega) (by omega)).mpr z)
          have hnu : ¬ hrD v (P a) (P b) (dgl v (tp (P a)) 0) u ≤ 12 := by
            show ¬ (if _ then _ else _) + _ ≤ 12
            rw [if_pos hcv]
            exact hc8
          exact absurd (hdg u hu) hnu
  exact LP _ 0 _ _ _ rfl (by omega) (fun y hy => by omega) hst (lv_sub hl [4, 5, 6, 7, 8, 3, 2, 1, 0] rfl)

set_option maxHeartbeats 4000000 in
set_option maxRecDepth 100000 in
theorem n_H_put (l : Launch) (D : va_G) (Y : Nat → ClassId) (lo : Nat) {M : Hm} {xa p rf : Nat} {A cap si : Nat → Nat} {P : Nat → Pf} (hcs : cs Y M xa A p P cap si rf) {r a v b : Nat} (hr : r < 12) (ha : a < 12) (hv : v < 3) (hb9 : b < 12) (hdg : ¬ ∀ u, u < 3 → hrD v (P a) (P b) (dgl v (tp (P a)) 0) u ≤ 12) : ct l D Y lo y_H_put b_H_put 10 (some .boolean) 5 [.ref xa, .int (nI r), .int (nI a), .int (nI v), .int (nI b)] M (fun r9 M' => r9 = some (.int (nI 0)) ∧ cs Y M' xa A p P cap si (rf + 1) ∧ hp_off (fun i => i < 300) M M') nx 0 0 := by
  refine ct_of (by decide) (Nat.le_of_ble_eq_true rfl) ?_
  intro pg eg sg mg bw mt cg ls X hst hl
  have X1 := X
  obtain ⟨hx, hb, hml, hrt, hlocks, hown, hnm, hts, hkz, hex⟩ := X1
  have hG : ∀ w ∈ GW, w.before _ sg = true := fun w h => hts w (List.mem_cons_of_mem _ h)
  have hK := hkz.1
  have hl : lv_has ls 10 [(0, .ref xa), (1, .int (nI r)), (2, .int (nI a)), (3, .int (nI v)), (4, .int (nI b))] := hl
  have hcs0 := hcs
  obtain ⟨x0, ⟨gr, x1, hgr⟩, ⟨gn, x2, hgn⟩, ⟨hf, hpr⟩, hs, ⟨gw, ht⟩, ⟨hs1, hs2⟩, hP, ⟨LS, hS⟩, hN, hc1, hc2, hPp⟩ := hcs
  have hpp := hf.2.1
  have hpp3 := hf.2.2
  have hf0 := hf.1
  refine lv_iload_n hx hb dH_put_0 rfl (lv_at hl 1 rfl) ?_
  refine lv_iload_n hx hb dH_put_1 rfl (lv_at hl 2 rfl) ?_
  refine lv_iload hx hb dH_put_2 (lv_at hl 4 rfl) ?_
  refine ct_callS (av2 := [.int (nI r), .int (nI a), .int (nI b)]) (rest := []) X hst (c_H_checkRegisters l D Y lo hr ha hb9) wc_H_checkRegisters ml_H_73 ws_H_checkRegisters wn_H md_H_checkRegisters (by decide) hl.1 rfl (Nat.le_of_ble_eq_true rfl) ⟨by omega, by omega⟩ (fun _ _ h => h.elim) dH_put_4 (fun r M' H locs hp hst => ?_)
  obtain ⟨rfl, rfl⟩ := hp
  refine lv_iload_n hx hb dH_put_7 rfl (lv_at hl 3 rfl) ?_
  refine ct_callS (av2 := [.int (nI v)]) (rest := []) X hst (c_H_checkVariable l D Y lo hv) wc_H_checkVariable ml_H_58 ws_H_checkVariable wn_H md_H_checkVariable (by decide) hl.1 rfl (Nat.le_of_ble_eq_true rfl) ⟨by omega, by omega⟩ (fun _ _ h => h.elim) dH_put_8 (fun r M' H locs hp hst => ?_)
  obtain ⟨rfl, rfl⟩ := hp
  have hs_r := hs1 r (by omega)
  have hs_a := hs1 a (by omega)
  have hs_b := hs1 b (by omega)
  have hs_12 := hs1 12 (by omega)
  have hna : si a ≠ si 12 := fun z => by have := hs2 a 12 (by omega) (by omega) z; omega
  have hnb : si b ≠ si 12 := fun z => by have := hs2 b 12 (by omega) (by omega) z; omega
  have hc18 := hc1 12 (by omega)
  obtain ⟨fs_a, cell_a⟩ := (hP a ha).cell
  obtain ⟨fs_b, cell_b⟩ := (hP b hb9).cell
  refine lv_aload_n hx hb dH_put_11 rfl (lv_at hl 0 rfl) ?_
  refine hp_get hx hb hG in_H hown hK hst x0 rfl 3 (by decide) (hG _ fl_H_11) rfl rfl dH_put_12 ?_
  refine lv_iload_n hx hb dH_put_15 rfl (lv_at hl 2 rfl) ?_
  refine hp_aald hx hb hK rfl hst x1 (j := a) (v := (A (si a))) (by omega) (by omega) (hgr a ha) dH_put_16 ?_
  refine lv_astore (lv' := [(5, .ref (A (si a))), (0, .ref xa), (1, .int (nI r)), (2, .int (nI a)), (3, .int (nI v)), (4, .int (nI b))]) hx hb dH_put_17 hl (by decide) rfl (fun ls hl => ?_)
  refine lv_aload_n hx hb dH_put_19 rfl (lv_at hl 1 rfl) ?_
  refine hp_get hx hb hG in_H hown hK hst x0 rfl 3 (by decide) (hG _ fl_H_11) rfl rfl dH_put_20 ?_
  refine lv_iload hx hb dH_put_23 (lv_at hl 5 rfl) ?_
  refine hp_aald hx hb hK rfl hst x1 (j := b) (v := (A (si b))) (by omega) (by omega) (hgr b hb9) dH_put_25 ?_
  have dod := dgl_lt (v := v) (g := 0) (L := tp (P a)) (by omega)
  refine lv_astore (lv' := [(6, .ref (A (si b))), (5, .ref (A (si a))), (0, .ref xa), (1, .int (nI r)), (2, .int (nI a)), (3, .int (nI v)), (4, .int (nI b))]) hx hb dH_put_26 hl (by decide) rfl (fun ls hl => ?_)
  refine lv_aload hx hb dH_put_28 (lv_at hl 1 rfl) ?_
  refine lv_iload_n hx hb dH_put_30 rfl (lv_at hl 5 rfl) ?_
  refine ct_callV (av2 := [.int (nI v)]) (rest := []) (b := (A (si a))) X hst (c_P_degreeIn l D Y lo (hP a ha) hv (fun q hq => (tp_b hpp3 (hPp a ha) q hq).1)) cell_a rfl wc_P_degreeIn ml_H_85 wi_P_degreeIn wl_P_degreeIn wn_P md_P_degreeIn (by decide) hl.1 rfl (Nat.le_of_ble_eq_true rfl) ⟨by omega, by omega⟩ (fun _ _ h => h.elim) dH_put_31 (fun r M' H locs hp hst => ?_)
  obtain ⟨rfl, rfl⟩ := hp
  refine lv_istore (lv' := [(7, .int (nI (dgl v (tp (P a)) 0))), (6, .ref (A (si b))), (5, .ref (A (si a))), (0, .ref xa), (1, .int (nI r)), (2, .int (nI a)), (3, .int (nI v)), (4, .int (nI b))]) hx hb dH_put_34 hl (by decide) rfl (fun ls hl => ?_)
  refine lv_iconst (v := nI 0) hx hb dH_put_36 (by decide +kernel) ?_
  refine lv_istore (lv' := [(8, .int (nI 0)), (7, .int (nI (dgl v (tp (P a)) 0))), (6, .ref (A (si b))), (5, .ref (A (si a))), (0, .ref xa), (1, .int (nI r)), (2, .int (nI a)), (3, .int (nI v)), (4, .int (nI b))]) hx hb dH_put_37 hl (by decide) rfl (fun ls hl => ?_)
  have LP : ∀ (kk : Nat) (u : Nat) (H : Heap) (locs : List Loc) (ls : Array Slot), kk = 4 - u → (u ≤ 3) → (∀ y, y < u → hrD v (P a) (P b) (dgl v (tp (P a)) 0) y ≤ 12) → hp_st D vC lo M sg.heap H locs → lv_has ls 10 [(0, .ref xa), (1, .int (nI r)), (2, .int (nI a)), (3, .int (nI v)), (4, .int (nI b)), (5, .ref (A (si a))), (6, .ref (A (si b))), (7, .int (nI (dgl v (tp (P a)) 0))), (8, .int (nI u))] → cW pg l eg sg mg [.ref xa, .int (nI r), .int (nI a), .int (nI v), .int (nI b)] bw mt cg y_H_put b_H_put 10 (some .boolean) 5 D lo (fun r9 M' => r9 = some (.int (nI 0)) ∧ cs Y M' xa A p P cap si (rf + 1) ∧ hp_off (fun i => i < 300) M M') nx 0 0 H locs 0 0 (F0 mg 39 ls []) := by
    intro kk
    induction kk using Nat.strongRecOn with
    | _ kk ihLP =>
    intro u H locs ls hkk hu9 hok hst hl
    refine lv_iload hx hb dH_put_39 (lv_at hl 8 rfl) ?_
    refine lv_iconst (v := nI 3) hx hb dH_put_41 (by decide +kernel) ?_
    refine lv_icmp_ge hx hb dH_put_42 (tgt := 93) rfl (fun hc => ?_) (fun hc => ?_)
    · skip
      have hc7 : 3 ≤ u := (nI_leI (by omega) (by omega)).mp hc
      exact absurd (fun u hu => hok u (by omega)) hdg
    · skip
      have hc7 : ¬ 3 ≤ u := fun z => hc ((nI_leI (by omega) (by omega)).mpr z)
      have hu : u < 3 := by omega
      have d1 := dgl_lt (v := u) (g := 0) (L := tp (P a)) (by omega)
      have d2 := dgl_lt (v := u) (g := 0) (L := tp (P b)) (by omega)
      have d3 : dgl v (tp (P a)) 0 * dgl u (tp (P b)) 0 ≤ 64 * 64 := Nat.mul_le_mul (by omega) (by omega)
      refine lv_iload hx hb dH_put_45 (lv_at hl 8 rfl) ?_
      refine lv_iload_n hx hb dH_put_47 rfl (lv_at hl 3 rfl) ?_
      refine lv_icmp_ne hx hb dH_put_48 (tgt := 55) rfl (fun hc => ?_) (fun hc => ?_)
      · skip
        have hcv : ¬ u = v := fun z => hc ((nI_eq (by omega) (by omega)).mpr z)
        refine lv_aload hx hb dH_put_55 (lv_at hl 5 rfl) ?_
        refine lv_iload hx hb dH_put_57 (lv_at hl 8 rfl) ?_
        refine ct_callV (av2 := [.int (nI u)]) (rest := []) (b := (A (si a))) X hst (c_P_degreeIn l D Y lo (hP a ha) hu (fun q hq => (tp_b hpp3 (hPp a ha) q hq).1)) cell_a rfl wc_P_degreeIn ml_H_85 wi_P_degreeIn wl_P_degreeIn wn_P md_P_degreeIn (by decide) hl.1 rfl (Nat.le_of_ble_eq_true rfl) ⟨by omega, by omega⟩ (fun _ _ h => h.elim) dH_put_59 (fun r M' H locs hp hst => ?_)
        obtain ⟨rfl, rfl⟩ := hp
        refine lv_istore (lv' := [(9, .int (nI (dgl u (tp (P a)) 0))), (0, .ref xa), (1, .int (nI r)), (2, .int (nI a)), (3, .int (nI v)), (4, .int (nI b)), (5, .ref (A (si a))), (6, .ref (A (si b))), (7, .int (nI (dgl v (tp (P a)) 0))), (8, .int (nI u))]) hx hb dH_put_62 hl (by decide) rfl (fun ls hl => ?_)
        refine lv_iload hx hb dH_put_64 (lv_at hl 0 rfl) ?_
        refine lv_iload hx hb dH_put_66 (lv_at hl 8 rfl) ?_
        refine lv_aload hx hb dH_put_68 (lv_at hl 7 rfl) ?_
        refine lv_iload hx hb dH_put_70 (lv_at hl 9 rfl) ?_
        refine ct_callV (av2 := [.int (nI u)]) (rest := [.int (nI (dgl v (tp (P a)) 0)), .int (nI (dgl u (tp (P a)) 0))]) (b := (A (si b))) X hst (c_P_degreeIn l D Y lo (hP b hb9) hu (fun q hq => (tp_b hpp3 (hPp b hb9) q hq).1)) cell_b rfl wc_P_degreeIn ml_H_85 wi_P_degreeIn wl_P_degreeIn wn_P md_P_degreeIn (by decide) hl.1 rfl (Nat.le_of_ble_eq_true rfl) ⟨by omega, by omega⟩ (fun _ _ h => h.elim) dH_put_72 (fun r M' H locs hp hst => ?_)
        obtain ⟨rfl, rfl⟩ := hp
        refine t_imul hx hb dH_put_75 (v := nI ((dgl v (tp (P a)) 0) * (dgl u (tp (P b)) 0))) (pk_mul _ _) ?_
        refine t_iadd hx hb dH_put_76 (v := nI ((dgl u (tp (P a)) 0) + ((dgl v (tp (P a)) 0) * (dgl u (tp (P b)) 0)))) (nI_add _ _) ?_
        refine lv_bipush (v := nI 12) hx hb dH_put_77 (by decide +kernel) ?_
        refine lv_icmp_le hx hb dH_put_79 (tgt := 87) rfl (fun hc => ?_) (fun hc => ?_)
        · skip
          have hc8 : ((dgl u (tp (P a)) 0) + ((dgl v (tp (P a)) 0) * (dgl u (tp (P b)) 0))) ≤ 12 := (nI_leI (by omega) (by omega)).mp hc
          refine lv_iinc (lv' := [(8, .int (nI (u + 1))), (9, .int (nI (dgl u (tp (P a)) 0))), (0, .ref xa), (1, .int (nI r)), (2, .int (nI a)), (3, .int (nI v)), (4, .int (nI b)), (5, .ref (A (si a))), (6, .ref (A (si b))), (7, .int (nI (dgl v (tp (P a)) 0)))]) hx hb dH_put_87 hl (k := 9) rfl (ii_p _) (by decide) rfl (fun ls hl => ?_)
          refine lv_goto hx hb dH_put_90 (tgt := 39) rfl ?_
          exact ihLP _ (by omega) (u + 1) _ _ _ rfl (by omega) (fun y hy => by
              by_cases h9 : y = u
              · subst h9; show (if _ then _ else _) + _ ≤ 12; rw [if_neg hcv]; exact hc8
              · exact hok y (by omega)) hst (lv_sub hl [2, 3, 4, 5, 6, 7, 8, 9, 0] rfl)
        · skip
          have hc8 : ¬ ((dgl u (tp (P a)) 0) + ((dgl v (tp (P a)) 0) * (dgl u (tp (P b)) 0))) ≤ 12 := fun z => hc ((nI_leI (by omega) (by omega)).mpr z)
          have hnu : ¬ hrD v (P a) (P b) (dgl v (tp (P a)) 0) u ≤ 12 := by
            show ¬ (if _ then _ else _) + _ ≤ 12
            rw [if_neg hcv]
            exact hc8
          refine lv_aload_n hx hb dH_put_82 rfl (lv_at hl 1 rfl) ?_
          refine ct_callV (av2 := []) (rest := []) (b := xa) X hst (c_H_refuse l D Y lo hcs0) x0 rfl wc_H_refuse ml_H_88 wi_H_refuse wl_H_refuse wn_H md_H_refuse (by decide) hl.1 rfl (Nat.le_of_ble_eq_true rfl) ⟨by omega, by omega⟩ (fun _ _ h => h.elim) dH_put_83 (fun r M' H locs hp hst => ?_)
          obtain ⟨rfl, hcs1, ho1⟩ := hp
          exact ct_zret X hst (by omega) ⟨rfl, hcs1, ho1.wk (fun i hi => by omega)⟩ (by omega) (by omega) dH_put_86
      · skip
        have hcv : u = v := (nI_eq (by omega) (by omega)).mp hc
        refine lv_iconst (v := nI 0) hx hb dH_put_51 (by decide +kernel) ?_
        refine lv_goto hx hb dH_put_52 (tgt := 62) rfl ?_
        refine lv_istore (lv' := [(9, .int (nI 0)), (0, .ref xa), (1, .int (nI r)), (2, .int (nI a)), (3, .int (nI v)), (4, .int (nI b)), (5, .ref (A (si a))), (6, .ref (A (si b))), (7, .int (nI (dgl v (tp (P a)) 0))), (8, .int (nI u))]) hx hb dH_put_62 hl (by decide) rfl (fun ls hl => ?_)
        refine lv_iload hx hb dH_put_64 (lv_at hl 0 rfl) ?_
        refine lv_iload hx hb dH_put_66 (lv_at hl 8 rfl) ?_
        refine lv_aload hx hb dH_put_68 (lv_at hl 7 rfl) ?_
        refine lv_iload hx hb dH_put_70 (lv_at hl 9 rfl) ?_
        refine ct_callV (av2 := [.int (nI u)]) (rest := [.int (nI (dgl v (tp (P a)) 0)), .int (nI 0)]) (b := (A (si b))) X hst (c_P_degreeIn l D Y lo (hP b hb9) hu (fun q hq => (tp_b hpp3 (hPp b hb9) q hq).1)) cell_b rfl wc_P_degreeIn ml_H_85 wi_P_degreeIn wl_P_degreeIn wn_P md_P_degreeIn (by decide) hl.1 rfl (Nat.le_of_ble_eq_true rfl) ⟨by omega, by omega⟩ (fun _ _ h => h.elim) dH_put_72 (fun r M' H locs hp hst => ?_)
        obtain ⟨rfl, rfl⟩ := hp
        refine t_imul hx hb dH_put_75 (v := nI ((dgl v (tp (P a)) 0) * (dgl u (tp (P b)) 0))) (pk_mul _ _) ?_
        refine t_iadd hx hb dH_put_76 (v := nI (0 + ((dgl v (tp (P a)) 0) * (dgl u (tp (P b)) 0)))) (nI_add _ _) ?_
        refine lv_bipush (v := nI 12) hx hb dH_put_77 (by decide +kernel) ?_
        refine lv_icmp_le hx hb dH_put_79 (tgt := 87) rfl (fun hc => ?_) (fun hc => ?_)
        · skip
          have hc8 : (0 + ((dgl v (tp (P a)) 0) * (dgl u (tp (P b)) 0))) ≤ 12 := (nI_leI (by omega) (by omega)).mp hc
          refine lv_iinc (lv' := [(8, .int (nI (u + 1))), (9, .int (nI 0)), (0, .ref xa), (1, .int (nI r)), (2, .int (nI a)), (3, .int (nI v)), (4, .int (nI b)), (5, .ref (A (si a))), (6, .ref (A (si b))), (7, .int (nI (dgl v (tp (P a)) 0)))]) hx hb dH_put_87 hl (k := 9) rfl (ii_p _) (by decide) rfl (fun ls hl => ?_)
          refine lv_goto hx hb dH_put_90 (tgt := 39) rfl ?_
          exact ihLP _ (by omega) (u + 1) _ _ _ rfl (by omega) (fun y hy => by
              by_cases h9 : y = u
              · subst h9; show (if _ then _ else _) + _ ≤ 12; rw [if_pos hcv]; exact hc8
              · exact hok y (by omega)) hst (lv_sub hl [2, 3, 4, 5, 6, 7, 8, 9, 0] rfl)
        · skip
          have hc8 : ¬ (0 + ((dgl v (tp (P a)) 0) * (dgl u (tp (P b)) 0))) ≤ 12 := fun z => hc ((nI_leI (by omega) (by omega)).mpr z)
          have hnu : ¬ hrD v (P a) (P b) (dgl v (tp (P a)) 0) u ≤ 12 := by
            show ¬ (if _ then _ else _) + _ ≤ 12
            rw [if_pos hcv]
            exact hc8
          refine lv_aload_n hx hb dH_put_82 rfl (lv_at hl 1 rfl) ?_
          refine ct_callV (av2 := []) (rest := []) (b := xa) X hst (c_H_refuse l D Y lo hcs0) x0 rfl wc_H_refuse ml_H_88 wi_H_refuse wl_H_refuse wn_H md_H_refuse (by decide) hl.1 rfl (Nat.le_of_ble_eq_true rfl) ⟨by omega, by omega⟩ (fun _ _ h => h.elim) dH_put_83 (fun r M' H locs hp hst => ?_)
          obtain ⟨rfl, hcs1, ho1⟩ := hp
          exact ct_zret X hst (by omega) ⟨rfl, hcs1, ho1.wk (fun i hi => by omega)⟩ (by omega) (by omega) dH_put_86
  exact LP _ 0 _ _ _ rfl (by omega) (fun y hy => by omega) hst (lv_sub hl [4, 5, 6, 7, 8, 3, 2, 1, 0] rfl)

set_option maxHeartbeats 4000000 in
set_option maxRecDepth 100000 in
theorem x_H_put (l : Launch) (D : va_G) (Y : Nat → ClassId) (lo : Nat) (hlt : l.stackTraces = false) {M : Hm} {xa : Nat} {x1 x2 x3 x4 : Int32} (hno : ¬ ((inR x1 ∧ inR x2 ∧ inR x4) ∧ inV x3)) : ct l D Y lo y_H_put b_H_put 10 (some .boolean) 8 [.ref xa, .int x1, .int x2, .int x3, .int x4] M (fun _ _ => False) (fun E M' => M = M' ∧ (E = EI ∧ ¬ (inR x1 ∧ inR x2 ∧ inR x4) ∨ E = EA ∧ (inR x1 ∧ inR x2 ∧ inR x4))) 4 24 := by
  refine ct_of (by decide) (Nat.le_of_ble_eq_true rfl) ?_
  intro pg eg sg mg bw mt cg ls X hst hl
  have X1 := X
  obtain ⟨hx, hb, hml, hrt, hlocks, hown, hnm, hts, hkz, hex⟩ := X1
  have hG : ∀ w ∈ GW, w.before _ sg = true := fun w h => hts w (List.mem_cons_of_mem _ h)
  have hK := hkz.1
  have hl : lv_has ls 10 [(0, .ref xa), (1, .int x1), (2, .int x2), (3, .int x3), (4, .int x4)] := hl
  refine lv_iload_n hx hb dH_put_0 rfl (lv_at hl 1 rfl) ?_
  refine lv_iload_n hx hb dH_put_1 rfl (lv_at hl 2 rfl) ?_
  refine lv_iload hx hb dH_put_2 (lv_at hl 4 rfl) ?_
  refine ct_callS (av2 := [.int x1, .int x2, .int x4]) (rest := []) X hst (x_crs_call hlt x1 x2 x4 M) wc_H_checkRegisters ml_H_73 ws_H_checkRegisters wn_H md_H_checkRegisters (by decide) hl.1 rfl (Nat.le_of_ble_eq_true rfl) ⟨by omega, by omega⟩ (fun E M1 h => ⟨h.2.1, Or.inl ⟨h.1, h.2.2⟩⟩) dH_put_4 (fun r M' H locs hp hst => ?_)
  obtain ⟨rfl, rfl, h1⟩ := hp
  refine lv_iload_n hx hb dH_put_7 rfl (lv_at hl 3 rfl) ?_
  refine ct_callS (av2 := [.int x3]) (rest := []) X hst (x_cv_call hlt x3 M) wc_H_checkVariable ml_H_58 ws_H_checkVariable wn_H md_H_checkVariable (by decide) hl.1 rfl (Nat.le_of_ble_eq_true rfl) ⟨by omega, by omega⟩ (fun E M1 h => ⟨h.2.1, Or.inr ⟨h.1, h1⟩⟩) dH_put_8 (fun r M' H locs hp hst => ?_)
  obtain ⟨rfl, rfl, h3⟩ := hp
  exact absurd ⟨h1, h3⟩ hno
