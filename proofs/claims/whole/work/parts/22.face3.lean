/-! The face: count, term, value. -/
/-- what count answers -/
noncomputable def cnt (p rf : Nat) (P : Nat → Pf) (x : Int32) : Int32 := if x = nI 0 then nI p else if x = nI 1 then nI (sm (fun r => (tp (P r)).length) 12) else if x = nI 2 then nI (sm (fun r => if (tp (P r)).length = 0 then 1 else 0) 12) else if x = nI 3 then nI (gdA P 12) else if x = nI 4 then nI rf else -1
theorem nI_ne {a b : Nat} (h : a ≠ b) (ha : a < 2 ^ 31) (hb : b < 2 ^ 31) : nI a ≠ nI b := fun z => h ((nI_eq ha hb).mp z)

set_option maxHeartbeats 4000000 in
set_option maxRecDepth 100000 in
theorem c_H_count (l : Launch) (D : va_G) (Y : Nat → ClassId) (lo : Nat) {M : Hm} {xa p rf : Nat} {A cap si : Nat → Nat} {P : Nat → Pf} (hcs : cs Y M xa A p P cap si rf) (x : Int32) : ct l D Y lo y_H_count b_H_count 2 (some .int) 3 [.ref xa, .int x] M (fun r9 M' => r9 = some (.int (cnt p rf P x)) ∧ M = M') nx 0 0 := by
  refine ct_of (by decide) (Nat.le_of_ble_eq_true rfl) ?_
  intro pg eg sg mg bw mt cg ls X hst hl
  have X1 := X
  obtain ⟨hx, hb, hml, hrt, hlocks, hown, hnm, hts, hkz, hex⟩ := X1
  have hG : ∀ w ∈ GW, w.before _ sg = true := fun w h => hts w (List.mem_cons_of_mem _ h)
  have hK := hkz.1
  have hl : lv_has ls 2 [(0, .ref xa), (1, .int x)] := hl
  have hcs0 := hcs
  obtain ⟨x0, ⟨gr, x1, hgr⟩, ⟨gn, x2, hgn⟩, ⟨hf, hpr⟩, hs, ⟨gw, ht⟩, ⟨hs1, hs2⟩, hP, ⟨LS, hS⟩, hN, hc1, hc2, hPp⟩ := hcs
  have hpp := hf.2.1
  have hpp3 := hf.2.2
  have hf0 := hf.1
  refine lv_iload_n hx hb dH_count_0 rfl (lv_at hl 1 rfl) ?_
  by_cases hin : 0 ≤ x.toInt ∧ x.toInt ≤ 4
  · skip
    obtain ⟨k, hk, rfl⟩ : ∃ k : Nat, k < 5 ∧ x = nI k := ⟨x.toInt.toNat, by omega, i32_of (by omega)⟩
    rcases (show k = 0 ∨ k = 1 ∨ k = 2 ∨ k = 3 ∨ k = 4 by omega) with rfl | rfl | rfl | rfl | rfl
    · skip
      refine lv_tableIn hx hb dH_count_1 (off := 35) (tgt := 36) (by decide +kernel) (by decide +kernel) (by decide +kernel) rfl ?_
      have hcn : cnt p rf P (nI 0) = nI p := by unfold cnt; rw [if_pos rfl]
      refine lv_aload_n hx hb dH_count_36 rfl (lv_at hl 0 rfl) ?_
      refine hp_get hx hb hG in_H hown hK hst x0 rfl 0 (by decide) (hG _ fl_H_23) rfl rfl dH_count_37 ?_
      refine hp_get hx hb hG in_F hown hK hst hf0 rfl 0 (by decide) (hG _ fl_H_166) rfl rfl dH_count_40 ?_
      exact ct_iret X hst ⟨by rw [hcn], rfl⟩ (by omega) (by omega) dH_count_43
    · skip
      refine lv_tableIn hx hb dH_count_1 (off := 43) (tgt := 44) (by decide +kernel) (by decide +kernel) (by decide +kernel) rfl ?_
      have hcn : cnt p rf P (nI 1) = nI (sm (fun r => (tp (P r)).length) 12) := by unfold cnt; rw [if_neg (nI_ne (by omega) (by omega) (by omega))]; rw [if_pos rfl]
      refine lv_aload_n hx hb dH_count_44 rfl (lv_at hl 0 rfl) ?_
      refine ct_callV (av2 := []) (rest := []) (b := xa) X hst (c_H_allTerms l D Y lo hcs0) x0 rfl wc_H_allTerms ml_H_169 wi_H_allTerms wl_H_allTerms wn_H md_H_allTerms (by decide) hl.1 rfl (Nat.le_of_ble_eq_true rfl) ⟨by omega, by omega⟩ (fun _ _ h => h.elim) dH_count_45 (fun r M' H locs hp hst => ?_)
      obtain ⟨rfl, rfl⟩ := hp
      exact ct_iret X hst ⟨by rw [hcn], rfl⟩ (by omega) (by omega) dH_count_48
    · skip
      refine lv_tableIn hx hb dH_count_1 (off := 48) (tgt := 49) (by decide +kernel) (by decide +kernel) (by decide +kernel) rfl ?_
      have hcn : cnt p rf P (nI 2) = nI (sm (fun r => if (tp (P r)).length = 0 then 1 else 0) 12) := by unfold cnt; rw [if_neg (nI_ne (by omega) (by omega) (by omega))]; rw [if_neg (nI_ne (by omega) (by omega) (by omega))]; rw [if_pos rfl]
      refine lv_aload_n hx hb dH_count_49 rfl (lv_at hl 0 rfl) ?_
      refine ct_callV (av2 := []) (rest := []) (b := xa) X hst (c_H_zeroRegisters l D Y lo hcs0) x0 rfl wc_H_zeroRegisters ml_H_173 wi_H_zeroRegisters wl_H_zeroRegisters wn_H md_H_zeroRegisters (by decide) hl.1 rfl (Nat.le_of_ble_eq_true rfl) ⟨by omega, by omega⟩ (fun _ _ h => h.elim) dH_count_50 (fun r M' H locs hp hst => ?_)
      obtain ⟨rfl, rfl⟩ := hp
      exact ct_iret X hst ⟨by rw [hcn], rfl⟩ (by omega) (by omega) dH_count_53
    · skip
      refine lv_tableIn hx hb dH_count_1 (off := 53) (tgt := 54) (by decide +kernel) (by decide +kernel) (by decide +kernel) rfl ?_
      have hcn : cnt p rf P (nI 3) = nI (gdA P 12) := by unfold cnt; rw [if_neg (nI_ne (by omega) (by omega) (by omega))]; rw [if_neg (nI_ne (by omega) (by omega) (by omega))]; rw [if_neg (nI_ne (by omega) (by omega) (by omega))]; rw [if_pos rfl]
      refine lv_aload_n hx hb dH_count_54 rfl (lv_at hl 0 rfl) ?_
      refine ct_callV (av2 := []) (rest := []) (b := xa) X hst (c_H_greatestDegree l D Y lo hcs0) x0 rfl wc_H_greatestDegree ml_H_176 wi_H_greatestDegree wl_H_greatestDegree wn_H md_H_greatestDegree (by decide) hl.1 rfl (Nat.le_of_ble_eq_true rfl) ⟨by omega, by omega⟩ (fun _ _ h => h.elim) dH_count_55 (fun r M' H locs hp hst => ?_)
      obtain ⟨rfl, rfl⟩ := hp
      exact ct_iret X hst ⟨by rw [hcn], rfl⟩ (by omega) (by omega) dH_count_58
    · skip
      refine lv_tableIn hx hb dH_count_1 (off := 58) (tgt := 59) (by decide +kernel) (by decide +kernel) (by decide +kernel) rfl ?_
      have hcn : cnt p rf P (nI 4) = nI rf := by unfold cnt; rw [if_neg (nI_ne (by omega) (by omega) (by omega))]; rw [if_neg (nI_ne (by omega) (by omega) (by omega))]; rw [if_neg (nI_ne (by omega) (by omega) (by omega))]; rw [if_neg (nI_ne (by omega) (by omega) (by omega))]; rw [if_pos rfl]
      refine lv_aload_n hx hb dH_count_59 rfl (lv_at hl 0 rfl) ?_
      refine hp_get hx hb hG in_H hown hK hst x0 rfl 6 (by decide) (hG _ fl_H_179) rfl rfl dH_count_60 ?_
      exact ct_iret X hst ⟨by rw [hcn], rfl⟩ (by omega) (by omega) dH_count_63
  · skip
    refine lv_tableOut hx hb dH_count_1 (tgt := 64) (by omega) rfl ?_
    have hne : ∀ k : Nat, k < 5 → x ≠ nI k := fun k hk z => hin (by rw [z, nI_toInt (by omega)]; omega)
    have hcn : cnt p rf P x = -1 := by unfold cnt; rw [if_neg (hne 0 (by omega)), if_neg (hne 1 (by omega)), if_neg (hne 2 (by omega)), if_neg (hne 3 (by omega)), if_neg (hne 4 (by omega))]
    refine lv_iconst (v := (-1 : Int32)) hx hb dH_count_64 (by decide +kernel) ?_
    exact ct_iret X hst ⟨by rw [hcn], rfl⟩ (by omega) (by omega) dH_count_65

set_option maxHeartbeats 4000000 in
set_option maxRecDepth 100000 in
theorem c_H_term (l : Launch) (D : va_G) (Y : Nat → ClassId) (lo : Nat) {M : Hm} {xa p rf : Nat} {A cap si : Nat → Nat} {P : Nat → Pf} (hcs : cs Y M xa A p P cap si rf) {r i wh : Nat} {q : Nat × Nat} (hr : r < 12) (hq : (tp (P r))[i]? = some q) (hwh : wh ≤ 3) : ct l D Y lo y_H_term b_H_term 5 (some .int) 1 [.ref xa, .int (nI r), .int (nI i), .int (nI wh)] M (fun r9 M' => r9 = some (.int (nI (if wh = 0 then q.2 else xe q.1 (wh - 1)))) ∧ M = M') nx 0 0 := by
  refine ct_of (by decide) (Nat.le_of_ble_eq_true rfl) ?_
  intro pg eg sg mg bw mt cg ls X hst hl
  have X1 := X
  obtain ⟨hx, hb, hml, hrt, hlocks, hown, hnm, hts, hkz, hex⟩ := X1
  have hG : ∀ w ∈ GW, w.before _ sg = true := fun w h => hts w (List.mem_cons_of_mem _ h)
  have hK := hkz.1
  have hl : lv_has ls 5 [(0, .ref xa), (1, .int (nI r)), (2, .int (nI i)), (3, .int (nI wh))] := hl
  have hcs0 := hcs
  obtain ⟨x0, ⟨gr, x1, hgr⟩, ⟨gn, x2, hgn⟩, ⟨hf, hpr⟩, hs, ⟨gw, ht⟩, ⟨hs1, hs2⟩, hP, ⟨LS, hS⟩, hN, hc1, hc2, hPp⟩ := hcs
  have hpp := hf.2.1
  have hpp3 := hf.2.2
  have hf0 := hf.1
  refine lv_iload_n hx hb dH_term_0 rfl (lv_at hl 1 rfl) ?_
  refine ct_callS (av2 := [.int (nI r)]) (rest := []) X hst (c_H_checkRegister l D Y lo hr) wc_H_checkRegister ml_H_48 ws_H_checkRegister wn_H md_H_checkRegister (by decide) hl.1 rfl (Nat.le_of_ble_eq_true rfl) ⟨by omega, by omega⟩ (fun _ _ h => h.elim) dH_term_1 (fun r M' H locs hp hst => ?_)
  obtain ⟨rfl, rfl⟩ := hp
  refine lv_aload_n hx hb dH_term_4 rfl (lv_at hl 0 rfl) ?_
  refine hp_get hx hb hG in_H hown hK hst x0 rfl 3 (by decide) (hG _ fl_H_11) rfl rfl dH_term_5 ?_
  refine lv_iload_n hx hb dH_term_8 rfl (lv_at hl 1 rfl) ?_
  refine hp_aald hx hb hK rfl hst x1 (j := r) (v := (A (si r))) (by omega) (by omega) (hgr r hr) dH_term_9 ?_
  have hPr := hP r hr
  obtain ⟨a9, b9, fa9, fb9, h09, h19, h29, hL9, hn9, hc19, hc29⟩ := hPr
  obtain ⟨i1, i2⟩ := hL9 i q hq
  have hil : i < (tp (P r)).length := (List.getElem?_eq_some_iff.mp hq).1
  have hqb := tp_b hpp3 (hPp r hr) q (List.mem_of_getElem? hq)
  refine lv_astore (lv' := [(4, .ref (A (si r))), (0, .ref xa), (1, .int (nI r)), (2, .int (nI i)), (3, .int (nI wh))]) hx hb dH_term_10 hl (by decide) rfl (fun ls hl => ?_)
  refine lv_iload_n hx hb dH_term_12 rfl (lv_at hl 3 rfl) ?_
  refine lv_if_lt hx hb dH_term_13 (tgt := 25) rfl (fun hc => ?_) (fun hc => ?_)
  · skip
    rw [← nI_0] at hc
    have hc9 : i < 0 := (nI_ltI (by omega) (by omega)).mp hc
    exact absurd hc9 (by omega)
  · skip
    rw [← nI_0] at hc
    have hc9 : ¬ i < 0 := fun z => hc ((nI_ltI (by omega) (by omega)).mpr z)
    refine lv_iload_n hx hb dH_term_16 rfl (lv_at hl 3 rfl) ?_
    refine lv_aload hx hb dH_term_17 (lv_at hl 0 rfl) ?_
    refine hp_get hx hb hG in_P hown hK hst h09 rfl 2 (by decide) (hG _ fl_H_109) rfl rfl dH_term_19 ?_
    refine lv_icmp_lt hx hb dH_term_22 (tgt := 33) rfl (fun hc => ?_) (fun hc => ?_)
    · skip
      have hc9 : i < ((tp (P r)).length) := (nI_ltI (by omega) (by omega)).mp hc
      refine lv_iload_n hx hb dH_term_33 rfl (lv_at hl 4 rfl) ?_
      refine lv_if_lt hx hb dH_term_34 (tgt := 42) rfl (fun hc => ?_) (fun hc => ?_)
      · skip
        rw [← nI_0] at hc
        have hc9 : wh < 0 := (nI_ltI (by omega) (by omega)).mp hc
        exact absurd hc9 (by omega)
      · skip
        rw [← nI_0] at hc
        have hc9 : ¬ wh < 0 := fun z => hc ((nI_ltI (by omega) (by omega)).mpr z)
        refine lv_iload_n hx hb dH_term_37 rfl (lv_at hl 4 rfl) ?_
        refine lv_iconst (v := nI 3) hx hb dH_term_38 (by decide +kernel) ?_
        refine lv_icmp_le hx hb dH_term_39 (tgt := 50) rfl (fun hc => ?_) (fun hc => ?_)
        · skip
          have hc9 : wh ≤ 3 := (nI_leI (by omega) (by omega)).mp hc
          refine lv_iload_n hx hb dH_term_50 rfl (lv_at hl 4 rfl) ?_
          refine lv_if_ne hx hb dH_term_51 (tgt := 64) rfl (fun hc => ?_) (fun hc => ?_)
          · skip
            rw [← nI_0] at hc
            have hc8 : ¬ wh = 0 := fun z => hc ((nI_eq (by omega) (by omega)).mpr z)
            refine lv_aload hx hb dH_term_64 (lv_at hl 0 rfl) ?_
            refine hp_get hx hb hG in_P hown hK hst h09 rfl 0 (by decide) (hG _ fl_H_113) rfl rfl dH_term_66 ?_
            refine lv_iload_n hx hb dH_term_69 rfl (lv_at hl 3 rfl) ?_
            refine hp_iald hx hb hK rfl hst h19 (j := i) (by omega) (by omega) dH_term_70 ?_
            refine tp_n (e2 := q.1) i1 ?_
            refine lv_iload_n hx hb dH_term_71 rfl (lv_at hl 4 rfl) ?_
            refine lv_iconst (v := nI 1) hx hb dH_term_72 (by decide +kernel) ?_
            refine t_isub hx hb dH_term_73 (v := nI (wh - 1)) (pk_sub (by omega)) ?_
            refine ct_callS (av2 := [.int (nI q.1), .int (nI (wh - 1))]) (rest := []) X hst (c_Q_exponent l D Y lo (k := q.1) (v := wh - 1) (by omega) (by omega)) wc_Q_exponent ml_H_117 ws_Q_exponent wn_Q md_Q_exponent (by decide) hl.1 rfl (Nat.le_of_ble_eq_true rfl) ⟨by omega, by omega⟩ (fun _ _ h => h.elim) dH_term_74 (fun r M' H locs hp hst => ?_)
            obtain ⟨rfl, rfl⟩ := hp
            exact ct_iret X hst ⟨by rw [if_neg hc8], rfl⟩ (by omega) (by omega) dH_term_77
          · skip
            rw [← nI_0] at hc
            have hc8 : wh = 0 := (nI_eq (by omega) (by omega)).mp hc
            refine lv_aload hx hb dH_term_54 (lv_at hl 0 rfl) ?_
            refine hp_get hx hb hG in_P hown hK hst h09 rfl 1 (by decide) (hG _ fl_H_121) rfl rfl dH_term_56 ?_
            refine lv_iload_n hx hb dH_term_59 rfl (lv_at hl 3 rfl) ?_
            refine hp_iald hx hb hK rfl hst h29 (j := i) (by omega) (by omega) dH_term_60 ?_
            refine tp_n (e2 := q.2) i2 ?_
            refine lv_goto hx hb dH_term_61 (tgt := 77) rfl ?_
            exact ct_iret X hst ⟨by rw [if_pos hc8], rfl⟩ (by omega) (by omega) dH_term_77
        · skip
          have hc9 : ¬ wh ≤ 3 := fun z => hc ((nI_leI (by omega) (by omega)).mpr z)
          exact absurd hc9 (by omega)
    · skip
      have hc9 : ¬ i < ((tp (P r)).length) := fun z => hc ((nI_ltI (by omega) (by omega)).mpr z)
      exact absurd hc9 (by omega)

theorem vlF_lt {p : Nat} {ys : Nat → Nat} (hp : 0 < p) : ∀ {L : List (Nat × Nat)} {z : Nat}, z < p → vlF p ys L z < p := by
  intro L
  induction L with
  | nil => intro z h; exact h
  | cons q qs ih => intro z _; exact ih (Nat.mod_lt _ hp)

set_option maxHeartbeats 4000000 in
set_option maxRecDepth 100000 in
theorem c_H_value (l : Launch) (D : va_G) (Y : Nat → ClassId) (lo : Nat) {M : Hm} {xa p rf : Nat} {A cap si : Nat → Nat} {P : Nat → Pf} (hcs : cs Y M xa A p P cap si rf) {r : Nat} (z0 z1 z2 : Int32) (hr : r < 12) : ct l D Y lo y_H_value b_H_value 8 (some .int) 2 [.ref xa, .int (nI r), .int z0, .int z1, .int z2] M (fun r9 M' => r9 = some (.int (nI (vlF p (fun v => if v = 0 then rd p z0.toInt else if v = 1 then rd p z1.toInt else rd p z2.toInt) (tp (P r)) 0))) ∧ cs Y M' xa A p P cap si rf ∧ hp_off (fun i => i < 300) M M') nx 0 0 := by
  refine ct_of (by decide) (Nat.le_of_ble_eq_true rfl) ?_
  intro pg eg sg mg bw mt cg ls X hst hl
  have X1 := X
  obtain ⟨hx, hb, hml, hrt, hlocks, hown, hnm, hts, hkz, hex⟩ := X1
  have hG : ∀ w ∈ GW, w.before _ sg = true := fun w h => hts w (List.mem_cons_of_mem _ h)
  have hK := hkz.1
  have hl : lv_has ls 8 [(0, .ref xa), (1, .int (nI r)), (2, .int z0), (3, .int z1), (4, .int z2)] := hl
  have hcs0 := hcs
  obtain ⟨x0, ⟨gr, x1, hgr⟩, ⟨gn, x2, hgn⟩, ⟨hf, hpr⟩, hs, ⟨gw, ht⟩, ⟨hs1, hs2⟩, hP, ⟨LS, hS⟩, hN, hc1, hc2, hPp⟩ := hcs
  have hpp := hf.2.1
  have hpp3 := hf.2.2
  have hf0 := hf.1
  refine lv_iload_n hx hb dH_value_0 rfl (lv_at hl 1 rfl) ?_
  refine ct_callS (av2 := [.int (nI r)]) (rest := []) X hst (c_H_checkRegister l D Y lo hr) wc_H_checkRegister ml_H_48 ws_H_checkRegister wn_H md_H_checkRegister (by decide) hl.1 rfl (Nat.le_of_ble_eq_true rfl) ⟨by omega, by omega⟩ (fun _ _ h => h.elim) dH_value_1 (fun r M' H locs hp hst => ?_)
  obtain ⟨rfl, rfl⟩ := hp
  have hbr := hs1 r (by omega)
  have hy0 := rd_lt (p := p) (by omega) z0.toInt
  have hy1 := rd_lt (p := p) (by omega) z1.toInt
  have hy2 := rd_lt (p := p) (by omega) z2.toInt
  refine lv_aload_n hx hb dH_value_4 rfl (lv_at hl 0 rfl) ?_
  refine hp_get hx hb hG in_H hown hK hst x0 rfl 2 (by decide) (hG _ fl_H_39) rfl rfl dH_value_5 ?_
  refine lv_iconst (v := nI 0) hx hb dH_value_8 (by decide +kernel) ?_
  refine lv_aload_n hx hb dH_value_9 rfl (lv_at hl 0 rfl) ?_
  refine hp_get hx hb hG in_H hown hK hst x0 rfl 0 (by decide) (hG _ fl_H_23) rfl rfl dH_value_10 ?_
  refine lv_iload_n hx hb dH_value_13 rfl (lv_at hl 2 rfl) ?_
  refine ct_callV (av2 := [.int z0]) (rest := [.int (nI 0), .ref (A 2)]) (b := (A 0)) X hst (c_F_reduced l D Y lo z0 hf) hf0 rfl wc_F_reduced ml_H_51 wi_F_reduced wl_F_reduced wn_F md_F_reduced (by decide) hl.1 rfl (Nat.le_of_ble_eq_true rfl) ⟨by omega, by omega⟩ (fun _ _ h => h.elim) dH_value_14 (fun r M' H locs hp hst => ?_)
  obtain ⟨rfl, rfl⟩ := hp
  obtain ⟨fst0, cellt0⟩ := ht.cell
  refine ct_callV (av2 := [.int (nI 0), .int (nI (rd p z0.toInt))]) (rest := []) (b := (A 2)) X hst (c_T_fillRow l D Y lo ht hf (v := 0) (x := rd p z0.toInt) (by omega) hy0) cellt0 rfl wc_T_fillRow ml_H_139 wi_T_fillRow wl_T_fillRow wn_T md_T_fillRow (by decide) hl.1 rfl (Nat.le_of_ble_eq_true rfl) ⟨by omega, by omega⟩ (fun _ _ h => h.elim) dH_value_17 (fun r M' H locs hp hst => ?_)
  obtain ⟨rfl, ⟨g0, hga0, hgb0, ht0⟩, ho0⟩ := hp
  have oo0 := ho0
  have x0_1 := oo0.of x0 (by omega)
  have x1_1 := oo0.of x1 (by omega)
  have hf_1 := hf.off oo0 (by omega)
  have hf0_1 := hf_1.1
  refine lv_aload_n hx hb dH_value_20 rfl (lv_at hl 0 rfl) ?_
  refine hp_get hx hb hG in_H hown hK hst x0_1 rfl 2 (by decide) (hG _ fl_H_39) rfl rfl dH_value_21 ?_
  refine lv_iconst (v := nI 1) hx hb dH_value_24 (by decide +kernel) ?_
  refine lv_aload_n hx hb dH_value_25 rfl (lv_at hl 0 rfl) ?_
  refine hp_get hx hb hG in_H hown hK hst x0_1 rfl 0 (by decide) (hG _ fl_H_23) rfl rfl dH_value_26 ?_
  refine lv_iload_n hx hb dH_value_29 rfl (lv_at hl 3 rfl) ?_
  refine ct_callV (av2 := [.int z1]) (rest := [.int (nI 1), .ref (A 2)]) (b := (A 0)) X hst (c_F_reduced l D Y lo z1 hf_1) hf0_1 rfl wc_F_reduced ml_H_51 wi_F_reduced wl_F_reduced wn_F md_F_reduced (by decide) hl.1 rfl (Nat.le_of_ble_eq_true rfl) ⟨by omega, by omega⟩ (fun _ _ h => h.elim) dH_value_30 (fun r M' H locs hp hst => ?_)
  obtain ⟨rfl, rfl⟩ := hp
  obtain ⟨fst1, cellt1⟩ := ht0.cell
  refine ct_callV (av2 := [.int (nI 1), .int (nI (rd p z1.toInt))]) (rest := []) (b := (A 2)) X hst (c_T_fillRow l D Y lo ht0 hf_1 (v := 1) (x := rd p z1.toInt) (by omega) hy1) cellt1 rfl wc_T_fillRow ml_H_139 wi_T_fillRow wl_T_fillRow wn_T md_T_fillRow (by decide) hl.1 rfl (Nat.le_of_ble_eq_true rfl) ⟨by omega, by omega⟩ (fun _ _ h => h.elim) dH_value_33 (fun r M' H locs hp hst => ?_)
  obtain ⟨rfl, ⟨g1, hga1, hgb1, ht1⟩, ho1⟩ := hp
  have oo1 := oo0.tr ho1
  have x0_2 := oo1.of x0 (by omega)
  have x1_2 := oo1.of x1 (by omega)
  have hf_2 := hf.off oo1 (by omega)
  have hf0_2 := hf_2.1
  refine lv_aload_n hx hb dH_value_36 rfl (lv_at hl 0 rfl) ?_
  refine hp_get hx hb hG in_H hown hK hst x0_2 rfl 2 (by decide) (hG _ fl_H_39) rfl rfl dH_value_37 ?_
  refine lv_iconst (v := nI 2) hx hb dH_value_40 (by decide +kernel) ?_
  refine lv_aload_n hx hb dH_value_41 rfl (lv_at hl 0 rfl) ?_
  refine hp_get hx hb hG in_H hown hK hst x0_2 rfl 0 (by decide) (hG _ fl_H_23) rfl rfl dH_value_42 ?_
  refine lv_iload hx hb dH_value_45 (lv_at hl 4 rfl) ?_
  refine ct_callV (av2 := [.int z2]) (rest := [.int (nI 2), .ref (A 2)]) (b := (A 0)) X hst (c_F_reduced l D Y lo z2 hf_2) hf0_2 rfl wc_F_reduced ml_H_51 wi_F_reduced wl_F_reduced wn_F md_F_reduced (by decide) hl.1 rfl (Nat.le_of_ble_eq_true rfl) ⟨by omega, by omega⟩ (fun _ _ h => h.elim) dH_value_47 (fun r M' H locs hp hst => ?_)
  obtain ⟨rfl, rfl⟩ := hp
  obtain ⟨fst2, cellt2⟩ := ht1.cell
  refine ct_callV (av2 := [.int (nI 2), .int (nI (rd p z2.toInt))]) (rest := []) (b := (A 2)) X hst (c_T_fillRow l D Y lo ht1 hf_2 (v := 2) (x := rd p z2.toInt) (by omega) hy2) cellt2 rfl wc_T_fillRow ml_H_139 wi_T_fillRow wl_T_fillRow wn_T md_T_fillRow (by decide) hl.1 rfl (Nat.le_of_ble_eq_true rfl) ⟨by omega, by omega⟩ (fun _ _ h => h.elim) dH_value_50 (fun r M' H locs hp hst => ?_)
  obtain ⟨rfl, ⟨g2, hga2, hgb2, ht2⟩, ho2⟩ := hp
  have oo2 := oo1.tr ho2
  have hcsZ : cs Y M' xa A p P cap si rf := by
    exact ⟨oo2.of x0 (by omega), ⟨gr, oo2.of x1 (by omega), hgr⟩, ⟨gn, oo2.of x2 (by omega), hgn⟩, ⟨hf.off oo2 (by omega), hpr⟩, hs.off oo2 (by omega), ⟨g2, ht2⟩, ⟨hs1, hs2⟩, fun r hr => (hP r hr).off oo2 (by have := hs1 r (by omega); omega), ⟨LS, hS.off oo2 (by have := hs1 12 (by omega); omega)⟩, fun c hc => (hN c hc).imp fun L hL => hL.off oo2 (by omega), hc1, hc2, hPp⟩
  have x0z := oo2.of x0 (by omega)
  have x1z := oo2.of x1 (by omega)
  have hfz := hf.off oo2 (by omega)
  have hf0z := hfz.1
  have hPz := (hP r hr).off oo2 (by omega)
  have hPzc := hPz
  obtain ⟨a9, b9, fa9, fb9, h09, h19, h29, hL9, hn9, hc19, hc29⟩ := hPz
  obtain ⟨fstz, celltz⟩ := ht2.cell
  have hgg : ∀ v k, v < 3 → k < 37 → g2 v k = pw p ((fun v => if v = 0 then rd p z0.toInt else if v = 1 then rd p z1.toInt else rd p z2.toInt) v) k := by
    intro v k hv hk
    rcases (show v = 0 ∨ v = 1 ∨ v = 2 by omega) with rfl | rfl | rfl
    · rw [hgb2 0 (by omega), hgb1 0 (by omega)]; exact hga0 k hk
    · rw [hgb2 1 (by omega)]; exact hga1 k hk
    · exact hga2 k hk
  have hgp : ∀ v k, v < 3 → k < 37 → g2 v k < p := fun v k hv hk => by rw [hgg v k hv hk]; exact pw_lt hpp k
  refine lv_aload_n hx hb dH_value_53 rfl (lv_at hl 0 rfl) ?_
  refine hp_get hx hb hG in_H hown hK hst x0z rfl 3 (by decide) (hG _ fl_H_11) rfl rfl dH_value_54 ?_
  refine lv_iload_n hx hb dH_value_57 rfl (lv_at hl 1 rfl) ?_
  refine hp_aald hx hb hK rfl hst x1z (j := r) (v := (A (si r))) (by omega) (by omega) (hgr r hr) dH_value_58 ?_
  refine lv_astore (lv' := [(5, .ref (A (si r))), (0, .ref xa), (1, .int (nI r)), (2, .int z0), (3, .int z1), (4, .int z2)]) hx hb dH_value_59 hl (by decide) rfl (fun ls hl => ?_)
  refine lv_iconst (v := nI 0) hx hb dH_value_61 (by decide +kernel) ?_
  refine lv_istore (lv' := [(6, .int (nI 0)), (5, .ref (A (si r))), (0, .ref xa), (1, .int (nI r)), (2, .int z0), (3, .int z1), (4, .int z2)]) hx hb dH_value_62 hl (by decide) rfl (fun ls hl => ?_)
  refine lv_iconst (v := nI 0) hx hb dH_value_64 (by decide +kernel) ?_
  refine lv_istore (lv' := [(7, .int (nI 0)), (6, .int (nI 0)), (5, .ref (A (si r))), (0, .ref xa), (1, .int (nI r)), (2, .int z0), (3, .int z1), (4, .int z2)]) hx hb dH_value_65 hl (by decide) rfl (fun ls hl => ?_)
  have LP : ∀ (kk : Nat) (z i : Nat) (H : Heap) (locs : List Loc) (ls : Array Slot), kk = (tp (P r)).length - i → (z < p) → (i ≤ (tp (P r)).length) → (vlF p (fun v => if v = 0 then rd p z0.toInt else if v = 1 then rd p z1.toInt else rd p z2.toInt) ((tp (P r)).drop i) z = vlF p (fun v => if v = 0 then rd p z0.toInt else if v = 1 then rd p z1.toInt else rd p z2.toInt) (tp (P r)) 0) → hp_st D vC lo M' sg.heap H locs → lv_has ls 8 [(0, .ref xa), (5, .ref (A (si r))), (6, .int (nI z)), (7, .int (nI i))] → cW pg l eg sg mg [.ref xa, .int (nI r), .int z0, .int z1, .int z2] bw mt cg y_H_value b_H_value 8 (some .int) 2 D lo (fun r9 M' => r9 = some (.int (nI (vlF p (fun v => if v = 0 then rd p z0.toInt else if v = 1 then rd p z1.toInt else rd p z2.toInt) (tp (P r)) 0))) ∧ cs Y M' xa A p P cap si rf ∧ hp_off (fun i => i < 300) M M') nx 0 0 H locs 0 0 (F0 mg 67 ls []) := by
    intro kk
    induction kk using Nat.strongRecOn with
    | _ kk ihLP =>
    intro z i H locs ls hkk hz hi hinv hst hl
    refine lv_iload hx hb dH_value_67 (lv_at hl 3 rfl) ?_
    refine lv_aload hx hb dH_value_69 (lv_at hl 1 rfl) ?_
    refine hp_get hx hb hG in_P hown hK hst h09 rfl 2 (by decide) (hG _ fl_H_109) rfl rfl dH_value_71 ?_
    refine lv_icmp_ge hx hb dH_value_74 (tgt := 117) rfl (fun hc => ?_) (fun hc => ?_)
    · skip
      have hc : ((tp (P r)).length) ≤ i := (nI_leI (by omega) (by omega)).mp hc
      rw [List.drop_eq_nil_of_le (by omega)] at hinv
      have hinv : z = vlF p (fun v => if v = 0 then rd p z0.toInt else if v = 1 then rd p z1.toInt else rd p z2.toInt) (tp (P r)) 0 := hinv
      refine lv_iload hx hb dH_value_117 (lv_at hl 2 rfl) ?_
      exact ct_iret X hst ⟨by rw [hinv], hcsZ, oo2.wk (fun i hi => by omega)⟩ (by omega) (by omega) dH_value_119
    · skip
      have hc : ¬ ((tp (P r)).length) ≤ i := fun z => hc ((nI_leI (by omega) (by omega)).mpr z)
      obtain ⟨q, hq1, hq2, hq3⟩ := dr_cons (L := tp (P r)) (i := i) (by omega)
      obtain ⟨i1, i2⟩ := hL9 i q hq1
      obtain ⟨m1, m2, m3⟩ := tp_mem hq2
      have hqp : q.2 < p := by rw [m2]; exact hPp r hr _
      refine lv_aload_n hx hb dH_value_77 rfl (lv_at hl 0 rfl) ?_
      refine hp_get hx hb hG in_H hown hK hst x0z rfl 0 (by decide) (hG _ fl_H_23) rfl rfl dH_value_78 ?_
      refine lv_iload hx hb dH_value_81 (lv_at hl 2 rfl) ?_
      refine lv_aload hx hb dH_value_83 (lv_at hl 1 rfl) ?_
      refine hp_get hx hb hG in_P hown hK hst h09 rfl 1 (by decide) (hG _ fl_H_121) rfl rfl dH_value_85 ?_
      refine lv_iload hx hb dH_value_88 (lv_at hl 3 rfl) ?_
      refine hp_iald hx hb hK rfl hst h29 (j := i) (by omega) (by omega) dH_value_90 ?_
      refine tp_n (e2 := q.2) i2 ?_
      refine lv_aload_n hx hb dH_value_91 rfl (lv_at hl 0 rfl) ?_
      refine hp_get hx hb hG in_H hown hK hst x0z rfl 2 (by decide) (hG _ fl_H_39) rfl rfl dH_value_92 ?_
      refine lv_aload hx hb dH_value_95 (lv_at hl 1 rfl) ?_
      refine hp_get hx hb hG in_P hown hK hst h09 rfl 0 (by decide) (hG _ fl_H_113) rfl rfl dH_value_97 ?_
      refine lv_iload hx hb dH_value_100 (lv_at hl 3 rfl) ?_
      refine hp_iald hx hb hK rfl hst h19 (j := i) (by omega) (by omega) dH_value_102 ?_
      refine tp_n (e2 := q.1) i1 ?_
      refine ct_callV (av2 := [.int (nI q.1)]) (rest := [.int (nI q.2), .int (nI z), .ref (A 0)]) (b := (A 2)) X hst (c_T_at l D Y lo ht2 hfz hgp m1) celltz rfl wc_T_at ml_H_142 wi_T_at wl_T_at wn_T md_T_at (by decide) hl.1 rfl (Nat.le_of_ble_eq_true rfl) ⟨by omega, by omega⟩ (fun _ _ h => h.elim) dH_value_103 (fun r M' H locs hp hst => ?_)
      obtain ⟨rfl, rfl⟩ := hp
      have hat : atF p g2 q.1 3 = atF p (fun v k => pw p ((fun v => if v = 0 then rd p z0.toInt else if v = 1 then rd p z1.toInt else rd p z2.toInt) v) k) q.1 3 := atF_congr (fun v hv => hgg v _ hv (by
        have h1 := m1.1
        refine co3 (P := fun v => xe q.1 v < 37) ?_ ?_ ?_ hv <;> omega)) (by omega)
      refine ct_callV (av2 := [.int (nI z), .int (nI q.2), .int (nI (atF p g2 q.1 3))]) (rest := []) (b := (A 0)) X hst (c_F_sumWithProduct l D Y lo hfz hz hqp (atF_lt hpp)) hf0z rfl wc_F_sumWithProduct ml_H_145 wi_F_sumWithProduct wl_F_sumWithProduct wn_F md_F_sumWithProduct (by decide) hl.1 rfl (Nat.le_of_ble_eq_true rfl) ⟨by omega, by omega⟩ (fun _ _ h => h.elim) dH_value_106 (fun r M' H locs hp hst => ?_)
      obtain ⟨rfl, rfl⟩ := hp
      refine lv_istore (lv' := [(6, .int (nI ((z + q.2 * atF p g2 q.1 3) % p))), (0, .ref xa), (5, .ref (A (si r))), (7, .int (nI i))]) hx hb dH_value_109 hl (by decide) rfl (fun ls hl => ?_)
      refine lv_iinc (lv' := [(7, .int (nI (i + 1))), (6, .int (nI ((z + q.2 * atF p g2 q.1 3) % p))), (0, .ref xa), (5, .ref (A (si r)))]) hx hb dH_value_111 hl (k := 3) rfl (ii_p _) (by decide) rfl (fun ls hl => ?_)
      refine lv_goto hx hb dH_value_114 (tgt := 67) rfl ?_
      exact ihLP _ (by omega) ((z + q.2 * atF p g2 q.1 3) % p) (i + 1) _ _ _ rfl (Nat.mod_lt _ (by omega)) (by omega) (by rw [hq3] at hinv; rw [hat]; exact hinv) hst (lv_sub hl [2, 3, 1, 0] rfl)
  exact LP _ 0 0 _ _ _ rfl (by omega) (by omega) rfl hst (lv_sub hl [3, 2, 1, 0] rfl)

set_option maxHeartbeats 4000000 in
set_option maxRecDepth 100000 in
theorem x_H_value (l : Launch) (D : va_G) (Y : Nat → ClassId) (lo : Nat) (hlt : l.stackTraces = false) {M : Hm} {xa : Nat} {x1 x2 x3 x4 : Int32} (hno : ¬ inR x1) : ct l D Y lo y_H_value b_H_value 8 (some .int) 7 [.ref xa, .int x1, .int x2, .int x3, .int x4] M (fun _ _ => False) (fun E M' => E = EI ∧ M = M') 1 6 := by
  refine ct_of (by decide) (Nat.le_of_ble_eq_true rfl) ?_
  intro pg eg sg mg bw mt cg ls X hst hl
  have X1 := X
  obtain ⟨hx, hb, hml, hrt, hlocks, hown, hnm, hts, hkz, hex⟩ := X1
  have hG : ∀ w ∈ GW, w.before _ sg = true := fun w h => hts w (List.mem_cons_of_mem _ h)
  have hK := hkz.1
  have hl : lv_has ls 8 [(0, .ref xa), (1, .int x1), (2, .int x2), (3, .int x3), (4, .int x4)] := hl
  refine lv_iload_n hx hb dH_value_0 rfl (lv_at hl 1 rfl) ?_
  refine ct_callS (av2 := [.int x1]) (rest := []) X hst (x_H_checkRegister l D Y lo hlt hno) wc_H_checkRegister ml_H_48 ws_H_checkRegister wn_H md_H_checkRegister (by decide) hl.1 rfl (Nat.le_of_ble_eq_true rfl) ⟨by omega, by omega⟩ (fun E M1 h => h) dH_value_1 (fun r M' H locs hp hst => ?_)
  exact False.elim hp
