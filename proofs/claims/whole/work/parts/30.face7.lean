/-! The face: resultant. -/
theorem cs.mnr {Y : Nat → ClassId} {M M' : Hm} {xa p rf : Nat} {A cap si : Nat → Nat} {P : Nat → Pf} (h : cs Y M xa A p P cap si rf) {c : Nat} (hc : c < 256) (ho : hp_off (fun i => i = 2 ∨ i = 30 + c) M M') (hs : sh Y M' (A 1) (A 0) (fun _ => 0)) {L : List (Nat × Nat)} {cp : Nat} (hp : po Y M' (30 + c) (A (30 + c)) cp L) (hcp : cp ≤ 338) : cs Y M' xa A p P (va_up cap (30 + c) cp) si rf := by
  obtain ⟨x0, ⟨gr, x1, hgr⟩, ⟨gn, x2, hgn⟩, ⟨hf, hpr⟩, hs0, ⟨gw, ht⟩, ⟨hs1, hs2⟩, hP, ⟨LS, hS⟩, hN, hc1, hc2, hPp⟩ := h
  refine ⟨ho.of x0 (by omega), ⟨gr, ho.of x1 (by omega), hgr⟩, ⟨gn, ho.of x2 (by omega), hgn⟩, ⟨hf.off ho (by omega), hpr⟩, hs, ⟨gw, ht.off ho (by omega)⟩, ⟨hs1, hs2⟩, ?_, ⟨LS, ?_⟩, ?_, ?_, ?_, hPp⟩
  · intro i hi
    have h2 := hs1 i (by omega)
    rw [va_up_ne _ _ (by omega)]
    exact (hP i hi).off ho (by omega)
  · have h2 := hs1 12 (by omega)
    rw [va_up_ne _ _ (by omega)]
    exact hS.off ho (by omega)
  · intro d hd
    by_cases h9 : d = c
    · subst h9
      rw [va_up_self]
      exact ⟨L, hp⟩
    · obtain ⟨L2, hL2⟩ := hN d hd
      rw [va_up_ne _ _ (by omega)]
      exact ⟨L2, hL2.off ho (by omega)⟩
  · intro i hi
    have h2 := hs1 i hi
    rw [va_up_ne _ _ (by omega)]
    exact hc1 i hi
  · intro d hd
    by_cases h9 : d = c
    · subst h9
      rw [va_up_self]
      exact hcp
    · rw [va_up_ne _ _ (by omega)]
      exact hc2 d hd

set_option maxHeartbeats 4000000 in
set_option maxRecDepth 100000 in
theorem c_H_addExpansion (l : Launch) (D : va_G) (Y : Nat → ClassId) (lo : Nat) {M : Hm} {xa p rf : Nat} {A cap si : Nat → Nat} {P : Nat → Pf} (hcs : cs Y M xa A p P cap si rf) {c a lc v : Nat} {G : Nat → Pf} (hc256 : c < 256) (ha : a < 12) (hlc : lc < 1000) (hv : v < 3) (hcol : ∀ q ∈ tp (P a), xe q.1 v ≤ lc ∧ lc - xe q.1 v < 8) (hN9 : ∀ d, d < c → po Y M (30 + d) (A (30 + d)) (cap (30 + d)) (tp (G d))) (hGp : ∀ d, d < c → ∀ x, G d x < p) (hmv : ∀ q ∈ tp (P a), c / 2 ^ (lc - xe q.1 v) % 2 = 1 → ∀ q2 ∈ tp (G (c - 2 ^ (lc - xe q.1 v))), mv (q2.1 + wo q.1 v)) : ct l D Y lo y_H_addExpansion b_H_addExpansion 11 none 4 [.ref xa, .int (nI c), .ref (A (si a)), .int (nI lc), .int (nI v)] M (fun r9 M' => r9 = none ∧ sh Y M' (A 1) (A 0) (exL p v lc c G (tp (P a)) (fun _ => 0)) ∧ hp_off (fun j => j = 2) M M') nx 0 0 := by
  refine ct_of (by decide) (Nat.le_of_ble_eq_true rfl) ?_
  intro pg eg sg mg bw mt cg ls X hst hl
  have X1 := X
  obtain ⟨hx, hb, hml, hrt, hlocks, hown, hnm, hts, hkz, hex⟩ := X1
  have hG : ∀ w ∈ GW, w.before _ sg = true := fun w h => hts w (List.mem_cons_of_mem _ h)
  have hK := hkz.1
  have hl : lv_has ls 11 [(0, .ref xa), (1, .int (nI c)), (2, .ref (A (si a))), (3, .int (nI lc)), (4, .int (nI v))] := hl
  have hcs0 := hcs
  obtain ⟨x0, ⟨gr, x1, hgr⟩, ⟨gn, x2, hgn⟩, ⟨hf, hpr⟩, hs, ⟨gw, ht⟩, ⟨hs1, hs2⟩, hP, ⟨LS, hS⟩, hN, hc1, hc2, hPp⟩ := hcs
  have hpp := hf.2.1
  have hpp3 := hf.2.2
  have hf0 := hf.1
  have hs_a := hs1 a (by omega)
  refine lv_iconst (v := nI 0) hx hb dH_addExpansion_0 (by decide +kernel) ?_
  refine lv_istore (lv' := [(5, .int (nI 0)), (0, .ref xa), (1, .int (nI c)), (2, .ref (A (si a))), (3, .int (nI lc)), (4, .int (nI v))]) hx hb dH_addExpansion_1 hl (by decide) rfl (fun ls hl => ?_)
  have LP : ∀ (kk : Nat) (i : Nat) (s : Pf) (M1 : Hm) (H : Heap) (locs : List Loc) (ls : Array Slot), kk = (tp (P a)).length - i → (i ≤ (tp (P a)).length) → (sh Y M1 (A 1) (A 0) s) → (∀ m, s m < p) → (exL p v lc c G ((tp (P a)).drop i) s = exL p v lc c G (tp (P a)) (fun _ => 0)) → (hp_off (fun j => j = 2) M M1) → hp_st D vC lo M1 sg.heap H locs → lv_has ls 11 [(0, .ref xa), (1, .int (nI c)), (2, .ref (A (si a))), (3, .int (nI lc)), (4, .int (nI v)), (5, .int (nI i))] → cW pg l eg sg mg [.ref xa, .int (nI c), .ref (A (si a)), .int (nI lc), .int (nI v)] bw mt cg y_H_addExpansion b_H_addExpansion 11 none 4 D lo (fun r9 M' => r9 = none ∧ sh Y M' (A 1) (A 0) (exL p v lc c G (tp (P a)) (fun _ => 0)) ∧ hp_off (fun j => j = 2) M M') nx 0 0 H locs 0 0 (F0 mg 3 ls []) := by
    intro kk
    induction kk using Nat.strongRecOn with
    | _ kk ihLP =>
    intro i s M1 H locs ls hkk hi9 hsh hsp hinv ho hst hl
    have x0a := ho.of x0 (by omega)
    have x2a := ho.of x2 (by omega)
    have hfa := hf.off ho (by omega)
    have hf0a := hfa.1
    have hPa := (hP a ha).off ho (by omega)
    obtain ⟨a9, b9, fa9, fb9, h09, h19, h29, hL9, hn9, hc19, hc29⟩ := hPa
    obtain ⟨fst, cellt⟩ := hsh.cell
    refine lv_iload hx hb dH_addExpansion_3 (lv_at hl 5 rfl) ?_
    refine lv_aload_n hx hb dH_addExpansion_5 rfl (lv_at hl 2 rfl) ?_
    refine hp_get hx hb hG in_P hown hK hst h09 rfl 2 (by decide) (hG _ fl_H_109) rfl rfl dH_addExpansion_6 ?_
    refine lv_icmp_ge hx hb dH_addExpansion_9 (tgt := 117) rfl (fun hc => ?_) (fun hc => ?_)
    · skip
      have hc5 : ((tp (P a)).length) ≤ i := (nI_leI (by omega) (by omega)).mp hc
      rw [List.drop_eq_nil_of_le (by omega)] at hinv
      have hinv : s = exL p v lc c G (tp (P a)) (fun _ => 0) := hinv
      exact ct_vret X hst ⟨rfl, (by rw [← hinv]; exact hsh), ho⟩ (by omega) (by omega) dH_addExpansion_117
    · skip
      have hc5 : ¬ ((tp (P a)).length) ≤ i := fun z => hc ((nI_leI (by omega) (by omega)).mpr z)
      obtain ⟨q, hq1, hq2, hq3⟩ := dr_cons (L := tp (P a)) (i := i) (by omega)
      obtain ⟨i1, i2⟩ := hL9 i q hq1
      obtain ⟨m1, m2, m3⟩ := tp_mem hq2
      have m4 := mv_lt m1
      have hxl := xe_lt q.1 v
      have hqp : q.2 < p := by rw [m2]; exact hPp a ha _
      obtain ⟨k1, k2⟩ := hcol q hq2
      have hcd : c / 2 ^ (lc - xe q.1 v) ≤ c := Nat.div_le_self _ _
      rw [hq3] at hinv
      refine lv_aload_n hx hb dH_addExpansion_12 rfl (lv_at hl 2 rfl) ?_
      refine hp_get hx hb hG in_P hown hK hst h09 rfl 0 (by decide) (hG _ fl_H_113) rfl rfl dH_addExpansion_13 ?_
      refine lv_iload hx hb dH_addExpansion_16 (lv_at hl 5 rfl) ?_
      refine hp_iald hx hb hK rfl hst h19 (j := i) (by omega) (by omega) dH_addExpansion_18 ?_
      refine tp_n (e2 := q.1) i1 ?_
      refine lv_istore (lv' := [(6, .int (nI q.1)), (0, .ref xa), (1, .int (nI c)), (2, .ref (A (si a))), (3, .int (nI lc)), (4, .int (nI v)), (5, .int (nI i))]) hx hb dH_addExpansion_19 hl (by decide) rfl (fun ls hl => ?_)
      refine lv_iload_n hx hb dH_addExpansion_21 rfl (lv_at hl 4 rfl) ?_
      refine lv_iload hx hb dH_addExpansion_22 (lv_at hl 0 rfl) ?_
      refine lv_iload hx hb dH_addExpansion_24 (lv_at hl 5 rfl) ?_
      refine ct_callS (av2 := [.int (nI q.1), .int (nI v)]) (rest := [.int (nI lc)]) X hst (c_Q_exponent l D Y lo (k := q.1) (v := v) (by omega) hv) wc_Q_exponent ml_H_117 ws_Q_exponent wn_Q md_Q_exponent (by decide) hl.1 rfl (Nat.le_of_ble_eq_true rfl) ⟨by omega, by omega⟩ (fun _ _ h => h.elim) dH_addExpansion_26 (fun r M' H locs hp hst => ?_)
      obtain ⟨rfl, rfl⟩ := hp
      refine t_isub hx hb dH_addExpansion_29 (v := nI (lc - (xe q.1 v))) (pk_sub (by omega)) ?_
      refine lv_istore (lv' := [(7, .int (nI (lc - (xe q.1 v)))), (6, .int (nI q.1)), (0, .ref xa), (1, .int (nI c)), (2, .ref (A (si a))), (3, .int (nI lc)), (4, .int (nI v)), (5, .int (nI i))]) hx hb dH_addExpansion_30 hl (by decide) rfl (fun ls hl => ?_)
      refine lv_iload_n hx hb dH_addExpansion_32 rfl (lv_at hl 3 rfl) ?_
      refine lv_iload hx hb dH_addExpansion_33 (lv_at hl 0 rfl) ?_
      refine lv_ishr hx hb dH_addExpansion_35 ?_
      refine tp_i (e2 := nI (c / 2 ^ (lc - (xe q.1 v)))) (sh_r (by omega) (by omega)) ?_
      refine lv_iconst (v := nI 1) hx hb dH_addExpansion_36 (by decide +kernel) ?_
      refine lv_iand hx hb dH_addExpansion_37 ?_
      refine tp_i (e2 := nI ((c / 2 ^ (lc - (xe q.1 v))) &&& 1)) (bt_and _ _) ?_
      refine tp_n (e2 := c / 2 ^ (lc - xe q.1 v) % 2) (Nat.and_one_is_mod _) ?_
      refine lv_if_eq hx hb dH_addExpansion_38 (tgt := 111) rfl (fun hc => ?_) (fun hc => ?_)
      · skip
        rw [← nI_0] at hc
        have hc6 : (c / 2 ^ (lc - xe q.1 v) % 2) = 0 := (nI_eq (by omega) (by omega)).mp hc
        refine lv_iinc (lv' := [(5, .int (nI (i + 1))), (7, .int (nI (lc - (xe q.1 v)))), (6, .int (nI q.1)), (0, .ref xa), (1, .int (nI c)), (2, .ref (A (si a))), (3, .int (nI lc)), (4, .int (nI v))]) hx hb dH_addExpansion_111 hl (k := 7) rfl (ii_p _) (by decide) rfl (fun ls hl => ?_)
        refine lv_goto hx hb dH_addExpansion_114 (tgt := 3) rfl ?_
        exact ihLP _ (by omega) (i + 1) s M1 _ _ _ rfl (by omega) hsh hsp (by rw [exL_n (by omega)] at hinv; exact hinv) ho hst (lv_sub hl [3, 4, 5, 6, 7, 0] rfl)
      · skip
        rw [← nI_0] at hc
        have hc6 : ¬ (c / 2 ^ (lc - xe q.1 v) % 2) = 0 := fun z => hc ((nI_eq (by omega) (by omega)).mpr z)
        have hb1 : c / 2 ^ (lc - xe q.1 v) % 2 = 1 := by omega
        rw [exL_y hb1] at hinv
        obtain ⟨f1, f2, f3, f4⟩ := bt_facts c hc256 _ k2 hb1
        have hp9 := pcn_9 (c / 2 ^ (lc - xe q.1 v))
        have hpow : 1 ≤ 2 ^ (lc - xe q.1 v) := Nat.one_le_two_pow
        have hpow2 : 2 ^ (lc - xe q.1 v) ≤ 256 := Nat.pow_le_pow_right (by omega) (show (lc - xe q.1 v) ≤ 8 by omega)
        refine lv_iload_n hx hb dH_addExpansion_41 rfl (lv_at hl 3 rfl) ?_
        refine lv_iload hx hb dH_addExpansion_42 (lv_at hl 0 rfl) ?_
        refine lv_ishr hx hb dH_addExpansion_44 ?_
        refine tp_i (e2 := nI (c / 2 ^ (lc - (xe q.1 v)))) (sh_r (by omega) (by omega)) ?_
        refine ct_callS (av2 := [.int (nI (c / 2 ^ (lc - (xe q.1 v))))]) (rest := []) X hst (c_Ji_bitCount l D Y lo (n := c / 2 ^ (lc - xe q.1 v)) (by omega)) wc_Ji_bitCount ml_H_130 ws_Ji_bitCount wn_Ji md_Ji_bitCount (by decide) hl.1 rfl (Nat.le_of_ble_eq_true rfl) ⟨by omega, by omega⟩ (fun _ _ h => h.elim) dH_addExpansion_45 (fun r M' H locs hp hst => ?_)
        obtain ⟨rfl, rfl⟩ := hp
        refine lv_iconst (v := nI 1) hx hb dH_addExpansion_48 (by decide +kernel) ?_
        refine t_isub hx hb dH_addExpansion_49 (v := nI ((pcn (c / 2 ^ (lc - xe q.1 v))) - 1)) (pk_sub (by omega)) ?_
        refine lv_istore (lv' := [(8, .int (nI ((pcn (c / 2 ^ (lc - xe q.1 v))) - 1))), (7, .int (nI (lc - (xe q.1 v)))), (6, .int (nI q.1)), (0, .ref xa), (1, .int (nI c)), (2, .ref (A (si a))), (3, .int (nI lc)), (4, .int (nI v)), (5, .int (nI i))]) hx hb dH_addExpansion_50 hl (by decide) rfl (fun ls hl => ?_)
        refine lv_aload_n hx hb dH_addExpansion_52 rfl (lv_at hl 5 rfl) ?_
        refine hp_get hx hb hG in_P hown hK hst h09 rfl 1 (by decide) (hG _ fl_H_121) rfl rfl dH_addExpansion_53 ?_
        refine lv_iload hx hb dH_addExpansion_56 (lv_at hl 8 rfl) ?_
        refine hp_iald hx hb hK rfl hst h29 (j := i) (by omega) (by omega) dH_addExpansion_58 ?_
        refine tp_n (e2 := q.2) i2 ?_
        refine lv_istore (lv' := [(9, .int (nI q.2)), (8, .int (nI ((pcn (c / 2 ^ (lc - xe q.1 v))) - 1))), (7, .int (nI (lc - (xe q.1 v)))), (6, .int (nI q.1)), (0, .ref xa), (1, .int (nI c)), (2, .ref (A (si a))), (3, .int (nI lc)), (4, .int (nI v)), (5, .int (nI i))]) hx hb dH_addExpansion_59 hl (by decide) rfl (fun ls hl => ?_)
        refine lv_iload hx hb dH_addExpansion_61 (lv_at hl 1 rfl) ?_
        refine lv_iconst (v := nI 2) hx hb dH_addExpansion_63 (by decide +kernel) ?_
        have hmod := Nat.mod_lt ((pcn (c / 2 ^ (lc - xe q.1 v))) - 1) (show 0 < 2 from (by omega))
        refine t_irem hx hb dH_addExpansion_64 (nI_ne0 (by omega) (by omega)) (v := nI (((pcn (c / 2 ^ (lc - xe q.1 v))) - 1) % 2)) (pk_rem (by omega) (by omega) (by omega)) ?_
        refine lv_if_ne hx hb dH_addExpansion_65 (tgt := 73) rfl (fun hc => ?_) (fun hc => ?_)
        · skip
          rw [← nI_0] at hc
          have hc7 : ¬ (((pcn (c / 2 ^ (lc - xe q.1 v))) - 1) % 2) = 0 := fun z => hc ((nI_eq (by omega) (by omega)).mpr z)
          refine lv_aload_n hx hb dH_addExpansion_73 rfl (lv_at hl 4 rfl) ?_
          refine hp_get hx hb hG in_H hown hK hst x0a rfl 0 (by decide) (hG _ fl_H_23) rfl rfl dH_addExpansion_74 ?_
          refine lv_iload hx hb dH_addExpansion_77 (lv_at hl 0 rfl) ?_
          refine ct_callV (av2 := [.int (nI q.2)]) (rest := []) (b := (A 0)) X hst (c_F_negative l D Y lo hfa hqp) hf0a rfl wc_F_negative ml_H_182 wi_F_negative wl_F_negative wn_F md_F_negative (by decide) hl.1 rfl (Nat.le_of_ble_eq_true rfl) ⟨by omega, by omega⟩ (fun _ _ h => h.elim) dH_addExpansion_79 (fun r M' H locs hp hst => ?_)
          obtain ⟨rfl, rfl⟩ := hp
          refine tp_n (e2 := sgn p (c / 2 ^ (lc - xe q.1 v)) q.2) (by unfold sgn; rw [if_neg hc7]) ?_
          refine lv_istore (lv' := [(10, .int (nI (sgn p (c / 2 ^ (lc - xe q.1 v)) q.2))), (9, .int (nI q.2)), (8, .int (nI ((pcn (c / 2 ^ (lc - xe q.1 v))) - 1))), (7, .int (nI (lc - (xe q.1 v)))), (6, .int (nI q.1)), (0, .ref xa), (1, .int (nI c)), (2, .ref (A (si a))), (3, .int (nI lc)), (4, .int (nI v)), (5, .int (nI i))]) hx hb dH_addExpansion_82 hl (by decide) rfl (fun ls hl => ?_)
          refine lv_aload_n hx hb dH_addExpansion_84 rfl (lv_at hl 5 rfl) ?_
          refine hp_get hx hb hG in_H hown hK hst x0a rfl 1 (by decide) (hG _ fl_H_32) rfl rfl dH_addExpansion_85 ?_
          refine lv_aload_n hx hb dH_addExpansion_88 rfl (lv_at hl 5 rfl) ?_
          refine hp_get hx hb hG in_H hown hK hst x0a rfl 4 (by decide) (hG _ fl_H_15) rfl rfl dH_addExpansion_89 ?_
          refine lv_iload_n hx hb dH_addExpansion_92 rfl (lv_at hl 6 rfl) ?_
          refine lv_iconst (v := nI 1) hx hb dH_addExpansion_93 (by decide +kernel) ?_
          refine lv_iload hx hb dH_addExpansion_94 (lv_at hl 3 rfl) ?_
          refine lv_ishl hx hb dH_addExpansion_96 ?_
          refine tp_i (e2 := nI (1 * 2 ^ (lc - (xe q.1 v)))) (sh_l (by omega) (by omega)) ?_
          refine lv_ixor hx hb dH_addExpansion_97 ?_
          refine tp_i (e2 := nI (c ^^^ (1 * 2 ^ (lc - (xe q.1 v))))) (bt_xor _ _) ?_
          refine tp_n (e2 := c - 2 ^ (lc - xe q.1 v)) f1 ?_
          have hc9 : c - 2 ^ (lc - xe q.1 v) < c := by omega
          refine hp_aald hx hb hK rfl hst x2a (j := (c - 2 ^ (lc - xe q.1 v))) (v := (A (30 + (c - 2 ^ (lc - xe q.1 v))))) (by omega) (by omega) (hgn _ (by omega)) dH_addExpansion_98 ?_
          refine lv_iload hx hb dH_addExpansion_99 (lv_at hl 0 rfl) ?_
          refine lv_iload hx hb dH_addExpansion_101 (lv_at hl 4 rfl) ?_
          refine lv_iload hx hb dH_addExpansion_103 (lv_at hl 9 rfl) ?_
          refine ct_callS (av2 := [.int (nI q.1), .int (nI v)]) (rest := [.int (nI (sgn p (c / 2 ^ (lc - xe q.1 v)) q.2)), .ref (A (30 + (c - 2 ^ (lc - xe q.1 v)))), .ref (A 1)]) X hst (c_Q_without l D Y lo (k := q.1) (v := v) m1 hv) wc_Q_without ml_H_185 ws_Q_without wn_Q md_Q_without (by decide) hl.1 rfl (Nat.le_of_ble_eq_true rfl) ⟨by omega, by omega⟩ (fun _ _ h => h.elim) dH_addExpansion_105 (fun r M' H locs hp hst => ?_)
          obtain ⟨rfl, rfl⟩ := hp
          refine ct_callV (av2 := [.ref (A (30 + (c - 2 ^ (lc - xe q.1 v)))), .int (nI (sgn p (c / 2 ^ (lc - xe q.1 v)) q.2)), .int (nI (wo q.1 v))]) (rest := []) (b := (A 1)) X hst (c_S_addMultiple l D Y lo hsh hfa hsp ((hN9 _ hc9).off ho (by omega)) (by omega) (f := sgn p (c / 2 ^ (lc - xe q.1 v)) q.2) (t := wo q.1 v) (sgn_lt hqp) (fun q2 hq2b => ⟨hmv q hq2 hb1 q2 hq2b, by rw [(tp_mem hq2b).2.1]; exact hGp _ hc9 _⟩)) cellt rfl wc_S_addMultiple ml_H_77 wi_S_addMultiple wl_S_addMultiple wn_S md_S_addMultiple (by decide) hl.1 rfl (Nat.le_of_ble_eq_true rfl) ⟨by omega, by omega⟩ (fun _ _ h => h.elim) dH_addExpansion_108 (fun r M' H locs hp hst => ?_)
          obtain ⟨rfl, hs3, ho3⟩ := hp
          refine lv_iinc (lv' := [(5, .int (nI (i + 1))), (10, .int (nI (sgn p (c / 2 ^ (lc - xe q.1 v)) q.2))), (9, .int (nI q.2)), (8, .int (nI ((pcn (c / 2 ^ (lc - xe q.1 v))) - 1))), (7, .int (nI (lc - (xe q.1 v)))), (6, .int (nI q.1)), (0, .ref xa), (1, .int (nI c)), (2, .ref (A (si a))), (3, .int (nI lc)), (4, .int (nI v))]) hx hb dH_addExpansion_111 hl (k := 10) rfl (ii_p _) (by decide) rfl (fun ls hl => ?_)
          refine lv_goto hx hb dH_addExpansion_114 (tgt := 3) rfl ?_
          exact ihLP _ (by omega) (i + 1) (addL p (sgn p (c / 2 ^ (lc - xe q.1 v)) q.2) (wo q.1 v) (tp (G (c - 2 ^ (lc - xe q.1 v)))) s) M' _ _ _ rfl (by omega) hs3 (addL_lt (by omega) hsp) hinv (ho.tr ho3) hst (lv_sub hl [6, 7, 8, 9, 10, 0] rfl)
        · skip
          rw [← nI_0] at hc
          have hc7 : (((pcn (c / 2 ^ (lc - xe q.1 v))) - 1) % 2) = 0 := (nI_eq (by omega) (by omega)).mp hc
          refine lv_iload hx hb dH_addExpansion_68 (lv_at hl 0 rfl) ?_
          refine lv_goto hx hb dH_addExpansion_70 (tgt := 82) rfl ?_
          refine tp_n (e2 := sgn p (c / 2 ^ (lc - xe q.1 v)) q.2) (by unfold sgn; rw [if_pos hc7]) ?_
          refine lv_istore (lv' := [(10, .int (nI (sgn p (c / 2 ^ (lc - xe q.1 v)) q.2))), (9, .int (nI q.2)), (8, .int (nI ((pcn (c / 2 ^ (lc - xe q.1 v))) - 1))), (7, .int (nI (lc - (xe q.1 v)))), (6, .int (nI q.1)), (0, .ref xa), (1, .int (nI c)), (2, .ref (A (si a))), (3, .int (nI lc)), (4, .int (nI v)), (5, .int (nI i))]) hx hb dH_addExpansion_82 hl (by decide) rfl (fun ls hl => ?_)
          refine lv_aload_n hx hb dH_addExpansion_84 rfl (lv_at hl 5 rfl) ?_
          refine hp_get hx hb hG in_H hown hK hst x0a rfl 1 (by decide) (hG _ fl_H_32) rfl rfl dH_addExpansion_85 ?_
          refine lv_aload_n hx hb dH_addExpansion_88 rfl (lv_at hl 5 rfl) ?_
          refine hp_get hx hb hG in_H hown hK hst x0a rfl 4 (by decide) (hG _ fl_H_15) rfl rfl dH_addExpansion_89 ?_
          refine lv_iload_n hx hb dH_addExpansion_92 rfl (lv_at hl 6 rfl) ?_
          refine lv_iconst (v := nI 1) hx hb dH_addExpansion_93 (by decide +kernel) ?_
          refine lv_iload hx hb dH_addExpansion_94 (lv_at hl 3 rfl) ?_
          refine lv_ishl hx hb dH_addExpansion_96 ?_
          refine tp_i (e2 := nI (1 * 2 ^ (lc - (xe q.1 v)))) (sh_l (by omega) (by omega)) ?_
          refine lv_ixor hx hb dH_addExpansion_97 ?_
          refine tp_i (e2 := nI (c ^^^ (1 * 2 ^ (lc - (xe q.1 v))))) (bt_xor _ _) ?_
          refine tp_n (e2 := c - 2 ^ (lc - xe q.1 v)) f1 ?_
          have hc9 : c - 2 ^ (lc - xe q.1 v) < c := by omega
          refine hp_aald hx hb hK rfl hst x2a (j := (c - 2 ^ (lc - xe q.1 v))) (v := (A (30 + (c - 2 ^ (lc - xe q.1 v))))) (by omega) (by omega) (hgn _ (by omega)) dH_addExpansion_98 ?_
          refine lv_iload hx hb dH_addExpansion_99 (lv_at hl 0 rfl) ?_
          refine lv_iload hx hb dH_addExpansion_101 (lv_at hl 4 rfl) ?_
          refine lv_iload hx hb dH_addExpansion_103 (lv_at hl 9 rfl) ?_
          refine ct_callS (av2 := [.int (nI q.1), .int (nI v)]) (rest := [.int (nI (sgn p (c / 2 ^ (lc - xe q.1 v)) q.2)), .ref (A (30 + (c - 2 ^ (lc - xe q.1 v)))), .ref (A 1)]) X hst (c_Q_without l D Y lo (k := q.1) (v := v) m1 hv) wc_Q_without ml_H_185 ws_Q_without wn_Q md_Q_without (by decide) hl.1 rfl (Nat.le_of_ble_eq_true rfl) ⟨by omega, by omega⟩ (fun _ _ h => h.elim) dH_addExpansion_105 (fun r M' H locs hp hst => ?_)
          obtain ⟨rfl, rfl⟩ := hp
          refine ct_callV (av2 := [.ref (A (30 + (c - 2 ^ (lc - xe q.1 v)))), .int (nI (sgn p (c / 2 ^ (lc - xe q.1 v)) q.2)), .int (nI (wo q.1 v))]) (rest := []) (b := (A 1)) X hst (c_S_addMultiple l D Y lo hsh hfa hsp ((hN9 _ hc9).off ho (by omega)) (by omega) (f := sgn p (c / 2 ^ (lc - xe q.1 v)) q.2) (t := wo q.1 v) (sgn_lt hqp) (fun q2 hq2b => ⟨hmv q hq2 hb1 q2 hq2b, by rw [(tp_mem hq2b).2.1]; exact hGp _ hc9 _⟩)) cellt rfl wc_S_addMultiple ml_H_77 wi_S_addMultiple wl_S_addMultiple wn_S md_S_addMultiple (by decide) hl.1 rfl (Nat.le_of_ble_eq_true rfl) ⟨by omega, by omega⟩ (fun _ _ h => h.elim) dH_addExpansion_108 (fun r M' H locs hp hst => ?_)
          obtain ⟨rfl, hs3, ho3⟩ := hp
          refine lv_iinc (lv' := [(5, .int (nI (i + 1))), (10, .int (nI (sgn p (c / 2 ^ (lc - xe q.1 v)) q.2))), (9, .int (nI q.2)), (8, .int (nI ((pcn (c / 2 ^ (lc - xe q.1 v))) - 1))), (7, .int (nI (lc - (xe q.1 v)))), (6, .int (nI q.1)), (0, .ref xa), (1, .int (nI c)), (2, .ref (A (si a))), (3, .int (nI lc)), (4, .int (nI v))]) hx hb dH_addExpansion_111 hl (k := 10) rfl (ii_p _) (by decide) rfl (fun ls hl => ?_)
          refine lv_goto hx hb dH_addExpansion_114 (tgt := 3) rfl ?_
          exact ihLP _ (by omega) (i + 1) (addL p (sgn p (c / 2 ^ (lc - xe q.1 v)) q.2) (wo q.1 v) (tp (G (c - 2 ^ (lc - xe q.1 v)))) s) M' _ _ _ rfl (by omega) hs3 (addL_lt (by omega) hsp) hinv (ho.tr ho3) hst (lv_sub hl [6, 7, 8, 9, 10, 0] rfl)
  exact LP _ 0 (fun _ => 0) M _ _ _ rfl (by omega) hs (fun _ => by omega) rfl hp_off.rf hst (lv_sub hl [1, 2, 3, 4, 5, 0] rfl)

set_option maxHeartbeats 4000000 in
set_option maxRecDepth 100000 in
theorem c_H_resultant (l : Launch) (D : va_G) (Y : Nat → ClassId) (lo : Nat) {M : Hm} {xa p rf : Nat} {A cap si : Nat → Nat} {P : Nat → Pf} (hcs : cs Y M xa A p P cap si rf) {r a b v m n : Nat} (hr : r < 12) (ha : a < 12) (hb9 : b < 12) (hv : v < 3) (hm : m = dgf (P a) v) (hn : n = dgf (P b) v) (hza : tp (P a) ≠ []) (hzb : tp (P b) ≠ []) (hmn : m + n ≤ 8) (hdg : ∀ u, u < 3 → u ≠ v → n * dgf (P a) u + m * dgf (P b) u ≤ 12) : ct l D Y lo y_H_resultant b_H_resultant 12 (some .boolean) 5 [.ref xa, .int (nI r), .int (nI a), .int (nI b), .int (nI v)] M (fun r9 M' => r9 = some (.int (nI 1)) ∧ cs Y M' xa A p (va_up P r (addL p 1 0 (tp (mnT p v m n (P a) (P b) (2 ^ (m + n) - 1) (2 ^ (m + n) - 1))) (fun _ => 0))) (va_up (cpM (fun c => mnT p v m n (P a) (P b) c c) cap (2 ^ (m + n) - 1)) (si r) (gcn (cap (si r)) 0 (td (addL p 1 0 (tp (mnT p v m n (P a) (P b) (2 ^ (m + n) - 1) (2 ^ (m + n) - 1))) (fun _ => 0)) 9139).length)) si rf ∧ hp_off (fun i => i < 300) M M') nx (sm (va_up (cpM (fun c => mnT p v m n (P a) (P b) c c) cap (2 ^ (m + n) - 1)) (si r) (gcn (cap (si r)) 0 (td (addL p 1 0 (tp (mnT p v m n (P a) (P b) (2 ^ (m + n) - 1) (2 ^ (m + n) - 1))) (fun _ => 0)) 9139).length)) 300 - sm cap 300) (4 * (sm (va_up (cpM (fun c => mnT p v m n (P a) (P b) c c) cap (2 ^ (m + n) - 1)) (si r) (gcn (cap (si r)) 0 (td (addL p 1 0 (tp (mnT p v m n (P a) (P b) (2 ^ (m + n) - 1) (2 ^ (m + n) - 1))) (fun _ => 0)) 9139).length)) 300 - sm cap 300)) := by
  refine ct_of (by decide) (Nat.le_of_ble_eq_true rfl) ?_
  intro pg eg sg mg bw mt cg ls X hst hl
  have X1 := X
  obtain ⟨hx, hb, hml, hrt, hlocks, hown, hnm, hts, hkz, hex⟩ := X1
  have hG : ∀ w ∈ GW, w.before _ sg = true := fun w h => hts w (List.mem_cons_of_mem _ h)
  have hK := hkz.1
  have hl : lv_has ls 12 [(0, .ref xa), (1, .int (nI r)), (2, .int (nI a)), (3, .int (nI b)), (4, .int (nI v))] := hl
  have hp2l := p2_le hmn
  have hcs0 := hcs
  obtain ⟨x0, ⟨gr, x1, hgr⟩, ⟨gn, x2, hgn⟩, ⟨hf, hpr⟩, hs, ⟨gw, ht⟩, ⟨hs1, hs2⟩, hP, ⟨LS, hS⟩, hN, hc1, hc2, hPp⟩ := hcs
  have hpp := hf.2.1
  have hpp3 := hf.2.2
  have hf0 := hf.1
  refine lv_iload_n hx hb dH_resultant_0 rfl (lv_at hl 1 rfl) ?_
  refine lv_iload_n hx hb dH_resultant_1 rfl (lv_at hl 2 rfl) ?_
  refine lv_iload_n hx hb dH_resultant_2 rfl (lv_at hl 3 rfl) ?_
  refine ct_callS (av2 := [.int (nI r), .int (nI a), .int (nI b)]) (rest := []) X hst (c_H_checkRegisters l D Y lo hr ha hb9) wc_H_checkRegisters ml_H_73 ws_H_checkRegisters wn_H md_H_checkRegisters (by decide) hl.1 rfl (Nat.le_of_ble_eq_true rfl) ⟨by omega, by omega⟩ (fun _ _ h => h.elim) dH_resultant_3 (fun r M' H locs hp hst => ?_)
  obtain ⟨rfl, rfl⟩ := hp
  refine lv_iload hx hb dH_resultant_6 (lv_at hl 4 rfl) ?_
  refine ct_callS (av2 := [.int (nI v)]) (rest := []) X hst (c_H_checkVariable l D Y lo hv) wc_H_checkVariable ml_H_58 ws_H_checkVariable wn_H md_H_checkVariable (by decide) hl.1 rfl (Nat.le_of_ble_eq_true rfl) ⟨by omega, by omega⟩ (fun _ _ h => h.elim) dH_resultant_8 (fun r M' H locs hp hst => ?_)
  obtain ⟨rfl, rfl⟩ := hp
  have hs_r := hs1 r (by omega)
  have hs_a := hs1 a (by omega)
  have hs_b := hs1 b (by omega)
  have hs_12 := hs1 12 (by omega)
  obtain ⟨fs_a, cell_a⟩ := (hP a ha).cell
  obtain ⟨fs_b, cell_b⟩ := (hP b hb9).cell
  refine lv_aload_n hx hb dH_resultant_11 rfl (lv_at hl 0 rfl) ?_
  refine hp_get hx hb hG in_H hown hK hst x0 rfl 3 (by decide) (hG _ fl_H_11) rfl rfl dH_resultant_12 ?_
  refine lv_iload_n hx hb dH_resultant_15 rfl (lv_at hl 2 rfl) ?_
  refine hp_aald hx hb hK rfl hst x1 (j := a) (v := (A (si a))) (by omega) (by omega) (hgr a ha) dH_resultant_16 ?_
  refine lv_astore (lv' := [(5, .ref (A (si a))), (0, .ref xa), (1, .int (nI r)), (2, .int (nI a)), (3, .int (nI b)), (4, .int (nI v))]) hx hb dH_resultant_17 hl (by decide) rfl (fun ls hl => ?_)
  refine lv_aload_n hx hb dH_resultant_19 rfl (lv_at hl 1 rfl) ?_
  refine hp_get hx hb hG in_H hown hK hst x0 rfl 3 (by decide) (hG _ fl_H_11) rfl rfl dH_resultant_20 ?_
  refine lv_iload_n hx hb dH_resultant_23 rfl (lv_at hl 4 rfl) ?_
  refine hp_aald hx hb hK rfl hst x1 (j := b) (v := (A (si b))) (by omega) (by omega) (hgr b hb9) dH_resultant_24 ?_
  have dm := dgl_lt (v := v) (g := 0) (L := tp (P a)) (by omega)
  have dn9 := dgl_lt (v := v) (g := 0) (L := tp (P b)) (by omega)
  refine lv_astore (lv' := [(6, .ref (A (si b))), (5, .ref (A (si a))), (0, .ref xa), (1, .int (nI r)), (2, .int (nI a)), (3, .int (nI b)), (4, .int (nI v))]) hx hb dH_resultant_25 hl (by decide) rfl (fun ls hl => ?_)
  refine lv_aload hx hb dH_resultant_27 (lv_at hl 1 rfl) ?_
  refine lv_iload hx hb dH_resultant_29 (lv_at hl 6 rfl) ?_
  refine ct_callV (av2 := [.int (nI v)]) (rest := []) (b := (A (si a))) X hst (c_P_degreeIn l D Y lo (hP a ha) hv (fun q hq => (tp_b hpp3 (hPp a ha) q hq).1)) cell_a rfl wc_P_degreeIn ml_H_85 wi_P_degreeIn wl_P_degreeIn wn_P md_P_degreeIn (by decide) hl.1 rfl (Nat.le_of_ble_eq_true rfl) ⟨by omega, by omega⟩ (fun _ _ h => h.elim) dH_resultant_31 (fun r M' H locs hp hst => ?_)
  obtain ⟨rfl, rfl⟩ := hp
  refine tp_n (e2 := m) hm.symm ?_
  refine lv_istore (lv' := [(7, .int (nI m)), (6, .ref (A (si b))), (5, .ref (A (si a))), (0, .ref xa), (1, .int (nI r)), (2, .int (nI a)), (3, .int (nI b)), (4, .int (nI v))]) hx hb dH_resultant_34 hl (by decide) rfl (fun ls hl => ?_)
  refine lv_aload hx hb dH_resultant_36 (lv_at hl 1 rfl) ?_
  refine lv_iload hx hb dH_resultant_38 (lv_at hl 7 rfl) ?_
  refine ct_callV (av2 := [.int (nI v)]) (rest := []) (b := (A (si b))) X hst (c_P_degreeIn l D Y lo (hP b hb9) hv (fun q hq => (tp_b hpp3 (hPp b hb9) q hq).1)) cell_b rfl wc_P_degreeIn ml_H_85 wi_P_degreeIn wl_P_degreeIn wn_P md_P_degreeIn (by decide) hl.1 rfl (Nat.le_of_ble_eq_true rfl) ⟨by omega, by omega⟩ (fun _ _ h => h.elim) dH_resultant_40 (fun r M' H locs hp hst => ?_)
  obtain ⟨rfl, rfl⟩ := hp
  refine tp_n (e2 := n) hn.symm ?_
  have dm : m < 64 := by rw [hm]; exact dm
  have dn9 : n < 64 := by rw [hn]; exact dn9
  refine lv_istore (lv' := [(8, .int (nI n)), (7, .int (nI m)), (6, .ref (A (si b))), (5, .ref (A (si a))), (0, .ref xa), (1, .int (nI r)), (2, .int (nI a)), (3, .int (nI b)), (4, .int (nI v))]) hx hb dH_resultant_43 hl (by decide) rfl (fun ls hl => ?_)
  refine lv_aload hx hb dH_resultant_45 (lv_at hl 3 rfl) ?_
  refine ct_callV (av2 := []) (rest := []) (b := (A (si a))) X hst (c_P_isZero l D Y lo (hP a ha)) cell_a rfl wc_P_isZero ml_H_102 wi_P_isZero wl_P_isZero wn_P md_P_isZero (by decide) hl.1 rfl (Nat.le_of_ble_eq_true rfl) ⟨by omega, by omega⟩ (fun _ _ h => h.elim) dH_resultant_47 (fun r M' H locs hp hst => ?_)
  obtain ⟨bz, rfl, hz1, hz2, rfl⟩ := hp
  refine lv_if_ne hx hb dH_resultant_50 (tgt := 71) rfl (fun hc => ?_) (fun hc => ?_)
  · skip
    rw [← nI_0] at hc
    have hcz : ¬ bz = 0 := fun z => hc ((nI_eq (by omega) (by omega)).mpr z)
    exact absurd (Or.inl (hz2.mp (by omega)) : tp (P a) = [] ∨ tp (P b) = [] ∨ ¬ m + n ≤ 8) (fun z => z.elim hza (fun z => z.elim hzb (fun z => z hmn)))
  · skip
    rw [← nI_0] at hc
    have hcz : bz = 0 := (nI_eq (by omega) (by omega)).mp hc
    have hna : tp (P a) ≠ [] := fun z => by have := hz2.mpr z; omega
    refine lv_aload hx hb dH_resultant_53 (lv_at hl 2 rfl) ?_
    refine ct_callV (av2 := []) (rest := []) (b := (A (si b))) X hst (c_P_isZero l D Y lo (hP b hb9)) cell_b rfl wc_P_isZero ml_H_102 wi_P_isZero wl_P_isZero wn_P md_P_isZero (by decide) hl.1 rfl (Nat.le_of_ble_eq_true rfl) ⟨by omega, by omega⟩ (fun _ _ h => h.elim) dH_resultant_55 (fun r M' H locs hp hst => ?_)
    obtain ⟨by9, rfl, hy1, hy2, rfl⟩ := hp
    refine lv_if_ne hx hb dH_resultant_58 (tgt := 71) rfl (fun hc => ?_) (fun hc => ?_)
    · skip
      rw [← nI_0] at hc
      have hcy : ¬ by9 = 0 := fun z => hc ((nI_eq (by omega) (by omega)).mpr z)
      exact absurd (Or.inr (Or.inl (hy2.mp (by omega))) : tp (P a) = [] ∨ tp (P b) = [] ∨ ¬ m + n ≤ 8) (fun z => z.elim hza (fun z => z.elim hzb (fun z => z hmn)))
    · skip
      rw [← nI_0] at hc
      have hcy : by9 = 0 := (nI_eq (by omega) (by omega)).mp hc
      have hnb : tp (P b) ≠ [] := fun z => by have := hy2.mpr z; omega
      refine lv_iload hx hb dH_resultant_61 (lv_at hl 1 rfl) ?_
      refine lv_iload hx hb dH_resultant_63 (lv_at hl 0 rfl) ?_
      refine t_iadd hx hb dH_resultant_65 (v := nI (m + n)) (nI_add _ _) ?_
      refine lv_bipush (v := nI 8) hx hb dH_resultant_66 (by decide +kernel) ?_
      refine lv_icmp_le hx hb dH_resultant_68 (tgt := 79) rfl (fun hc => ?_) (fun hc => ?_)
      · skip
        have hcm : (m + n) ≤ 8 := (nI_leI (by omega) (by omega)).mp hc
        refine lv_iconst (v := nI 0) hx hb dH_resultant_79 (by decide +kernel) ?_
        refine lv_istore (lv' := [(9, .int (nI 0)), (8, .int (nI n)), (7, .int (nI m)), (6, .ref (A (si b))), (5, .ref (A (si a))), (0, .ref xa), (1, .int (nI r)), (2, .int (nI a)), (3, .int (nI b)), (4, .int (nI v))]) hx hb dH_resultant_80 hl (by decide) rfl (fun ls hl => ?_)
        have LP : ∀ (kk : Nat) (u : Nat) (H : Heap) (locs : List Loc) (ls : Array Slot), kk = 4 - u → (u ≤ 3) → (∀ y, y < u → y ≠ v → n * dgf (P a) y + m * dgf (P b) y ≤ 12) → hp_st D vC lo M sg.heap H locs → lv_has ls 12 [(0, .ref xa), (1, .int (nI r)), (2, .int (nI a)), (3, .int (nI b)), (4, .int (nI v)), (5, .ref (A (si a))), (6, .ref (A (si b))), (7, .int (nI m)), (8, .int (nI n)), (9, .int (nI u))] → cW pg l eg sg mg [.ref xa, .int (nI r), .int (nI a), .int (nI b), .int (nI v)] bw mt cg y_H_resultant b_H_resultant 12 (some .boolean) 5 D lo (fun r9 M' => r9 = some (.int (nI 1)) ∧ cs Y M' xa A p (va_up P r (addL p 1 0 (tp (mnT p v m n (P a) (P b) (2 ^ (m + n) - 1) (2 ^ (m + n) - 1))) (fun _ => 0))) (va_up (cpM (fun c => mnT p v m n (P a) (P b) c c) cap (2 ^ (m + n) - 1)) (si r) (gcn (cap (si r)) 0 (td (addL p 1 0 (tp (mnT p v m n (P a) (P b) (2 ^ (m + n) - 1) (2 ^ (m + n) - 1))) (fun _ => 0)) 9139).length)) si rf ∧ hp_off (fun i => i < 300) M M') nx (sm (va_up (cpM (fun c => mnT p v m n (P a) (P b) c c) cap (2 ^ (m + n) - 1)) (si r) (gcn (cap (si r)) 0 (td (addL p 1 0 (tp (mnT p v m n (P a) (P b) (2 ^ (m + n) - 1) (2 ^ (m + n) - 1))) (fun _ => 0)) 9139).length)) 300 - sm cap 300) (4 * (sm (va_up (cpM (fun c => mnT p v m n (P a) (P b) c c) cap (2 ^ (m + n) - 1)) (si r) (gcn (cap (si r)) 0 (td (addL p 1 0 (tp (mnT p v m n (P a) (P b) (2 ^ (m + n) - 1) (2 ^ (m + n) - 1))) (fun _ => 0)) 9139).length)) 300 - sm cap 300)) H locs 0 0 (F0 mg 82 ls []) := by
          intro kk
          induction kk using Nat.strongRecOn with
          | _ kk ihLP =>
          intro u H locs ls hkk hu9 hok hst hl
          refine lv_iload hx hb dH_resultant_82 (lv_at hl 9 rfl) ?_
          refine lv_iconst (v := nI 3) hx hb dH_resultant_84 (by decide +kernel) ?_
          refine lv_icmp_ge hx hb dH_resultant_85 (tgt := 132) rfl (fun hc => ?_) (fun hc => ?_)
          · skip
            have hc7 : 3 ≤ u := (nI_leI (by omega) (by omega)).mp hc
            have hal : 2 ^ (m + n) - 1 < 2 ^ (m + n) := by omega
            refine lv_iconst (v := nI 1) hx hb dH_resultant_132 (by decide +kernel) ?_
            refine lv_iload hx hb dH_resultant_133 (lv_at hl 7 rfl) ?_
            refine lv_iload hx hb dH_resultant_135 (lv_at hl 8 rfl) ?_
            refine t_iadd hx hb dH_resultant_137 (v := nI (m + n)) (nI_add _ _) ?_
            refine lv_ishl hx hb dH_resultant_138 ?_
            refine tp_i (e2 := nI (1 * 2 ^ (m + n))) (sh_l (by omega) (by omega)) ?_
            refine lv_iconst (v := nI 1) hx hb dH_resultant_139 (by decide +kernel) ?_
            refine t_isub hx hb dH_resultant_140 (v := nI ((1 * 2 ^ (m + n)) - 1)) (pk_sub (by omega)) ?_
            refine tp_n (e2 := 2 ^ (m + n) - 1) (by rw [Nat.one_mul]) ?_
            have hmok := mnT_ok (p := p) (v := v) (a := P a) (b := P b) hpp hv hm hn hmn hdg
            have hmbx := fun {k c : Nat} => mnT_bx (p := p) (v := v) (a := P a) (b := P b) (k := k) (c := c) hpp hv hm hn hmn hdg
            obtain ⟨L0, hL0⟩ := hN 0 (by omega)
            obtain ⟨fsm, cellm⟩ := hL0.cell
            have hc338 := hc2 0 (by omega)
            refine lv_istore (lv' := [(9, .int (nI (2 ^ (m + n) - 1))), (0, .ref xa), (1, .int (nI r)), (2, .int (nI a)), (3, .int (nI b)), (4, .int (nI v)), (5, .ref (A (si a))), (6, .ref (A (si b))), (7, .int (nI m)), (8, .int (nI n))]) hx hb dH_resultant_141 hl (by decide) rfl (fun ls hl => ?_)
            refine lv_aload_n hx hb dH_resultant_143 rfl (lv_at hl 1 rfl) ?_
            refine hp_get hx hb hG in_H hown hK hst x0 rfl 4 (by decide) (hG _ fl_H_15) rfl rfl dH_resultant_144 ?_
            refine lv_iconst (v := nI 0) hx hb dH_resultant_147 (by decide +kernel) ?_
            refine hp_aald hx hb hK rfl hst x2 (j := 0) (v := (A (30 + 0))) (by omega) (by omega) (hgn 0 (by omega)) dH_resultant_148 ?_
            refine lv_iconst (v := nI 1) hx hb dH_resultant_149 (by decide +kernel) ?_
            refine ct_callV (av2 := [.int (nI 1)]) (rest := []) (b := (A (30 + 0))) X hst (c_P_becomeNumber l D Y lo hL0 (x := 1) (by omega) (by omega)) cellm rfl wc_P_becomeNumber ml_H_55 wi_P_becomeNumber wl_P_becomeNumber wn_P md_P_becomeNumber (by decide) hl.1 rfl (Nat.le_of_ble_eq_true rfl) ⟨by omega, by omega⟩ (fun _ _ h => h.elim) dH_resultant_150 (fun r M' H locs hp hst => ?_)
            obtain ⟨rfl, hp1, ho1⟩ := hp
            rw [← tp_cst] at hp1
            have hcs1 := hcs0.mnr (c := 0) (by omega) (ho1.wk (fun i hi => Or.inr hi)) (hs.off ho1 (by omega)) hp1 hc338
            rw [up_id] at hcs1
            refine lv_iconst (v := nI 1) hx hb dH_resultant_153 (by decide +kernel) ?_
            refine lv_istore (lv' := [(10, .int (nI 1)), (9, .int (nI (2 ^ (m + n) - 1))), (0, .ref xa), (1, .int (nI r)), (2, .int (nI a)), (3, .int (nI b)), (4, .int (nI v)), (5, .ref (A (si a))), (6, .ref (A (si b))), (7, .int (nI m)), (8, .int (nI n))]) hx hb dH_resultant_154 hl (by decide) rfl (fun ls hl => ?_)
            have hc18 := hc1 r (by omega)
            have hcr : cpM (fun c => mnT p v m n (P a) (P b) c c) cap (2 ^ (m + n) - 1) (si r) = cap (si r) := cpM_lo (by omega)
            have hl9 := td_len (addL p 1 0 (tp (mnT p v m n (P a) (P b) (2 ^ (m + n) - 1) (2 ^ (m + n) - 1))) (fun _ => 0)) 9139
            have hgl9 := gcn_le (td (addL p 1 0 (tp (mnT p v m n (P a) (P b) (2 ^ (m + n) - 1) (2 ^ (m + n) - 1))) (fun _ => 0)) 9139).length (cap (si r)) 0 18278 hc18 (by omega)
            have hgg9 := gcn_ge (td (addL p 1 0 (tp (mnT p v m n (P a) (P b) (2 ^ (m + n) - 1) (2 ^ (m + n) - 1))) (fun _ => 0)) 9139).length (cap (si r)) 0
            have hsf := (sm_up (f := cpM (fun c => mnT p v m n (P a) (P b) c c) cap (2 ^ (m + n) - 1)) (i := si r) (v := gcn (cap (si r)) 0 (td (addL p 1 0 (tp (mnT p v m n (P a) (P b) (2 ^ (m + n) - 1) (2 ^ (m + n) - 1))) (fun _ => 0)) 9139).length) (n := 300)).2 (by omega)
            rw [hcr] at hsf
            refine W.widen (k := sm (cpM (fun c => mnT p v m n (P a) (P b) c c) cap 0) 300 - sm cap 300) (n := 4 * (sm (cpM (fun c => mnT p v m n (P a) (P b) c c) cap 0) 300 - sm cap 300)) (by omega) (by omega) ?_
            have LQ : ∀ (kk : Nat) (k : Nat) (M1 : Hm) (H : Heap) (locs : List Loc) (ls : Array Slot), kk = 2 ^ (m + n) - 1 - k → (k ≤ 2 ^ (m + n) - 1) → (cs Y M1 xa A p P (cpM (fun c => mnT p v m n (P a) (P b) c c) cap k) si rf) → (∀ d, d ≤ k → po Y M1 (30 + d) (A (30 + d)) (cpM (fun c => mnT p v m n (P a) (P b) c c) cap k (30 + d)) (tp (mnT p v m n (P a) (P b) k d))) → (hp_off (fun j => j = 2 ∨ 30 ≤ j ∧ j < 300) M M1) → hp_st D vC lo M1 sg.heap H locs → lv_has ls 12 [(0, .ref xa), (1, .int (nI r)), (2, .int (nI a)), (3, .int (nI b)), (4, .int (nI v)), (5, .ref (A (si a))), (6, .ref (A (si b))), (7, .int (nI m)), (8, .int (nI n)), (9, .int (nI (2 ^ (m + n) - 1))), (10, .int (nI (k + 1)))] → cW pg l eg sg mg [.ref xa, .int (nI r), .int (nI a), .int (nI b), .int (nI v)] bw mt cg y_H_resultant b_H_resultant 12 (some .boolean) 5 D lo (fun r9 M' => r9 = some (.int (nI 1)) ∧ cs Y M' xa A p (va_up P r (addL p 1 0 (tp (mnT p v m n (P a) (P b) (2 ^ (m + n) - 1) (2 ^ (m + n) - 1))) (fun _ => 0))) (va_up (cpM (fun c => mnT p v m n (P a) (P b) c c) cap (2 ^ (m + n) - 1)) (si r) (gcn (cap (si r)) 0 (td (addL p 1 0 (tp (mnT p v m n (P a) (P b) (2 ^ (m + n) - 1) (2 ^ (m + n) - 1))) (fun _ => 0)) 9139).length)) si rf ∧ hp_off (fun i => i < 300) M M') nx (sm (va_up (cpM (fun c => mnT p v m n (P a) (P b) c c) cap (2 ^ (m + n) - 1)) (si r) (gcn (cap (si r)) 0 (td (addL p 1 0 (tp (mnT p v m n (P a) (P b) (2 ^ (m + n) - 1) (2 ^ (m + n) - 1))) (fun _ => 0)) 9139).length)) 300 - sm cap 300) (4 * (sm (va_up (cpM (fun c => mnT p v m n (P a) (P b) c c) cap (2 ^ (m + n) - 1)) (si r) (gcn (cap (si r)) 0 (td (addL p 1 0 (tp (mnT p v m n (P a) (P b) (2 ^ (m + n) - 1) (2 ^ (m + n) - 1))) (fun _ => 0)) 9139).length)) 300 - sm cap 300)) H locs (sm (cpM (fun c => mnT p v m n (P a) (P b) c c) cap k) 300 - sm cap 300) (4 * (sm (cpM (fun c => mnT p v m n (P a) (P b) c c) cap k) 300 - sm cap 300)) (F0 mg 156 ls []) := by
              intro kk
              induction kk using Nat.strongRecOn with
              | _ kk ihLQ =>
              intro k M1 H locs ls hkk hk9 hcsk hM ho hst hl
              have x0a := ho.of x0 (by omega)
              have x1a := ho.of x1 (by omega)
              have x2a := ho.of x2 (by omega)
              have hfa := hf.off ho (by omega)
              have hshk := hcsk.2.2.2.2.1
              obtain ⟨fst, cellt⟩ := hshk.cell
              have hsm1 := cpM_sm_mono (T := (fun c => mnT p v m n (P a) (P b) c c)) (cap := cap) (i := k) (n := 2 ^ (m + n) - 1) (by omega) hk9
              have hsm0 : sm cap 300 ≤ sm (cpM (fun c => mnT p v m n (P a) (P b) c c) cap k) 300 := cpM_sm_mono (T := (fun c => mnT p v m n (P a) (P b) c c)) (cap := cap) (i := 0) (n := k) (by omega) (Nat.zero_le _)
              refine lv_iload hx hb dH_resultant_156 (lv_at hl 10 rfl) ?_
              refine lv_iload hx hb dH_resultant_158 (lv_at hl 9 rfl) ?_
              refine lv_icmp_gt hx hb dH_resultant_160 (tgt := 229) rfl (fun hc => ?_) (fun hc => ?_)
              · skip
                have hc6 : (2 ^ (m + n) - 1) < (k + 1) := (nI_ltI (by omega) (by omega)).mp hc
                have hk : k = 2 ^ (m + n) - 1 := by omega
                subst hk
                have hMa := hM (2 ^ (m + n) - 1) (Nat.le_refl _)
                have hml := (hmok (2 ^ (m + n) - 1) hal (2 ^ (m + n) - 1) (Nat.le_refl _)).1
                have hcp1 : ∀ x, addL p 1 0 (tp (mnT p v m n (P a) (P b) (2 ^ (m + n) - 1) (2 ^ (m + n) - 1))) (fun _ => 0) x < p := addL_lt (by omega) (fun _ => by omega)
                have hPr : po Y M1 (si r) (A (si r)) (cap (si r)) (tp (P r)) := (hP r hr).off ho (by omega)
                refine lv_aload_n hx hb dH_resultant_229 rfl (lv_at hl 0 rfl) ?_
                refine hp_get hx hb hG in_H hown hK hst x0a rfl 1 (by decide) (hG _ fl_H_32) rfl rfl dH_resultant_230 ?_
                refine lv_aload_n hx hb dH_resultant_233 rfl (lv_at hl 0 rfl) ?_
                refine hp_get hx hb hG in_H hown hK hst x0a rfl 4 (by decide) (hG _ fl_H_15) rfl rfl dH_resultant_234 ?_
                refine lv_iload hx hb dH_resultant_237 (lv_at hl 9 rfl) ?_
                refine hp_aald hx hb hK rfl hst x2a (j := (2 ^ (m + n) - 1)) (v := (A (30 + (2 ^ (m + n) - 1)))) (by omega) (by omega) (hgn _ (by omega)) dH_resultant_239 ?_
                refine lv_iconst (v := nI 1) hx hb dH_resultant_240 (by decide +kernel) ?_
                refine lv_iconst (v := nI 0) hx hb dH_resultant_241 (by decide +kernel) ?_
                refine ct_callV (av2 := [.ref (A (30 + (2 ^ (m + n) - 1))), .int (nI 1), .int (nI 0)]) (rest := []) (b := (A 1)) X hst (c_S_addMultiple l D Y lo hshk hfa (fun _ => by omega) hMa (by omega) (f := 1) (t := 0) (by omega) (fun q hq => ⟨(tp_mem hq).1, by rw [(tp_mem hq).2.1]; exact hml _⟩)) cellt rfl wc_S_addMultiple ml_H_77 wi_S_addMultiple wl_S_addMultiple wn_S md_S_addMultiple (by decide) hl.1 rfl (Nat.le_of_ble_eq_true rfl) ⟨by omega, by omega⟩ (fun _ _ h => h.elim) dH_resultant_242 (fun r M' H locs hp hst => ?_)
                obtain ⟨rfl, hs3, ho3⟩ := hp
                have hoo := ho.tr (ho3.wk (fun j hj => Or.inl hj : ∀ j, j = 2 → (j = 2 ∨ 30 ≤ j ∧ j < 300)))
                have x0b := hoo.of x0 (by omega)
                have x1b := hoo.of x1 (by omega)
                obtain ⟨fsu, cellu⟩ := hs3.cell
                refine lv_aload_n hx hb dH_resultant_245 rfl (lv_at hl 0 rfl) ?_
                refine hp_get hx hb hG in_H hown hK hst x0b rfl 1 (by decide) (hG _ fl_H_32) rfl rfl dH_resultant_246 ?_
                refine lv_aload_n hx hb dH_resultant_249 rfl (lv_at hl 0 rfl) ?_
                refine hp_get hx hb hG in_H hown hK hst x0b rfl 3 (by decide) (hG _ fl_H_11) rfl rfl dH_resultant_250 ?_
                refine lv_iload_n hx hb dH_resultant_253 rfl (lv_at hl 1 rfl) ?_
                refine hp_aald hx hb hK rfl hst x1b (j := r) (v := (A (si r))) (by omega) (by omega) (hgr r hr) dH_resultant_254 ?_
                refine ct_callV (av2 := [.ref (A (si r))]) (rest := []) (b := (A 1)) X hst (c_S_moveTo l D Y lo hs3 (hPr.off ho3 (by omega)) (by omega) hc18 (fun x => by have := hcp1 x; omega)) cellu rfl wc_S_moveTo ml_H_81 wi_S_moveTo wl_S_moveTo wn_S md_S_moveTo (by decide) hl.1 rfl (Nat.le_of_ble_eq_true rfl) ⟨by omega, by omega⟩ (fun _ _ h => h.elim) dH_resultant_255 (fun r M' H locs hp hst => ?_)
                obtain ⟨rfl, hp6, hs6, ho6⟩ := hp
                have ho7 := (ho3.wk (fun i hi => Or.inl hi : ∀ i, i = 2 → (i = 2 ∨ i = si r))).tr ho6
                have hcs9 := hcsk.reg hr ho7 hs6 (g := addL p 1 0 (tp (mnT p v m n (P a) (P b) (2 ^ (m + n) - 1) (2 ^ (m + n) - 1))) (fun _ => 0)) hp6 hgl9 hcp1
                refine lv_iconst (v := nI 1) hx hb dH_resultant_258 (by decide +kernel) ?_
                exact ct_zret X hst (by omega) ⟨rfl, hcs9, (ho.wk (fun i hi => by omega : ∀ j, (j = 2 ∨ 30 ≤ j ∧ j < 300) → j < 300)).tr (ho7.wk (fun i hi => by omega))⟩ (by omega) (by omega) dH_resultant_259
              · skip
                have hc6 : ¬ (2 ^ (m + n) - 1) < (k + 1) := fun z => hc ((nI_ltI (by omega) (by omega)).mpr z)
                have hk1 : k + 1 < 2 ^ (m + n) := by omega
                have hk256 : k + 1 < 256 := by omega
                have hpos := pcn_pos (k + 1) hk256 (by omega)
                have hple := pcn_le (m + n) (by omega) (k + 1) hk1
                obtain ⟨col1, col2⟩ := ex_col (c := k + 1) hm hn hmn (by omega) hk1
                have hNk : ∀ d, d < k + 1 → po Y M1 (30 + d) (A (30 + d)) (cpM (fun c => mnT p v m n (P a) (P b) c c) cap k (30 + d)) (tp (mnT p v m n (P a) (P b) k d)) := fun d hd => hM d (by omega)
                have hGk : ∀ d, d < k + 1 → ∀ x, mnT p v m n (P a) (P b) k d x < p := fun d hd => (hmok k (by omega) d (by omega)).1
                have hmvk : ∀ (L : Pf) (lc : Nat), (∀ q ∈ tp L, xe q.1 v ≤ lc ∧ lc - xe q.1 v < 8) → (∀ q ∈ tp L, ∀ u, u < 3 → u ≠ v → xe q.1 u ≤ if pcn (k + 1) - 1 < n then dgf (P a) u else dgf (P b) u) → ∀ q ∈ tp L, (k + 1) / 2 ^ (lc - xe q.1 v) % 2 = 1 → ∀ q2 ∈ tp (mnT p v m n (P a) (P b) k (k + 1 - 2 ^ (lc - xe q.1 v))), mv (q2.1 + wo q.1 v) := by
                  intro L lc h1 h2 q hq hb q2 hq2
                  obtain ⟨-, b2, b3, -⟩ := bt_facts (k + 1) hk256 _ (h1 q hq).2 hb
                  have hpow : 1 ≤ 2 ^ (lc - xe q.1 v) := Nat.one_le_two_pow
                  have h5 := (hmok k (by omega) (k + 1 - 2 ^ (lc - xe q.1 v)) (by omega)).2 q2 hq2
                  rw [show pcn (k + 1 - 2 ^ (lc - xe q.1 v)) = pcn (k + 1) - 1 by omega] at h5
                  exact (ex_mv (r := pcn (k + 1) - 1) hv (fun u hu => mdg_le hdg (by omega) hu) (tp_mem hq2).1 h5 (tp_mem hq).1 (h2 q hq)).1
                refine lv_iload hx hb dH_resultant_163 (lv_at hl 10 rfl) ?_
                refine ct_callS (av2 := [.int (nI (k + 1))]) (rest := []) X hst (c_Ji_bitCount l D Y lo (n := k + 1) (by omega)) wc_Ji_bitCount ml_H_130 ws_Ji_bitCount wn_Ji md_Ji_bitCount (by decide) hl.1 rfl (Nat.le_of_ble_eq_true rfl) ⟨by omega, by omega⟩ (fun _ _ h => h.elim) dH_resultant_165 (fun r M' H locs hp hst => ?_)
                obtain ⟨rfl, rfl⟩ := hp
                refine lv_iconst (v := nI 1) hx hb dH_resultant_168 (by decide +kernel) ?_
                refine t_isub hx hb dH_resultant_169 (v := nI ((pcn (k + 1)) - 1)) (pk_sub (by omega)) ?_
                refine lv_istore (lv' := [(11, .int (nI ((pcn (k + 1)) - 1))), (0, .ref xa), (1, .int (nI r)), (2, .int (nI a)), (3, .int (nI b)), (4, .int (nI v)), (5, .ref (A (si a))), (6, .ref (A (si b))), (7, .int (nI m)), (8, .int (nI n)), (9, .int (nI (2 ^ (m + n) - 1))), (10, .int (nI (k + 1)))]) hx hb dH_resultant_170 hl (by decide) rfl (fun ls hl => ?_)
                refine lv_iload hx hb dH_resultant_172 (lv_at hl 0 rfl) ?_
                refine lv_iload hx hb dH_resultant_174 (lv_at hl 9 rfl) ?_
                refine lv_icmp_ge hx hb dH_resultant_176 (tgt := 197) rfl (fun hc => ?_) (fun hc => ?_)
                · skip
                  have hc9 : n ≤ ((pcn (k + 1)) - 1) := (nI_leI (by omega) (by omega)).mp hc
                  refine lv_aload_n hx hb dH_resultant_197 rfl (lv_at hl 1 rfl) ?_
                  refine lv_iload hx hb dH_resultant_198 (lv_at hl 11 rfl) ?_
                  refine lv_aload hx hb dH_resultant_200 (lv_at hl 7 rfl) ?_
                  refine lv_iload hx hb dH_resultant_202 (lv_at hl 0 rfl) ?_
                  refine lv_iload hx hb dH_resultant_204 (lv_at hl 5 rfl) ?_
                  refine ct_callV (av2 := [.int (nI (k + 1)), .ref (A (si b)), .int (nI ((pcn (k + 1)) - 1)), .int (nI v)]) (rest := []) (b := xa) X hst (c_H_addExpansion l D Y lo hcsk (c := k + 1) (a := b) (lc := pcn (k + 1) - 1) (v := v) (G := mnT p v m n (P a) (P b) k) hk256 hb9 (by omega) hv (col2 (by omega)) hNk hGk (hmvk (P b) _ (col2 (by omega)) (fun q hq u hu _ => by rw [if_neg (by omega)]; exact (dgl_ge (v := u) (L := tp (P b)) (g := 0)).2 q hq))) x0a rfl wc_H_addExpansion ml_H_135 wi_H_addExpansion wl_H_addExpansion wn_H md_H_addExpansion (by decide) hl.1 rfl (Nat.le_of_ble_eq_true rfl) ⟨by omega, by omega⟩ (fun _ _ h => h.elim) dH_resultant_206 (fun r M' H locs hp hst => ?_)
                  obtain ⟨rfl, hs3, ho3⟩ := hp
                  have hs3 : sh Y M' (A 1) (A 0) (exR p v m n (P a) (P b) (k + 1) (mnT p v m n (P a) (P b) k)) := by unfold exR; rw [if_neg (by omega)]; exact hs3
                  have hoo := ho.tr (ho3.wk (fun j hj => Or.inl hj : ∀ j, j = 2 → (j = 2 ∨ 30 ≤ j ∧ j < 300)))
                  have hcs0k := hcsk
                  have x0b := hoo.of x0 (by omega)
                  have x2b := hoo.of x2 (by omega)
                  obtain ⟨fsu, cellu⟩ := hs3.cell
                  have hT1 : mnT p v m n (P a) (P b) (k + 1) (k + 1) = exR p v m n (P a) (P b) (k + 1) (mnT p v m n (P a) (P b) k) := va_up_self _ _ _
                  rw [← hT1] at hs3
                  obtain ⟨Lk, hLk⟩ := hcsk.2.2.2.2.2.2.2.2.2.1 (k + 1) hk256
                  have hck : cpM (fun c => mnT p v m n (P a) (P b) c c) cap k (30 + (k + 1)) = cap (30 + (k + 1)) := cpM_hi (Nat.le_refl _)
                  rw [hck] at hLk
                  have hc2k := hc2 (k + 1) hk256
                  have hTp := (hmok (k + 1) hk1 (k + 1) (Nat.le_refl _)).1
                  have hlen : (td (mnT p v m n (P a) (P b) (k + 1) (k + 1)) 9139).length ≤ 169 := len169 hv (hmbx hk1 (Nat.le_refl _))
                  have hgl := gcn_le (td (mnT p v m n (P a) (P b) (k + 1) (k + 1)) 9139).length (cap (30 + (k + 1))) 0 338 hc2k (by omega)
                  have hgg := gcn_ge (td (mnT p v m n (P a) (P b) (k + 1) (k + 1)) 9139).length (cap (30 + (k + 1))) 0
                  have hsmk : sm (cpM (fun c => mnT p v m n (P a) (P b) c c) cap (k + 1)) 300 + cap (30 + (k + 1)) = sm (cpM (fun c => mnT p v m n (P a) (P b) c c) cap k) 300 + gcn (cap (30 + (k + 1))) 0 (td (mnT p v m n (P a) (P b) (k + 1) (k + 1)) 9139).length := cpM_sm (T := (fun c => mnT p v m n (P a) (P b) c c)) (cap := cap) (k := k) (by omega)
                  have hsm2 := cpM_sm_mono (T := (fun c => mnT p v m n (P a) (P b) c c)) (cap := cap) (i := k + 1) (n := 2 ^ (m + n) - 1) (by omega) (by omega)
                  refine lv_aload_n hx hb dH_resultant_209 rfl (lv_at hl 1 rfl) ?_
                  refine hp_get hx hb hG in_H hown hK hst x0b rfl 1 (by decide) (hG _ fl_H_32) rfl rfl dH_resultant_210 ?_
                  refine lv_aload_n hx hb dH_resultant_213 rfl (lv_at hl 1 rfl) ?_
                  refine hp_get hx hb hG in_H hown hK hst x0b rfl 4 (by decide) (hG _ fl_H_15) rfl rfl dH_resultant_214 ?_
                  refine lv_iload hx hb dH_resultant_217 (lv_at hl 11 rfl) ?_
                  refine hp_aald hx hb hK rfl hst x2b (j := (k + 1)) (v := (A (30 + (k + 1)))) (by omega) (by omega) (hgn _ hk256) dH_resultant_219 ?_
                  refine ct_callV (av2 := [.ref (A (30 + (k + 1)))]) (rest := []) (b := (A 1)) X hst (c_S_moveTo l D Y lo hs3 (hLk.off ho3 (by omega)) (by omega) (by omega) (fun x => by have := hTp x; omega)) cellu rfl wc_S_moveTo ml_H_81 wi_S_moveTo wl_S_moveTo wn_S md_S_moveTo (by decide) hl.1 rfl (Nat.le_of_ble_eq_true rfl) ⟨by omega, by omega⟩ (fun _ _ h => h.elim) dH_resultant_220 (fun r M' H locs hp hst => ?_)
                  obtain ⟨rfl, hp6, hs6, ho6⟩ := hp
                  have ho7 := (ho3.wk (fun i hi => Or.inl hi : ∀ i, i = 2 → (i = 2 ∨ i = 30 + (k + 1)))).tr ho6
                  have hcsn : cs Y M' xa A p P (cpM (fun c => mnT p v m n (P a) (P b) c c) cap (k + 1)) si rf := hcsk.mnr hk256 ho7 hs6 hp6 hgl
                  have hMn : ∀ d, d ≤ k + 1 → po Y M' (30 + d) (A (30 + d)) (cpM (fun c => mnT p v m n (P a) (P b) c c) cap (k + 1) (30 + d)) (tp (mnT p v m n (P a) (P b) (k + 1) d)) := by
                    intro d hd
                    by_cases h9 : d = k + 1
                    · subst h9
                      rw [show cpM (fun c => mnT p v m n (P a) (P b) c c) cap (k + 1) (30 + (k + 1)) = gcn (cap (30 + (k + 1))) 0 (td (mnT p v m n (P a) (P b) (k + 1) (k + 1)) 9139).length from va_up_self _ _ _]
                      exact hp6
                    · rw [show cpM (fun c => mnT p v m n (P a) (P b) c c) cap (k + 1) (30 + d) = cpM (fun c => mnT p v m n (P a) (P b) c c) cap k (30 + d) from va_up_ne _ _ (by omega), show mnT p v m n (P a) (P b) (k + 1) d = mnT p v m n (P a) (P b) k d from va_up_ne _ _ h9]
                      exact (hM d (by omega)).off ho7 (by omega)
                  refine W.widen (k := sm (cpM (fun c => mnT p v m n (P a) (P b) c c) cap (k + 1)) 300 - sm cap 300) (n := 4 * (sm (cpM (fun c => mnT p v m n (P a) (P b) c c) cap (k + 1)) 300 - sm cap 300)) (by omega) (by omega) ?_
                  refine lv_iinc (lv' := [(10, .int (nI ((k + 1) + 1))), (11, .int (nI ((pcn (k + 1)) - 1))), (0, .ref xa), (1, .int (nI r)), (2, .int (nI a)), (3, .int (nI b)), (4, .int (nI v)), (5, .ref (A (si a))), (6, .ref (A (si b))), (7, .int (nI m)), (8, .int (nI n)), (9, .int (nI (2 ^ (m + n) - 1)))]) hx hb dH_resultant_223 hl (k := 11) rfl (ii_p _) (by decide) rfl (fun ls hl => ?_)
                  refine lv_goto hx hb dH_resultant_226 (tgt := 156) rfl ?_
                  exact ihLQ _ (by omega) (k + 1) M' _ _ _ rfl (by omega) hcsn hMn (hoo.tr (ho6.wk (fun j hj => by omega))) hst (lv_sub hl [2, 3, 4, 5, 6, 7, 8, 9, 10, 11, 0] rfl)
                · skip
                  have hc9 : ¬ n ≤ ((pcn (k + 1)) - 1) := fun z => hc ((nI_leI (by omega) (by omega)).mpr z)
                  refine lv_aload_n hx hb dH_resultant_179 rfl (lv_at hl 1 rfl) ?_
                  refine lv_iload hx hb dH_resultant_180 (lv_at hl 11 rfl) ?_
                  refine lv_aload hx hb dH_resultant_182 (lv_at hl 6 rfl) ?_
                  refine lv_iload hx hb dH_resultant_184 (lv_at hl 0 rfl) ?_
                  refine lv_iload hx hb dH_resultant_186 (lv_at hl 8 rfl) ?_
                  refine t_iadd hx hb dH_resultant_188 (v := nI (((pcn (k + 1)) - 1) + m)) (nI_add _ _) ?_
                  refine lv_iload hx hb dH_resultant_189 (lv_at hl 5 rfl) ?_
                  refine ct_callV (av2 := [.int (nI (k + 1)), .ref (A (si a)), .int (nI (((pcn (k + 1)) - 1) + m)), .int (nI v)]) (rest := []) (b := xa) X hst (c_H_addExpansion l D Y lo hcsk (c := k + 1) (a := a) (lc := pcn (k + 1) - 1 + m) (v := v) (G := mnT p v m n (P a) (P b) k) hk256 ha (by omega) hv (col1 (by omega)) hNk hGk (hmvk (P a) _ (col1 (by omega)) (fun q hq u hu _ => by rw [if_pos (by omega)]; exact (dgl_ge (v := u) (L := tp (P a)) (g := 0)).2 q hq))) x0a rfl wc_H_addExpansion ml_H_135 wi_H_addExpansion wl_H_addExpansion wn_H md_H_addExpansion (by decide) hl.1 rfl (Nat.le_of_ble_eq_true rfl) ⟨by omega, by omega⟩ (fun _ _ h => h.elim) dH_resultant_191 (fun r M' H locs hp hst => ?_)
                  obtain ⟨rfl, hs3, ho3⟩ := hp
                  have hs3 : sh Y M' (A 1) (A 0) (exR p v m n (P a) (P b) (k + 1) (mnT p v m n (P a) (P b) k)) := by unfold exR; rw [if_pos (by omega)]; exact hs3
                  refine lv_goto hx hb dH_resultant_194 (tgt := 209) rfl ?_
                  have hoo := ho.tr (ho3.wk (fun j hj => Or.inl hj : ∀ j, j = 2 → (j = 2 ∨ 30 ≤ j ∧ j < 300)))
                  have hcs0k := hcsk
                  have x0b := hoo.of x0 (by omega)
                  have x2b := hoo.of x2 (by omega)
                  obtain ⟨fsu, cellu⟩ := hs3.cell
                  have hT1 : mnT p v m n (P a) (P b) (k + 1) (k + 1) = exR p v m n (P a) (P b) (k + 1) (mnT p v m n (P a) (P b) k) := va_up_self _ _ _
                  rw [← hT1] at hs3
                  obtain ⟨Lk, hLk⟩ := hcsk.2.2.2.2.2.2.2.2.2.1 (k + 1) hk256
                  have hck : cpM (fun c => mnT p v m n (P a) (P b) c c) cap k (30 + (k + 1)) = cap (30 + (k + 1)) := cpM_hi (Nat.le_refl _)
                  rw [hck] at hLk
                  have hc2k := hc2 (k + 1) hk256
                  have hTp := (hmok (k + 1) hk1 (k + 1) (Nat.le_refl _)).1
                  have hlen : (td (mnT p v m n (P a) (P b) (k + 1) (k + 1)) 9139).length ≤ 169 := len169 hv (hmbx hk1 (Nat.le_refl _))
                  have hgl := gcn_le (td (mnT p v m n (P a) (P b) (k + 1) (k + 1)) 9139).length (cap (30 + (k + 1))) 0 338 hc2k (by omega)
                  have hgg := gcn_ge (td (mnT p v m n (P a) (P b) (k + 1) (k + 1)) 9139).length (cap (30 + (k + 1))) 0
                  have hsmk : sm (cpM (fun c => mnT p v m n (P a) (P b) c c) cap (k + 1)) 300 + cap (30 + (k + 1)) = sm (cpM (fun c => mnT p v m n (P a) (P b) c c) cap k) 300 + gcn (cap (30 + (k + 1))) 0 (td (mnT p v m n (P a) (P b) (k + 1) (k + 1)) 9139).length := cpM_sm (T := (fun c => mnT p v m n (P a) (P b) c c)) (cap := cap) (k := k) (by omega)
                  have hsm2 := cpM_sm_mono (T := (fun c => mnT p v m n (P a) (P b) c c)) (cap := cap) (i := k + 1) (n := 2 ^ (m + n) - 1) (by omega) (by omega)
                  refine lv_aload_n hx hb dH_resultant_209 rfl (lv_at hl 1 rfl) ?_
                  refine hp_get hx hb hG in_H hown hK hst x0b rfl 1 (by decide) (hG _ fl_H_32) rfl rfl dH_resultant_210 ?_
                  refine lv_aload_n hx hb dH_resultant_213 rfl (lv_at hl 1 rfl) ?_
                  refine hp_get hx hb hG in_H hown hK hst x0b rfl 4 (by decide) (hG _ fl_H_15) rfl rfl dH_resultant_214 ?_
                  refine lv_iload hx hb dH_resultant_217 (lv_at hl 11 rfl) ?_
                  refine hp_aald hx hb hK rfl hst x2b (j := (k + 1)) (v := (A (30 + (k + 1)))) (by omega) (by omega) (hgn _ hk256) dH_resultant_219 ?_
                  refine ct_callV (av2 := [.ref (A (30 + (k + 1)))]) (rest := []) (b := (A 1)) X hst (c_S_moveTo l D Y lo hs3 (hLk.off ho3 (by omega)) (by omega) (by omega) (fun x => by have := hTp x; omega)) cellu rfl wc_S_moveTo ml_H_81 wi_S_moveTo wl_S_moveTo wn_S md_S_moveTo (by decide) hl.1 rfl (Nat.le_of_ble_eq_true rfl) ⟨by omega, by omega⟩ (fun _ _ h => h.elim) dH_resultant_220 (fun r M' H locs hp hst => ?_)
                  obtain ⟨rfl, hp6, hs6, ho6⟩ := hp
                  have ho7 := (ho3.wk (fun i hi => Or.inl hi : ∀ i, i = 2 → (i = 2 ∨ i = 30 + (k + 1)))).tr ho6
                  have hcsn : cs Y M' xa A p P (cpM (fun c => mnT p v m n (P a) (P b) c c) cap (k + 1)) si rf := hcsk.mnr hk256 ho7 hs6 hp6 hgl
                  have hMn : ∀ d, d ≤ k + 1 → po Y M' (30 + d) (A (30 + d)) (cpM (fun c => mnT p v m n (P a) (P b) c c) cap (k + 1) (30 + d)) (tp (mnT p v m n (P a) (P b) (k + 1) d)) := by
                    intro d hd
                    by_cases h9 : d = k + 1
                    · subst h9
                      rw [show cpM (fun c => mnT p v m n (P a) (P b) c c) cap (k + 1) (30 + (k + 1)) = gcn (cap (30 + (k + 1))) 0 (td (mnT p v m n (P a) (P b) (k + 1) (k + 1)) 9139).length from va_up_self _ _ _]
                      exact hp6
                    · rw [show cpM (fun c => mnT p v m n (P a) (P b) c c) cap (k + 1) (30 + d) = cpM (fun c => mnT p v m n (P a) (P b) c c) cap k (30 + d) from va_up_ne _ _ (by omega), show mnT p v m n (P a) (P b) (k + 1) d = mnT p v m n (P a) (P b) k d from va_up_ne _ _ h9]
                      exact (hM d (by omega)).off ho7 (by omega)
                  refine W.widen (k := sm (cpM (fun c => mnT p v m n (P a) (P b) c c) cap (k + 1)) 300 - sm cap 300) (n := 4 * (sm (cpM (fun c => mnT p v m n (P a) (P b) c c) cap (k + 1)) 300 - sm cap 300)) (by omega) (by omega) ?_
                  refine lv_iinc (lv' := [(10, .int (nI ((k + 1) + 1))), (11, .int (nI ((pcn (k + 1)) - 1))), (0, .ref xa), (1, .int (nI r)), (2, .int (nI a)), (3, .int (nI b)), (4, .int (nI v)), (5, .ref (A (si a))), (6, .ref (A (si b))), (7, .int (nI m)), (8, .int (nI n)), (9, .int (nI (2 ^ (m + n) - 1)))]) hx hb dH_resultant_223 hl (k := 11) rfl (ii_p _) (by decide) rfl (fun ls hl => ?_)
                  refine lv_goto hx hb dH_resultant_226 (tgt := 156) rfl ?_
                  exact ihLQ _ (by omega) (k + 1) M' _ _ _ rfl (by omega) hcsn hMn (hoo.tr (ho6.wk (fun j hj => by omega))) hst (lv_sub hl [2, 3, 4, 5, 6, 7, 8, 9, 10, 11, 0] rfl)
            exact LQ _ 0 M' _ _ _ rfl (by omega) hcs1 (fun d hd => by rw [show d = 0 by omega]; exact hp1) (ho1.wk (fun j hj => by omega)) hst (lv_sub hl [2, 3, 4, 5, 6, 7, 8, 9, 10, 1, 0] rfl)
          · skip
            have hc7 : ¬ 3 ≤ u := fun z => hc ((nI_leI (by omega) (by omega)).mpr z)
            have hu : u < 3 := by omega
            have d1 := dgl_lt (v := u) (g := 0) (L := tp (P a)) (by omega)
            have d2 := dgl_lt (v := u) (g := 0) (L := tp (P b)) (by omega)
            have d3 : n * dgl u (tp (P a)) 0 ≤ 64 * 64 := Nat.mul_le_mul (by omega) (by omega)
            have d4 : m * dgl u (tp (P b)) 0 ≤ 64 * 64 := Nat.mul_le_mul (by omega) (by omega)
            refine lv_iload hx hb dH_resultant_88 (lv_at hl 9 rfl) ?_
            refine lv_iload hx hb dH_resultant_90 (lv_at hl 4 rfl) ?_
            refine lv_icmp_eq hx hb dH_resultant_92 (tgt := 126) rfl (fun hc => ?_) (fun hc => ?_)
            · skip
              have hcv : u = v := (nI_eq (by omega) (by omega)).mp hc
              refine lv_iinc (lv' := [(9, .int (nI (u + 1))), (0, .ref xa), (1, .int (nI r)), (2, .int (nI a)), (3, .int (nI b)), (4, .int (nI v)), (5, .ref (A (si a))), (6, .ref (A (si b))), (7, .int (nI m)), (8, .int (nI n))]) hx hb dH_resultant_126 hl (k := 9) rfl (ii_p _) (by decide) rfl (fun ls hl => ?_)
              refine lv_goto hx hb dH_resultant_129 (tgt := 82) rfl ?_
              exact ihLP _ (by omega) (u + 1) _ _ _ rfl (by omega) (fun y hy hyv => by
                  by_cases h9 : y = u
                  · subst h9; exact absurd hcv hyv
                  · exact hok y (by omega) hyv) hst (lv_sub hl [1, 2, 3, 4, 5, 6, 7, 8, 9, 0] rfl)
            · skip
              have hcv : ¬ u = v := fun z => hc ((nI_eq (by omega) (by omega)).mpr z)
              refine lv_iload hx hb dH_resultant_95 (lv_at hl 8 rfl) ?_
              refine lv_aload hx hb dH_resultant_97 (lv_at hl 5 rfl) ?_
              refine lv_iload hx hb dH_resultant_99 (lv_at hl 9 rfl) ?_
              refine ct_callV (av2 := [.int (nI u)]) (rest := [.int (nI n)]) (b := (A (si a))) X hst (c_P_degreeIn l D Y lo (hP a ha) hu (fun q hq => (tp_b hpp3 (hPp a ha) q hq).1)) cell_a rfl wc_P_degreeIn ml_H_85 wi_P_degreeIn wl_P_degreeIn wn_P md_P_degreeIn (by decide) hl.1 rfl (Nat.le_of_ble_eq_true rfl) ⟨by omega, by omega⟩ (fun _ _ h => h.elim) dH_resultant_101 (fun r M' H locs hp hst => ?_)
              obtain ⟨rfl, rfl⟩ := hp
              refine t_imul hx hb dH_resultant_104 (v := nI (n * (dgl u (tp (P a)) 0))) (pk_mul _ _) ?_
              refine lv_iload hx hb dH_resultant_105 (lv_at hl 7 rfl) ?_
              refine lv_aload hx hb dH_resultant_107 (lv_at hl 6 rfl) ?_
              refine lv_iload hx hb dH_resultant_109 (lv_at hl 9 rfl) ?_
              refine ct_callV (av2 := [.int (nI u)]) (rest := [.int (nI m), .int (nI (n * (dgl u (tp (P a)) 0)))]) (b := (A (si b))) X hst (c_P_degreeIn l D Y lo (hP b hb9) hu (fun q hq => (tp_b hpp3 (hPp b hb9) q hq).1)) cell_b rfl wc_P_degreeIn ml_H_85 wi_P_degreeIn wl_P_degreeIn wn_P md_P_degreeIn (by decide) hl.1 rfl (Nat.le_of_ble_eq_true rfl) ⟨by omega, by omega⟩ (fun _ _ h => h.elim) dH_resultant_111 (fun r M' H locs hp hst => ?_)
              obtain ⟨rfl, rfl⟩ := hp
              refine t_imul hx hb dH_resultant_114 (v := nI (m * (dgl u (tp (P b)) 0))) (pk_mul _ _) ?_
              refine t_iadd hx hb dH_resultant_115 (v := nI ((n * (dgl u (tp (P a)) 0)) + (m * (dgl u (tp (P b)) 0)))) (nI_add _ _) ?_
              refine lv_bipush (v := nI 12) hx hb dH_resultant_116 (by decide +kernel) ?_
              refine lv_icmp_le hx hb dH_resultant_118 (tgt := 126) rfl (fun hc => ?_) (fun hc => ?_)
              · skip
                have hc8 : ((n * (dgl u (tp (P a)) 0)) + (m * (dgl u (tp (P b)) 0))) ≤ 12 := (nI_leI (by omega) (by omega)).mp hc
                refine lv_iinc (lv' := [(9, .int (nI (u + 1))), (0, .ref xa), (1, .int (nI r)), (2, .int (nI a)), (3, .int (nI b)), (4, .int (nI v)), (5, .ref (A (si a))), (6, .ref (A (si b))), (7, .int (nI m)), (8, .int (nI n))]) hx hb dH_resultant_126 hl (k := 9) rfl (ii_p _) (by decide) rfl (fun ls hl => ?_)
                refine lv_goto hx hb dH_resultant_129 (tgt := 82) rfl ?_
                exact ihLP _ (by omega) (u + 1) _ _ _ rfl (by omega) (fun y hy hyv => by
                    by_cases h9 : y = u
                    · subst h9; exact hc8
                    · exact hok y (by omega) hyv) hst (lv_sub hl [1, 2, 3, 4, 5, 6, 7, 8, 9, 0] rfl)
              · skip
                have hc8 : ¬ ((n * (dgl u (tp (P a)) 0)) + (m * (dgl u (tp (P b)) 0))) ≤ 12 := fun z => hc ((nI_leI (by omega) (by omega)).mpr z)
                exact absurd (hdg u hu hcv) hc8
        exact LP _ 0 _ _ _ rfl (by omega) (fun y hy => by omega) hst (lv_sub hl [5, 6, 7, 8, 9, 4, 3, 2, 1, 0] rfl)
      · skip
        have hcm : ¬ (m + n) ≤ 8 := fun z => hc ((nI_leI (by omega) (by omega)).mpr z)
        exact absurd (Or.inr (Or.inr hcm) : tp (P a) = [] ∨ tp (P b) = [] ∨ ¬ m + n ≤ 8) (fun z => z.elim hza (fun z => z.elim hzb (fun z => z hmn)))

set_option maxHeartbeats 4000000 in
set_option maxRecDepth 100000 in
theorem n_H_resultant (l : Launch) (D : va_G) (Y : Nat → ClassId) (lo : Nat) {M : Hm} {xa p rf : Nat} {A cap si : Nat → Nat} {P : Nat → Pf} (hcs : cs Y M xa A p P cap si rf) {r a b v m n : Nat} (hr : r < 12) (ha : a < 12) (hb9 : b < 12) (hv : v < 3) (hm : m = dgf (P a) v) (hn : n = dgf (P b) v) (hza : tp (P a) ≠ []) (hzb : tp (P b) ≠ []) (hmn : m + n ≤ 8) (hdg : ¬ ∀ u, u < 3 → u ≠ v → n * dgf (P a) u + m * dgf (P b) u ≤ 12) : ct l D Y lo y_H_resultant b_H_resultant 12 (some .boolean) 5 [.ref xa, .int (nI r), .int (nI a), .int (nI b), .int (nI v)] M (fun r9 M' => r9 = some (.int (nI 0)) ∧ cs Y M' xa A p P cap si (rf + 1) ∧ hp_off (fun i => i < 300) M M') nx 0 0 := by
  refine ct_of (by decide) (Nat.le_of_ble_eq_true rfl) ?_
  intro pg eg sg mg bw mt cg ls X hst hl
  have X1 := X
  obtain ⟨hx, hb, hml, hrt, hlocks, hown, hnm, hts, hkz, hex⟩ := X1
  have hG : ∀ w ∈ GW, w.before _ sg = true := fun w h => hts w (List.mem_cons_of_mem _ h)
  have hK := hkz.1
  have hl : lv_has ls 12 [(0, .ref xa), (1, .int (nI r)), (2, .int (nI a)), (3, .int (nI b)), (4, .int (nI v))] := hl
  have hcs0 := hcs
  obtain ⟨x0, ⟨gr, x1, hgr⟩, ⟨gn, x2, hgn⟩, ⟨hf, hpr⟩, hs, ⟨gw, ht⟩, ⟨hs1, hs2⟩, hP, ⟨LS, hS⟩, hN, hc1, hc2, hPp⟩ := hcs
  have hpp := hf.2.1
  have hpp3 := hf.2.2
  have hf0 := hf.1
  refine lv_iload_n hx hb dH_resultant_0 rfl (lv_at hl 1 rfl) ?_
  refine lv_iload_n hx hb dH_resultant_1 rfl (lv_at hl 2 rfl) ?_
  refine lv_iload_n hx hb dH_resultant_2 rfl (lv_at hl 3 rfl) ?_
  refine ct_callS (av2 := [.int (nI r), .int (nI a), .int (nI b)]) (rest := []) X hst (c_H_checkRegisters l D Y lo hr ha hb9) wc_H_checkRegisters ml_H_73 ws_H_checkRegisters wn_H md_H_checkRegisters (by decide) hl.1 rfl (Nat.le_of_ble_eq_true rfl) ⟨by omega, by omega⟩ (fun _ _ h => h.elim) dH_resultant_3 (fun r M' H locs hp hst => ?_)
  obtain ⟨rfl, rfl⟩ := hp
  refine lv_iload hx hb dH_resultant_6 (lv_at hl 4 rfl) ?_
  refine ct_callS (av2 := [.int (nI v)]) (rest := []) X hst (c_H_checkVariable l D Y lo hv) wc_H_checkVariable ml_H_58 ws_H_checkVariable wn_H md_H_checkVariable (by decide) hl.1 rfl (Nat.le_of_ble_eq_true rfl) ⟨by omega, by omega⟩ (fun _ _ h => h.elim) dH_resultant_8 (fun r M' H locs hp hst => ?_)
  obtain ⟨rfl, rfl⟩ := hp
  have hs_r := hs1 r (by omega)
  have hs_a := hs1 a (by omega)
  have hs_b := hs1 b (by omega)
  have hs_12 := hs1 12 (by omega)
  obtain ⟨fs_a, cell_a⟩ := (hP a ha).cell
  obtain ⟨fs_b, cell_b⟩ := (hP b hb9).cell
  refine lv_aload_n hx hb dH_resultant_11 rfl (lv_at hl 0 rfl) ?_
  refine hp_get hx hb hG in_H hown hK hst x0 rfl 3 (by decide) (hG _ fl_H_11) rfl rfl dH_resultant_12 ?_
  refine lv_iload_n hx hb dH_resultant_15 rfl (lv_at hl 2 rfl) ?_
  refine hp_aald hx hb hK rfl hst x1 (j := a) (v := (A (si a))) (by omega) (by omega) (hgr a ha) dH_resultant_16 ?_
  refine lv_astore (lv' := [(5, .ref (A (si a))), (0, .ref xa), (1, .int (nI r)), (2, .int (nI a)), (3, .int (nI b)), (4, .int (nI v))]) hx hb dH_resultant_17 hl (by decide) rfl (fun ls hl => ?_)
  refine lv_aload_n hx hb dH_resultant_19 rfl (lv_at hl 1 rfl) ?_
  refine hp_get hx hb hG in_H hown hK hst x0 rfl 3 (by decide) (hG _ fl_H_11) rfl rfl dH_resultant_20 ?_
  refine lv_iload_n hx hb dH_resultant_23 rfl (lv_at hl 4 rfl) ?_
  refine hp_aald hx hb hK rfl hst x1 (j := b) (v := (A (si b))) (by omega) (by omega) (hgr b hb9) dH_resultant_24 ?_
  have dm := dgl_lt (v := v) (g := 0) (L := tp (P a)) (by omega)
  have dn9 := dgl_lt (v := v) (g := 0) (L := tp (P b)) (by omega)
  refine lv_astore (lv' := [(6, .ref (A (si b))), (5, .ref (A (si a))), (0, .ref xa), (1, .int (nI r)), (2, .int (nI a)), (3, .int (nI b)), (4, .int (nI v))]) hx hb dH_resultant_25 hl (by decide) rfl (fun ls hl => ?_)
  refine lv_aload hx hb dH_resultant_27 (lv_at hl 1 rfl) ?_
  refine lv_iload hx hb dH_resultant_29 (lv_at hl 6 rfl) ?_
  refine ct_callV (av2 := [.int (nI v)]) (rest := []) (b := (A (si a))) X hst (c_P_degreeIn l D Y lo (hP a ha) hv (fun q hq => (tp_b hpp3 (hPp a ha) q hq).1)) cell_a rfl wc_P_degreeIn ml_H_85 wi_P_degreeIn wl_P_degreeIn wn_P md_P_degreeIn (by decide) hl.1 rfl (Nat.le_of_ble_eq_true rfl) ⟨by omega, by omega⟩ (fun _ _ h => h.elim) dH_resultant_31 (fun r M' H locs hp hst => ?_)
  obtain ⟨rfl, rfl⟩ := hp
  refine tp_n (e2 := m) hm.symm ?_
  refine lv_istore (lv' := [(7, .int (nI m)), (6, .ref (A (si b))), (5, .ref (A (si a))), (0, .ref xa), (1, .int (nI r)), (2, .int (nI a)), (3, .int (nI b)), (4, .int (nI v))]) hx hb dH_resultant_34 hl (by decide) rfl (fun ls hl => ?_)
  refine lv_aload hx hb dH_resultant_36 (lv_at hl 1 rfl) ?_
  refine lv_iload hx hb dH_resultant_38 (lv_at hl 7 rfl) ?_
  refine ct_callV (av2 := [.int (nI v)]) (rest := []) (b := (A (si b))) X hst (c_P_degreeIn l D Y lo (hP b hb9) hv (fun q hq => (tp_b hpp3 (hPp b hb9) q hq).1)) cell_b rfl wc_P_degreeIn ml_H_85 wi_P_degreeIn wl_P_degreeIn wn_P md_P_degreeIn (by decide) hl.1 rfl (Nat.le_of_ble_eq_true rfl) ⟨by omega, by omega⟩ (fun _ _ h => h.elim) dH_resultant_40 (fun r M' H locs hp hst => ?_)
  obtain ⟨rfl, rfl⟩ := hp
  refine tp_n (e2 := n) hn.symm ?_
  have dm : m < 64 := by rw [hm]; exact dm
  have dn9 : n < 64 := by rw [hn]; exact dn9
  refine lv_istore (lv' := [(8, .int (nI n)), (7, .int (nI m)), (6, .ref (A (si b))), (5, .ref (A (si a))), (0, .ref xa), (1, .int (nI r)), (2, .int (nI a)), (3, .int (nI b)), (4, .int (nI v))]) hx hb dH_resultant_43 hl (by decide) rfl (fun ls hl => ?_)
  refine lv_aload hx hb dH_resultant_45 (lv_at hl 3 rfl) ?_
  refine ct_callV (av2 := []) (rest := []) (b := (A (si a))) X hst (c_P_isZero l D Y lo (hP a ha)) cell_a rfl wc_P_isZero ml_H_102 wi_P_isZero wl_P_isZero wn_P md_P_isZero (by decide) hl.1 rfl (Nat.le_of_ble_eq_true rfl) ⟨by omega, by omega⟩ (fun _ _ h => h.elim) dH_resultant_47 (fun r M' H locs hp hst => ?_)
  obtain ⟨bz, rfl, hz1, hz2, rfl⟩ := hp
  refine lv_if_ne hx hb dH_resultant_50 (tgt := 71) rfl (fun hc => ?_) (fun hc => ?_)
  · skip
    rw [← nI_0] at hc
    have hcz : ¬ bz = 0 := fun z => hc ((nI_eq (by omega) (by omega)).mpr z)
    exact absurd (Or.inl (hz2.mp (by omega)) : tp (P a) = [] ∨ tp (P b) = [] ∨ ¬ m + n ≤ 8) (fun z => z.elim hza (fun z => z.elim hzb (fun z => z hmn)))
  · skip
    rw [← nI_0] at hc
    have hcz : bz = 0 := (nI_eq (by omega) (by omega)).mp hc
    have hna : tp (P a) ≠ [] := fun z => by have := hz2.mpr z; omega
    refine lv_aload hx hb dH_resultant_53 (lv_at hl 2 rfl) ?_
    refine ct_callV (av2 := []) (rest := []) (b := (A (si b))) X hst (c_P_isZero l D Y lo (hP b hb9)) cell_b rfl wc_P_isZero ml_H_102 wi_P_isZero wl_P_isZero wn_P md_P_isZero (by decide) hl.1 rfl (Nat.le_of_ble_eq_true rfl) ⟨by omega, by omega⟩ (fun _ _ h => h.elim) dH_resultant_55 (fun r M' H locs hp hst => ?_)
    obtain ⟨by9, rfl, hy1, hy2, rfl⟩ := hp
    refine lv_if_ne hx hb dH_resultant_58 (tgt := 71) rfl (fun hc => ?_) (fun hc => ?_)
    · skip
      rw [← nI_0] at hc
      have hcy : ¬ by9 = 0 := fun z => hc ((nI_eq (by omega) (by omega)).mpr z)
      exact absurd (Or.inr (Or.inl (hy2.mp (by omega))) : tp (P a) = [] ∨ tp (P b) = [] ∨ ¬ m + n ≤ 8) (fun z => z.elim hza (fun z => z.elim hzb (fun z => z hmn)))
    · skip
      rw [← nI_0] at hc
      have hcy : by9 = 0 := (nI_eq (by omega) (by omega)).mp hc
      have hnb : tp (P b) ≠ [] := fun z => by have := hy2.mpr z; omega
      refine lv_iload hx hb dH_resultant_61 (lv_at hl 1 rfl) ?_
      refine lv_iload hx hb dH_resultant_63 (lv_at hl 0 rfl) ?_
      refine t_iadd hx hb dH_resultant_65 (v := nI (m + n)) (nI_add _ _) ?_
      refine lv_bipush (v := nI 8) hx hb dH_resultant_66 (by decide +kernel) ?_
      refine lv_icmp_le hx hb dH_resultant_68 (tgt := 79) rfl (fun hc => ?_) (fun hc => ?_)
      · skip
        have hcm : (m + n) ≤ 8 := (nI_leI (by omega) (by omega)).mp hc
        refine lv_iconst (v := nI 0) hx hb dH_resultant_79 (by decide +kernel) ?_
        refine lv_istore (lv' := [(9, .int (nI 0)), (8, .int (nI n)), (7, .int (nI m)), (6, .ref (A (si b))), (5, .ref (A (si a))), (0, .ref xa), (1, .int (nI r)), (2, .int (nI a)), (3, .int (nI b)), (4, .int (nI v))]) hx hb dH_resultant_80 hl (by decide) rfl (fun ls hl => ?_)
        have LP : ∀ (kk : Nat) (u : Nat) (H : Heap) (locs : List Loc) (ls : Array Slot), kk = 4 - u → (u ≤ 3) → (∀ y, y < u → y ≠ v → n * dgf (P a) y + m * dgf (P b) y ≤ 12) → hp_st D vC lo M sg.heap H locs → lv_has ls 12 [(0, .ref xa), (1, .int (nI r)), (2, .int (nI a)), (3, .int (nI b)), (4, .int (nI v)), (5, .ref (A (si a))), (6, .ref (A (si b))), (7, .int (nI m)), (8, .int (nI n)), (9, .int (nI u))] → cW pg l eg sg mg [.ref xa, .int (nI r), .int (nI a), .int (nI b), .int (nI v)] bw mt cg y_H_resultant b_H_resultant 12 (some .boolean) 5 D lo (fun r9 M' => r9 = some (.int (nI 0)) ∧ cs Y M' xa A p P cap si (rf + 1) ∧ hp_off (fun i => i < 300) M M') nx 0 0 H locs 0 0 (F0 mg 82 ls []) := by
          intro kk
          induction kk using Nat.strongRecOn with
          | _ kk ihLP =>
          intro u H locs ls hkk hu9 hok hst hl
          refine lv_iload hx hb dH_resultant_82 (lv_at hl 9 rfl) ?_
          refine lv_iconst (v := nI 3) hx hb dH_resultant_84 (by decide +kernel) ?_
          refine lv_icmp_ge hx hb dH_resultant_85 (tgt := 132) rfl (fun hc => ?_) (fun hc => ?_)
          · skip
            have hc7 : 3 ≤ u := (nI_leI (by omega) (by omega)).mp hc
            exact absurd (fun u hu => hok u (by omega)) hdg
          · skip
            have hc7 : ¬ 3 ≤ u := fun z => hc ((nI_leI (by omega) (by omega)).mpr z)
            have hu : u < 3 := by omega
            have d1 := dgl_lt (v := u) (g := 0) (L := tp (P a)) (by omega)
            have d2 := dgl_lt (v := u) (g := 0) (L := tp (P b)) (by omega)
            have d3 : n * dgl u (tp (P a)) 0 ≤ 64 * 64 := Nat.mul_le_mul (by omega) (by omega)
            have d4 : m * dgl u (tp (P b)) 0 ≤ 64 * 64 := Nat.mul_le_mul (by omega) (by omega)
            refine lv_iload hx hb dH_resultant_88 (lv_at hl 9 rfl) ?_
            refine lv_iload hx hb dH_resultant_90 (lv_at hl 4 rfl) ?_
            refine lv_icmp_eq hx hb dH_resultant_92 (tgt := 126) rfl (fun hc => ?_) (fun hc => ?_)
            · skip
              have hcv : u = v := (nI_eq (by omega) (by omega)).mp hc
              refine lv_iinc (lv' := [(9, .int (nI (u + 1))), (0, .ref xa), (1, .int (nI r)), (2, .int (nI a)), (3, .int (nI b)), (4, .int (nI v)), (5, .ref (A (si a))), (6, .ref (A (si b))), (7, .int (nI m)), (8, .int (nI n))]) hx hb dH_resultant_126 hl (k := 9) rfl (ii_p _) (by decide) rfl (fun ls hl => ?_)
              refine lv_goto hx hb dH_resultant_129 (tgt := 82) rfl ?_
              exact ihLP _ (by omega) (u + 1) _ _ _ rfl (by omega) (fun y hy hyv => by
                  by_cases h9 : y = u
                  · subst h9; exact absurd hcv hyv
                  · exact hok y (by omega) hyv) hst (lv_sub hl [1, 2, 3, 4, 5, 6, 7, 8, 9, 0] rfl)
            · skip
              have hcv : ¬ u = v := fun z => hc ((nI_eq (by omega) (by omega)).mpr z)
              refine lv_iload hx hb dH_resultant_95 (lv_at hl 8 rfl) ?_
              refine lv_aload hx hb dH_resultant_97 (lv_at hl 5 rfl) ?_
              refine lv_iload hx hb dH_resultant_99 (lv_at hl 9 rfl) ?_
              refine ct_callV (av2 := [.int (nI u)]) (rest := [.int (nI n)]) (b := (A (si a))) X hst (c_P_degreeIn l D Y lo (hP a ha) hu (fun q hq => (tp_b hpp3 (hPp a ha) q hq).1)) cell_a rfl wc_P_degreeIn ml_H_85 wi_P_degreeIn wl_P_degreeIn wn_P md_P_degreeIn (by decide) hl.1 rfl (Nat.le_of_ble_eq_true rfl) ⟨by omega, by omega⟩ (fun _ _ h => h.elim) dH_resultant_101 (fun r M' H locs hp hst => ?_)
              obtain ⟨rfl, rfl⟩ := hp
              refine t_imul hx hb dH_resultant_104 (v := nI (n * (dgl u (tp (P a)) 0))) (pk_mul _ _) ?_
              refine lv_iload hx hb dH_resultant_105 (lv_at hl 7 rfl) ?_
              refine lv_aload hx hb dH_resultant_107 (lv_at hl 6 rfl) ?_
              refine lv_iload hx hb dH_resultant_109 (lv_at hl 9 rfl) ?_
              refine ct_callV (av2 := [.int (nI u)]) (rest := [.int (nI m), .int (nI (n * (dgl u (tp (P a)) 0)))]) (b := (A (si b))) X hst (c_P_degreeIn l D Y lo (hP b hb9) hu (fun q hq => (tp_b hpp3 (hPp b hb9) q hq).1)) cell_b rfl wc_P_degreeIn ml_H_85 wi_P_degreeIn wl_P_degreeIn wn_P md_P_degreeIn (by decide) hl.1 rfl (Nat.le_of_ble_eq_true rfl) ⟨by omega, by omega⟩ (fun _ _ h => h.elim) dH_resultant_111 (fun r M' H locs hp hst => ?_)
              obtain ⟨rfl, rfl⟩ := hp
              refine t_imul hx hb dH_resultant_114 (v := nI (m * (dgl u (tp (P b)) 0))) (pk_mul _ _) ?_
              refine t_iadd hx hb dH_resultant_115 (v := nI ((n * (dgl u (tp (P a)) 0)) + (m * (dgl u (tp (P b)) 0)))) (nI_add _ _) ?_
              refine lv_bipush (v := nI 12) hx hb dH_resultant_116 (by decide +kernel) ?_
              refine lv_icmp_le hx hb dH_resultant_118 (tgt := 126) rfl (fun hc => ?_) (fun hc => ?_)
              · skip
                have hc8 : ((n * (dgl u (tp (P a)) 0)) + (m * (dgl u (tp (P b)) 0))) ≤ 12 := (nI_leI (by omega) (by omega)).mp hc
                refine lv_iinc (lv' := [(9, .int (nI (u + 1))), (0, .ref xa), (1, .int (nI r)), (2, .int (nI a)), (3, .int (nI b)), (4, .int (nI v)), (5, .ref (A (si a))), (6, .ref (A (si b))), (7, .int (nI m)), (8, .int (nI n))]) hx hb dH_resultant_126 hl (k := 9) rfl (ii_p _) (by decide) rfl (fun ls hl => ?_)
                refine lv_goto hx hb dH_resultant_129 (tgt := 82) rfl ?_
                exact ihLP _ (by omega) (u + 1) _ _ _ rfl (by omega) (fun y hy hyv => by
                    by_cases h9 : y = u
                    · subst h9; exact hc8
                    · exact hok y (by omega) hyv) hst (lv_sub hl [1, 2, 3, 4, 5, 6, 7, 8, 9, 0] rfl)
              · skip
                have hc8 : ¬ ((n * (dgl u (tp (P a)) 0)) + (m * (dgl u (tp (P b)) 0))) ≤ 12 := fun z => hc ((nI_leI (by omega) (by omega)).mpr z)
                refine lv_aload_n hx hb dH_resultant_121 rfl (lv_at hl 0 rfl) ?_
                refine ct_callV (av2 := []) (rest := []) (b := xa) X hst (c_H_refuse l D Y lo hcs0) x0 rfl wc_H_refuse ml_H_88 wi_H_refuse wl_H_refuse wn_H md_H_refuse (by decide) hl.1 rfl (Nat.le_of_ble_eq_true rfl) ⟨by omega, by omega⟩ (fun _ _ h => h.elim) dH_resultant_122 (fun r M' H locs hp hst => ?_)
                obtain ⟨rfl, hcs1, ho1⟩ := hp
                exact ct_zret X hst (by omega) ⟨rfl, hcs1, ho1.wk (fun i hi => by omega)⟩ (by omega) (by omega) dH_resultant_125
        exact LP _ 0 _ _ _ rfl (by omega) (fun y hy => by omega) hst (lv_sub hl [5, 6, 7, 8, 9, 4, 3, 2, 1, 0] rfl)
      · skip
        have hcm : ¬ (m + n) ≤ 8 := fun z => hc ((nI_leI (by omega) (by omega)).mpr z)
        exact absurd (Or.inr (Or.inr hcm) : tp (P a) = [] ∨ tp (P b) = [] ∨ ¬ m + n ≤ 8) (fun z => z.elim hza (fun z => z.elim hzb (fun z => z hmn)))

set_option maxHeartbeats 4000000 in
set_option maxRecDepth 100000 in
theorem x_H_resultant (l : Launch) (D : va_G) (Y : Nat → ClassId) (lo : Nat) (hlt : l.stackTraces = false) {M : Hm} {xa : Nat} {x1 x2 x3 x4 : Int32} (hno : ¬ ((inR x1 ∧ inR x2 ∧ inR x3) ∧ inV x4)) : ct l D Y lo y_H_resultant b_H_resultant 12 (some .boolean) 8 [.ref xa, .int x1, .int x2, .int x3, .int x4] M (fun _ _ => False) (fun E M' => M = M' ∧ (E = EI ∧ ¬ (inR x1 ∧ inR x2 ∧ inR x3) ∨ E = EA ∧ (inR x1 ∧ inR x2 ∧ inR x3))) 4 24 := by
  refine ct_of (by decide) (Nat.le_of_ble_eq_true rfl) ?_
  intro pg eg sg mg bw mt cg ls X hst hl
  have X1 := X
  obtain ⟨hx, hb, hml, hrt, hlocks, hown, hnm, hts, hkz, hex⟩ := X1
  have hG : ∀ w ∈ GW, w.before _ sg = true := fun w h => hts w (List.mem_cons_of_mem _ h)
  have hK := hkz.1
  have hl : lv_has ls 12 [(0, .ref xa), (1, .int x1), (2, .int x2), (3, .int x3), (4, .int x4)] := hl
  refine lv_iload_n hx hb dH_resultant_0 rfl (lv_at hl 1 rfl) ?_
  refine lv_iload_n hx hb dH_resultant_1 rfl (lv_at hl 2 rfl) ?_
  refine lv_iload_n hx hb dH_resultant_2 rfl (lv_at hl 3 rfl) ?_
  refine ct_callS (av2 := [.int x1, .int x2, .int x3]) (rest := []) X hst (x_crs_call hlt x1 x2 x3 M) wc_H_checkRegisters ml_H_73 ws_H_checkRegisters wn_H md_H_checkRegisters (by decide) hl.1 rfl (Nat.le_of_ble_eq_true rfl) ⟨by omega, by omega⟩ (fun E M1 h => ⟨h.2.1, Or.inl ⟨h.1, h.2.2⟩⟩) dH_resultant_3 (fun r M' H locs hp hst => ?_)
  obtain ⟨rfl, rfl, h1⟩ := hp
  refine lv_iload hx hb dH_resultant_6 (lv_at hl 4 rfl) ?_
  refine ct_callS (av2 := [.int x4]) (rest := []) X hst (x_cv_call hlt x4 M) wc_H_checkVariable ml_H_58 ws_H_checkVariable wn_H md_H_checkVariable (by decide) hl.1 rfl (Nat.le_of_ble_eq_true rfl) ⟨by omega, by omega⟩ (fun E M1 h => ⟨h.2.1, Or.inr ⟨h.1, h1⟩⟩) dH_resultant_8 (fun r M' H locs hp hst => ?_)
  obtain ⟨rfl, rfl, h3⟩ := hp
  exact absurd ⟨h1, h3⟩ hno

set_option maxHeartbeats 4000000 in
set_option maxRecDepth 100000 in
theorem x_H_resultant_z (l : Launch) (D : va_G) (Y : Nat → ClassId) (lo : Nat) (hlt : l.stackTraces = false) {M : Hm} {xa p rf : Nat} {A cap si : Nat → Nat} {P : Nat → Pf} (hcs : cs Y M xa A p P cap si rf) {r a b v m n : Nat} (hr : r < 12) (ha : a < 12) (hb9 : b < 12) (hv : v < 3) (hm : m = dgf (P a) v) (hn : n = dgf (P b) v) (hno : tp (P a) = [] ∨ tp (P b) = [] ∨ ¬ m + n ≤ 8) : ct l D Y lo y_H_resultant b_H_resultant 12 (some .boolean) 7 [.ref xa, .int (nI r), .int (nI a), .int (nI b), .int (nI v)] M (fun _ _ => False) (fun E M' => E = EA ∧ M = M') 1 6 := by
  refine ct_of (by decide) (Nat.le_of_ble_eq_true rfl) ?_
  intro pg eg sg mg bw mt cg ls X hst hl
  have X1 := X
  obtain ⟨hx, hb, hml, hrt, hlocks, hown, hnm, hts, hkz, hex⟩ := X1
  have hG : ∀ w ∈ GW, w.before _ sg = true := fun w h => hts w (List.mem_cons_of_mem _ h)
  have hK := hkz.1
  have hl : lv_has ls 12 [(0, .ref xa), (1, .int (nI r)), (2, .int (nI a)), (3, .int (nI b)), (4, .int (nI v))] := hl
  have hcs0 := hcs
  obtain ⟨x0, ⟨gr, x1, hgr⟩, ⟨gn, x2, hgn⟩, ⟨hf, hpr⟩, hs, ⟨gw, ht⟩, ⟨hs1, hs2⟩, hP, ⟨LS, hS⟩, hN, hc1, hc2, hPp⟩ := hcs
  have hpp := hf.2.1
  have hpp3 := hf.2.2
  have hf0 := hf.1
  refine lv_iload_n hx hb dH_resultant_0 rfl (lv_at hl 1 rfl) ?_
  refine lv_iload_n hx hb dH_resultant_1 rfl (lv_at hl 2 rfl) ?_
  refine lv_iload_n hx hb dH_resultant_2 rfl (lv_at hl 3 rfl) ?_
  refine ct_callS (av2 := [.int (nI r), .int (nI a), .int (nI b)]) (rest := []) X hst (c_H_checkRegisters l D Y lo hr ha hb9) wc_H_checkRegisters ml_H_73 ws_H_checkRegisters wn_H md_H_checkRegisters (by decide) hl.1 rfl (Nat.le_of_ble_eq_true rfl) ⟨by omega, by omega⟩ (fun _ _ h => h.elim) dH_resultant_3 (fun r M' H locs hp hst => ?_)
  obtain ⟨rfl, rfl⟩ := hp
  refine lv_iload hx hb dH_resultant_6 (lv_at hl 4 rfl) ?_
  refine ct_callS (av2 := [.int (nI v)]) (rest := []) X hst (c_H_checkVariable l D Y lo hv) wc_H_checkVariable ml_H_58 ws_H_checkVariable wn_H md_H_checkVariable (by decide) hl.1 rfl (Nat.le_of_ble_eq_true rfl) ⟨by omega, by omega⟩ (fun _ _ h => h.elim) dH_resultant_8 (fun r M' H locs hp hst => ?_)
  obtain ⟨rfl, rfl⟩ := hp
  have hs_r := hs1 r (by omega)
  have hs_a := hs1 a (by omega)
  have hs_b := hs1 b (by omega)
  have hs_12 := hs1 12 (by omega)
  obtain ⟨fs_a, cell_a⟩ := (hP a ha).cell
  obtain ⟨fs_b, cell_b⟩ := (hP b hb9).cell
  refine lv_aload_n hx hb dH_resultant_11 rfl (lv_at hl 0 rfl) ?_
  refine hp_get hx hb hG in_H hown hK hst x0 rfl 3 (by decide) (hG _ fl_H_11) rfl rfl dH_resultant_12 ?_
  refine lv_iload_n hx hb dH_resultant_15 rfl (lv_at hl 2 rfl) ?_
  refine hp_aald hx hb hK rfl hst x1 (j := a) (v := (A (si a))) (by omega) (by omega) (hgr a ha) dH_resultant_16 ?_
  refine lv_astore (lv' := [(5, .ref (A (si a))), (0, .ref xa), (1, .int (nI r)), (2, .int (nI a)), (3, .int (nI b)), (4, .int (nI v))]) hx hb dH_resultant_17 hl (by decide) rfl (fun ls hl => ?_)
  refine lv_aload_n hx hb dH_resultant_19 rfl (lv_at hl 1 rfl) ?_
  refine hp_get hx hb hG in_H hown hK hst x0 rfl 3 (by decide) (hG _ fl_H_11) rfl rfl dH_resultant_20 ?_
  refine lv_iload_n hx hb dH_resultant_23 rfl (lv_at hl 4 rfl) ?_
  refine hp_aald hx hb hK rfl hst x1 (j := b) (v := (A (si b))) (by omega) (by omega) (hgr b hb9) dH_resultant_24 ?_
  have dm := dgl_lt (v := v) (g := 0) (L := tp (P a)) (by omega)
  have dn9 := dgl_lt (v := v) (g := 0) (L := tp (P b)) (by omega)
  refine lv_astore (lv' := [(6, .ref (A (si b))), (5, .ref (A (si a))), (0, .ref xa), (1, .int (nI r)), (2, .int (nI a)), (3, .int (nI b)), (4, .int (nI v))]) hx hb dH_resultant_25 hl (by decide) rfl (fun ls hl => ?_)
  refine lv_aload hx hb dH_resultant_27 (lv_at hl 1 rfl) ?_
  refine lv_iload hx hb dH_resultant_29 (lv_at hl 6 rfl) ?_
  refine ct_callV (av2 := [.int (nI v)]) (rest := []) (b := (A (si a))) X hst (c_P_degreeIn l D Y lo (hP a ha) hv (fun q hq => (tp_b hpp3 (hPp a ha) q hq).1)) cell_a rfl wc_P_degreeIn ml_H_85 wi_P_degreeIn wl_P_degreeIn wn_P md_P_degreeIn (by decide) hl.1 rfl (Nat.le_of_ble_eq_true rfl) ⟨by omega, by omega⟩ (fun _ _ h => h.elim) dH_resultant_31 (fun r M' H locs hp hst => ?_)
  obtain ⟨rfl, rfl⟩ := hp
  refine tp_n (e2 := m) hm.symm ?_
  refine lv_istore (lv' := [(7, .int (nI m)), (6, .ref (A (si b))), (5, .ref (A (si a))), (0, .ref xa), (1, .int (nI r)), (2, .int (nI a)), (3, .int (nI b)), (4, .int (nI v))]) hx hb dH_resultant_34 hl (by decide) rfl (fun ls hl => ?_)
  refine lv_aload hx hb dH_resultant_36 (lv_at hl 1 rfl) ?_
  refine lv_iload hx hb dH_resultant_38 (lv_at hl 7 rfl) ?_
  refine ct_callV (av2 := [.int (nI v)]) (rest := []) (b := (A (si b))) X hst (c_P_degreeIn l D Y lo (hP b hb9) hv (fun q hq => (tp_b hpp3 (hPp b hb9) q hq).1)) cell_b rfl wc_P_degreeIn ml_H_85 wi_P_degreeIn wl_P_degreeIn wn_P md_P_degreeIn (by decide) hl.1 rfl (Nat.le_of_ble_eq_true rfl) ⟨by omega, by omega⟩ (fun _ _ h => h.elim) dH_resultant_40 (fun r M' H locs hp hst => ?_)
  obtain ⟨rfl, rfl⟩ := hp
  refine tp_n (e2 := n) hn.symm ?_
  have dm : m < 64 := by rw [hm]; exact dm
  have dn9 : n < 64 := by rw [hn]; exact dn9
  refine lv_istore (lv' := [(8, .int (nI n)), (7, .int (nI m)), (6, .ref (A (si b))), (5, .ref (A (si a))), (0, .ref xa), (1, .int (nI r)), (2, .int (nI a)), (3, .int (nI b)), (4, .int (nI v))]) hx hb dH_resultant_43 hl (by decide) rfl (fun ls hl => ?_)
  refine lv_aload hx hb dH_resultant_45 (lv_at hl 3 rfl) ?_
  refine ct_callV (av2 := []) (rest := []) (b := (A (si a))) X hst (c_P_isZero l D Y lo (hP a ha)) cell_a rfl wc_P_isZero ml_H_102 wi_P_isZero wl_P_isZero wn_P md_P_isZero (by decide) hl.1 rfl (Nat.le_of_ble_eq_true rfl) ⟨by omega, by omega⟩ (fun _ _ h => h.elim) dH_resultant_47 (fun r M' H locs hp hst => ?_)
  obtain ⟨bz, rfl, hz1, hz2, rfl⟩ := hp
  refine lv_if_ne hx hb dH_resultant_50 (tgt := 71) rfl (fun hc => ?_) (fun hc => ?_)
  · skip
    rw [← nI_0] at hc
    have hcz : ¬ bz = 0 := fun z => hc ((nI_eq (by omega) (by omega)).mpr z)
    exact ct_throw (cls := EA) (ik := 96) (ic := 98) X hst hlt rfl (by decide +kernel) cl_H_96 wn_IllegalArgumentException at_A gd_A hl.1 (by decide) (Nat.le_of_ble_eq_true rfl) (by omega) (by omega) ⟨rfl, rfl⟩ dH_resultant_71 dH_resultant_74 dH_resultant_75 dH_resultant_78
  · skip
    rw [← nI_0] at hc
    have hcz : bz = 0 := (nI_eq (by omega) (by omega)).mp hc
    have hna : tp (P a) ≠ [] := fun z => by have := hz2.mpr z; omega
    refine lv_aload hx hb dH_resultant_53 (lv_at hl 2 rfl) ?_
    refine ct_callV (av2 := []) (rest := []) (b := (A (si b))) X hst (c_P_isZero l D Y lo (hP b hb9)) cell_b rfl wc_P_isZero ml_H_102 wi_P_isZero wl_P_isZero wn_P md_P_isZero (by decide) hl.1 rfl (Nat.le_of_ble_eq_true rfl) ⟨by omega, by omega⟩ (fun _ _ h => h.elim) dH_resultant_55 (fun r M' H locs hp hst => ?_)
    obtain ⟨by9, rfl, hy1, hy2, rfl⟩ := hp
    refine lv_if_ne hx hb dH_resultant_58 (tgt := 71) rfl (fun hc => ?_) (fun hc => ?_)
    · skip
      rw [← nI_0] at hc
      have hcy : ¬ by9 = 0 := fun z => hc ((nI_eq (by omega) (by omega)).mpr z)
      exact ct_throw (cls := EA) (ik := 96) (ic := 98) X hst hlt rfl (by decide +kernel) cl_H_96 wn_IllegalArgumentException at_A gd_A hl.1 (by decide) (Nat.le_of_ble_eq_true rfl) (by omega) (by omega) ⟨rfl, rfl⟩ dH_resultant_71 dH_resultant_74 dH_resultant_75 dH_resultant_78
    · skip
      rw [← nI_0] at hc
      have hcy : by9 = 0 := (nI_eq (by omega) (by omega)).mp hc
      have hnb : tp (P b) ≠ [] := fun z => by have := hy2.mpr z; omega
      refine lv_iload hx hb dH_resultant_61 (lv_at hl 1 rfl) ?_
      refine lv_iload hx hb dH_resultant_63 (lv_at hl 0 rfl) ?_
      refine t_iadd hx hb dH_resultant_65 (v := nI (m + n)) (nI_add _ _) ?_
      refine lv_bipush (v := nI 8) hx hb dH_resultant_66 (by decide +kernel) ?_
      refine lv_icmp_le hx hb dH_resultant_68 (tgt := 79) rfl (fun hc => ?_) (fun hc => ?_)
      · skip
        have hcm : (m + n) ≤ 8 := (nI_leI (by omega) (by omega)).mp hc
        exact absurd hno (fun z => z.elim hna (fun z => z.elim hnb (fun z => z hcm)))
      · skip
        have hcm : ¬ (m + n) ≤ 8 := fun z => hc ((nI_leI (by omega) (by omega)).mpr z)
        exact ct_throw (cls := EA) (ik := 96) (ic := 98) X hst hlt rfl (by decide +kernel) cl_H_96 wn_IllegalArgumentException at_A gd_A hl.1 (by decide) (Nat.le_of_ble_eq_true rfl) (by omega) (by omega) ⟨rfl, rfl⟩ dH_resultant_71 dH_resultant_74 dH_resultant_75 dH_resultant_78
