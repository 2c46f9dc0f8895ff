/-! The face: derive, divide. -/
set_option maxHeartbeats 4000000 in
set_option maxRecDepth 100000 in
theorem c_H_derive (l : Launch) (D : va_G) (Y : Nat → ClassId) (lo : Nat) {M : Hm} {xa p rf : Nat} {A cap si : Nat → Nat} {P : Nat → Pf} (hcs : cs Y M xa A p P cap si rf) {r a v : Nat} (hr : r < 12) (ha : a < 12) (hv : v < 3) : ct l D Y lo y_H_derive b_H_derive 8 none 3 [.ref xa, .int (nI r), .int (nI a), .int (nI v)] M (fun r9 M' => r9 = none ∧ cs Y M' xa A p (va_up P r (lsP (der p v (tp (P a))))) (va_up cap (si 12) (gcn (cap (si 12)) 0 (der p v (tp (P a))).length)) (sw si r) rf ∧ hp_off (fun i => i < 300) M M') nx (gcn (cap (si 12)) 0 (der p v (tp (P a))).length - cap (si 12)) (4 * (gcn (cap (si 12)) 0 (der p v (tp (P a))).length - cap (si 12))) := by
  refine ct_of (by decide) (Nat.le_of_ble_eq_true rfl) ?_
  intro pg eg sg mg bw mt cg ls X hst hl
  have X1 := X
  obtain ⟨hx, hb, hml, hrt, hlocks, hown, hnm, hts, hkz, hex⟩ := X1
  have hG : ∀ w ∈ GW, w.before _ sg = true := fun w h => hts w (List.mem_cons_of_mem _ h)
  have hK := hkz.1
  have hl : lv_has ls 8 [(0, .ref xa), (1, .int (nI r)), (2, .int (nI a)), (3, .int (nI v))] := hl
  have hcs0 := hcs
  obtain ⟨x0, ⟨gr, x1, hgr⟩, ⟨gn, x2, hgn⟩, ⟨hf, hpr⟩, hs, ⟨gw, ht⟩, ⟨hs1, hs2⟩, hP, ⟨LS, hS⟩, hN, hc1, hc2, hPp⟩ := hcs
  have hpp := hf.2.1
  have hpp3 := hf.2.2
  have hf0 := hf.1
  refine lv_iload_n hx hb dH_derive_0 rfl (lv_at hl 1 rfl) ?_
  refine ct_callS (av2 := [.int (nI r)]) (rest := []) X hst (c_H_checkRegister l D Y lo hr) wc_H_checkRegister ml_H_48 ws_H_checkRegister wn_H md_H_checkRegister (by decide) hl.1 rfl (Nat.le_of_ble_eq_true rfl) ⟨by omega, by omega⟩ (fun _ _ h => h.elim) dH_derive_1 (fun r M' H locs hp hst => ?_)
  obtain ⟨rfl, rfl⟩ := hp
  refine lv_iload_n hx hb dH_derive_4 rfl (lv_at hl 2 rfl) ?_
  refine ct_callS (av2 := [.int (nI a)]) (rest := []) X hst (c_H_checkRegister l D Y lo ha) wc_H_checkRegister ml_H_48 ws_H_checkRegister wn_H md_H_checkRegister (by decide) hl.1 rfl (Nat.le_of_ble_eq_true rfl) ⟨by omega, by omega⟩ (fun _ _ h => h.elim) dH_derive_5 (fun r M' H locs hp hst => ?_)
  obtain ⟨rfl, rfl⟩ := hp
  refine lv_iload_n hx hb dH_derive_8 rfl (lv_at hl 3 rfl) ?_
  refine ct_callS (av2 := [.int (nI v)]) (rest := []) X hst (c_H_checkVariable l D Y lo hv) wc_H_checkVariable ml_H_58 ws_H_checkVariable wn_H md_H_checkVariable (by decide) hl.1 rfl (Nat.le_of_ble_eq_true rfl) ⟨by omega, by omega⟩ (fun _ _ h => h.elim) dH_derive_9 (fun r M' H locs hp hst => ?_)
  obtain ⟨rfl, rfl⟩ := hp
  have hs_r := hs1 r (by omega)
  have hs_a := hs1 a (by omega)
  have hs_12 := hs1 12 (by omega)
  have hne : si a ≠ si 12 := fun z => by have := hs2 a 12 (by omega) (by omega) z; omega
  have hc18 := hc1 12 (by omega)
  have hdl := der_len (p := p) (v := v) (tp (P a))
  have htl : (tp (P a)).length ≤ 9139 := td_len _ _
  refine lv_aload_n hx hb dH_derive_12 rfl (lv_at hl 0 rfl) ?_
  refine hp_get hx hb hG in_H hown hK hst x0 rfl 3 (by decide) (hG _ fl_H_11) rfl rfl dH_derive_13 ?_
  refine lv_iload_n hx hb dH_derive_16 rfl (lv_at hl 2 rfl) ?_
  refine hp_aald hx hb hK rfl hst x1 (j := a) (v := (A (si a))) (by omega) (by omega) (hgr a ha) dH_derive_17 ?_
  refine lv_astore (lv' := [(4, .ref (A (si a))), (0, .ref xa), (1, .int (nI r)), (2, .int (nI a)), (3, .int (nI v))]) hx hb dH_derive_18 hl (by decide) rfl (fun ls hl => ?_)
  refine lv_aload_n hx hb dH_derive_20 rfl (lv_at hl 1 rfl) ?_
  refine hp_get hx hb hG in_H hown hK hst x0 rfl 5 (by decide) (hG _ fl_H_44) rfl rfl dH_derive_21 ?_
  obtain ⟨fs12, cell12⟩ := hS.cell
  refine ct_callV (av2 := []) (rest := []) (b := (A (si 12))) X hst (c_P_clear l D Y lo hS) cell12 rfl wc_P_clear ml_H_61 wi_P_clear wl_P_clear wn_P md_P_clear (by decide) hl.1 rfl (Nat.le_of_ble_eq_true rfl) ⟨by omega, by omega⟩ (fun _ _ h => h.elim) dH_derive_24 (fun r M' H locs hp hst => ?_)
  obtain ⟨rfl, hp1, ho1⟩ := hp
  refine lv_iconst (v := nI 0) hx hb dH_derive_27 (by decide +kernel) ?_
  refine lv_istore (lv' := [(5, .int (nI 0)), (4, .ref (A (si a))), (0, .ref xa), (1, .int (nI r)), (2, .int (nI a)), (3, .int (nI v))]) hx hb dH_derive_28 hl (by decide) rfl (fun ls hl => ?_)
  refine W.widen (k := cap (si 12) - cap (si 12)) (n := 4 * (cap (si 12) - cap (si 12))) (by omega) (by omega) ?_
  have LP : ∀ (kk : Nat) (i : Nat) (B : List (Nat × Nat)) (cap1 : Nat) (M1 : Hm) (H : Heap) (locs : List Loc) (ls : Array Slot), kk = (tp (P a)).length - i → (i ≤ (tp (P a)).length) → (po Y M1 (si 12) (A (si 12)) cap1 B) → (B ++ der p v ((tp (P a)).drop i) = der p v (tp (P a))) → (gcn cap1 B.length (der p v ((tp (P a)).drop i)).length = gcn (cap (si 12)) 0 (der p v (tp (P a))).length) → (hp_off (fun j => j = si 12) M M1) → (cap (si 12) ≤ cap1) → hp_st D vC lo M1 sg.heap H locs → lv_has ls 8 [(0, .ref xa), (1, .int (nI r)), (2, .int (nI a)), (3, .int (nI v)), (4, .ref (A (si a))), (5, .int (nI i))] → cW pg l eg sg mg [.ref xa, .int (nI r), .int (nI a), .int (nI v)] bw mt cg y_H_derive b_H_derive 8 none 3 D lo (fun r9 M' => r9 = none ∧ cs Y M' xa A p (va_up P r (lsP (der p v (tp (P a))))) (va_up cap (si 12) (gcn (cap (si 12)) 0 (der p v (tp (P a))).length)) (sw si r) rf ∧ hp_off (fun i => i < 300) M M') nx (gcn (cap (si 12)) 0 (der p v (tp (P a))).length - cap (si 12)) (4 * (gcn (cap (si 12)) 0 (der p v (tp (P a))).length - cap (si 12))) H locs (cap1 - cap (si 12)) (4 * (cap1 - cap (si 12))) (F0 mg 30 ls []) := by
    intro kk
    induction kk using Nat.strongRecOn with
    | _ kk ihLP =>
    intro i B cap1 M1 H locs ls hkk hi9 hsp hA hg ho hge hst hl
    have x0a := ho.of x0 (by omega)
    have hfa := hf.off ho (by omega)
    have hf0a := hfa.1
    have hPa := (hP a ha).off ho (by omega)
    obtain ⟨a9, b9, fa9, fb9, h09, h19, h29, hL9, hn9, hc19, hc29⟩ := hPa
    have hcl := gcn_ge (der p v ((tp (P a)).drop i)).length cap1 B.length
    have hlen := congrArg List.length hA
    rw [List.length_append] at hlen
    have hc9 : cap1 ≤ 18278 := by
      have h9 := gcn_le (der p v (tp (P a))).length (cap (si 12)) 0 18278 hc18 (by omega)
      omega
    refine lv_iload hx hb dH_derive_30 (lv_at hl 5 rfl) ?_
    refine lv_aload hx hb dH_derive_32 (lv_at hl 4 rfl) ?_
    refine hp_get hx hb hG in_P hown hK hst h09 rfl 2 (by decide) (hG _ fl_H_109) rfl rfl dH_derive_34 ?_
    refine lv_icmp_ge hx hb dH_derive_37 (tgt := 107) rfl (fun hc => ?_) (fun hc => ?_)
    · skip
      have hc5 : ((tp (P a)).length) ≤ i := (nI_leI (by omega) (by omega)).mp hc
      rw [List.drop_eq_nil_of_le (by omega)] at hA hg
      have hAe : B = der p v (tp (P a)) := by rw [← hA]; exact (List.append_nil B).symm
      have hce : cap1 = gcn (cap (si 12)) 0 (der p v (tp (P a))).length := hg
      have hbl := der_bl (p := p) hpr hv (bl_td (g := P a) (n := 9139) (Nat.le_refl _)) (Nat.le_refl _) (fun q hq => by rw [(tp_mem hq).2.1]; exact hPp a ha _)
      rw [hAe, ← tp_ls hbl] at hsp
      rw [hce] at hsp
      have hcsS := hcs0.spr (ho.wk (fun j hj => Or.inr hj)) (hs.off ho (by omega)) hsp (by omega)
      have hsp9 : po Y M1 (si 12) (A (si 12)) (va_up cap (si 12) (gcn (cap (si 12)) 0 (der p v (tp (P a))).length) (si 12)) (tp (lsP (der p v (tp (P a))))) := by rw [va_up_self]; exact hsp
      refine lv_aload_n hx hb dH_derive_107 rfl (lv_at hl 0 rfl) ?_
      refine lv_iload_n hx hb dH_derive_108 rfl (lv_at hl 1 rfl) ?_
      refine ct_callV (av2 := [.int (nI r)]) (rest := []) (b := xa) X hst (c_H_exchangeSpare l D Y lo hcsS hr hsp9 (fun m => cS_lt (by omega) hbl (der_lt (by omega)))) x0a rfl wc_H_exchangeSpare ml_H_99 wi_H_exchangeSpare wl_H_exchangeSpare wn_H md_H_exchangeSpare (by decide) hl.1 rfl (Nat.le_of_ble_eq_true rfl) ⟨by omega, by omega⟩ (fun _ _ h => h.elim) dH_derive_109 (fun r M' H locs hp hst => ?_)
      obtain ⟨rfl, hcsT, hoT⟩ := hp
      exact ct_vret X hst ⟨rfl, hcsT, (ho.wk (fun i hi => by omega : ∀ j, j = si 12 → j < 300)).tr (hoT.wk (fun i hi => by omega))⟩ (by omega) (by omega) dH_derive_112
    · skip
      have hc5 : ¬ ((tp (P a)).length) ≤ i := fun z => hc ((nI_leI (by omega) (by omega)).mpr z)
      obtain ⟨q, hq1, hq2, hq3⟩ := dr_cons (L := tp (P a)) (i := i) (by omega)
      obtain ⟨i1, i2⟩ := hL9 i q hq1
      obtain ⟨m1, m2, m3⟩ := tp_mem hq2
      have m4 := mv_lt m1
      have hxl := xe_lt q.1 v
      have hqp : q.2 < p := by rw [m2]; exact hPp a ha _
      have hmod := Nat.mod_lt (xe q.1 v) (show 0 < p by omega)
      rw [hq3] at hA hg hcl
      refine lv_aload hx hb dH_derive_40 (lv_at hl 4 rfl) ?_
      refine hp_get hx hb hG in_P hown hK hst h09 rfl 0 (by decide) (hG _ fl_H_113) rfl rfl dH_derive_42 ?_
      refine lv_iload hx hb dH_derive_45 (lv_at hl 5 rfl) ?_
      refine hp_iald hx hb hK rfl hst h19 (j := i) (by omega) (by omega) dH_derive_47 ?_
      refine tp_n (e2 := q.1) i1 ?_
      refine lv_istore (lv' := [(6, .int (nI q.1)), (0, .ref xa), (1, .int (nI r)), (2, .int (nI a)), (3, .int (nI v)), (4, .ref (A (si a))), (5, .int (nI i))]) hx hb dH_derive_48 hl (by decide) rfl (fun ls hl => ?_)
      refine lv_aload_n hx hb dH_derive_50 rfl (lv_at hl 1 rfl) ?_
      refine hp_get hx hb hG in_H hown hK hst x0a rfl 0 (by decide) (hG _ fl_H_23) rfl rfl dH_derive_51 ?_
      refine lv_iload hx hb dH_derive_54 (lv_at hl 0 rfl) ?_
      refine lv_iload_n hx hb dH_derive_56 rfl (lv_at hl 4 rfl) ?_
      refine ct_callS (av2 := [.int (nI q.1), .int (nI v)]) (rest := [.ref (A 0)]) X hst (c_Q_exponent l D Y lo (k := q.1) (v := v) (by omega) hv) wc_Q_exponent ml_H_117 ws_Q_exponent wn_Q md_Q_exponent (by decide) hl.1 rfl (Nat.le_of_ble_eq_true rfl) ⟨by omega, by omega⟩ (fun _ _ h => h.elim) dH_derive_57 (fun r M' H locs hp hst => ?_)
      obtain ⟨rfl, rfl⟩ := hp
      refine ct_callV (av2 := [.int (nI (xe q.1 v))]) (rest := []) (b := (A 0)) X hst (c_F_reduced l D Y lo (nI (xe q.1 v)) hfa) hf0a rfl wc_F_reduced ml_H_51 wi_F_reduced wl_F_reduced wn_F md_F_reduced (by decide) hl.1 rfl (Nat.le_of_ble_eq_true rfl) ⟨by omega, by omega⟩ (fun _ _ h => h.elim) dH_derive_60 (fun r M' H locs hp hst => ?_)
      obtain ⟨rfl, rfl⟩ := hp
      refine tp_n (e2 := xe q.1 v % p) (rd_nI (by omega)) ?_
      refine lv_istore (lv' := [(7, .int (nI (xe q.1 v % p))), (6, .int (nI q.1)), (0, .ref xa), (1, .int (nI r)), (2, .int (nI a)), (3, .int (nI v)), (4, .ref (A (si a))), (5, .int (nI i))]) hx hb dH_derive_63 hl (by decide) rfl (fun ls hl => ?_)
      refine lv_iload hx hb dH_derive_65 (lv_at hl 0 rfl) ?_
      refine lv_if_eq hx hb dH_derive_67 (tgt := 101) rfl (fun hc => ?_) (fun hc => ?_)
      · skip
        rw [← nI_0] at hc
        have hc6 : (xe q.1 v % p) = 0 := (nI_eq (by omega) (by omega)).mp hc
        rw [der_n hc6] at hA hg
        refine lv_iinc (lv' := [(5, .int (nI (i + 1))), (7, .int (nI (xe q.1 v % p))), (6, .int (nI q.1)), (0, .ref xa), (1, .int (nI r)), (2, .int (nI a)), (3, .int (nI v)), (4, .ref (A (si a)))]) hx hb dH_derive_101 hl (k := 7) rfl (ii_p _) (by decide) rfl (fun ls hl => ?_)
        refine lv_goto hx hb dH_derive_104 (tgt := 30) rfl ?_
        exact ihLP _ (by omega) (i + 1) B cap1 M1 _ _ _ rfl (by omega) hsp hA hg ho hge hst (lv_sub hl [3, 4, 5, 6, 7, 0] rfl)
      · skip
        rw [← nI_0] at hc
        have hc6 : ¬ (xe q.1 v % p) = 0 := fun z => hc ((nI_eq (by omega) (by omega)).mpr z)
        rw [der_y hc6] at hA hg hcl
        obtain ⟨sv1, sv2⟩ := sv_mv m1 hv (fun z => hc6 (by rw [z, Nat.zero_mod]))
        have hg : gcn (gc1 B.length cap1) (B.length + 1) (der p v ((tp (P a)).drop (i + 1))).length = gcn (cap (si 12)) 0 (der p v (tp (P a))).length := hg
        have hcl2 := gcn_ge (der p v ((tp (P a)).drop (i + 1))).length (gc1 B.length cap1) (B.length + 1)
        have hcl3 := gc1_ge B.length cap1
        refine lv_aload_n hx hb dH_derive_70 rfl (lv_at hl 2 rfl) ?_
        refine hp_get hx hb hG in_H hown hK hst x0a rfl 5 (by decide) (hG _ fl_H_44) rfl rfl dH_derive_71 ?_
        refine lv_iload hx hb dH_derive_74 (lv_at hl 1 rfl) ?_
        refine lv_iload_n hx hb dH_derive_76 rfl (lv_at hl 5 rfl) ?_
        refine ct_callS (av2 := [.int (nI v)]) (rest := [.int (nI q.1), .ref (A (si 12))]) X hst (c_Q_ofVariable l D Y lo (v := v) hv) wc_Q_ofVariable ml_H_64 ws_Q_ofVariable wn_Q md_Q_ofVariable (by decide) hl.1 rfl (Nat.le_of_ble_eq_true rfl) ⟨by omega, by omega⟩ (fun _ _ h => h.elim) dH_derive_77 (fun r M' H locs hp hst => ?_)
        obtain ⟨rfl, rfl⟩ := hp
        refine t_isub hx hb dH_derive_80 (v := nI (q.1 - (vv v))) (pk_sub (by omega)) ?_
        refine lv_aload_n hx hb dH_derive_81 rfl (lv_at hl 2 rfl) ?_
        refine hp_get hx hb hG in_H hown hK hst x0a rfl 0 (by decide) (hG _ fl_H_23) rfl rfl dH_derive_82 ?_
        refine lv_iload hx hb dH_derive_85 (lv_at hl 0 rfl) ?_
        refine lv_aload hx hb dH_derive_87 (lv_at hl 6 rfl) ?_
        refine hp_get hx hb hG in_P hown hK hst h09 rfl 1 (by decide) (hG _ fl_H_121) rfl rfl dH_derive_89 ?_
        refine lv_iload hx hb dH_derive_92 (lv_at hl 7 rfl) ?_
        refine hp_iald hx hb hK rfl hst h29 (j := i) (by omega) (by omega) dH_derive_94 ?_
        refine tp_n (e2 := q.2) i2 ?_
        refine ct_callV (av2 := [.int (nI (xe q.1 v % p)), .int (nI q.2)]) (rest := [.int (nI (q.1 - (vv v))), .ref (A (si 12))]) (b := (A 0)) X hst (c_F_product l D Y lo hfa hmod hqp) hf0a rfl wc_F_product ml_H_124 wi_F_product wl_F_product wn_F md_F_product (by decide) hl.1 rfl (Nat.le_of_ble_eq_true rfl) ⟨by omega, by omega⟩ (fun _ _ h => h.elim) dH_derive_95 (fun r M' H locs hp hst => ?_)
        obtain ⟨rfl, rfl⟩ := hp
        obtain ⟨fs7, cell7⟩ := hsp.cell
        refine ct_callV (av2 := [.int (nI (q.1 - (vv v))), .int (nI (xe q.1 v % p * q.2 % p))]) (rest := []) (b := (A (si 12))) X hst (c_P_append l D Y lo hsp (mo := q.1 - vv v) (co := xe q.1 v % p * q.2 % p) (by omega)) cell7 rfl wc_P_append ml_H_69 wi_P_append wl_P_append wn_P md_P_append (by decide) hl.1 rfl (Nat.le_of_ble_eq_true rfl) ⟨by omega, by omega⟩ (fun _ _ h => h.elim) dH_derive_98 (fun r M' H locs hp hst => ?_)
        obtain ⟨rfl, hp3, ho4⟩ := hp
        refine W.widen (k := gc1 B.length cap1 - cap (si 12)) (n := 4 * (gc1 B.length cap1 - cap (si 12))) (by omega) (by omega) ?_
        refine lv_iinc (lv' := [(5, .int (nI (i + 1))), (7, .int (nI (xe q.1 v % p))), (6, .int (nI q.1)), (0, .ref xa), (1, .int (nI r)), (2, .int (nI a)), (3, .int (nI v)), (4, .ref (A (si a)))]) hx hb dH_derive_101 hl (k := 7) rfl (ii_p _) (by decide) rfl (fun ls hl => ?_)
        refine lv_goto hx hb dH_derive_104 (tgt := 30) rfl ?_
        exact ihLP _ (by omega) (i + 1) (B ++ [(q.1 - vv v, xe q.1 v % p * q.2 % p)]) (gc1 B.length cap1) M' _ _ _ rfl (by omega) hp3 (by rw [List.append_assoc]; exact hA) (by rw [List.length_append]; exact hg) (ho.tr ho4) (by omega) hst (lv_sub hl [3, 4, 5, 6, 7, 0] rfl)
  exact LP _ 0 ([]) (cap (si 12)) M' _ _ _ rfl (by omega) hp1 rfl rfl ho1 (Nat.le_refl _) hst (lv_sub hl [2, 3, 4, 5, 1, 0] rfl)

set_option maxHeartbeats 4000000 in
set_option maxRecDepth 100000 in
theorem x_H_derive (l : Launch) (D : va_G) (Y : Nat → ClassId) (lo : Nat) (hlt : l.stackTraces = false) {M : Hm} {xa : Nat} {x1 x2 x3 : Int32} (hno : ¬ ((inR x1 ∧ inR x2) ∧ inV x3)) : ct l D Y lo y_H_derive b_H_derive 8 none 7 [.ref xa, .int x1, .int x2, .int x3] M (fun _ _ => False) (fun E M' => M = M' ∧ (E = EI ∧ ¬ (inR x1 ∧ inR x2) ∨ E = EA ∧ (inR x1 ∧ inR x2))) 3 18 := by
  refine ct_of (by decide) (Nat.le_of_ble_eq_true rfl) ?_
  intro pg eg sg mg bw mt cg ls X hst hl
  have X1 := X
  obtain ⟨hx, hb, hml, hrt, hlocks, hown, hnm, hts, hkz, hex⟩ := X1
  have hG : ∀ w ∈ GW, w.before _ sg = true := fun w h => hts w (List.mem_cons_of_mem _ h)
  have hK := hkz.1
  have hl : lv_has ls 8 [(0, .ref xa), (1, .int x1), (2, .int x2), (3, .int x3)] := hl
  refine lv_iload_n hx hb dH_derive_0 rfl (lv_at hl 1 rfl) ?_
  refine ct_callS (av2 := [.int x1]) (rest := []) X hst (x_cr_call hlt x1 M) wc_H_checkRegister ml_H_48 ws_H_checkRegister wn_H md_H_checkRegister (by decide) hl.1 rfl (Nat.le_of_ble_eq_true rfl) ⟨by omega, by omega⟩ (fun E M1 h => ⟨h.2.1, Or.inl ⟨h.1, fun z => h.2.2 z.1⟩⟩) dH_derive_1 (fun r M' H locs hp hst => ?_)
  obtain ⟨rfl, rfl, h1⟩ := hp
  refine lv_iload_n hx hb dH_derive_4 rfl (lv_at hl 2 rfl) ?_
  refine ct_callS (av2 := [.int x2]) (rest := []) X hst (x_cr_call hlt x2 M) wc_H_checkRegister ml_H_48 ws_H_checkRegister wn_H md_H_checkRegister (by decide) hl.1 rfl (Nat.le_of_ble_eq_true rfl) ⟨by omega, by omega⟩ (fun E M1 h => ⟨h.2.1, Or.inl ⟨h.1, fun z => h.2.2 z.2⟩⟩) dH_derive_5 (fun r M' H locs hp hst => ?_)
  obtain ⟨rfl, rfl, h2⟩ := hp
  refine lv_iload_n hx hb dH_derive_8 rfl (lv_at hl 3 rfl) ?_
  refine ct_callS (av2 := [.int x3]) (rest := []) X hst (x_cv_call hlt x3 M) wc_H_checkVariable ml_H_58 ws_H_checkVariable wn_H md_H_checkVariable (by decide) hl.1 rfl (Nat.le_of_ble_eq_true rfl) ⟨by omega, by omega⟩ (fun E M1 h => ⟨h.2.1, Or.inr ⟨h.1, h1, h2⟩⟩) dH_derive_9 (fun r M' H locs hp hst => ?_)
  obtain ⟨rfl, rfl, h3⟩ := hp
  exact absurd ⟨⟨h1, h2⟩, h3⟩ hno

theorem cs.two {Y : Nat → ClassId} {M M' : Hm} {xa p rf : Nat} {A cap si : Nat → Nat} {P : Nat → Pf} (h : cs Y M xa A p P cap si rf) {r : Nat} (hr : r < 12) (ho : hp_off (fun j => j = 2 ∨ j = si 12 ∨ j = si r) M M') (hs : sh Y M' (A 1) (A 0) (fun _ => 0)) {L : List (Nat × Nat)} {cq : Nat} (hq : po Y M' (si 12) (A (si 12)) cq L) (hcq : cq ≤ 18278) {g : Pf} {cp : Nat} (hp : po Y M' (si r) (A (si r)) cp (tp g)) (hcp : cp ≤ 18278) (hg : ∀ m, g m < p) : cs Y M' xa A p (va_up P r g) (va_up (va_up cap (si 12) cq) (si r) cp) si rf := by
  obtain ⟨x0, ⟨gr, x1, hgr⟩, ⟨gn, x2, hgn⟩, ⟨hf, hpr⟩, hs0, ⟨gw, ht⟩, ⟨hs1, hs2⟩, hP, ⟨LS, hS⟩, hN, hc1, hc2, hPp⟩ := h
  have hb := hs1 r (by omega)
  have hb2 := hs1 12 (by omega)
  have hne : ∀ i, i ≤ 12 → i ≠ r → si i ≠ si r := fun i hi hir z => hir (hs2 i r hi (by omega) z)
  have hn2 : ∀ i, i ≤ 12 → i ≠ 12 → si i ≠ si 12 := fun i hi hir z => hir (hs2 i 12 hi (by omega) z)
  refine ⟨ho.of x0 (by omega), ⟨gr, ho.of x1 (by omega), hgr⟩, ⟨gn, ho.of x2 (by omega), hgn⟩, ⟨hf.off ho (by omega), hpr⟩, hs, ⟨gw, ht.off ho (by omega)⟩, ⟨hs1, hs2⟩, ?_, ⟨L, ?_⟩, ?_, ?_, ?_, ?_⟩
  · intro i hi
    by_cases hir : i = r
    · subst hir
      rw [va_up_self, va_up_self]
      exact hp
    · have h1 := hne i (by omega) hir
      have h3 := hn2 i (by omega) (by omega)
      have h2 := hs1 i (by omega)
      rw [va_up_ne _ _ h1, va_up_ne _ _ h3, va_up_ne _ _ hir]
      exact (hP i hi).off ho (by omega)
  · rw [va_up_ne _ _ (hne 12 (by omega) (by omega)), va_up_self]
    exact hq
  · intro c hc
    obtain ⟨L, hL⟩ := hN c hc
    rw [va_up_ne _ _ (by omega), va_up_ne _ _ (by omega)]
    exact ⟨L, hL.off ho (by omega)⟩
  · intro i hi
    by_cases hir : i = r
    · subst hir
      rw [va_up_self]
      exact hcp
    · rw [va_up_ne _ _ (hne i hi hir)]
      by_cases h12 : i = 12
      · subst h12
        rw [va_up_self]
        exact hcq
      · rw [va_up_ne _ _ (hn2 i hi h12)]
        exact hc1 i hi
  · intro c hc
    rw [va_up_ne _ _ (by omega), va_up_ne _ _ (by omega)]
    exact hc2 c hc
  · intro i hi m
    by_cases hir : i = r
    · subst hir
      rw [va_up_self]
      exact hg m
    · rw [va_up_ne _ _ hir]
      exact hPp i hi m

set_option maxHeartbeats 4000000 in
set_option maxRecDepth 100000 in
theorem c_H_divide_q (l : Launch) (D : va_G) (Y : Nat → ClassId) (lo : Nat) {M : Hm} {xa p rf : Nat} {A cap si : Nat → Nat} {P : Nat → Pf} (hcs : cs Y M xa A p P cap si rf) {r a b : Nat} {q0 : Nat × Nat} (hr : r < 12) (ha : a < 12) (hb9 : b < 12) (hq0 : (tp (P b))[0]? = some q0) : ct l D Y lo y_H_divide b_H_divide 6 none 5 [.ref xa, .int (nI r), .int (nI a), .int (nI b), .int (nI 1)] M (fun r9 M' => r9 = none ∧ cs Y M' xa A p (va_up P r (lsP (dvQ p q0.1 (q0.2 ^ (p - 2) % p) (tp (P b)) 9139 (addL p 1 0 (tp (P a)) (fun _ => 0))))) (va_up cap (si 12) (gcn (cap (si 12)) 0 (dvQ p q0.1 (q0.2 ^ (p - 2) % p) (tp (P b)) 9139 (addL p 1 0 (tp (P a)) (fun _ => 0))).length)) (sw si r) rf ∧ hp_off (fun i => i < 300) M M') nx (gcn (cap (si 12)) 0 (dvQ p q0.1 (q0.2 ^ (p - 2) % p) (tp (P b)) 9139 (addL p 1 0 (tp (P a)) (fun _ => 0))).length - cap (si 12)) (4 * (gcn (cap (si 12)) 0 (dvQ p q0.1 (q0.2 ^ (p - 2) % p) (tp (P b)) 9139 (addL p 1 0 (tp (P a)) (fun _ => 0))).length - cap (si 12))) := by
  refine ct_of (by decide) (Nat.le_of_ble_eq_true rfl) ?_
  intro pg eg sg mg bw mt cg ls X hst hl
  have X1 := X
  obtain ⟨hx, hb, hml, hrt, hlocks, hown, hnm, hts, hkz, hex⟩ := X1
  have hG : ∀ w ∈ GW, w.before _ sg = true := fun w h => hts w (List.mem_cons_of_mem _ h)
  have hK := hkz.1
  have hl : lv_has ls 6 [(0, .ref xa), (1, .int (nI r)), (2, .int (nI a)), (3, .int (nI b)), (4, .int (nI 1))] := hl
  have hcs0 := hcs
  obtain ⟨x0, ⟨gr, x1, hgr⟩, ⟨gn, x2, hgn⟩, ⟨hf, hpr⟩, hs, ⟨gw, ht⟩, ⟨hs1, hs2⟩, hP, ⟨LS, hS⟩, hN, hc1, hc2, hPp⟩ := hcs
  have hpp := hf.2.1
  have hpp3 := hf.2.2
  have hf0 := hf.1
  refine lv_iload_n hx hb dH_divide_0 rfl (lv_at hl 1 rfl) ?_
  refine lv_iload_n hx hb dH_divide_1 rfl (lv_at hl 2 rfl) ?_
  refine lv_iload_n hx hb dH_divide_2 rfl (lv_at hl 3 rfl) ?_
  refine ct_callS (av2 := [.int (nI r), .int (nI a), .int (nI b)]) (rest := []) X hst (c_H_checkRegisters l D Y lo hr ha hb9) wc_H_checkRegisters ml_H_73 ws_H_checkRegisters wn_H md_H_checkRegisters (by decide) hl.1 rfl (Nat.le_of_ble_eq_true rfl) ⟨by omega, by omega⟩ (fun _ _ h => h.elim) dH_divide_3 (fun r M' H locs hp hst => ?_)
  obtain ⟨rfl, rfl⟩ := hp
  have hs_r := hs1 r (by omega)
  have hs_a := hs1 a (by omega)
  have hs_b := hs1 b (by omega)
  have hs_12 := hs1 12 (by omega)
  have hne : si b ≠ si 12 := fun z => by have := hs2 b 12 (by omega) (by omega) z; omega
  have hnr : si r ≠ si 12 := fun z => by have := hs2 r 12 (by omega) (by omega) z; omega
  have hc18 := hc1 12 (by omega)
  have hc18r := hc1 r (by omega)
  obtain ⟨fs_b, cell_b⟩ := (hP b hb9).cell
  refine lv_aload_n hx hb dH_divide_6 rfl (lv_at hl 0 rfl) ?_
  refine hp_get hx hb hG in_H hown hK hst x0 rfl 3 (by decide) (hG _ fl_H_11) rfl rfl dH_divide_7 ?_
  refine lv_iload_n hx hb dH_divide_10 rfl (lv_at hl 3 rfl) ?_
  refine hp_aald hx hb hK rfl hst x1 (j := b) (v := (A (si b))) (by omega) (by omega) (hgr b hb9) dH_divide_11 ?_
  refine lv_astore (lv' := [(5, .ref (A (si b))), (0, .ref xa), (1, .int (nI r)), (2, .int (nI a)), (3, .int (nI b)), (4, .int (nI 1))]) hx hb dH_divide_12 hl (by decide) rfl (fun ls hl => ?_)
  refine lv_aload hx hb dH_divide_14 (lv_at hl 0 rfl) ?_
  refine ct_callV (av2 := []) (rest := []) (b := (A (si b))) X hst (c_P_isZero l D Y lo (hP b hb9)) cell_b rfl wc_P_isZero ml_H_102 wi_P_isZero wl_P_isZero wn_P md_P_isZero (by decide) hl.1 rfl (Nat.le_of_ble_eq_true rfl) ⟨by omega, by omega⟩ (fun _ _ h => h.elim) dH_divide_16 (fun r M' H locs hp hst => ?_)
  obtain ⟨bz, rfl, hz1, hz2, rfl⟩ := hp
  refine lv_if_eq hx hb dH_divide_19 (tgt := 30) rfl (fun hc => ?_) (fun hc => ?_)
  · skip
    rw [← nI_0] at hc
    have hcz : bz = 0 := (nI_eq (by omega) (by omega)).mp hc
    obtain ⟨fss, cells9⟩ := hs.cell
    refine lv_aload_n hx hb dH_divide_30 rfl (lv_at hl 1 rfl) ?_
    refine hp_get hx hb hG in_H hown hK hst x0 rfl 1 (by decide) (hG _ fl_H_32) rfl rfl dH_divide_31 ?_
    refine lv_aload_n hx hb dH_divide_34 rfl (lv_at hl 1 rfl) ?_
    refine hp_get hx hb hG in_H hown hK hst x0 rfl 3 (by decide) (hG _ fl_H_11) rfl rfl dH_divide_35 ?_
    refine lv_iload_n hx hb dH_divide_38 rfl (lv_at hl 3 rfl) ?_
    refine hp_aald hx hb hK rfl hst x1 (j := a) (v := (A (si a))) (by omega) (by omega) (hgr a ha) dH_divide_39 ?_
    refine lv_iconst (v := nI 1) hx hb dH_divide_40 (by decide +kernel) ?_
    refine lv_iconst (v := nI 0) hx hb dH_divide_41 (by decide +kernel) ?_
    refine ct_callV (av2 := [.ref (A (si a)), .int (nI 1), .int (nI 0)]) (rest := []) (b := (A 1)) X hst (c_S_addMultiple l D Y lo hs hf (fun _ => by omega) (hP a ha) (by omega) (f := 1) (t := 0) (by omega) (fun q hq => ⟨(tp_mem hq).1, by rw [(tp_mem hq).2.1]; exact hPp a ha _⟩)) cells9 rfl wc_S_addMultiple ml_H_77 wi_S_addMultiple wl_S_addMultiple wn_S md_S_addMultiple (by decide) hl.1 rfl (Nat.le_of_ble_eq_true rfl) ⟨by omega, by omega⟩ (fun _ _ h => h.elim) dH_divide_42 (fun r M' H locs hp hst => ?_)
    obtain ⟨rfl, hs3, ho3⟩ := hp
    have hcp1 : ∀ m, addL p 1 0 (tp (P a)) (fun _ => 0) m < p := addL_lt (by omega) (fun _ => by omega)
    have x0a := ho3.of x0 (by omega)
    obtain ⟨fst, cellt⟩ := hs3.cell
    have hmq := tp_mem (List.mem_of_getElem? hq0)
    have hqp : q0.2 < p := by rw [hmq.2.1]; exact hPp b hb9 _
    have hivz : q0.2 ^ (p - 2) % p % p ≠ 0 := by rw [Nat.mod_mod]; exact pr_pow hpr (by rw [Nat.mod_eq_of_lt hqp]; exact hmq.2.2) _
    obtain ⟨qb1, qb2⟩ := dvQ_bl (B := tp (P b)) hpr hmq.1 hivz (n := 9139) (Nat.le_refl _) hcp1
    have hdql := dvQ_len (p := p) (hi := q0.1) (iv := q0.2 ^ (p - 2) % p) (B := tp (P b)) 9139 (addL p 1 0 (tp (P a)) (fun _ => 0))
    have hcq := gcn_le (dvQ p q0.1 (q0.2 ^ (p - 2) % p) (tp (P b)) 9139 (addL p 1 0 (tp (P a)) (fun _ => 0))).length (cap (si 12)) 0 18278 hc18 (by omega)
    have hcqg := gcn_ge (dvQ p q0.1 (q0.2 ^ (p - 2) % p) (tp (P b)) 9139 (addL p 1 0 (tp (P a)) (fun _ => 0))).length (cap (si 12)) 0
    refine lv_aload_n hx hb dH_divide_45 rfl (lv_at hl 1 rfl) ?_
    refine hp_get hx hb hG in_H hown hK hst x0a rfl 1 (by decide) (hG _ fl_H_32) rfl rfl dH_divide_46 ?_
    refine lv_aload hx hb dH_divide_49 (lv_at hl 0 rfl) ?_
    refine lv_aload_n hx hb dH_divide_51 rfl (lv_at hl 1 rfl) ?_
    refine hp_get hx hb hG in_H hown hK hst x0a rfl 5 (by decide) (hG _ fl_H_44) rfl rfl dH_divide_52 ?_
    refine ct_callV (av2 := [.ref (A (si b)), .ref (A (si 12))]) (rest := []) (b := (A 1)) X hst (c_S_divideBy l D Y lo hs3 (hf.off ho3 (by omega)) hcp1 ((hP b hb9).off ho3 (by omega)) (by omega) (hS.off ho3 (by omega)) (by omega) hne (by omega) hc18 hq0 (fun q hq => ⟨(tp_mem hq).1, by rw [(tp_mem hq).2.1]; exact hPp b hb9 _⟩) (dv_mv hq0)) cellt rfl wc_S_divideBy ml_H_105 wi_S_divideBy wl_S_divideBy wn_S md_S_divideBy (by decide) hl.1 rfl (Nat.le_of_ble_eq_true rfl) ⟨by omega, by omega⟩ (fun _ _ h => h.elim) dH_divide_55 (fun r M' H locs hp hst => ?_)
    obtain ⟨rfl, hs4, hq4, ho4⟩ := hp
    have hoo := (ho3.wk (fun j hj => Or.inl hj : ∀ j, j = 2 → (j = 2 ∨ j = si 12))).tr ho4
    have x0b := hoo.of x0 (by omega)
    have x1b := hoo.of x1 (by omega)
    obtain ⟨fsu, cellu⟩ := hs4.cell
    refine lv_iload hx hb dH_divide_58 (lv_at hl 5 rfl) ?_
    refine lv_if_eq hx hb dH_divide_60 (tgt := 78) rfl (fun hc => ?_) (fun hc => ?_)
    · skip
      rw [← nI_0] at hc
      have hc5 : 1 = 0 := (nI_eq (by omega) (by omega)).mp hc
      exact absurd hc5 (by omega)
    · skip
      rw [← nI_0] at hc
      have hc5 : ¬ 1 = 0 := fun z => hc ((nI_eq (by omega) (by omega)).mpr z)
      refine lv_aload_n hx hb dH_divide_63 rfl (lv_at hl 1 rfl) ?_
      refine hp_get hx hb hG in_H hown hK hst x0b rfl 1 (by decide) (hG _ fl_H_32) rfl rfl dH_divide_64 ?_
      refine ct_callV (av2 := []) (rest := []) (b := (A 1)) X hst (c_S_clear l D Y lo hs4) cellu rfl wc_S_clear ml_H_108 wi_S_clear wl_S_clear wn_S md_S_clear (by decide) hl.1 rfl (Nat.le_of_ble_eq_true rfl) ⟨by omega, by omega⟩ (fun _ _ h => h.elim) dH_divide_67 (fun r M' H locs hp hst => ?_)
      obtain ⟨rfl, hs5, ho5⟩ := hp
      have hq5 := hq4.off ho5 (by omega)
      have hoz := hoo.tr (ho5.wk (fun j hj => Or.inl hj))
      have hcsS := hcs0.spr hoz hs5 hq5 hcq
      have hq6 : po Y M' (si 12) (A (si 12)) (va_up cap (si 12) (gcn (cap (si 12)) 0 (dvQ p q0.1 (q0.2 ^ (p - 2) % p) (tp (P b)) 9139 (addL p 1 0 (tp (P a)) (fun _ => 0))).length) (si 12)) (tp (lsP (dvQ p q0.1 (q0.2 ^ (p - 2) % p) (tp (P b)) 9139 (addL p 1 0 (tp (P a)) (fun _ => 0))))) := by rw [va_up_self, tp_ls qb1]; exact hq5
      have x0c := hoz.of x0 (by omega)
      refine lv_aload_n hx hb dH_divide_70 rfl (lv_at hl 1 rfl) ?_
      refine lv_iload_n hx hb dH_divide_71 rfl (lv_at hl 2 rfl) ?_
      refine ct_callV (av2 := [.int (nI r)]) (rest := []) (b := xa) X hst (c_H_exchangeSpare l D Y lo hcsS hr hq6 (fun m => cS_lt (by omega) qb1 (fun q hq => (qb2 q hq).1))) x0c rfl wc_H_exchangeSpare ml_H_99 wi_H_exchangeSpare wl_H_exchangeSpare wn_H md_H_exchangeSpare (by decide) hl.1 rfl (Nat.le_of_ble_eq_true rfl) ⟨by omega, by omega⟩ (fun _ _ h => h.elim) dH_divide_72 (fun r M' H locs hp hst => ?_)
      obtain ⟨rfl, hcsT, hoT⟩ := hp
      refine lv_goto hx hb dH_divide_75 (tgt := 91) rfl ?_
      exact ct_vret X hst ⟨rfl, hcsT, (hoz.wk (fun i hi => by omega : ∀ j, (j = 2 ∨ j = si 12) → j < 300)).tr (hoT.wk (fun i hi => by omega))⟩ (by omega) (by omega) dH_divide_91
  · skip
    rw [← nI_0] at hc
    have hcz : ¬ bz = 0 := fun z => hc ((nI_eq (by omega) (by omega)).mpr z)
    have h9 := hz2.mp (by omega)
    rw [h9] at hq0
    cases hq0

set_option maxHeartbeats 4000000 in
set_option maxRecDepth 100000 in
theorem c_H_divide_r (l : Launch) (D : va_G) (Y : Nat → ClassId) (lo : Nat) {M : Hm} {xa p rf : Nat} {A cap si : Nat → Nat} {P : Nat → Pf} (hcs : cs Y M xa A p P cap si rf) {r a b : Nat} {q0 : Nat × Nat} (hr : r < 12) (ha : a < 12) (hb9 : b < 12) (hq0 : (tp (P b))[0]? = some q0) : ct l D Y lo y_H_divide b_H_divide 6 none 5 [.ref xa, .int (nI r), .int (nI a), .int (nI b), .int (nI 0)] M (fun r9 M' => r9 = none ∧ cs Y M' xa A p (va_up P r (dvC p q0.1 (q0.2 ^ (p - 2) % p) (tp (P b)) 9139 (addL p 1 0 (tp (P a)) (fun _ => 0)))) (va_up (va_up cap (si 12) (gcn (cap (si 12)) 0 (dvQ p q0.1 (q0.2 ^ (p - 2) % p) (tp (P b)) 9139 (addL p 1 0 (tp (P a)) (fun _ => 0))).length)) (si r) (gcn (cap (si r)) 0 (td (dvC p q0.1 (q0.2 ^ (p - 2) % p) (tp (P b)) 9139 (addL p 1 0 (tp (P a)) (fun _ => 0))) 9139).length)) si rf ∧ hp_off (fun i => i < 300) M M') nx ((gcn (cap (si 12)) 0 (dvQ p q0.1 (q0.2 ^ (p - 2) % p) (tp (P b)) 9139 (addL p 1 0 (tp (P a)) (fun _ => 0))).length - cap (si 12)) + (gcn (cap (si r)) 0 (td (dvC p q0.1 (q0.2 ^ (p - 2) % p) (tp (P b)) 9139 (addL p 1 0 (tp (P a)) (fun _ => 0))) 9139).length - cap (si r))) (4 * ((gcn (cap (si 12)) 0 (dvQ p q0.1 (q0.2 ^ (p - 2) % p) (tp (P b)) 9139 (addL p 1 0 (tp (P a)) (fun _ => 0))).length - cap (si 12)) + (gcn (cap (si r)) 0 (td (dvC p q0.1 (q0.2 ^ (p - 2) % p) (tp (P b)) 9139 (addL p 1 0 (tp (P a)) (fun _ => 0))) 9139).length - cap (si r)))) := by
  refine ct_of (by decide) (Nat.le_of_ble_eq_true rfl) ?_
  intro pg eg sg mg bw mt cg ls X hst hl
  have X1 := X
  obtain ⟨hx, hb, hml, hrt, hlocks, hown, hnm, hts, hkz, hex⟩ := X1
  have hG : ∀ w ∈ GW, w.before _ sg = true := fun w h => hts w (List.mem_cons_of_mem _ h)
  have hK := hkz.1
  have hl : lv_has ls 6 [(0, .ref xa), (1, .int (nI r)), (2, .int (nI a)), (3, .int (nI b)), (4, .int (nI 0))] := hl
  have hcs0 := hcs
  obtain ⟨x0, ⟨gr, x1, hgr⟩, ⟨gn, x2, hgn⟩, ⟨hf, hpr⟩, hs, ⟨gw, ht⟩, ⟨hs1, hs2⟩, hP, ⟨LS, hS⟩, hN, hc1, hc2, hPp⟩ := hcs
  have hpp := hf.2.1
  have hpp3 := hf.2.2
  have hf0 := hf.1
  refine lv_iload_n hx hb dH_divide_0 rfl (lv_at hl 1 rfl) ?_
  refine lv_iload_n hx hb dH_divide_1 rfl (lv_at hl 2 rfl) ?_
  refine lv_iload_n hx hb dH_divide_2 rfl (lv_at hl 3 rfl) ?_
  refine ct_callS (av2 := [.int (nI r), .int (nI a), .int (nI b)]) (rest := []) X hst (c_H_checkRegisters l D Y lo hr ha hb9) wc_H_checkRegisters ml_H_73 ws_H_checkRegisters wn_H md_H_checkRegisters (by decide) hl.1 rfl (Nat.le_of_ble_eq_true rfl) ⟨by omega, by omega⟩ (fun _ _ h => h.elim) dH_divide_3 (fun r M' H locs hp hst => ?_)
  obtain ⟨rfl, rfl⟩ := hp
  have hs_r := hs1 r (by omega)
  have hs_a := hs1 a (by omega)
  have hs_b := hs1 b (by omega)
  have hs_12 := hs1 12 (by omega)
  have hne : si b ≠ si 12 := fun z => by have := hs2 b 12 (by omega) (by omega) z; omega
  have hnr : si r ≠ si 12 := fun z => by have := hs2 r 12 (by omega) (by omega) z; omega
  have hc18 := hc1 12 (by omega)
  have hc18r := hc1 r (by omega)
  obtain ⟨fs_b, cell_b⟩ := (hP b hb9).cell
  refine lv_aload_n hx hb dH_divide_6 rfl (lv_at hl 0 rfl) ?_
  refine hp_get hx hb hG in_H hown hK hst x0 rfl 3 (by decide) (hG _ fl_H_11) rfl rfl dH_divide_7 ?_
  refine lv_iload_n hx hb dH_divide_10 rfl (lv_at hl 3 rfl) ?_
  refine hp_aald hx hb hK rfl hst x1 (j := b) (v := (A (si b))) (by omega) (by omega) (hgr b hb9) dH_divide_11 ?_
  refine lv_astore (lv' := [(5, .ref (A (si b))), (0, .ref xa), (1, .int (nI r)), (2, .int (nI a)), (3, .int (nI b)), (4, .int (nI 0))]) hx hb dH_divide_12 hl (by decide) rfl (fun ls hl => ?_)
  refine lv_aload hx hb dH_divide_14 (lv_at hl 0 rfl) ?_
  refine ct_callV (av2 := []) (rest := []) (b := (A (si b))) X hst (c_P_isZero l D Y lo (hP b hb9)) cell_b rfl wc_P_isZero ml_H_102 wi_P_isZero wl_P_isZero wn_P md_P_isZero (by decide) hl.1 rfl (Nat.le_of_ble_eq_true rfl) ⟨by omega, by omega⟩ (fun _ _ h => h.elim) dH_divide_16 (fun r M' H locs hp hst => ?_)
  obtain ⟨bz, rfl, hz1, hz2, rfl⟩ := hp
  refine lv_if_eq hx hb dH_divide_19 (tgt := 30) rfl (fun hc => ?_) (fun hc => ?_)
  · skip
    rw [← nI_0] at hc
    have hcz : bz = 0 := (nI_eq (by omega) (by omega)).mp hc
    obtain ⟨fss, cells9⟩ := hs.cell
    refine lv_aload_n hx hb dH_divide_30 rfl (lv_at hl 1 rfl) ?_
    refine hp_get hx hb hG in_H hown hK hst x0 rfl 1 (by decide) (hG _ fl_H_32) rfl rfl dH_divide_31 ?_
    refine lv_aload_n hx hb dH_divide_34 rfl (lv_at hl 1 rfl) ?_
    refine hp_get hx hb hG in_H hown hK hst x0 rfl 3 (by decide) (hG _ fl_H_11) rfl rfl dH_divide_35 ?_
    refine lv_iload_n hx hb dH_divide_38 rfl (lv_at hl 3 rfl) ?_
    refine hp_aald hx hb hK rfl hst x1 (j := a) (v := (A (si a))) (by omega) (by omega) (hgr a ha) dH_divide_39 ?_
    refine lv_iconst (v := nI 1) hx hb dH_divide_40 (by decide +kernel) ?_
    refine lv_iconst (v := nI 0) hx hb dH_divide_41 (by decide +kernel) ?_
    refine ct_callV (av2 := [.ref (A (si a)), .int (nI 1), .int (nI 0)]) (rest := []) (b := (A 1)) X hst (c_S_addMultiple l D Y lo hs hf (fun _ => by omega) (hP a ha) (by omega) (f := 1) (t := 0) (by omega) (fun q hq => ⟨(tp_mem hq).1, by rw [(tp_mem hq).2.1]; exact hPp a ha _⟩)) cells9 rfl wc_S_addMultiple ml_H_77 wi_S_addMultiple wl_S_addMultiple wn_S md_S_addMultiple (by decide) hl.1 rfl (Nat.le_of_ble_eq_true rfl) ⟨by omega, by omega⟩ (fun _ _ h => h.elim) dH_divide_42 (fun r M' H locs hp hst => ?_)
    obtain ⟨rfl, hs3, ho3⟩ := hp
    have hcp1 : ∀ m, addL p 1 0 (tp (P a)) (fun _ => 0) m < p := addL_lt (by omega) (fun _ => by omega)
    have x0a := ho3.of x0 (by omega)
    obtain ⟨fst, cellt⟩ := hs3.cell
    have hmq := tp_mem (List.mem_of_getElem? hq0)
    have hqp : q0.2 < p := by rw [hmq.2.1]; exact hPp b hb9 _
    have hivz : q0.2 ^ (p - 2) % p % p ≠ 0 := by rw [Nat.mod_mod]; exact pr_pow hpr (by rw [Nat.mod_eq_of_lt hqp]; exact hmq.2.2) _
    obtain ⟨qb1, qb2⟩ := dvQ_bl (B := tp (P b)) hpr hmq.1 hivz (n := 9139) (Nat.le_refl _) hcp1
    have hdql := dvQ_len (p := p) (hi := q0.1) (iv := q0.2 ^ (p - 2) % p) (B := tp (P b)) 9139 (addL p 1 0 (tp (P a)) (fun _ => 0))
    have hcq := gcn_le (dvQ p q0.1 (q0.2 ^ (p - 2) % p) (tp (P b)) 9139 (addL p 1 0 (tp (P a)) (fun _ => 0))).length (cap (si 12)) 0 18278 hc18 (by omega)
    have hcqg := gcn_ge (dvQ p q0.1 (q0.2 ^ (p - 2) % p) (tp (P b)) 9139 (addL p 1 0 (tp (P a)) (fun _ => 0))).length (cap (si 12)) 0
    have hdv := dvC_lt (p := p) (hi := q0.1) (iv := q0.2 ^ (p - 2) % p) (B := tp (P b)) (n := 9139) (by omega) hcp1
    have hdl := td_len (dvC p q0.1 (q0.2 ^ (p - 2) % p) (tp (P b)) 9139 (addL p 1 0 (tp (P a)) (fun _ => 0))) 9139
    have hcr := gcn_le (td (dvC p q0.1 (q0.2 ^ (p - 2) % p) (tp (P b)) 9139 (addL p 1 0 (tp (P a)) (fun _ => 0))) 9139).length (cap (si r)) 0 18278 hc18r (by omega)
    have hcrg := gcn_ge (td (dvC p q0.1 (q0.2 ^ (p - 2) % p) (tp (P b)) 9139 (addL p 1 0 (tp (P a)) (fun _ => 0))) 9139).length (cap (si r)) 0
    refine lv_aload_n hx hb dH_divide_45 rfl (lv_at hl 1 rfl) ?_
    refine hp_get hx hb hG in_H hown hK hst x0a rfl 1 (by decide) (hG _ fl_H_32) rfl rfl dH_divide_46 ?_
    refine lv_aload hx hb dH_divide_49 (lv_at hl 0 rfl) ?_
    refine lv_aload_n hx hb dH_divide_51 rfl (lv_at hl 1 rfl) ?_
    refine hp_get hx hb hG in_H hown hK hst x0a rfl 5 (by decide) (hG _ fl_H_44) rfl rfl dH_divide_52 ?_
    refine ct_callV (av2 := [.ref (A (si b)), .ref (A (si 12))]) (rest := []) (b := (A 1)) X hst (c_S_divideBy l D Y lo hs3 (hf.off ho3 (by omega)) hcp1 ((hP b hb9).off ho3 (by omega)) (by omega) (hS.off ho3 (by omega)) (by omega) hne (by omega) hc18 hq0 (fun q hq => ⟨(tp_mem hq).1, by rw [(tp_mem hq).2.1]; exact hPp b hb9 _⟩) (dv_mv hq0)) cellt rfl wc_S_divideBy ml_H_105 wi_S_divideBy wl_S_divideBy wn_S md_S_divideBy (by decide) hl.1 rfl (Nat.le_of_ble_eq_true rfl) ⟨by omega, by omega⟩ (fun _ _ h => h.elim) dH_divide_55 (fun r M' H locs hp hst => ?_)
    obtain ⟨rfl, hs4, hq4, ho4⟩ := hp
    have hoo := (ho3.wk (fun j hj => Or.inl hj : ∀ j, j = 2 → (j = 2 ∨ j = si 12))).tr ho4
    have x0b := hoo.of x0 (by omega)
    have x1b := hoo.of x1 (by omega)
    obtain ⟨fsu, cellu⟩ := hs4.cell
    refine lv_iload hx hb dH_divide_58 (lv_at hl 5 rfl) ?_
    refine lv_if_eq hx hb dH_divide_60 (tgt := 78) rfl (fun hc => ?_) (fun hc => ?_)
    · skip
      rw [← nI_0] at hc
      have hc5 : 0 = 0 := (nI_eq (by omega) (by omega)).mp hc
      refine lv_aload_n hx hb dH_divide_78 rfl (lv_at hl 1 rfl) ?_
      refine hp_get hx hb hG in_H hown hK hst x0b rfl 1 (by decide) (hG _ fl_H_32) rfl rfl dH_divide_79 ?_
      refine lv_aload_n hx hb dH_divide_82 rfl (lv_at hl 1 rfl) ?_
      refine hp_get hx hb hG in_H hown hK hst x0b rfl 3 (by decide) (hG _ fl_H_11) rfl rfl dH_divide_83 ?_
      refine lv_iload_n hx hb dH_divide_86 rfl (lv_at hl 2 rfl) ?_
      refine hp_aald hx hb hK rfl hst x1b (j := r) (v := (A (si r))) (by omega) (by omega) (hgr r hr) dH_divide_87 ?_
      have hPr := (hP r hr).off hoo (by omega)
      refine ct_callV (av2 := [.ref (A (si r))]) (rest := []) (b := (A 1)) X hst (c_S_moveTo l D Y lo hs4 hPr (by omega) hc18r (fun m => by have := hdv m; omega)) cellu rfl wc_S_moveTo ml_H_81 wi_S_moveTo wl_S_moveTo wn_S md_S_moveTo (by decide) hl.1 rfl (Nat.le_of_ble_eq_true rfl) ⟨by omega, by omega⟩ (fun _ _ h => h.elim) dH_divide_88 (fun r M' H locs hp hst => ?_)
      obtain ⟨rfl, hp6, hs6, ho6⟩ := hp
      have hP2 : hp_off (fun j => j = 2 ∨ j = si 12 ∨ j = si r) M M' := (hoo.wk (fun j hj => by omega)).tr (ho6.wk (fun j hj => by omega))
      have hcsR : cs Y M' xa A p (va_up P r (dvC p q0.1 (q0.2 ^ (p - 2) % p) (tp (P b)) 9139 (addL p 1 0 (tp (P a)) (fun _ => 0)))) (va_up (va_up cap (si 12) (gcn (cap (si 12)) 0 (dvQ p q0.1 (q0.2 ^ (p - 2) % p) (tp (P b)) 9139 (addL p 1 0 (tp (P a)) (fun _ => 0))).length)) (si r) (gcn (cap (si r)) 0 (td (dvC p q0.1 (q0.2 ^ (p - 2) % p) (tp (P b)) 9139 (addL p 1 0 (tp (P a)) (fun _ => 0))) 9139).length)) si rf := hcs0.two hr hP2 hs6 (hq4.off ho6 (by omega)) hcq hp6 hcr hdv
      exact ct_vret X hst ⟨rfl, hcsR, hP2.wk (fun i hi => by omega)⟩ (by omega) (by omega) dH_divide_91
    · skip
      rw [← nI_0] at hc
      have hc5 : ¬ 0 = 0 := fun z => hc ((nI_eq (by omega) (by omega)).mpr z)
      exact absurd rfl hc5
  · skip
    rw [← nI_0] at hc
    have hcz : ¬ bz = 0 := fun z => hc ((nI_eq (by omega) (by omega)).mpr z)
    have h9 := hz2.mp (by omega)
    rw [h9] at hq0
    cases hq0

set_option maxHeartbeats 4000000 in
set_option maxRecDepth 100000 in
theorem x_H_divide (l : Launch) (D : va_G) (Y : Nat → ClassId) (lo : Nat) (hlt : l.stackTraces = false) {M : Hm} {xa : Nat} {x1 x2 x3 x4 : Int32} (hno : ¬ (inR x1 ∧ inR x2 ∧ inR x3)) : ct l D Y lo y_H_divide b_H_divide 6 none 8 [.ref xa, .int x1, .int x2, .int x3, .int x4] M (fun _ _ => False) (fun E M' => E = EI ∧ M = M') 3 18 := by
  refine ct_of (by decide) (Nat.le_of_ble_eq_true rfl) ?_
  intro pg eg sg mg bw mt cg ls X hst hl
  have X1 := X
  obtain ⟨hx, hb, hml, hrt, hlocks, hown, hnm, hts, hkz, hex⟩ := X1
  have hG : ∀ w ∈ GW, w.before _ sg = true := fun w h => hts w (List.mem_cons_of_mem _ h)
  have hK := hkz.1
  have hl : lv_has ls 6 [(0, .ref xa), (1, .int x1), (2, .int x2), (3, .int x3), (4, .int x4)] := hl
  refine lv_iload_n hx hb dH_divide_0 rfl (lv_at hl 1 rfl) ?_
  refine lv_iload_n hx hb dH_divide_1 rfl (lv_at hl 2 rfl) ?_
  refine lv_iload_n hx hb dH_divide_2 rfl (lv_at hl 3 rfl) ?_
  refine ct_callS (av2 := [.int x1, .int x2, .int x3]) (rest := []) X hst (x_H_checkRegisters l D Y lo hlt hno) wc_H_checkRegisters ml_H_73 ws_H_checkRegisters wn_H md_H_checkRegisters (by decide) hl.1 rfl (Nat.le_of_ble_eq_true rfl) ⟨by omega, by omega⟩ (fun E M1 h => h) dH_divide_3 (fun r M' H locs hp hst => ?_)
  exact False.elim hp

set_option maxHeartbeats 4000000 in
set_option maxRecDepth 100000 in
theorem x_H_divide_z (l : Launch) (D : va_G) (Y : Nat → ClassId) (lo : Nat) (hlt : l.stackTraces = false) {M : Hm} {xa p rf : Nat} {A cap si : Nat → Nat} {P : Nat → Pf} (hcs : cs Y M xa A p P cap si rf) {r a b : Nat} {z4 : Int32} (hr : r < 12) (ha : a < 12) (hb9 : b < 12) (hzero : tp (P b) = []) : ct l D Y lo y_H_divide b_H_divide 6 none 7 [.ref xa, .int (nI r), .int (nI a), .int (nI b), .int z4] M (fun _ _ => False) (fun E M' => E = EA ∧ M = M') 1 6 := by
  refine ct_of (by decide) (Nat.le_of_ble_eq_true rfl) ?_
  intro pg eg sg mg bw mt cg ls X hst hl
  have X1 := X
  obtain ⟨hx, hb, hml, hrt, hlocks, hown, hnm, hts, hkz, hex⟩ := X1
  have hG : ∀ w ∈ GW, w.before _ sg = true := fun w h => hts w (List.mem_cons_of_mem _ h)
  have hK := hkz.1
  have hl : lv_has ls 6 [(0, .ref xa), (1, .int (nI r)), (2, .int (nI a)), (3, .int (nI b)), (4, .int z4)] := hl
  have hcs0 := hcs
  obtain ⟨x0, ⟨gr, x1, hgr⟩, ⟨gn, x2, hgn⟩, ⟨hf, hpr⟩, hs, ⟨gw, ht⟩, ⟨hs1, hs2⟩, hP, ⟨LS, hS⟩, hN, hc1, hc2, hPp⟩ := hcs
  have hpp := hf.2.1
  have hpp3 := hf.2.2
  have hf0 := hf.1
  refine lv_iload_n hx hb dH_divide_0 rfl (lv_at hl 1 rfl) ?_
  refine lv_iload_n hx hb dH_divide_1 rfl (lv_at hl 2 rfl) ?_
  refine lv_iload_n hx hb dH_divide_2 rfl (lv_at hl 3 rfl) ?_
  refine ct_callS (av2 := [.int (nI r), .int (nI a), .int (nI b)]) (rest := []) X hst (c_H_checkRegisters l D Y lo hr ha hb9) wc_H_checkRegisters ml_H_73 ws_H_checkRegisters wn_H md_H_checkRegisters (by decide) hl.1 rfl (Nat.le_of_ble_eq_true rfl) ⟨by omega, by omega⟩ (fun _ _ h => h.elim) dH_divide_3 (fun r M' H locs hp hst => ?_)
  obtain ⟨rfl, rfl⟩ := hp
  obtain ⟨fs_b, cell_b⟩ := (hP b hb9).cell
  refine lv_aload_n hx hb dH_divide_6 rfl (lv_at hl 0 rfl) ?_
  refine hp_get hx hb hG in_H hown hK hst x0 rfl 3 (by decide) (hG _ fl_H_11) rfl rfl dH_divide_7 ?_
  refine lv_iload_n hx hb dH_divide_10 rfl (lv_at hl 3 rfl) ?_
  refine hp_aald hx hb hK rfl hst x1 (j := b) (v := (A (si b))) (by omega) (by omega) (hgr b hb9) dH_divide_11 ?_
  refine lv_astore (lv' := [(5, .ref (A (si b))), (0, .ref xa), (1, .int (nI r)), (2, .int (nI a)), (3, .int (nI b)), (4, .int z4)]) hx hb dH_divide_12 hl (by decide) rfl (fun ls hl => ?_)
  refine lv_aload hx hb dH_divide_14 (lv_at hl 0 rfl) ?_
  refine ct_callV (av2 := []) (rest := []) (b := (A (si b))) X hst (c_P_isZero l D Y lo (hP b hb9)) cell_b rfl wc_P_isZero ml_H_102 wi_P_isZero wl_P_isZero wn_P md_P_isZero (by decide) hl.1 rfl (Nat.le_of_ble_eq_true rfl) ⟨by omega, by omega⟩ (fun _ _ h => h.elim) dH_divide_16 (fun r M' H locs hp hst => ?_)
  obtain ⟨bz, rfl, hz1, hz2, rfl⟩ := hp
  refine lv_if_eq hx hb dH_divide_19 (tgt := 30) rfl (fun hc => ?_) (fun hc => ?_)
  · skip
    rw [← nI_0] at hc
    have hcz : bz = 0 := (nI_eq (by omega) (by omega)).mp hc
    exact absurd (hz2.mpr hzero) (by omega)
  · skip
    rw [← nI_0] at hc
    have hcz : ¬ bz = 0 := fun z => hc ((nI_eq (by omega) (by omega)).mpr z)
    exact ct_throw (cls := EA) (ik := 96) (ic := 98) X hst hlt rfl (by decide +kernel) cl_H_96 wn_IllegalArgumentException at_A gd_A hl.1 (by decide) (Nat.le_of_ble_eq_true rfl) (by omega) (by omega) ⟨rfl, rfl⟩ dH_divide_22 dH_divide_25 dH_divide_26 dH_divide_29
