/-! The reference: divide. -/
theorem c0_at {p k : Nat} {a : Pf} (ha : ∀ m, a m < p) (hk : k < 9139) : addL p 1 0 (tp a) (fun _ => 0) (pl k) = a (pl k) := by
  have hp : 0 < p := Nat.lt_of_le_of_lt (Nat.zero_le _) (ha 0)
  have e1 := addL_tp (p := p) (f := 1) (t := 0) (r := 9138 - k) (g := a) (c := fun _ => 0) (by omega) hp
  rw [Nat.add_zero] at e1
  show addL p 1 0 (tp a) (fun _ => 0) (ur (9138 - k)) = a (ur (9138 - k))
  rw [e1, Nat.zero_add, Nat.one_mul, Nat.mod_eq_of_lt (ha _)]
theorem pl_ur {k : Nat} (hk : k < 9139) : 9139 - k = 9139 - (k + 1) + 1 ∧ pl k = ur (9139 - (k + 1)) := ⟨by omega, by unfold pl; rw [show 9138 - k = 9139 - (k + 1) by omega]⟩
section DVP
variable {p hi iv k : Nat} {B : List (Nat × Nat)} {c : Pf}
theorem dvC_py (hk : k < 9139) (h : c (pl k) ≠ 0 ∧ mlt (pl k) hi) : dvC p hi iv B (9139 - k) c = dvC p hi iv B (9139 - (k + 1)) (addL p (ng p (c (pl k) * iv % p)) (pl k - hi) B c) := by
  obtain ⟨e1, e2⟩ := pl_ur hk
  rw [e2] at h ⊢
  rw [e1]
  exact dvC_y h
theorem dvC_pn (hk : k < 9139) (h : ¬ (c (pl k) ≠ 0 ∧ mlt (pl k) hi)) : dvC p hi iv B (9139 - k) c = dvC p hi iv B (9139 - (k + 1)) c := by
  obtain ⟨e1, e2⟩ := pl_ur hk
  rw [e2] at h
  rw [e1]
  exact dvC_n h
theorem dvQ_py (hk : k < 9139) (h : c (pl k) ≠ 0 ∧ mlt (pl k) hi) : dvQ p hi iv B (9139 - k) c = (pl k - hi, c (pl k) * iv % p) :: dvQ p hi iv B (9139 - (k + 1)) (addL p (ng p (c (pl k) * iv % p)) (pl k - hi) B c) := by
  obtain ⟨e1, e2⟩ := pl_ur hk
  rw [e2] at h ⊢
  rw [e1]
  exact dvQ_y h
theorem dvQ_pn (hk : k < 9139) (h : ¬ (c (pl k) ≠ 0 ∧ mlt (pl k) hi)) : dvQ p hi iv B (9139 - k) c = dvQ p hi iv B (9139 - (k + 1)) c := by
  obtain ⟨e1, e2⟩ := pl_ur hk
  rw [e2] at h
  rw [e1]
  exact dvQ_n h
end DVP

set_option maxHeartbeats 4000000 in
set_option maxRecDepth 100000 in
theorem c_R_divide_q (l : Launch) (D : va_G) (Y : Nat → ClassId) (lo : Nat) {M : Hm} {ma p rf th : Nat} {E : Nat → Nat} {c : Nat → Nat → Nat} (hm : mo Y M ma E p rf th c) {P : Nat → Pf} (hP : rr c P) (hPp : ∀ r, r < 12 → ∀ m, P r m < p) {r a b : Nat} (hr : r < 12) (ha : a < 12) (hb9 : b < 12) (hpr : pr p) {q0 : Nat × Nat} (hq0 : (tp (P b))[0]? = some q0) : ct l D Y lo y_R_divide b_R_divide 14 none 3 [.ref ma, .int (nI r), .int (nI a), .int (nI b), .int (nI 1)] M (fun r9 M' => ∃ c' : Nat → Nat → Nat, r9 = none ∧ mo Y M' ma E p rf 0 c' ∧ rr c' (va_up P r (lsP (dvQ p q0.1 (q0.2 ^ (p - 2) % p) (tp (P b)) 9139 (addL p 1 0 (tp (P a)) (fun _ => 0))))) ∧ hp_off (fun i => i = 1000) M M') nx 0 0 := by
  refine ct_of (by decide) (Nat.le_of_ble_eq_true rfl) ?_
  intro pg eg sg mg bw mt cg ls X hst hl
  have X1 := X
  obtain ⟨hx, hb, hml, hrt, hlocks, hown, hnm, hts, hkz, hex⟩ := X1
  have hG : ∀ w ∈ GW, w.before _ sg = true := fun w h => hts w (List.mem_cons_of_mem _ h)
  have hK := hkz.1
  have hl : lv_has ls 14 [(0, .ref ma), (1, .int (nI r)), (2, .int (nI a)), (3, .int (nI b)), (4, .int (nI 1))] := hl
  obtain ⟨hp2, hp3⟩ := hm.p2
  refine lv_iload_n hx hb dR_divide_0 rfl (lv_at hl 1 rfl) ?_
  refine ct_callS (av2 := [.int (nI r)]) (rest := []) X hst (g_R_isRegister l D Y lo hr) wc_R_isRegister ml_R_85 ws_R_isRegister wn_R md_R_isRegister (by decide) hl.1 rfl (Nat.le_of_ble_eq_true rfl) ⟨by omega, by omega⟩ (fun _ _ h => h.elim) dR_divide_1 (fun r M' H locs hp hst => ?_)
  obtain ⟨rfl, rfl⟩ := hp
  refine lv_if_eq hx hb dR_divide_4 (tgt := 25) rfl (fun hc => absurd hc (by decide)) (fun hc => ?_)
  refine lv_iload_n hx hb dR_divide_7 rfl (lv_at hl 2 rfl) ?_
  refine ct_callS (av2 := [.int (nI a)]) (rest := []) X hst (g_R_isRegister l D Y lo ha) wc_R_isRegister ml_R_85 ws_R_isRegister wn_R md_R_isRegister (by decide) hl.1 rfl (Nat.le_of_ble_eq_true rfl) ⟨by omega, by omega⟩ (fun _ _ h => h.elim) dR_divide_8 (fun r M' H locs hp hst => ?_)
  obtain ⟨rfl, rfl⟩ := hp
  refine lv_if_eq hx hb dR_divide_11 (tgt := 25) rfl (fun hc => absurd hc (by decide)) (fun hc => ?_)
  refine lv_iload_n hx hb dR_divide_14 rfl (lv_at hl 3 rfl) ?_
  refine ct_callS (av2 := [.int (nI b)]) (rest := []) X hst (g_R_isRegister l D Y lo hb9) wc_R_isRegister ml_R_85 ws_R_isRegister wn_R md_R_isRegister (by decide) hl.1 rfl (Nat.le_of_ble_eq_true rfl) ⟨by omega, by omega⟩ (fun _ _ h => h.elim) dR_divide_15 (fun r M' H locs hp hst => ?_)
  obtain ⟨rfl, rfl⟩ := hp
  refine lv_if_eq hx hb dR_divide_18 (tgt := 25) rfl (fun hc => absurd hc (by decide)) (fun hc => ?_)
  refine lv_iconst (v := nI 1) hx hb dR_divide_21 (by decide +kernel) ?_
  refine lv_goto hx hb dR_divide_22 (tgt := 26) rfl ?_
  refine lv_istore (lv' := [(5, .int (nI 1)), (0, .ref ma), (1, .int (nI r)), (2, .int (nI a)), (3, .int (nI b)), (4, .int (nI 1))]) hx hb dR_divide_26 hl (by decide) rfl (fun ls hl => ?_)
  refine lv_iload hx hb dR_divide_28 (lv_at hl 0 rfl) ?_
  refine lv_if_eq hx hb dR_divide_30 (tgt := 42) rfl (fun hc => absurd hc (by decide)) (fun hc => ?_)
  refine lv_aload_n hx hb dR_divide_33 rfl (lv_at hl 1 rfl) ?_
  refine lv_iload_n hx hb dR_divide_34 rfl (lv_at hl 4 rfl) ?_
  refine lv_aload_n hx hb dR_divide_35 rfl (lv_at hl 1 rfl) ?_
  refine hp_get hx hb hG in_R hown hK hst hm.ob rfl 7 (by decide) (hG _ fl_R_24) rfl rfl dR_divide_36 ?_
  refine ct_callV (av2 := [.int (nI b), .ref (E 5)]) (rest := []) (b := ma) X hst (c_R_load l D Y lo hm hb9 (j := 5) (by omega) (by omega)) hm.ob rfl wc_R_load ml_R_99 wi_R_load wl_R_load wn_R md_R_load (by decide) hl.1 rfl (Nat.le_of_ble_eq_true rfl) ⟨by omega, by omega⟩ (fun _ _ h => h.elim) dR_divide_39 (fun r ML5 H locs hp hst => ?_)
  obtain ⟨cL5, rfl, hmL5, sL5, vL5, hoL5⟩ := hp
  have e5 : rp (cL5 5) (P b) := fun k hk => by rw [vL5 k hk]; exact hP b hb9 k hk
  refine lv_aload_n hx hb dR_divide_42 rfl (lv_at hl 1 rfl) ?_
  refine lv_iload hx hb dR_divide_43 (lv_at hl 0 rfl) ?_
  refine lv_if_ne hx hb dR_divide_45 (tgt := 52) rfl (fun hc => ?_) (fun hc => absurd hc (by decide))
  refine lv_iconst (v := nI 0) hx hb dR_divide_52 (by decide +kernel) ?_
  refine lv_iload hx hb dR_divide_53 (lv_at hl 0 rfl) ?_
  refine lv_if_eq hx hb dR_divide_55 (tgt := 72) rfl (fun hc => absurd hc (by decide)) (fun hc => ?_)
  refine lv_aload_n hx hb dR_divide_58 rfl (lv_at hl 1 rfl) ?_
  refine hp_get hx hb hG in_R hown hK hst hmL5.ob rfl 7 (by decide) (hG _ fl_R_24) rfl rfl dR_divide_59 ?_
  refine ct_callS (av2 := [.ref (E 5)]) (rest := [.int (nI 0), .ref ma]) X hst (c_R_isZero l D Y lo hmL5 (j := 5) (by omega) (by omega) e5 (p31 hp3 hPp hb9)) wc_R_isZero ml_R_113 ws_R_isZero wn_R md_R_isZero (by decide) hl.1 rfl (Nat.le_of_ble_eq_true rfl) ⟨by omega, by omega⟩ (fun _ _ h => h.elim) dR_divide_62 (fun r M' H locs hp hst => ?_)
  obtain ⟨bz, rfl, hz1, hz2, rfl⟩ := hp
  refine lv_if_eq hx hb dR_divide_65 (tgt := 72) rfl (fun hc => ?_) (fun hc => ?_)
  · skip
    rw [← nI_0] at hc
    have hcz : bz = 0 := (nI_eq (by omega) (by omega)).mp hc
    refine lv_iconst (v := nI 0) hx hb dR_divide_72 (by decide +kernel) ?_
    refine ct_callV (av2 := [.int (nI 0), .int (nI 0)]) (rest := []) (b := ma) X hst (c_R_fails l D Y lo hmL5 (a := 0) (b := 0) (by omega) (by omega)) hmL5.ob rfl wc_R_fails ml_R_88 wi_R_fails wl_R_fails wn_R md_R_fails (by decide) hl.1 rfl (Nat.le_of_ble_eq_true rfl) ⟨by omega, by omega⟩ (fun _ _ h => h.elim) dR_divide_73 (fun r MF H locs hp hst => ?_)
    obtain ⟨rfl, hmF, hoF⟩ := hp
    have hmF : mo Y MF ma E p rf 0 cL5 := hmF
    refine lv_if_eq hx hb dR_divide_76 (tgt := 80) rfl (fun hc => ?_) (fun hc => absurd hc (by decide))
    have hoF2 := hoL5.tr hoF
    refine lv_aload_n hx hb dR_divide_80 rfl (lv_at hl 1 rfl) ?_
    refine lv_iload_n hx hb dR_divide_81 rfl (lv_at hl 3 rfl) ?_
    refine lv_aload_n hx hb dR_divide_82 rfl (lv_at hl 1 rfl) ?_
    refine hp_get hx hb hG in_R hown hK hst hmF.ob rfl 6 (by decide) (hG _ fl_R_21) rfl rfl dR_divide_83 ?_
    refine ct_callV (av2 := [.int (nI a), .ref (E 4)]) (rest := []) (b := ma) X hst (c_R_load l D Y lo hmF ha (j := 4) (by omega) (by omega)) hmF.ob rfl wc_R_load ml_R_99 wi_R_load wl_R_load wn_R md_R_load (by decide) hl.1 rfl (Nat.le_of_ble_eq_true rfl) ⟨by omega, by omega⟩ (fun _ _ h => h.elim) dR_divide_86 (fun r ML4 H locs hp hst => ?_)
    obtain ⟨cL4, rfl, hmL4, sL4, vL4, hoL4⟩ := hp
    have e3 : cL4 3 = c 3 := (sL4 3 (by omega)).trans (sL5 3 (by omega))
    have f4 : rp (cL4 4) (addL p 1 0 (tp (P a)) (fun _ => 0)) := fun k hk => by rw [vL4 k hk, sL5 3 (by omega), c0_at (hPp a ha) hk]; exact hP a ha k hk
    have f5 : rp (cL4 5) (P b) := by rw [sL4 5 (by omega)]; exact e5
    have hoG := hoF2.tr hoL4
    refine lv_iconst (v := nI 0) hx hb dR_divide_89 (by decide +kernel) ?_
    refine lv_istore (lv' := [(6, .int (nI 0)), (5, .int (nI 1)), (0, .ref ma), (1, .int (nI r)), (2, .int (nI a)), (3, .int (nI b)), (4, .int (nI 1))]) hx hb dR_divide_90 hl (by decide) rfl (fun ls hl => ?_)
    have LH : ∀ (kk : Nat) (k : Nat) (H : Heap) (locs : List Loc) (ls : Array Slot), kk = 9139 - k → (k ≤ 9139) → (td (P b) (9139 - k) = tp (P b)) → hp_st D vC lo ML4 sg.heap H locs → lv_has ls 14 [(0, .ref ma), (1, .int (nI r)), (4, .int (nI 1)), (6, .int (nI k))] → cW pg l eg sg mg [.ref ma, .int (nI r), .int (nI a), .int (nI b), .int (nI 1)] bw mt cg y_R_divide b_R_divide 14 none 3 D lo (fun r9 M' => ∃ c' : Nat → Nat → Nat, r9 = none ∧ mo Y M' ma E p rf 0 c' ∧ rr c' (va_up P r (lsP (dvQ p q0.1 (q0.2 ^ (p - 2) % p) (tp (P b)) 9139 (addL p 1 0 (tp (P a)) (fun _ => 0))))) ∧ hp_off (fun i => i = 1000) M M') nx 0 0 H locs 0 0 (F0 mg 92 ls []) := by
      intro kk
      induction kk using Nat.strongRecOn with
      | _ kk ihLH =>
      intro k H locs ls hkk hk9 hinv hst hl
      have hk : k < 9139 := by
        apply Classical.byContradiction
        intro z
        rw [show 9139 - k = 0 by omega] at hinv
        have h9 : tp (P b) = [] := hinv.symm
        rw [h9] at hq0
        cases hq0
      have u1 := f5 k hk
      have l1 := hPp b hb9 (pl k)
      refine lv_aload_n hx hb dR_divide_92 rfl (lv_at hl 0 rfl) ?_
      refine hp_get hx hb hG in_R hown hK hst hmL4.ob rfl 7 (by decide) (hG _ fl_R_24) rfl rfl dR_divide_93 ?_
      refine lv_iload hx hb dR_divide_96 (lv_at hl 3 rfl) ?_
      refine hp_iald hx hb hK rfl hst (hmL4.rw (j := 5) (by omega) (by omega)) (j := k) (by omega) (by omega) dR_divide_98 ?_
      refine tp_n (e2 := P b (pl k)) u1 ?_
      refine lv_if_ne hx hb dR_divide_99 (tgt := 108) rfl (fun hc => ?_) (fun hc => ?_)
      · skip
        rw [← nI_0] at hc
        have hcz : ¬ (P b (pl k)) = 0 := fun z => hc ((nI_eq (by omega) (by omega)).mpr z)
        have hq9 : q0 = (pl k, P b (pl k)) := by
          rw [← hinv, td_pl_y hk hcz] at hq0
          exact (Option.some.inj hq0).symm
        have qe1 : pl k = q0.1 := by rw [hq9]
        have qe2 : P b (pl k) = q0.2 := by rw [hq9]
        clear hq9
        have hmq := tp_mem (List.mem_of_getElem? hq0)
        have hqp : q0.2 < p := by rw [hmq.2.1]; exact hPp b hb9 _
        have hivl : (q0.2 ^ (p - 2) % p) < p := Nat.mod_lt _ (by omega)
        have hivz : (q0.2 ^ (p - 2) % p) % p ≠ 0 := by rw [Nat.mod_mod]; exact pr_pow hpr (by rw [Nat.mod_eq_of_lt hqp]; exact hmq.2.2) _
        have hcp1 : ∀ m, addL p 1 0 (tp (P a)) (fun _ => 0) m < p := addL_lt (by omega) (fun _ => by omega)
        obtain ⟨qb1, qb2⟩ := dvQ_bl (B := tp (P b)) hpr hmq.1 hivz (n := 9139) (Nat.le_refl _) hcp1
        refine lv_aload_n hx hb dR_divide_108 rfl (lv_at hl 0 rfl) ?_
        refine lv_aload_n hx hb dR_divide_109 rfl (lv_at hl 0 rfl) ?_
        refine hp_get hx hb hG in_R hown hK hst hmL4.ob rfl 7 (by decide) (hG _ fl_R_24) rfl rfl dR_divide_110 ?_
        refine lv_iload hx hb dR_divide_113 (lv_at hl 3 rfl) ?_
        refine hp_iald hx hb hK rfl hst (hmL4.rw (j := 5) (by omega) (by omega)) (j := k) (by omega) (by omega) dR_divide_115 ?_
        refine tp_n (e2 := q0.2) (by rw [u1]; exact qe2) ?_
        refine ct_callV (av2 := [.int (nI q0.2)]) (rest := []) (b := ma) X hst (c_R_inverse l D Y lo hmL4 (x := q0.2) hqp) hmL4.ob rfl wc_R_inverse ml_R_117 wi_R_inverse wl_R_inverse wn_R md_R_inverse (by decide) hl.1 rfl (Nat.le_of_ble_eq_true rfl) ⟨by omega, by omega⟩ (fun _ _ h => h.elim) dR_divide_116 (fun r M' H locs hp hst => ?_)
        obtain ⟨rfl, rfl⟩ := hp
        refine lv_i2l (v := lN (q0.2 ^ (p - 2) % p)) hx hb dR_divide_119 (nI_l (by omega)) ?_
        refine lv_lstore (lv' := [(7, .long (lN (q0.2 ^ (p - 2) % p))), (0, .ref ma), (1, .int (nI r)), (4, .int (nI 1)), (6, .int (nI k))]) hx hb dR_divide_120 hl (by decide) rfl (fun ls hl => ?_)
        refine lv_aload_n hx hb dR_divide_122 rfl (lv_at hl 1 rfl) ?_
        refine hp_get hx hb hG in_R hown hK hst hmL4.ob rfl 11 (by decide) (hG _ fl_R_36) rfl rfl dR_divide_123 ?_
        refine ct_callS (av2 := [.ref (E 9)]) (rest := []) X hst (c_R_clear l D Y lo hmL4 (j := 9) (by omega) (by omega)) wc_R_clear ml_R_70 ws_R_clear wn_R md_R_clear (by decide) hl.1 rfl (Nat.le_of_ble_eq_true rfl) ⟨by omega, by omega⟩ (fun _ _ h => h.elim) dR_divide_126 (fun r M3 H locs hp hst => ?_)
        obtain ⟨c3, rfl, hm3, s3a, z3, ho3⟩ := hp
        refine lv_iconst (v := nI 0) hx hb dR_divide_129 (by decide +kernel) ?_
        refine lv_istore (lv' := [(9, .int (nI 0)), (7, .long (lN (q0.2 ^ (p - 2) % p))), (0, .ref ma), (1, .int (nI r)), (4, .int (nI 1)), (6, .int (nI k))]) hx hb dR_divide_130 hl (by decide) rfl (fun ls hl => ?_)
        have LP : ∀ (kk : Nat) (i : Nat) (d : Nat → Nat → Nat) (M1 : Hm) (g1 : Pf) (pre : List (Nat × Nat)) (H : Heap) (locs : List Loc) (ls : Array Slot), kk = 9139 - i → (i ≤ 9139) → (mo Y M1 ma E p rf 0 d) → (d 3 = c 3) → (rp (d 5) (P b)) → (rp (d 4) g1) → (∀ m, g1 m < p) → (dvC p q0.1 (q0.2 ^ (p - 2) % p) (tp (P b)) (9139 - i) g1 = dvC p q0.1 (q0.2 ^ (p - 2) % p) (tp (P b)) 9139 (addL p 1 0 (tp (P a)) (fun _ => 0))) → (dvQ p q0.1 (q0.2 ^ (p - 2) % p) (tp (P b)) 9139 (addL p 1 0 (tp (P a)) (fun _ => 0)) = pre ++ dvQ p q0.1 (q0.2 ^ (p - 2) % p) (tp (P b)) (9139 - i) g1) → (rp (d 9) (lsP pre)) → (hp_off (fun i => i = 1000) M M1) → hp_st D vC lo M1 sg.heap H locs → lv_has ls 14 [(0, .ref ma), (1, .int (nI r)), (4, .int (nI 1)), (6, .int (nI k)), (7, .long (lN (q0.2 ^ (p - 2) % p))), (9, .int (nI i))] → cW pg l eg sg mg [.ref ma, .int (nI r), .int (nI a), .int (nI b), .int (nI 1)] bw mt cg y_R_divide b_R_divide 14 none 3 D lo (fun r9 M' => ∃ c' : Nat → Nat → Nat, r9 = none ∧ mo Y M' ma E p rf 0 c' ∧ rr c' (va_up P r (lsP (dvQ p q0.1 (q0.2 ^ (p - 2) % p) (tp (P b)) 9139 (addL p 1 0 (tp (P a)) (fun _ => 0))))) ∧ hp_off (fun i => i = 1000) M M') nx 0 0 H locs 0 0 (F0 mg 132 ls []) := by
          intro kk
          induction kk using Nat.strongRecOn with
          | _ kk ihLP =>
          intro i d M1 g1 pre H locs ls hkk hi9 hmd j3 j5 j4 jg jc jq j9 hod hst hl
          refine lv_iload hx hb dR_divide_132 (lv_at hl 5 rfl) ?_
          refine lv_sipush (v := nI 9139) hx hb dR_divide_134 (by decide +kernel) ?_
          refine lv_icmp_ge hx hb dR_divide_137 (tgt := 300) rfl (fun hc => ?_) (fun hc => ?_)
          · skip
            have hc5 : 9139 ≤ i := (nI_leI (by omega) (by omega)).mp hc
            have hi9e : i = 9139 := by omega
            rw [hi9e] at jc jq
            have jc : g1 = dvC p q0.1 (q0.2 ^ (p - 2) % p) (tp (P b)) 9139 (addL p 1 0 (tp (P a)) (fun _ => 0)) := jc
            have jq : dvQ p q0.1 (q0.2 ^ (p - 2) % p) (tp (P b)) 9139 (addL p 1 0 (tp (P a)) (fun _ => 0)) = pre := by rw [jq]; exact List.append_nil pre
            refine lv_iconst (v := nI 0) hx hb dR_divide_300 (by decide +kernel) ?_
            refine lv_istore (lv' := [(9, .int (nI 0)), (0, .ref ma), (1, .int (nI r)), (4, .int (nI 1)), (6, .int (nI k)), (7, .long (lN (q0.2 ^ (p - 2) % p)))]) hx hb dR_divide_301 hl (by decide) rfl (fun ls hl => ?_)
            rw [← jq] at j9
            have LS : ∀ (kk : Nat) (t : Nat) (e : Nat → Nat → Nat) (M2 : Hm) (H : Heap) (locs : List Loc) (ls : Array Slot), kk = 9139 - t → (t ≤ 9139) → (mo Y M2 ma E p rf 0 e) → (∀ x, x ≠ 4 → e x = d x) → (∀ z, z < t → e 4 z = lsP (dvQ p q0.1 (q0.2 ^ (p - 2) % p) (tp (P b)) 9139 (addL p 1 0 (tp (P a)) (fun _ => 0))) (pl z)) → (hp_off (fun i => i = 1000) M M2) → hp_st D vC lo M2 sg.heap H locs → lv_has ls 14 [(0, .ref ma), (1, .int (nI r)), (4, .int (nI 1)), (9, .int (nI t))] → cW pg l eg sg mg [.ref ma, .int (nI r), .int (nI a), .int (nI b), .int (nI 1)] bw mt cg y_R_divide b_R_divide 14 none 3 D lo (fun r9 M' => ∃ c' : Nat → Nat → Nat, r9 = none ∧ mo Y M' ma E p rf 0 c' ∧ rr c' (va_up P r (lsP (dvQ p q0.1 (q0.2 ^ (p - 2) % p) (tp (P b)) 9139 (addL p 1 0 (tp (P a)) (fun _ => 0))))) ∧ hp_off (fun i => i = 1000) M M') nx 0 0 H locs 0 0 (F0 mg 303 ls []) := by
              intro kk
              induction kk using Nat.strongRecOn with
              | _ kk ihLS =>
              intro t e M2 H locs ls hkk ht9 hme ks kv hoe hst hl
              refine lv_iload hx hb dR_divide_303 (lv_at hl 3 rfl) ?_
              refine lv_sipush (v := nI 9139) hx hb dR_divide_305 (by decide +kernel) ?_
              refine lv_icmp_ge hx hb dR_divide_308 (tgt := 336) rfl (fun hc => ?_) (fun hc => ?_)
              · skip
                have hc6 : 9139 ≤ t := (nI_leI (by omega) (by omega)).mp hc
                have r4 : rp (e 4) (lsP (dvQ p q0.1 (q0.2 ^ (p - 2) % p) (tp (P b)) 9139 (addL p 1 0 (tp (P a)) (fun _ => 0)))) := fun z hz => kv z (by omega)
                have hPn : rr e P := fun r hr k hk => by rw [ks 3 (by omega), j3]; exact hP r hr k hk
                refine lv_aload_n hx hb dR_divide_336 rfl (lv_at hl 0 rfl) ?_
                refine lv_iload_n hx hb dR_divide_337 rfl (lv_at hl 1 rfl) ?_
                refine lv_aload_n hx hb dR_divide_338 rfl (lv_at hl 0 rfl) ?_
                refine hp_get hx hb hG in_R hown hK hst hme.ob rfl 6 (by decide) (hG _ fl_R_21) rfl rfl dR_divide_339 ?_
                refine ct_callV (av2 := [.int (nI r), .ref (E 4)]) (rest := []) (b := ma) X hst (c_R_keep l D Y lo hme hr (j := 4) (by omega) (by omega)) hme.ob rfl wc_R_keep ml_R_92 wi_R_keep wl_R_keep wn_R md_R_keep (by decide) hl.1 rfl (Nat.le_of_ble_eq_true rfl) ⟨by omega, by omega⟩ (fun _ _ h => h.elim) dR_divide_342 (fun r MK H locs hp hst => ?_)
                obtain ⟨cK, rfl, hmK, sK, vK, nK, hoK⟩ := hp
                have hrK : rr cK (va_up P r (lsP (dvQ p q0.1 (q0.2 ^ (p - 2) % p) (tp (P b)) 9139 (addL p 1 0 (tp (P a)) (fun _ => 0))))) := rr_keep hPn vK nK r4
                exact ct_vret X hst ⟨cK, rfl, hmK, hrK, hoe.tr hoK⟩ (by omega) (by omega) dR_divide_345
              · skip
                have hc6 : ¬ 9139 ≤ t := fun z => hc ((nI_leI (by omega) (by omega)).mpr z)
                have u9 : e 9 t = lsP (dvQ p q0.1 (q0.2 ^ (p - 2) % p) (tp (P b)) 9139 (addL p 1 0 (tp (P a)) (fun _ => 0))) (pl t) := by rw [ks 9 (by omega)]; exact j9 t (by omega)
                refine lv_iload hx hb dR_divide_311 (lv_at hl 2 rfl) ?_
                refine lv_if_eq hx hb dR_divide_313 (tgt := 336) rfl (fun hc => absurd hc (by decide)) (fun hc => ?_)
                refine lv_aload_n hx hb dR_divide_316 rfl (lv_at hl 0 rfl) ?_
                refine hp_get hx hb hG in_R hown hK hst hme.ob rfl 6 (by decide) (hG _ fl_R_21) rfl rfl dR_divide_317 ?_
                refine lv_iload hx hb dR_divide_320 (lv_at hl 3 rfl) ?_
                refine lv_aload_n hx hb dR_divide_322 rfl (lv_at hl 0 rfl) ?_
                refine hp_get hx hb hG in_R hown hK hst hme.ob rfl 11 (by decide) (hG _ fl_R_36) rfl rfl dR_divide_323 ?_
                refine lv_iload hx hb dR_divide_326 (lv_at hl 3 rfl) ?_
                refine hp_iald hx hb hK rfl hst (hme.rw (j := 9) (by omega) (by omega)) (j := t) (by omega) (by omega) dR_divide_328 ?_
                refine tp_n (e2 := lsP (dvQ p q0.1 (q0.2 ^ (p - 2) % p) (tp (P b)) 9139 (addL p 1 0 (tp (P a)) (fun _ => 0))) (pl t)) u9 ?_
                refine hp_iast hx hb hK rfl hst (hme.rw (j := 4) (by omega) (by omega)) (j := t) (v := (lsP (dvQ p q0.1 (q0.2 ^ (p - 2) % p) (tp (P b)) 9139 (addL p 1 0 (tp (P a)) (fun _ => 0))) (pl t))) (by omega) (by omega) dR_divide_329 (fun H locs hst => ?_)
                obtain ⟨hm1, hs2⟩ := hme.sr (j := 4) (by omega) (by omega) (va_up (e 4) t (lsP (dvQ p q0.1 (q0.2 ^ (p - 2) % p) (tp (P b)) 9139 (addL p 1 0 (tp (P a)) (fun _ => 0))) (pl t)))
                generalize hp_up M2 (E 4) ((1000, 4), e_n Y 9139 (va_up (e 4) t (lsP (dvQ p q0.1 (q0.2 ^ (p - 2) % p) (tp (P b)) 9139 (addL p 1 0 (tp (P a)) (fun _ => 0))) (pl t)))) = M3 at hst hm1 hs2
                have ho4 := hoe.tr hs2
                refine lv_iinc (lv' := [(9, .int (nI (t + 1))), (0, .ref ma), (1, .int (nI r)), (4, .int (nI 1))]) hx hb dR_divide_330 hl (k := 3) rfl (ii_p _) (by decide) rfl (fun ls hl => ?_)
                refine lv_goto hx hb dR_divide_333 (tgt := 303) rfl ?_
                exact ihLS _ (by omega) (t + 1) (va_up e 4 (va_up (e 4) t (lsP (dvQ p q0.1 (q0.2 ^ (p - 2) % p) (tp (P b)) 9139 (addL p 1 0 (tp (P a)) (fun _ => 0))) (pl t)))) M3 _ _ _ rfl (by omega) hm1 (fun x hx => by rw [va_up_ne _ _ hx]; exact ks x hx) (fun z hz => by
                    rw [va_up_self]
                    by_cases h9 : z = t
                    · subst h9; exact va_up_self _ _ _
                    · rw [va_up_ne _ _ h9]; exact kv z (by omega)) ho4 hst (lv_sub hl [1, 2, 3, 0] rfl)
            exact LS _ 0 d M1 _ _ _ rfl (by omega) hmd (fun x hx => rfl) (fun z hz => by omega) hod hst (lv_sub hl [1, 2, 3, 0] rfl)
          · skip
            have hc5 : ¬ 9139 ≤ i := fun z => hc ((nI_leI (by omega) (by omega)).mpr z)
            have pmi := pl_mv (k := i) (by omega)
            have xl0 := xe_lt (pl i) 0
            have yl0 := xe_lt (pl k) 0
            have xl1 := xe_lt (pl i) 1
            have yl1 := xe_lt (pl k) 1
            have xl2 := xe_lt (pl i) 2
            have yl2 := xe_lt (pl k) 2
            refine lv_aload_n hx hb dR_divide_140 rfl (lv_at hl 0 rfl) ?_
            refine lv_iload hx hb dR_divide_141 (lv_at hl 5 rfl) ?_
            refine lv_iconst (v := nI 0) hx hb dR_divide_143 (by decide +kernel) ?_
            refine ct_callV (av2 := [.int (nI i), .int (nI 0)]) (rest := []) (b := ma) X hst (c_R_exponent l D Y lo hmd (k := i) (v := 0) (by omega) (by omega)) hmd.ob rfl wc_R_exponent ml_R_58 wi_R_exponent wl_R_exponent wn_R md_R_exponent (by decide) hl.1 rfl (Nat.le_of_ble_eq_true rfl) ⟨by omega, by omega⟩ (fun _ _ h => h.elim) dR_divide_144 (fun r M' H locs hp hst => ?_)
            obtain ⟨rfl, rfl⟩ := hp
            refine lv_aload_n hx hb dR_divide_147 rfl (lv_at hl 0 rfl) ?_
            refine lv_iload hx hb dR_divide_148 (lv_at hl 3 rfl) ?_
            refine lv_iconst (v := nI 0) hx hb dR_divide_150 (by decide +kernel) ?_
            refine ct_callV (av2 := [.int (nI k), .int (nI 0)]) (rest := [.int (nI (xe (pl i) 0))]) (b := ma) X hst (c_R_exponent l D Y lo hmd (k := k) (v := 0) (by omega) (by omega)) hmd.ob rfl wc_R_exponent ml_R_58 wi_R_exponent wl_R_exponent wn_R md_R_exponent (by decide) hl.1 rfl (Nat.le_of_ble_eq_true rfl) ⟨by omega, by omega⟩ (fun _ _ h => h.elim) dR_divide_151 (fun r M' H locs hp hst => ?_)
            obtain ⟨rfl, rfl⟩ := hp
            refine t_isub hx hb dR_divide_154 (v := dif (xe (pl i) 0) (xe (pl k) 0)) rfl ?_
            refine lv_istore (lv' := [(10, .int (dif (xe (pl i) 0) (xe (pl k) 0))), (0, .ref ma), (1, .int (nI r)), (4, .int (nI 1)), (6, .int (nI k)), (7, .long (lN (q0.2 ^ (p - 2) % p))), (9, .int (nI i))]) hx hb dR_divide_155 hl (by decide) rfl (fun ls hl => ?_)
            refine lv_aload_n hx hb dR_divide_157 rfl (lv_at hl 1 rfl) ?_
            refine lv_iload hx hb dR_divide_158 (lv_at hl 6 rfl) ?_
            refine lv_iconst (v := nI 1) hx hb dR_divide_160 (by decide +kernel) ?_
            refine ct_callV (av2 := [.int (nI i), .int (nI 1)]) (rest := []) (b := ma) X hst (c_R_exponent l D Y lo hmd (k := i) (v := 1) (by omega) (by omega)) hmd.ob rfl wc_R_exponent ml_R_58 wi_R_exponent wl_R_exponent wn_R md_R_exponent (by decide) hl.1 rfl (Nat.le_of_ble_eq_true rfl) ⟨by omega, by omega⟩ (fun _ _ h => h.elim) dR_divide_161 (fun r M' H locs hp hst => ?_)
            obtain ⟨rfl, rfl⟩ := hp
            refine lv_aload_n hx hb dR_divide_164 rfl (lv_at hl 1 rfl) ?_
            refine lv_iload hx hb dR_divide_165 (lv_at hl 4 rfl) ?_
            refine lv_iconst (v := nI 1) hx hb dR_divide_167 (by decide +kernel) ?_
            refine ct_callV (av2 := [.int (nI k), .int (nI 1)]) (rest := [.int (nI (xe (pl i) 1))]) (b := ma) X hst (c_R_exponent l D Y lo hmd (k := k) (v := 1) (by omega) (by omega)) hmd.ob rfl wc_R_exponent ml_R_58 wi_R_exponent wl_R_exponent wn_R md_R_exponent (by decide) hl.1 rfl (Nat.le_of_ble_eq_true rfl) ⟨by omega, by omega⟩ (fun _ _ h => h.elim) dR_divide_168 (fun r M' H locs hp hst => ?_)
            obtain ⟨rfl, rfl⟩ := hp
            refine t_isub hx hb dR_divide_171 (v := dif (xe (pl i) 1) (xe (pl k) 1)) rfl ?_
            refine lv_istore (lv' := [(11, .int (dif (xe (pl i) 1) (xe (pl k) 1))), (10, .int (dif (xe (pl i) 0) (xe (pl k) 0))), (0, .ref ma), (1, .int (nI r)), (4, .int (nI 1)), (6, .int (nI k)), (7, .long (lN (q0.2 ^ (p - 2) % p))), (9, .int (nI i))]) hx hb dR_divide_172 hl (by decide) rfl (fun ls hl => ?_)
            refine lv_aload_n hx hb dR_divide_174 rfl (lv_at hl 2 rfl) ?_
            refine lv_iload hx hb dR_divide_175 (lv_at hl 7 rfl) ?_
            refine lv_iconst (v := nI 2) hx hb dR_divide_177 (by decide +kernel) ?_
            refine ct_callV (av2 := [.int (nI i), .int (nI 2)]) (rest := []) (b := ma) X hst (c_R_exponent l D Y lo hmd (k := i) (v := 2) (by omega) (by omega)) hmd.ob rfl wc_R_exponent ml_R_58 wi_R_exponent wl_R_exponent wn_R md_R_exponent (by decide) hl.1 rfl (Nat.le_of_ble_eq_true rfl) ⟨by omega, by omega⟩ (fun _ _ h => h.elim) dR_divide_178 (fun r M' H locs hp hst => ?_)
            obtain ⟨rfl, rfl⟩ := hp
            refine lv_aload_n hx hb dR_divide_181 rfl (lv_at hl 2 rfl) ?_
            refine lv_iload hx hb dR_divide_182 (lv_at hl 5 rfl) ?_
            refine lv_iconst (v := nI 2) hx hb dR_divide_184 (by decide +kernel) ?_
            refine ct_callV (av2 := [.int (nI k), .int (nI 2)]) (rest := [.int (nI (xe (pl i) 2))]) (b := ma) X hst (c_R_exponent l D Y lo hmd (k := k) (v := 2) (by omega) (by omega)) hmd.ob rfl wc_R_exponent ml_R_58 wi_R_exponent wl_R_exponent wn_R md_R_exponent (by decide) hl.1 rfl (Nat.le_of_ble_eq_true rfl) ⟨by omega, by omega⟩ (fun _ _ h => h.elim) dR_divide_185 (fun r M' H locs hp hst => ?_)
            obtain ⟨rfl, rfl⟩ := hp
            refine t_isub hx hb dR_divide_188 (v := dif (xe (pl i) 2) (xe (pl k) 2)) rfl ?_
            have v1 : d 4 i = g1 (pl i) := j4 i (by omega)
            have l1 := jg (pl i)
            refine lv_istore (lv' := [(12, .int (dif (xe (pl i) 2) (xe (pl k) 2))), (11, .int (dif (xe (pl i) 1) (xe (pl k) 1))), (10, .int (dif (xe (pl i) 0) (xe (pl k) 0))), (0, .ref ma), (1, .int (nI r)), (4, .int (nI 1)), (6, .int (nI k)), (7, .long (lN (q0.2 ^ (p - 2) % p))), (9, .int (nI i))]) hx hb dR_divide_189 hl (by decide) rfl (fun ls hl => ?_)
            refine lv_aload_n hx hb dR_divide_191 rfl (lv_at hl 3 rfl) ?_
            refine hp_get hx hb hG in_R hown hK hst hmd.ob rfl 6 (by decide) (hG _ fl_R_21) rfl rfl dR_divide_192 ?_
            refine lv_iload hx hb dR_divide_195 (lv_at hl 8 rfl) ?_
            refine hp_iald hx hb hK rfl hst (hmd.rw (j := 4) (by omega) (by omega)) (j := i) (by omega) (by omega) dR_divide_197 ?_
            refine tp_n (e2 := g1 (pl i)) v1 ?_
            refine lv_if_eq hx hb dR_divide_198 (tgt := 294) rfl (fun hc => ?_) (fun hc => ?_)
            · skip
              rw [← nI_0] at hc
              have hcz : (g1 (pl i)) = 0 := (nI_eq (by omega) (by omega)).mp hc
              have hsk : ¬ (g1 (pl i) ≠ 0 ∧ mlt (pl i) q0.1) := fun z => z.1 hcz
              refine lv_iinc (lv' := [(9, .int (nI (i + 1))), (12, .int (dif (xe (pl i) 2) (xe (pl k) 2))), (11, .int (dif (xe (pl i) 1) (xe (pl k) 1))), (10, .int (dif (xe (pl i) 0) (xe (pl k) 0))), (0, .ref ma), (1, .int (nI r)), (4, .int (nI 1)), (6, .int (nI k)), (7, .long (lN (q0.2 ^ (p - 2) % p)))]) hx hb dR_divide_294 hl (k := 8) rfl (ii_p _) (by decide) rfl (fun ls hl => ?_)
              refine lv_goto hx hb dR_divide_297 (tgt := 132) rfl ?_
              exact ihLP _ (by omega) (i + 1) d M1 g1 pre _ _ _ rfl (by omega) hmd j3 j5 j4 jg (by rw [dvC_pn (by omega) hsk] at jc; exact jc) (by rw [dvQ_pn (by omega) hsk] at jq; exact jq) j9 hod hst (lv_sub hl [4, 5, 6, 7, 8, 0] rfl)
            · skip
              rw [← nI_0] at hc
              have hcz : ¬ (g1 (pl i)) = 0 := fun z => hc ((nI_eq (by omega) (by omega)).mpr z)
              refine lv_iload hx hb dR_divide_201 (lv_at hl 2 rfl) ?_
              refine lv_if_lt hx hb dR_divide_203 (tgt := 294) rfl (fun hc => ?_) (fun hc => ?_)
              · skip
                have hlt0 := (dif_lt xl0 yl0).mp hc
                have hsk : ¬ (g1 (pl i) ≠ 0 ∧ mlt (pl i) q0.1) := fun z => by have h9 := z.2.1; rw [← qe1] at h9; omega
                refine lv_iinc (lv' := [(9, .int (nI (i + 1))), (12, .int (dif (xe (pl i) 2) (xe (pl k) 2))), (11, .int (dif (xe (pl i) 1) (xe (pl k) 1))), (10, .int (dif (xe (pl i) 0) (xe (pl k) 0))), (0, .ref ma), (1, .int (nI r)), (4, .int (nI 1)), (6, .int (nI k)), (7, .long (lN (q0.2 ^ (p - 2) % p)))]) hx hb dR_divide_294 hl (k := 8) rfl (ii_p _) (by decide) rfl (fun ls hl => ?_)
                refine lv_goto hx hb dR_divide_297 (tgt := 132) rfl ?_
                exact ihLP _ (by omega) (i + 1) d M1 g1 pre _ _ _ rfl (by omega) hmd j3 j5 j4 jg (by rw [dvC_pn (by omega) hsk] at jc; exact jc) (by rw [dvQ_pn (by omega) hsk] at jq; exact jq) j9 hod hst (lv_sub hl [4, 5, 6, 7, 8, 0] rfl)
              · skip
                have hge0 : xe (pl k) 0 ≤ xe (pl i) 0 := Nat.le_of_not_lt (fun z => hc ((dif_lt xl0 yl0).mpr z))
                refine lv_iload hx hb dR_divide_206 (lv_at hl 1 rfl) ?_
                refine lv_if_lt hx hb dR_divide_208 (tgt := 294) rfl (fun hc => ?_) (fun hc => ?_)
                · skip
                  have hlt1 := (dif_lt xl1 yl1).mp hc
                  have hsk : ¬ (g1 (pl i) ≠ 0 ∧ mlt (pl i) q0.1) := fun z => by have h9 := z.2.2.1; rw [← qe1] at h9; omega
                  refine lv_iinc (lv' := [(9, .int (nI (i + 1))), (12, .int (dif (xe (pl i) 2) (xe (pl k) 2))), (11, .int (dif (xe (pl i) 1) (xe (pl k) 1))), (10, .int (dif (xe (pl i) 0) (xe (pl k) 0))), (0, .ref ma), (1, .int (nI r)), (4, .int (nI 1)), (6, .int (nI k)), (7, .long (lN (q0.2 ^ (p - 2) % p)))]) hx hb dR_divide_294 hl (k := 8) rfl (ii_p _) (by decide) rfl (fun ls hl => ?_)
                  refine lv_goto hx hb dR_divide_297 (tgt := 132) rfl ?_
                  exact ihLP _ (by omega) (i + 1) d M1 g1 pre _ _ _ rfl (by omega) hmd j3 j5 j4 jg (by rw [dvC_pn (by omega) hsk] at jc; exact jc) (by rw [dvQ_pn (by omega) hsk] at jq; exact jq) j9 hod hst (lv_sub hl [4, 5, 6, 7, 8, 0] rfl)
                · skip
                  have hge1 : xe (pl k) 1 ≤ xe (pl i) 1 := Nat.le_of_not_lt (fun z => hc ((dif_lt xl1 yl1).mpr z))
                  refine lv_iload hx hb dR_divide_211 (lv_at hl 0 rfl) ?_
                  refine lv_if_ge hx hb dR_divide_213 (tgt := 219) rfl (fun hc => ?_) (fun hc => ?_)
                  · skip
                    have hge2 : xe (pl k) 2 ≤ xe (pl i) 2 := Nat.le_of_not_lt (fun z => absurd ((dif_lt xl2 yl2).mpr z) (fun z2 => Int32.not_le.mpr z2 hc))
                    have hml : mlt (pl i) q0.1 := by rw [← qe1]; exact ⟨hge0, hge1, hge2⟩
                    have hhit : g1 (pl i) ≠ 0 ∧ mlt (pl i) q0.1 := ⟨hcz, hml⟩
                    obtain ⟨mq1, mq2, mq3⟩ := mlt_mp pmi hmq.1 hml
                    rw [← qe1] at mq2
                    have mq3 : mv (pl i - pl k) := by rw [qe1]; exact mq3
                    have hrq := rk_lt mq3
                    have h36 := pmi.1
                    have l2 : g1 (pl i) * (q0.2 ^ (p - 2) % p) ≤ 46337 * 46337 := Nat.mul_le_mul (by omega) (by omega)
                    have hFl : (g1 (pl i) * (q0.2 ^ (p - 2) % p) % p) < p := Nat.mod_lt _ (by omega)
                    have hFz : (g1 (pl i) * (q0.2 ^ (p - 2) % p) % p) ≠ 0 := pr_mul hpr (by rw [Nat.mod_eq_of_lt l1]; exact hcz) hivz
                    rw [dvC_py (by omega) hhit] at jc
                    rw [dvQ_py (by omega) hhit] at jq
                    rw [dif_ge hge0, dif_ge hge1, dif_ge hge2] at hl
                    refine lv_aload_n hx hb dR_divide_219 rfl (lv_at hl 3 rfl) ?_
                    refine lv_iload hx hb dR_divide_220 (lv_at hl 2 rfl) ?_
                    refine lv_iload hx hb dR_divide_222 (lv_at hl 1 rfl) ?_
                    refine lv_iload hx hb dR_divide_224 (lv_at hl 0 rfl) ?_
                    refine ct_callV (av2 := [.int (nI (xe (pl i) 0 - xe (pl k) 0)), .int (nI (xe (pl i) 1 - xe (pl k) 1)), .int (nI (xe (pl i) 2 - xe (pl k) 2))]) (rest := []) (b := ma) X hst (c_R_place l D Y lo hmd (a := xe (pl i) 0 - xe (pl k) 0) (b := xe (pl i) 1 - xe (pl k) 1) (d := xe (pl i) 2 - xe (pl k) 2) (by omega)) hmd.ob rfl wc_R_place ml_R_62 wi_R_place wl_R_place wn_R md_R_place (by decide) hl.1 rfl (Nat.le_of_ble_eq_true rfl) ⟨by omega, by omega⟩ (fun _ _ h => h.elim) dR_divide_226 (fun r M' H locs hp hst => ?_)
                    obtain ⟨rfl, rfl⟩ := hp
                    refine tp_n (e2 := 9138 - rk (pl i - pl k)) (by rw [mq2]) ?_
                    refine lv_istore (lv' := [(13, .int (nI (9138 - rk (pl i - pl k)))), (12, .int (nI (xe (pl i) 2 - xe (pl k) 2))), (11, .int (nI (xe (pl i) 1 - xe (pl k) 1))), (10, .int (nI (xe (pl i) 0 - xe (pl k) 0))), (0, .ref ma), (1, .int (nI r)), (4, .int (nI 1)), (6, .int (nI k)), (7, .long (lN (q0.2 ^ (p - 2) % p))), (9, .int (nI i))]) hx hb dR_divide_229 hl (by decide) rfl (fun ls hl => ?_)
                    refine lv_aload_n hx hb dR_divide_231 rfl (lv_at hl 4 rfl) ?_
                    refine hp_get hx hb hG in_R hown hK hst hmd.ob rfl 11 (by decide) (hG _ fl_R_36) rfl rfl dR_divide_232 ?_
                    refine lv_iload hx hb dR_divide_235 (lv_at hl 0 rfl) ?_
                    refine lv_aload_n hx hb dR_divide_237 rfl (lv_at hl 4 rfl) ?_
                    refine lv_aload_n hx hb dR_divide_238 rfl (lv_at hl 4 rfl) ?_
                    refine hp_get hx hb hG in_R hown hK hst hmd.ob rfl 6 (by decide) (hG _ fl_R_21) rfl rfl dR_divide_239 ?_
                    refine lv_iload hx hb dR_divide_242 (lv_at hl 9 rfl) ?_
                    refine hp_iald hx hb hK rfl hst (hmd.rw (j := 4) (by omega) (by omega)) (j := i) (by omega) (by omega) dR_divide_244 ?_
                    refine tp_n (e2 := g1 (pl i)) v1 ?_
                    refine lv_i2l (v := lN (g1 (pl i))) hx hb dR_divide_245 (nI_l (by omega)) ?_
                    refine lv_lload hx hb dR_divide_246 (lv_at hl 8 rfl) ?_
                    refine lv_lmul hx hb dR_divide_248 ?_
                    refine tp_l (e2 := lN ((g1 (pl i)) * (q0.2 ^ (p - 2) % p))) (lN_mul _ _) ?_
                    refine ct_callV (av2 := [.long (lN ((g1 (pl i)) * (q0.2 ^ (p - 2) % p)))]) (rest := [.int (nI (9138 - rk (pl i - pl k))), .ref (E 9)]) (b := ma) X hst (c_R_reduced l D Y lo hmd (lN (g1 (pl i) * (q0.2 ^ (p - 2) % p)))) hmd.ob rfl wc_R_reduced ml_R_66 wi_R_reduced wl_R_reduced wn_R md_R_reduced (by decide) hl.1 rfl (Nat.le_of_ble_eq_true rfl) ⟨by omega, by omega⟩ (fun _ _ h => h.elim) dR_divide_249 (fun r M' H locs hp hst => ?_)
                    obtain ⟨rfl, rfl⟩ := hp
                    refine tp_n (e2 := (g1 (pl i) * (q0.2 ^ (p - 2) % p) % p)) (by rw [lN_big (by omega), rd_nat]) ?_
                    refine hp_iast hx hb hK rfl hst (hmd.rw (j := 9) (by omega) (by omega)) (j := (9138 - rk (pl i - pl k))) (v := (g1 (pl i) * (q0.2 ^ (p - 2) % p) % p)) (by omega) (by omega) dR_divide_252 (fun H locs hst => ?_)
                    obtain ⟨hm1, hs2⟩ := hmd.sr (j := 9) (by omega) (by omega) (va_up (d 9) (9138 - rk (pl i - pl k)) (g1 (pl i) * (q0.2 ^ (p - 2) % p) % p))
                    generalize hp_up M1 (E 9) ((1000, 9), e_n Y 9139 (va_up (d 9) (9138 - rk (pl i - pl k)) (g1 (pl i) * (q0.2 ^ (p - 2) % p) % p))) = M3 at hst hm1 hs2
                    have ho4 := hod.tr hs2
                    have bq : bl 9139 (pre ++ (pl i - pl k, (g1 (pl i) * (q0.2 ^ (p - 2) % p) % p)) :: dvQ p q0.1 (q0.2 ^ (p - 2) % p) (tp (P b)) (9139 - (i + 1)) (addL p (ng p (g1 (pl i) * (q0.2 ^ (p - 2) % p) % p)) (pl i - q0.1) (tp (P b)) g1)) := by rw [qe1]; rw [← jq]; exact qb1
                    have s9 : rp ((va_up d 9 (va_up (d 9) (9138 - rk (pl i - pl k)) (g1 (pl i) * (q0.2 ^ (p - 2) % p) % p))) 9) (lsP (pre ++ [(pl i - pl k, (g1 (pl i) * (q0.2 ^ (p - 2) % p) % p))])) := by rw [va_up_self, ← ls_up bq]; exact rp_up j9 mq3
                    have sA4 : (va_up d 9 (va_up (d 9) (9138 - rk (pl i - pl k)) (g1 (pl i) * (q0.2 ^ (p - 2) % p) % p))) 4 = d 4 := va_up_ne _ _ (by omega)
                    have sA5 : (va_up d 9 (va_up (d 9) (9138 - rk (pl i - pl k)) (g1 (pl i) * (q0.2 ^ (p - 2) % p) % p))) 5 = d 5 := va_up_ne _ _ (by omega)
                    have sA3 : (va_up d 9 (va_up (d 9) (9138 - rk (pl i - pl k)) (g1 (pl i) * (q0.2 ^ (p - 2) % p) % p))) 3 = d 3 := va_up_ne _ _ (by omega)
                    generalize va_up d 9 (va_up (d 9) (9138 - rk (pl i - pl k)) (g1 (pl i) * (q0.2 ^ (p - 2) % p) % p)) = d1 at *
                    refine lv_aload_n hx hb dR_divide_253 rfl (lv_at hl 4 rfl) ?_
                    refine hp_get hx hb hG in_R hown hK hst hm1.ob rfl 8 (by decide) (hG _ fl_R_27) rfl rfl dR_divide_254 ?_
                    refine ct_callS (av2 := [.ref (E 6)]) (rest := []) X hst (c_R_clear l D Y lo hm1 (j := 6) (by omega) (by omega)) wc_R_clear ml_R_70 ws_R_clear wn_R md_R_clear (by decide) hl.1 rfl (Nat.le_of_ble_eq_true rfl) ⟨by omega, by omega⟩ (fun _ _ h => h.elim) dR_divide_257 (fun r M6 H locs hp hst => ?_)
                    obtain ⟨c6, rfl, hm6, s6a, z6, ho6⟩ := hp
                    have w9 : c6 9 (9138 - rk (pl i - pl k)) = (g1 (pl i) * (q0.2 ^ (p - 2) % p) % p) := by
                      rw [s6a 9 (by omega), rp_at s9 mq3, ← ls_up bq]
                      exact va_up_self _ _ _
                    refine lv_aload_n hx hb dR_divide_260 rfl (lv_at hl 4 rfl) ?_
                    refine hp_get hx hb hG in_R hown hK hst hm6.ob rfl 8 (by decide) (hG _ fl_R_27) rfl rfl dR_divide_261 ?_
                    refine lv_iload hx hb dR_divide_264 (lv_at hl 0 rfl) ?_
                    refine lv_aload_n hx hb dR_divide_266 rfl (lv_at hl 4 rfl) ?_
                    refine hp_get hx hb hG in_R hown hK hst hm6.ob rfl 11 (by decide) (hG _ fl_R_36) rfl rfl dR_divide_267 ?_
                    refine lv_iload hx hb dR_divide_270 (lv_at hl 0 rfl) ?_
                    refine hp_iald hx hb hK rfl hst (hm6.rw (j := 9) (by omega) (by omega)) (j := (9138 - rk (pl i - pl k))) (by omega) (by omega) dR_divide_272 ?_
                    refine tp_n (e2 := (g1 (pl i) * (q0.2 ^ (p - 2) % p) % p)) w9 ?_
                    refine hp_iast hx hb hK rfl hst (hm6.rw (j := 6) (by omega) (by omega)) (j := (9138 - rk (pl i - pl k))) (v := (g1 (pl i) * (q0.2 ^ (p - 2) % p) % p)) (by omega) (by omega) dR_divide_273 (fun H locs hst => ?_)
                    obtain ⟨hm5, hs6⟩ := hm6.sr (j := 6) (by omega) (by omega) (va_up (c6 6) (9138 - rk (pl i - pl k)) (g1 (pl i) * (q0.2 ^ (p - 2) % p) % p))
                    generalize hp_up M6 (E 6) ((1000, 6), e_n Y 9139 (va_up (c6 6) (9138 - rk (pl i - pl k)) (g1 (pl i) * (q0.2 ^ (p - 2) % p) % p))) = M7 at hst hm5 hs6
                    have ho8 := (ho4.tr ho6).tr hs6
                    have r6 : rp ((va_up c6 6 (va_up (c6 6) (9138 - rk (pl i - pl k)) (g1 (pl i) * (q0.2 ^ (p - 2) % p) % p))) 6) (va_up (fun _ => 0) (pl i - pl k) (g1 (pl i) * (q0.2 ^ (p - 2) % p) % p)) := by rw [va_up_self]; exact rp_up (h := fun _ => 0) z6 mq3
                    have t3 : (va_up c6 6 (va_up (c6 6) (9138 - rk (pl i - pl k)) (g1 (pl i) * (q0.2 ^ (p - 2) % p) % p))) 3 = d1 3 := (va_up_ne _ _ (by omega)).trans (s6a 3 (by omega))
                    have t4 : (va_up c6 6 (va_up (c6 6) (9138 - rk (pl i - pl k)) (g1 (pl i) * (q0.2 ^ (p - 2) % p) % p))) 4 = d1 4 := (va_up_ne _ _ (by omega)).trans (s6a 4 (by omega))
                    have t5 : (va_up c6 6 (va_up (c6 6) (9138 - rk (pl i - pl k)) (g1 (pl i) * (q0.2 ^ (p - 2) % p) % p))) 5 = d1 5 := (va_up_ne _ _ (by omega)).trans (s6a 5 (by omega))
                    have t9 : (va_up c6 6 (va_up (c6 6) (9138 - rk (pl i - pl k)) (g1 (pl i) * (q0.2 ^ (p - 2) % p) % p))) 9 = d1 9 := (va_up_ne _ _ (by omega)).trans (s6a 9 (by omega))
                    generalize va_up c6 6 (va_up (c6 6) (9138 - rk (pl i - pl k)) (g1 (pl i) * (q0.2 ^ (p - 2) % p) % p)) = d2 at *
                    have htp : tp (va_up (fun _ => 0) (pl i - pl k) (g1 (pl i) * (q0.2 ^ (p - 2) % p) % p)) = [(pl i - pl k, (g1 (pl i) * (q0.2 ^ (p - 2) % p) % p))] := tp_single mq3 hFz
                    have hmm : ∀ q ∈ tp (va_up (fun _ => 0) (pl i - pl k) (g1 (pl i) * (q0.2 ^ (p - 2) % p) % p)), ∀ q2 ∈ tp (P b), s3 q2.1 + s3 q.1 ≤ 36 := by
                      intro q hq q2 hq2
                      rw [htp, List.mem_singleton] at hq
                      rw [hq]
                      have h9 := dv_mv hq0 (9138 - i) (by omega) (by have h8 := hml; unfold pl at h8; exact h8) q2 hq2
                      refine mv_s3 (tp_mem hq2).1 mq3 ?_
                      rw [qe1]
                      exact h9
                    refine lv_aload_n hx hb dR_divide_274 rfl (lv_at hl 4 rfl) ?_
                    refine lv_aload_n hx hb dR_divide_275 rfl (lv_at hl 4 rfl) ?_
                    refine hp_get hx hb hG in_R hown hK hst hm5.ob rfl 8 (by decide) (hG _ fl_R_27) rfl rfl dR_divide_276 ?_
                    refine lv_iconst (v := nI 0) hx hb dR_divide_279 (by decide +kernel) ?_
                    refine lv_aload_n hx hb dR_divide_280 rfl (lv_at hl 4 rfl) ?_
                    refine hp_get hx hb hG in_R hown hK hst hm5.ob rfl 7 (by decide) (hG _ fl_R_24) rfl rfl dR_divide_281 ?_
                    refine lv_iconst (v := nI 0) hx hb dR_divide_284 (by decide +kernel) ?_
                    refine lv_aload_n hx hb dR_divide_285 rfl (lv_at hl 4 rfl) ?_
                    refine hp_get hx hb hG in_R hown hK hst hm5.ob rfl 6 (by decide) (hG _ fl_R_21) rfl rfl dR_divide_286 ?_
                    refine lv_iconst (v := nI 0) hx hb dR_divide_289 (by decide +kernel) ?_
                    refine lv_iconst (v := nI 1) hx hb dR_divide_290 (by decide +kernel) ?_
                    refine ct_callV (av2 := [.ref (E 6), .int (nI 0), .ref (E 5), .int (nI 0), .ref (E 4), .int (nI 0), .int (nI 1)]) (rest := []) (b := ma) X hst (c_R_gather l D Y lo hm5 (ja := 6) (jb := 5) (jc := 4) (by omega) (by omega) (by omega) (by omega) (by omega) (by omega) (by omega) (by omega) (by omega) (by omega) (by omega) r6 (k9 := P b) (by rw [t5, sA5]; exact j5) (g := g1) (by rw [t4, sA4]; exact j4) (up_lt (fun _ => by omega) hFl) (hPp b hb9) jg hmm (z := 1) (by omega)) hm5.ob rfl wc_R_gather ml_R_74 wi_R_gather wl_R_gather wn_R md_R_gather (by decide) hl.1 rfl (Nat.le_of_ble_eq_true rfl) ⟨by omega, by omega⟩ (fun _ _ h => h.elim) dR_divide_291 (fun r M8 H locs hp hst => ?_)
                    obtain ⟨c8, rfl, hmG8, sG8, r8, hoG8⟩ := hp
                    rw [htp] at r8
                    have r8 : rp (c8 4) (addL p (ng p (g1 (pl i) * (q0.2 ^ (p - 2) % p) % p)) (pl i - q0.1) (tp (P b)) g1) := by rw [← qe1]; exact r8
                    refine lv_iinc (lv' := [(9, .int (nI (i + 1))), (13, .int (nI (9138 - rk (pl i - pl k)))), (12, .int (nI (xe (pl i) 2 - xe (pl k) 2))), (11, .int (nI (xe (pl i) 1 - xe (pl k) 1))), (10, .int (nI (xe (pl i) 0 - xe (pl k) 0))), (0, .ref ma), (1, .int (nI r)), (4, .int (nI 1)), (6, .int (nI k)), (7, .long (lN (q0.2 ^ (p - 2) % p)))]) hx hb dR_divide_294 hl (k := 9) rfl (ii_p _) (by decide) rfl (fun ls hl => ?_)
                    refine lv_goto hx hb dR_divide_297 (tgt := 132) rfl ?_
                    exact ihLP _ (by omega) (i + 1) c8 M8 (addL p (ng p (g1 (pl i) * (q0.2 ^ (p - 2) % p) % p)) (pl i - q0.1) (tp (P b)) g1) (pre ++ [(pl i - pl k, (g1 (pl i) * (q0.2 ^ (p - 2) % p) % p))]) _ _ _ rfl (by omega) hmG8 (by rw [sG8 3 (by omega) (by omega), t3, sA3]; exact j3) (by rw [sG8 5 (by omega) (by omega), t5, sA5]; exact j5) r8 (addL_lt (by omega) jg) jc (by rw [List.append_assoc]; rw [qe1]; exact jq) (by rw [sG8 9 (by omega) (by omega), t9]; exact s9) (ho8.tr hoG8) hst (lv_sub hl [5, 6, 7, 8, 9, 0] rfl)
                  · skip
                    have hlt2 := (dif_lt xl2 yl2).mp (Int32.not_le.mp hc)
                    refine lv_goto hx hb dR_divide_216 (tgt := 294) rfl ?_
                    have hsk : ¬ (g1 (pl i) ≠ 0 ∧ mlt (pl i) q0.1) := fun z => by have h9 := z.2.2.2; rw [← qe1] at h9; omega
                    refine lv_iinc (lv' := [(9, .int (nI (i + 1))), (12, .int (dif (xe (pl i) 2) (xe (pl k) 2))), (11, .int (dif (xe (pl i) 1) (xe (pl k) 1))), (10, .int (dif (xe (pl i) 0) (xe (pl k) 0))), (0, .ref ma), (1, .int (nI r)), (4, .int (nI 1)), (6, .int (nI k)), (7, .long (lN (q0.2 ^ (p - 2) % p)))]) hx hb dR_divide_294 hl (k := 8) rfl (ii_p _) (by decide) rfl (fun ls hl => ?_)
                    refine lv_goto hx hb dR_divide_297 (tgt := 132) rfl ?_
                    exact ihLP _ (by omega) (i + 1) d M1 g1 pre _ _ _ rfl (by omega) hmd j3 j5 j4 jg (by rw [dvC_pn (by omega) hsk] at jc; exact jc) (by rw [dvQ_pn (by omega) hsk] at jq; exact jq) j9 hod hst (lv_sub hl [4, 5, 6, 7, 8, 0] rfl)
        exact LP _ 0 c3 M3 (addL p 1 0 (tp (P a)) (fun _ => 0)) ([]) _ _ _ rfl (by omega) hm3 ((s3a 3 (by omega)).trans e3) (by rw [s3a 5 (by omega)]; exact f5) (by rw [s3a 4 (by omega)]; exact f4) hcp1 rfl rfl z3 (hoG.tr ho3) hst (lv_sub hl [2, 3, 4, 5, 1, 0] rfl)
      · skip
        rw [← nI_0] at hc
        have hcz : (P b (pl k)) = 0 := (nI_eq (by omega) (by omega)).mp hc
        refine lv_iinc (lv' := [(6, .int (nI (k + 1))), (0, .ref ma), (1, .int (nI r)), (4, .int (nI 1))]) hx hb dR_divide_102 hl (k := 3) rfl (ii_p _) (by decide) rfl (fun ls hl => ?_)
        refine lv_goto hx hb dR_divide_105 (tgt := 92) rfl ?_
        exact ihLH _ (by omega) (k + 1) _ _ _ rfl (by omega) (by rw [td_pl_n hk hcz] at hinv; exact hinv) hst (lv_sub hl [1, 2, 3, 0] rfl)
    exact LH _ 0 _ _ _ rfl (by omega) rfl hst (lv_sub hl [2, 3, 6, 0] rfl)
  · skip
    rw [← nI_0] at hc
    have hcz : ¬ bz = 0 := fun z => hc ((nI_eq (by omega) (by omega)).mpr z)
    have h9 := hz2.mp (by omega)
    rw [h9] at hq0
    cases hq0

set_option maxHeartbeats 4000000 in
set_option maxRecDepth 100000 in
theorem c_R_divide_r (l : Launch) (D : va_G) (Y : Nat → ClassId) (lo : Nat) {M : Hm} {ma p rf th : Nat} {E : Nat → Nat} {c : Nat → Nat → Nat} (hm : mo Y M ma E p rf th c) {P : Nat → Pf} (hP : rr c P) (hPp : ∀ r, r < 12 → ∀ m, P r m < p) {r a b : Nat} (hr : r < 12) (ha : a < 12) (hb9 : b < 12) (hpr : pr p) {q0 : Nat × Nat} (hq0 : (tp (P b))[0]? = some q0) : ct l D Y lo y_R_divide b_R_divide 14 none 3 [.ref ma, .int (nI r), .int (nI a), .int (nI b), .int (nI 0)] M (fun r9 M' => ∃ c' : Nat → Nat → Nat, r9 = none ∧ mo Y M' ma E p rf 0 c' ∧ rr c' (va_up P r (dvC p q0.1 (q0.2 ^ (p - 2) % p) (tp (P b)) 9139 (addL p 1 0 (tp (P a)) (fun _ => 0)))) ∧ hp_off (fun i => i = 1000) M M') nx 0 0 := by
  refine ct_of (by decide) (Nat.le_of_ble_eq_true rfl) ?_
  intro pg eg sg mg bw mt cg ls X hst hl
  have X1 := X
  obtain ⟨hx, hb, hml, hrt, hlocks, hown, hnm, hts, hkz, hex⟩ := X1
  have hG : ∀ w ∈ GW, w.before _ sg = true := fun w h => hts w (List.mem_cons_of_mem _ h)
  have hK := hkz.1
  have hl : lv_has ls 14 [(0, .ref ma), (1, .int (nI r)), (2, .int (nI a)), (3, .int (nI b)), (4, .int (nI 0))] := hl
  obtain ⟨hp2, hp3⟩ := hm.p2
  refine lv_iload_n hx hb dR_divide_0 rfl (lv_at hl 1 rfl) ?_
  refine ct_callS (av2 := [.int (nI r)]) (rest := []) X hst (g_R_isRegister l D Y lo hr) wc_R_isRegister ml_R_85 ws_R_isRegister wn_R md_R_isRegister (by decide) hl.1 rfl (Nat.le_of_ble_eq_true rfl) ⟨by omega, by omega⟩ (fun _ _ h => h.elim) dR_divide_1 (fun r M' H locs hp hst => ?_)
  obtain ⟨rfl, rfl⟩ := hp
  refine lv_if_eq hx hb dR_divide_4 (tgt := 25) rfl (fun hc => absurd hc (by decide)) (fun hc => ?_)
  refine lv_iload_n hx hb dR_divide_7 rfl (lv_at hl 2 rfl) ?_
  refine ct_callS (av2 := [.int (nI a)]) (rest := []) X hst (g_R_isRegister l D Y lo ha) wc_R_isRegister ml_R_85 ws_R_isRegister wn_R md_R_isRegister (by decide) hl.1 rfl (Nat.le_of_ble_eq_true rfl) ⟨by omega, by omega⟩ (fun _ _ h => h.elim) dR_divide_8 (fun r M' H locs hp hst => ?_)
  obtain ⟨rfl, rfl⟩ := hp
  refine lv_if_eq hx hb dR_divide_11 (tgt := 25) rfl (fun hc => absurd hc (by decide)) (fun hc => ?_)
  refine lv_iload_n hx hb dR_divide_14 rfl (lv_at hl 3 rfl) ?_
  refine ct_callS (av2 := [.int (nI b)]) (rest := []) X hst (g_R_isRegister l D Y lo hb9) wc_R_isRegister ml_R_85 ws_R_isRegister wn_R md_R_isRegister (by decide) hl.1 rfl (Nat.le_of_ble_eq_true rfl) ⟨by omega, by omega⟩ (fun _ _ h => h.elim) dR_divide_15 (fun r M' H locs hp hst => ?_)
  obtain ⟨rfl, rfl⟩ := hp
  refine lv_if_eq hx hb dR_divide_18 (tgt := 25) rfl (fun hc => absurd hc (by decide)) (fun hc => ?_)
  refine lv_iconst (v := nI 1) hx hb dR_divide_21 (by decide +kernel) ?_
  refine lv_goto hx hb dR_divide_22 (tgt := 26) rfl ?_
  refine lv_istore (lv' := [(5, .int (nI 1)), (0, .ref ma), (1, .int (nI r)), (2, .int (nI a)), (3, .int (nI b)), (4, .int (nI 0))]) hx hb dR_divide_26 hl (by decide) rfl (fun ls hl => ?_)
  refine lv_iload hx hb dR_divide_28 (lv_at hl 0 rfl) ?_
  refine lv_if_eq hx hb dR_divide_30 (tgt := 42) rfl (fun hc => absurd hc (by decide)) (fun hc => ?_)
  refine lv_aload_n hx hb dR_divide_33 rfl (lv_at hl 1 rfl) ?_
  refine lv_iload_n hx hb dR_divide_34 rfl (lv_at hl 4 rfl) ?_
  refine lv_aload_n hx hb dR_divide_35 rfl (lv_at hl 1 rfl) ?_
  refine hp_get hx hb hG in_R hown hK hst hm.ob rfl 7 (by decide) (hG _ fl_R_24) rfl rfl dR_divide_36 ?_
  refine ct_callV (av2 := [.int (nI b), .ref (E 5)]) (rest := []) (b := ma) X hst (c_R_load l D Y lo hm hb9 (j := 5) (by omega) (by omega)) hm.ob rfl wc_R_load ml_R_99 wi_R_load wl_R_load wn_R md_R_load (by decide) hl.1 rfl (Nat.le_of_ble_eq_true rfl) ⟨by omega, by omega⟩ (fun _ _ h => h.elim) dR_divide_39 (fun r ML5 H locs hp hst => ?_)
  obtain ⟨cL5, rfl, hmL5, sL5, vL5, hoL5⟩ := hp
  have e5 : rp (cL5 5) (P b) := fun k hk => by rw [vL5 k hk]; exact hP b hb9 k hk
  refine lv_aload_n hx hb dR_divide_42 rfl (lv_at hl 1 rfl) ?_
  refine lv_iload hx hb dR_divide_43 (lv_at hl 0 rfl) ?_
  refine lv_if_ne hx hb dR_divide_45 (tgt := 52) rfl (fun hc => ?_) (fun hc => absurd hc (by decide))
  refine lv_iconst (v := nI 0) hx hb dR_divide_52 (by decide +kernel) ?_
  refine lv_iload hx hb dR_divide_53 (lv_at hl 0 rfl) ?_
  refine lv_if_eq hx hb dR_divide_55 (tgt := 72) rfl (fun hc => absurd hc (by decide)) (fun hc => ?_)
  refine lv_aload_n hx hb dR_divide_58 rfl (lv_at hl 1 rfl) ?_
  refine hp_get hx hb hG in_R hown hK hst hmL5.ob rfl 7 (by decide) (hG _ fl_R_24) rfl rfl dR_divide_59 ?_
  refine ct_callS (av2 := [.ref (E 5)]) (rest := [.int (nI 0), .ref ma]) X hst (c_R_isZero l D Y lo hmL5 (j := 5) (by omega) (by omega) e5 (p31 hp3 hPp hb9)) wc_R_isZero ml_R_113 ws_R_isZero wn_R md_R_isZero (by decide) hl.1 rfl (Nat.le_of_ble_eq_true rfl) ⟨by omega, by omega⟩ (fun _ _ h => h.elim) dR_divide_62 (fun r M' H locs hp hst => ?_)
  obtain ⟨bz, rfl, hz1, hz2, rfl⟩ := hp
  refine lv_if_eq hx hb dR_divide_65 (tgt := 72) rfl (fun hc => ?_) (fun hc => ?_)
  · skip
    rw [← nI_0] at hc
    have hcz : bz = 0 := (nI_eq (by omega) (by omega)).mp hc
    refine lv_iconst (v := nI 0) hx hb dR_divide_72 (by decide +kernel) ?_
    refine ct_callV (av2 := [.int (nI 0), .int (nI 0)]) (rest := []) (b := ma) X hst (c_R_fails l D Y lo hmL5 (a := 0) (b := 0) (by omega) (by omega)) hmL5.ob rfl wc_R_fails ml_R_88 wi_R_fails wl_R_fails wn_R md_R_fails (by decide) hl.1 rfl (Nat.le_of_ble_eq_true rfl) ⟨by omega, by omega⟩ (fun _ _ h => h.elim) dR_divide_73 (fun r MF H locs hp hst => ?_)
    obtain ⟨rfl, hmF, hoF⟩ := hp
    have hmF : mo Y MF ma E p rf 0 cL5 := hmF
    refine lv_if_eq hx hb dR_divide_76 (tgt := 80) rfl (fun hc => ?_) (fun hc => absurd hc (by decide))
    have hoF2 := hoL5.tr hoF
    refine lv_aload_n hx hb dR_divide_80 rfl (lv_at hl 1 rfl) ?_
    refine lv_iload_n hx hb dR_divide_81 rfl (lv_at hl 3 rfl) ?_
    refine lv_aload_n hx hb dR_divide_82 rfl (lv_at hl 1 rfl) ?_
    refine hp_get hx hb hG in_R hown hK hst hmF.ob rfl 6 (by decide) (hG _ fl_R_21) rfl rfl dR_divide_83 ?_
    refine ct_callV (av2 := [.int (nI a), .ref (E 4)]) (rest := []) (b := ma) X hst (c_R_load l D Y lo hmF ha (j := 4) (by omega) (by omega)) hmF.ob rfl wc_R_load ml_R_99 wi_R_load wl_R_load wn_R md_R_load (by decide) hl.1 rfl (Nat.le_of_ble_eq_true rfl) ⟨by omega, by omega⟩ (fun _ _ h => h.elim) dR_divide_86 (fun r ML4 H locs hp hst => ?_)
    obtain ⟨cL4, rfl, hmL4, sL4, vL4, hoL4⟩ := hp
    have e3 : cL4 3 = c 3 := (sL4 3 (by omega)).trans (sL5 3 (by omega))
    have f4 : rp (cL4 4) (addL p 1 0 (tp (P a)) (fun _ => 0)) := fun k hk => by rw [vL4 k hk, sL5 3 (by omega), c0_at (hPp a ha) hk]; exact hP a ha k hk
    have f5 : rp (cL4 5) (P b) := by rw [sL4 5 (by omega)]; exact e5
    have hoG := hoF2.tr hoL4
    refine lv_iconst (v := nI 0) hx hb dR_divide_89 (by decide +kernel) ?_
    refine lv_istore (lv' := [(6, .int (nI 0)), (5, .int (nI 1)), (0, .ref ma), (1, .int (nI r)), (2, .int (nI a)), (3, .int (nI b)), (4, .int (nI 0))]) hx hb dR_divide_90 hl (by decide) rfl (fun ls hl => ?_)
    have LH : ∀ (kk : Nat) (k : Nat) (H : Heap) (locs : List Loc) (ls : Array Slot), kk = 9139 - k → (k ≤ 9139) → (td (P b) (9139 - k) = tp (P b)) → hp_st D vC lo ML4 sg.heap H locs → lv_has ls 14 [(0, .ref ma), (1, .int (nI r)), (4, .int (nI 0)), (6, .int (nI k))] → cW pg l eg sg mg [.ref ma, .int (nI r), .int (nI a), .int (nI b), .int (nI 0)] bw mt cg y_R_divide b_R_divide 14 none 3 D lo (fun r9 M' => ∃ c' : Nat → Nat → Nat, r9 = none ∧ mo Y M' ma E p rf 0 c' ∧ rr c' (va_up P r (dvC p q0.1 (q0.2 ^ (p - 2) % p) (tp (P b)) 9139 (addL p 1 0 (tp (P a)) (fun _ => 0)))) ∧ hp_off (fun i => i = 1000) M M') nx 0 0 H locs 0 0 (F0 mg 92 ls []) := by
      intro kk
      induction kk using Nat.strongRecOn with
      | _ kk ihLH =>
      intro k H locs ls hkk hk9 hinv hst hl
      have hk : k < 9139 := by
        apply Classical.byContradiction
        intro z
        rw [show 9139 - k = 0 by omega] at hinv
        have h9 : tp (P b) = [] := hinv.symm
        rw [h9] at hq0
        cases hq0
      have u1 := f5 k hk
      have l1 := hPp b hb9 (pl k)
      refine lv_aload_n hx hb dR_divide_92 rfl (lv_at hl 0 rfl) ?_
      refine hp_get hx hb hG in_R hown hK hst hmL4.ob rfl 7 (by decide) (hG _ fl_R_24) rfl rfl dR_divide_93 ?_
      refine lv_iload hx hb dR_divide_96 (lv_at hl 3 rfl) ?_
      refine hp_iald hx hb hK rfl hst (hmL4.rw (j := 5) (by omega) (by omega)) (j := k) (by omega) (by omega) dR_divide_98 ?_
      refine tp_n (e2 := P b (pl k)) u1 ?_
      refine lv_if_ne hx hb dR_divide_99 (tgt := 108) rfl (fun hc => ?_) (fun hc => ?_)
      · skip
        rw [← nI_0] at hc
        have hcz : ¬ (P b (pl k)) = 0 := fun z => hc ((nI_eq (by omega) (by omega)).mpr z)
        have hq9 : q0 = (pl k, P b (pl k)) := by
          rw [← hinv, td_pl_y hk hcz] at hq0
          exact (Option.some.inj hq0).symm
        have qe1 : pl k = q0.1 := by rw [hq9]
        have qe2 : P b (pl k) = q0.2 := by rw [hq9]
        clear hq9
        have hmq := tp_mem (List.mem_of_getElem? hq0)
        have hqp : q0.2 < p := by rw [hmq.2.1]; exact hPp b hb9 _
        have hivl : (q0.2 ^ (p - 2) % p) < p := Nat.mod_lt _ (by omega)
        have hivz : (q0.2 ^ (p - 2) % p) % p ≠ 0 := by rw [Nat.mod_mod]; exact pr_pow hpr (by rw [Nat.mod_eq_of_lt hqp]; exact hmq.2.2) _
        have hcp1 : ∀ m, addL p 1 0 (tp (P a)) (fun _ => 0) m < p := addL_lt (by omega) (fun _ => by omega)
        obtain ⟨qb1, qb2⟩ := dvQ_bl (B := tp (P b)) hpr hmq.1 hivz (n := 9139) (Nat.le_refl _) hcp1
        refine lv_aload_n hx hb dR_divide_108 rfl (lv_at hl 0 rfl) ?_
        refine lv_aload_n hx hb dR_divide_109 rfl (lv_at hl 0 rfl) ?_
        refine hp_get hx hb hG in_R hown hK hst hmL4.ob rfl 7 (by decide) (hG _ fl_R_24) rfl rfl dR_divide_110 ?_
        refine lv_iload hx hb dR_divide_113 (lv_at hl 3 rfl) ?_
        refine hp_iald hx hb hK rfl hst (hmL4.rw (j := 5) (by omega) (by omega)) (j := k) (by omega) (by omega) dR_divide_115 ?_
        refine tp_n (e2 := q0.2) (by rw [u1]; exact qe2) ?_
        refine ct_callV (av2 := [.int (nI q0.2)]) (rest := []) (b := ma) X hst (c_R_inverse l D Y lo hmL4 (x := q0.2) hqp) hmL4.ob rfl wc_R_inverse ml_R_117 wi_R_inverse wl_R_inverse wn_R md_R_inverse (by decide) hl.1 rfl (Nat.le_of_ble_eq_true rfl) ⟨by omega, by omega⟩ (fun _ _ h => h.elim) dR_divide_116 (fun r M' H locs hp hst => ?_)
        obtain ⟨rfl, rfl⟩ := hp
        refine lv_i2l (v := lN (q0.2 ^ (p - 2) % p)) hx hb dR_divide_119 (nI_l (by omega)) ?_
        refine lv_lstore (lv' := [(7, .long (lN (q0.2 ^ (p - 2) % p))), (0, .ref ma), (1, .int (nI r)), (4, .int (nI 0)), (6, .int (nI k))]) hx hb dR_divide_120 hl (by decide) rfl (fun ls hl => ?_)
        refine lv_aload_n hx hb dR_divide_122 rfl (lv_at hl 1 rfl) ?_
        refine hp_get hx hb hG in_R hown hK hst hmL4.ob rfl 11 (by decide) (hG _ fl_R_36) rfl rfl dR_divide_123 ?_
        refine ct_callS (av2 := [.ref (E 9)]) (rest := []) X hst (c_R_clear l D Y lo hmL4 (j := 9) (by omega) (by omega)) wc_R_clear ml_R_70 ws_R_clear wn_R md_R_clear (by decide) hl.1 rfl (Nat.le_of_ble_eq_true rfl) ⟨by omega, by omega⟩ (fun _ _ h => h.elim) dR_divide_126 (fun r M3 H locs hp hst => ?_)
        obtain ⟨c3, rfl, hm3, s3a, z3, ho3⟩ := hp
        refine lv_iconst (v := nI 0) hx hb dR_divide_129 (by decide +kernel) ?_
        refine lv_istore (lv' := [(9, .int (nI 0)), (7, .long (lN (q0.2 ^ (p - 2) % p))), (0, .ref ma), (1, .int (nI r)), (4, .int (nI 0)), (6, .int (nI k))]) hx hb dR_divide_130 hl (by decide) rfl (fun ls hl => ?_)
        have LP : ∀ (kk : Nat) (i : Nat) (d : Nat → Nat → Nat) (M1 : Hm) (g1 : Pf) (pre : List (Nat × Nat)) (H : Heap) (locs : List Loc) (ls : Array Slot), kk = 9139 - i → (i ≤ 9139) → (mo Y M1 ma E p rf 0 d) → (d 3 = c 3) → (rp (d 5) (P b)) → (rp (d 4) g1) → (∀ m, g1 m < p) → (dvC p q0.1 (q0.2 ^ (p - 2) % p) (tp (P b)) (9139 - i) g1 = dvC p q0.1 (q0.2 ^ (p - 2) % p) (tp (P b)) 9139 (addL p 1 0 (tp (P a)) (fun _ => 0))) → (dvQ p q0.1 (q0.2 ^ (p - 2) % p) (tp (P b)) 9139 (addL p 1 0 (tp (P a)) (fun _ => 0)) = pre ++ dvQ p q0.1 (q0.2 ^ (p - 2) % p) (tp (P b)) (9139 - i) g1) → (rp (d 9) (lsP pre)) → (hp_off (fun i => i = 1000) M M1) → hp_st D vC lo M1 sg.heap H locs → lv_has ls 14 [(0, .ref ma), (1, .int (nI r)), (4, .int (nI 0)), (6, .int (nI k)), (7, .long (lN (q0.2 ^ (p - 2) % p))), (9, .int (nI i))] → cW pg l eg sg mg [.ref ma, .int (nI r), .int (nI a), .int (nI b), .int (nI 0)] bw mt cg y_R_divide b_R_divide 14 none 3 D lo (fun r9 M' => ∃ c' : Nat → Nat → Nat, r9 = none ∧ mo Y M' ma E p rf 0 c' ∧ rr c' (va_up P r (dvC p q0.1 (q0.2 ^ (p - 2) % p) (tp (P b)) 9139 (addL p 1 0 (tp (P a)) (fun _ => 0)))) ∧ hp_off (fun i => i = 1000) M M') nx 0 0 H locs 0 0 (F0 mg 132 ls []) := by
          intro kk
          induction kk using Nat.strongRecOn with
          | _ kk ihLP =>
          intro i d M1 g1 pre H locs ls hkk hi9 hmd j3 j5 j4 jg jc jq j9 hod hst hl
          refine lv_iload hx hb dR_divide_132 (lv_at hl 5 rfl) ?_
          refine lv_sipush (v := nI 9139) hx hb dR_divide_134 (by decide +kernel) ?_
          refine lv_icmp_ge hx hb dR_divide_137 (tgt := 300) rfl (fun hc => ?_) (fun hc => ?_)
          · skip
            have hc5 : 9139 ≤ i := (nI_leI (by omega) (by omega)).mp hc
            have hi9e : i = 9139 := by omega
            rw [hi9e] at jc jq
            have jc : g1 = dvC p q0.1 (q0.2 ^ (p - 2) % p) (tp (P b)) 9139 (addL p 1 0 (tp (P a)) (fun _ => 0)) := jc
            have jq : dvQ p q0.1 (q0.2 ^ (p - 2) % p) (tp (P b)) 9139 (addL p 1 0 (tp (P a)) (fun _ => 0)) = pre := by rw [jq]; exact List.append_nil pre
            refine lv_iconst (v := nI 0) hx hb dR_divide_300 (by decide +kernel) ?_
            refine lv_istore (lv' := [(9, .int (nI 0)), (0, .ref ma), (1, .int (nI r)), (4, .int (nI 0)), (6, .int (nI k)), (7, .long (lN (q0.2 ^ (p - 2) % p)))]) hx hb dR_divide_301 hl (by decide) rfl (fun ls hl => ?_)
            refine lv_iload hx hb dR_divide_303 (lv_at hl 0 rfl) ?_
            refine lv_sipush (v := nI 9139) hx hb dR_divide_305 (by decide +kernel) ?_
            refine lv_icmp_ge hx hb dR_divide_308 (tgt := 336) rfl (fun hc => ?_) (fun hc => ?_)
            · skip
              have hcq : 9139 ≤ 0 := (nI_leI (by omega) (by omega)).mp hc
              exact absurd hcq (by omega)
            · skip
              have hcq : ¬ 9139 ≤ 0 := fun z => hc ((nI_leI (by omega) (by omega)).mpr z)
              refine lv_iload hx hb dR_divide_311 (lv_at hl 3 rfl) ?_
              refine lv_if_eq hx hb dR_divide_313 (tgt := 336) rfl (fun hc => ?_) (fun hc => absurd hc (by decide))
              rw [jc] at j4
              have hPn : rr d P := fun r hr k hk => by rw [j3]; exact hP r hr k hk
              refine lv_aload_n hx hb dR_divide_336 rfl (lv_at hl 1 rfl) ?_
              refine lv_iload_n hx hb dR_divide_337 rfl (lv_at hl 2 rfl) ?_
              refine lv_aload_n hx hb dR_divide_338 rfl (lv_at hl 1 rfl) ?_
              refine hp_get hx hb hG in_R hown hK hst hmd.ob rfl 6 (by decide) (hG _ fl_R_21) rfl rfl dR_divide_339 ?_
              refine ct_callV (av2 := [.int (nI r), .ref (E 4)]) (rest := []) (b := ma) X hst (c_R_keep l D Y lo hmd hr (j := 4) (by omega) (by omega)) hmd.ob rfl wc_R_keep ml_R_92 wi_R_keep wl_R_keep wn_R md_R_keep (by decide) hl.1 rfl (Nat.le_of_ble_eq_true rfl) ⟨by omega, by omega⟩ (fun _ _ h => h.elim) dR_divide_342 (fun r MK H locs hp hst => ?_)
              obtain ⟨cK, rfl, hmK, sK, vK, nK, hoK⟩ := hp
              have hrK : rr cK (va_up P r (dvC p q0.1 (q0.2 ^ (p - 2) % p) (tp (P b)) 9139 (addL p 1 0 (tp (P a)) (fun _ => 0)))) := rr_keep hPn vK nK j4
              exact ct_vret X hst ⟨cK, rfl, hmK, hrK, hod.tr hoK⟩ (by omega) (by omega) dR_divide_345
          · skip
            have hc5 : ¬ 9139 ≤ i := fun z => hc ((nI_leI (by omega) (by omega)).mpr z)
            have pmi := pl_mv (k := i) (by omega)
            have xl0 := xe_lt (pl i) 0
            have yl0 := xe_lt (pl k) 0
            have xl1 := xe_lt (pl i) 1
            have yl1 := xe_lt (pl k) 1
            have xl2 := xe_lt (pl i) 2
            have yl2 := xe_lt (pl k) 2
            refine lv_aload_n hx hb dR_divide_140 rfl (lv_at hl 0 rfl) ?_
            refine lv_iload hx hb dR_divide_141 (lv_at hl 5 rfl) ?_
            refine lv_iconst (v := nI 0) hx hb dR_divide_143 (by decide +kernel) ?_
            refine ct_callV (av2 := [.int (nI i), .int (nI 0)]) (rest := []) (b := ma) X hst (c_R_exponent l D Y lo hmd (k := i) (v := 0) (by omega) (by omega)) hmd.ob rfl wc_R_exponent ml_R_58 wi_R_exponent wl_R_exponent wn_R md_R_exponent (by decide) hl.1 rfl (Nat.le_of_ble_eq_true rfl) ⟨by omega, by omega⟩ (fun _ _ h => h.elim) dR_divide_144 (fun r M' H locs hp hst => ?_)
            obtain ⟨rfl, rfl⟩ := hp
            refine lv_aload_n hx hb dR_divide_147 rfl (lv_at hl 0 rfl) ?_
            refine lv_iload hx hb dR_divide_148 (lv_at hl 3 rfl) ?_
            refine lv_iconst (v := nI 0) hx hb dR_divide_150 (by decide +kernel) ?_
            refine ct_callV (av2 := [.int (nI k), .int (nI 0)]) (rest := [.int (nI (xe (pl i) 0))]) (b := ma) X hst (c_R_exponent l D Y lo hmd (k := k) (v := 0) (by omega) (by omega)) hmd.ob rfl wc_R_exponent ml_R_58 wi_R_exponent wl_R_exponent wn_R md_R_exponent (by decide) hl.1 rfl (Nat.le_of_ble_eq_true rfl) ⟨by omega, by omega⟩ (fun _ _ h => h.elim) dR_divide_151 (fun r M' H locs hp hst => ?_)
            obtain ⟨rfl, rfl⟩ := hp
            refine t_isub hx hb dR_divide_154 (v := dif (xe (pl i) 0) (xe (pl k) 0)) rfl ?_
            refine lv_istore (lv' := [(10, .int (dif (xe (pl i) 0) (xe (pl k) 0))), (0, .ref ma), (1, .int (nI r)), (4, .int (nI 0)), (6, .int (nI k)), (7, .long (lN (q0.2 ^ (p - 2) % p))), (9, .int (nI i))]) hx hb dR_divide_155 hl (by decide) rfl (fun ls hl => ?_)
            refine lv_aload_n hx hb dR_divide_157 rfl (lv_at hl 1 rfl) ?_
            refine lv_iload hx hb dR_divide_158 (lv_at hl 6 rfl) ?_
            refine lv_iconst (v := nI 1) hx hb dR_divide_160 (by decide +kernel) ?_
            refine ct_callV (av2 := [.int (nI i), .int (nI 1)]) (rest := []) (b := ma) X hst (c_R_exponent l D Y lo hmd (k := i) (v := 1) (by omega) (by omega)) hmd.ob rfl wc_R_exponent ml_R_58 wi_R_exponent wl_R_exponent wn_R md_R_exponent (by decide) hl.1 rfl (Nat.le_of_ble_eq_true rfl) ⟨by omega, by omega⟩ (fun _ _ h => h.elim) dR_divide_161 (fun r M' H locs hp hst => ?_)
            obtain ⟨rfl, rfl⟩ := hp
            refine lv_aload_n hx hb dR_divide_164 rfl (lv_at hl 1 rfl) ?_
            refine lv_iload hx hb dR_divide_165 (lv_at hl 4 rfl) ?_
            refine lv_iconst (v := nI 1) hx hb dR_divide_167 (by decide +kernel) ?_
            refine ct_callV (av2 := [.int (nI k), .int (nI 1)]) (rest := [.int (nI (xe (pl i) 1))]) (b := ma) X hst (c_R_exponent l D Y lo hmd (k := k) (v := 1) (by omega) (by omega)) hmd.ob rfl wc_R_exponent ml_R_58 wi_R_exponent wl_R_exponent wn_R md_R_exponent (by decide) hl.1 rfl (Nat.le_of_ble_eq_true rfl) ⟨by omega, by omega⟩ (fun _ _ h => h.elim) dR_divide_168 (fun r M' H locs hp hst => ?_)
            obtain ⟨rfl, rfl⟩ := hp
            refine t_isub hx hb dR_divide_171 (v := dif (xe (pl i) 1) (xe (pl k) 1)) rfl ?_
            refine lv_istore (lv' := [(11, .int (dif (xe (pl i) 1) (xe (pl k) 1))), (10, .int (dif (xe (pl i) 0) (xe (pl k) 0))), (0, .ref ma), (1, .int (nI r)), (4, .int (nI 0)), (6, .int (nI k)), (7, .long (lN (q0.2 ^ (p - 2) % p))), (9, .int (nI i))]) hx hb dR_divide_172 hl (by decide) rfl (fun ls hl => ?_)
            refine lv_aload_n hx hb dR_divide_174 rfl (lv_at hl 2 rfl) ?_
            refine lv_iload hx hb dR_divide_175 (lv_at hl 7 rfl) ?_
            refine lv_iconst (v := nI 2) hx hb dR_divide_177 (by decide +kernel) ?_
            refine ct_callV (av2 := [.int (nI i), .int (nI 2)]) (rest := []) (b := ma) X hst (c_R_exponent l D Y lo hmd (k := i) (v := 2) (by omega) (by omega)) hmd.ob rfl wc_R_exponent ml_R_58 wi_R_exponent wl_R_exponent wn_R md_R_exponent (by decide) hl.1 rfl (Nat.le_of_ble_eq_true rfl) ⟨by omega, by omega⟩ (fun _ _ h => h.elim) dR_divide_178 (fun r M' H locs hp hst => ?_)
            obtain ⟨rfl, rfl⟩ := hp
            refine lv_aload_n hx hb dR_divide_181 rfl (lv_at hl 2 rfl) ?_
            refine lv_iload hx hb dR_divide_182 (lv_at hl 5 rfl) ?_
            refine lv_iconst (v := nI 2) hx hb dR_divide_184 (by decide +kernel) ?_
            refine ct_callV (av2 := [.int (nI k), .int (nI 2)]) (rest := [.int (nI (xe (pl i) 2))]) (b := ma) X hst (c_R_exponent l D Y lo hmd (k := k) (v := 2) (by omega) (by omega)) hmd.ob rfl wc_R_exponent ml_R_58 wi_R_exponent wl_R_exponent wn_R md_R_exponent (by decide) hl.1 rfl (Nat.le_of_ble_eq_true rfl) ⟨by omega, by omega⟩ (fun _ _ h => h.elim) dR_divide_185 (fun r M' H locs hp hst => ?_)
            obtain ⟨rfl, rfl⟩ := hp
            refine t_isub hx hb dR_divide_188 (v := dif (xe (pl i) 2) (xe (pl k) 2)) rfl ?_
            have v1 : d 4 i = g1 (pl i) := j4 i (by omega)
            have l1 := jg (pl i)
            refine lv_istore (lv' := [(12, .int (dif (xe (pl i) 2) (xe (pl k) 2))), (11, .int (dif (xe (pl i) 1) (xe (pl k) 1))), (10, .int (dif (xe (pl i) 0) (xe (pl k) 0))), (0, .ref ma), (1, .int (nI r)), (4, .int (nI 0)), (6, .int (nI k)), (7, .long (lN (q0.2 ^ (p - 2) % p))), (9, .int (nI i))]) hx hb dR_divide_189 hl (by decide) rfl (fun ls hl => ?_)
            refine lv_aload_n hx hb dR_divide_191 rfl (lv_at hl 3 rfl) ?_
            refine hp_get hx hb hG in_R hown hK hst hmd.ob rfl 6 (by decide) (hG _ fl_R_21) rfl rfl dR_divide_192 ?_
            refine lv_iload hx hb dR_divide_195 (lv_at hl 8 rfl) ?_
            refine hp_iald hx hb hK rfl hst (hmd.rw (j := 4) (by omega) (by omega)) (j := i) (by omega) (by omega) dR_divide_197 ?_
            refine tp_n (e2 := g1 (pl i)) v1 ?_
            refine lv_if_eq hx hb dR_divide_198 (tgt := 294) rfl (fun hc => ?_) (fun hc => ?_)
            · skip
              rw [← nI_0] at hc
              have hcz : (g1 (pl i)) = 0 := (nI_eq (by omega) (by omega)).mp hc
              have hsk : ¬ (g1 (pl i) ≠ 0 ∧ mlt (pl i) q0.1) := fun z => z.1 hcz
              refine lv_iinc (lv' := [(9, .int (nI (i + 1))), (12, .int (dif (xe (pl i) 2) (xe (pl k) 2))), (11, .int (dif (xe (pl i) 1) (xe (pl k) 1))), (10, .int (dif (xe (pl i) 0) (xe (pl k) 0))), (0, .ref ma), (1, .int (nI r)), (4, .int (nI 0)), (6, .int (nI k)), (7, .long (lN (q0.2 ^ (p - 2) % p)))]) hx hb dR_divide_294 hl (k := 8) rfl (ii_p _) (by decide) rfl (fun ls hl => ?_)
              refine lv_goto hx hb dR_divide_297 (tgt := 132) rfl ?_
              exact ihLP _ (by omega) (i + 1) d M1 g1 pre _ _ _ rfl (by omega) hmd j3 j5 j4 jg (by rw [dvC_pn (by omega) hsk] at jc; exact jc) (by rw [dvQ_pn (by omega) hsk] at jq; exact jq) j9 hod hst (lv_sub hl [4, 5, 6, 7, 8, 0] rfl)
            · skip
              rw [← nI_0] at hc
              have hcz : ¬ (g1 (pl i)) = 0 := fun z => hc ((nI_eq (by omega) (by omega)).mpr z)
              refine lv_iload hx hb dR_divide_201 (lv_at hl 2 rfl) ?_
              refine lv_if_lt hx hb dR_divide_203 (tgt := 294) rfl (fun hc => ?_) (fun hc => ?_)
              · skip
                have hlt0 := (dif_lt xl0 yl0).mp hc
                have hsk : ¬ (g1 (pl i) ≠ 0 ∧ mlt (pl i) q0.1) := fun z => by have h9 := z.2.1; rw [← qe1] at h9; omega
                refine lv_iinc (lv' := [(9, .int (nI (i + 1))), (12, .int (dif (xe (pl i) 2) (xe (pl k) 2))), (11, .int (dif (xe (pl i) 1) (xe (pl k) 1))), (10, .int (dif (xe (pl i) 0) (xe (pl k) 0))), (0, .ref ma), (1, .int (nI r)), (4, .int (nI 0)), (6, .int (nI k)), (7, .long (lN (q0.2 ^ (p - 2) % p)))]) hx hb dR_divide_294 hl (k := 8) rfl (ii_p _) (by decide) rfl (fun ls hl => ?_)
                refine lv_goto hx hb dR_divide_297 (tgt := 132) rfl ?_
                exact ihLP _ (by omega) (i + 1) d M1 g1 pre _ _ _ rfl (by omega) hmd j3 j5 j4 jg (by rw [dvC_pn (by omega) hsk] at jc; exact jc) (by rw [dvQ_pn (by omega) hsk] at jq; exact jq) j9 hod hst (lv_sub hl [4, 5, 6, 7, 8, 0] rfl)
              · skip
                have hge0 : xe (pl k) 0 ≤ xe (pl i) 0 := Nat.le_of_not_lt (fun z => hc ((dif_lt xl0 yl0).mpr z))
                refine lv_iload hx hb dR_divide_206 (lv_at hl 1 rfl) ?_
                refine lv_if_lt hx hb dR_divide_208 (tgt := 294) rfl (fun hc => ?_) (fun hc => ?_)
                · skip
                  have hlt1 := (dif_lt xl1 yl1).mp hc
                  have hsk : ¬ (g1 (pl i) ≠ 0 ∧ mlt (pl i) q0.1) := fun z => by have h9 := z.2.2.1; rw [← qe1] at h9; omega
                  refine lv_iinc (lv' := [(9, .int (nI (i + 1))), (12, .int (dif (xe (pl i) 2) (xe (pl k) 2))), (11, .int (dif (xe (pl i) 1) (xe (pl k) 1))), (10, .int (dif (xe (pl i) 0) (xe (pl k) 0))), (0, .ref ma), (1, .int (nI r)), (4, .int (nI 0)), (6, .int (nI k)), (7, .long (lN (q0.2 ^ (p - 2) % p)))]) hx hb dR_divide_294 hl (k := 8) rfl (ii_p _) (by decide) rfl (fun ls hl => ?_)
                  refine lv_goto hx hb dR_divide_297 (tgt := 132) rfl ?_
                  exact ihLP _ (by omega) (i + 1) d M1 g1 pre _ _ _ rfl (by omega) hmd j3 j5 j4 jg (by rw [dvC_pn (by omega) hsk] at jc; exact jc) (by rw [dvQ_pn (by omega) hsk] at jq; exact jq) j9 hod hst (lv_sub hl [4, 5, 6, 7, 8, 0] rfl)
                · skip
                  have hge1 : xe (pl k) 1 ≤ xe (pl i) 1 := Nat.le_of_not_lt (fun z => hc ((dif_lt xl1 yl1).mpr z))
                  refine lv_iload hx hb dR_divide_211 (lv_at hl 0 rfl) ?_
                  refine lv_if_ge hx hb dR_divide_213 (tgt := 219) rfl (fun hc => ?_) (fun hc => ?_)
                  · skip
                    have hge2 : xe (pl k) 2 ≤ xe (pl i) 2 := Nat.le_of_not_lt (fun z => absurd ((dif_lt xl2 yl2).mpr z) (fun z2 => Int32.not_le.mpr z2 hc))
                    have hml : mlt (pl i) q0.1 := by rw [← qe1]; exact ⟨hge0, hge1, hge2⟩
                    have hhit : g1 (pl i) ≠ 0 ∧ mlt (pl i) q0.1 := ⟨hcz, hml⟩
                    obtain ⟨mq1, mq2, mq3⟩ := mlt_mp pmi hmq.1 hml
                    rw [← qe1] at mq2
                    have mq3 : mv (pl i - pl k) := by rw [qe1]; exact mq3
                    have hrq := rk_lt mq3
                    have h36 := pmi.1
                    have l2 : g1 (pl i) * (q0.2 ^ (p - 2) % p) ≤ 46337 * 46337 := Nat.mul_le_mul (by omega) (by omega)
                    have hFl : (g1 (pl i) * (q0.2 ^ (p - 2) % p) % p) < p := Nat.mod_lt _ (by omega)
                    have hFz : (g1 (pl i) * (q0.2 ^ (p - 2) % p) % p) ≠ 0 := pr_mul hpr (by rw [Nat.mod_eq_of_lt l1]; exact hcz) hivz
                    rw [dvC_py (by omega) hhit] at jc
                    rw [dvQ_py (by omega) hhit] at jq
                    rw [dif_ge hge0, dif_ge hge1, dif_ge hge2] at hl
                    refine lv_aload_n hx hb dR_divide_219 rfl (lv_at hl 3 rfl) ?_
                    refine lv_iload hx hb dR_divide_220 (lv_at hl 2 rfl) ?_
                    refine lv_iload hx hb dR_divide_222 (lv_at hl 1 rfl) ?_
                    refine lv_iload hx hb dR_divide_224 (lv_at hl 0 rfl) ?_
                    refine ct_callV (av2 := [.int (nI (xe (pl i) 0 - xe (pl k) 0)), .int (nI (xe (pl i) 1 - xe (pl k) 1)), .int (nI (xe (pl i) 2 - xe (pl k) 2))]) (rest := []) (b := ma) X hst (c_R_place l D Y lo hmd (a := xe (pl i) 0 - xe (pl k) 0) (b := xe (pl i) 1 - xe (pl k) 1) (d := xe (pl i) 2 - xe (pl k) 2) (by omega)) hmd.ob rfl wc_R_place ml_R_62 wi_R_place wl_R_place wn_R md_R_place (by decide) hl.1 rfl (Nat.le_of_ble_eq_true rfl) ⟨by omega, by omega⟩ (fun _ _ h => h.elim) dR_divide_226 (fun r M' H locs hp hst => ?_)
                    obtain ⟨rfl, rfl⟩ := hp
                    refine tp_n (e2 := 9138 - rk (pl i - pl k)) (by rw [mq2]) ?_
                    refine lv_istore (lv' := [(13, .int (nI (9138 - rk (pl i - pl k)))), (12, .int (nI (xe (pl i) 2 - xe (pl k) 2))), (11, .int (nI (xe (pl i) 1 - xe (pl k) 1))), (10, .int (nI (xe (pl i) 0 - xe (pl k) 0))), (0, .ref ma), (1, .int (nI r)), (4, .int (nI 0)), (6, .int (nI k)), (7, .long (lN (q0.2 ^ (p - 2) % p))), (9, .int (nI i))]) hx hb dR_divide_229 hl (by decide) rfl (fun ls hl => ?_)
                    refine lv_aload_n hx hb dR_divide_231 rfl (lv_at hl 4 rfl) ?_
                    refine hp_get hx hb hG in_R hown hK hst hmd.ob rfl 11 (by decide) (hG _ fl_R_36) rfl rfl dR_divide_232 ?_
                    refine lv_iload hx hb dR_divide_235 (lv_at hl 0 rfl) ?_
                    refine lv_aload_n hx hb dR_divide_237 rfl (lv_at hl 4 rfl) ?_
                    refine lv_aload_n hx hb dR_divide_238 rfl (lv_at hl 4 rfl) ?_
                    refine hp_get hx hb hG in_R hown hK hst hmd.ob rfl 6 (by decide) (hG _ fl_R_21) rfl rfl dR_divide_239 ?_
                    refine lv_iload hx hb dR_divide_242 (lv_at hl 9 rfl) ?_
                    refine hp_iald hx hb hK rfl hst (hmd.rw (j := 4) (by omega) (by omega)) (j := i) (by omega) (by omega) dR_divide_244 ?_
                    refine tp_n (e2 := g1 (pl i)) v1 ?_
                    refine lv_i2l (v := lN (g1 (pl i))) hx hb dR_divide_245 (nI_l (by omega)) ?_
                    refine lv_lload hx hb dR_divide_246 (lv_at hl 8 rfl) ?_
                    refine lv_lmul hx hb dR_divide_248 ?_
                    refine tp_l (e2 := lN ((g1 (pl i)) * (q0.2 ^ (p - 2) % p))) (lN_mul _ _) ?_
                    refine ct_callV (av2 := [.long (lN ((g1 (pl i)) * (q0.2 ^ (p - 2) % p)))]) (rest := [.int (nI (9138 - rk (pl i - pl k))), .ref (E 9)]) (b := ma) X hst (c_R_reduced l D Y lo hmd (lN (g1 (pl i) * (q0.2 ^ (p - 2) % p)))) hmd.ob rfl wc_R_reduced ml_R_66 wi_R_reduced wl_R_reduced wn_R md_R_reduced (by decide) hl.1 rfl (Nat.le_of_ble_eq_true rfl) ⟨by omega, by omega⟩ (fun _ _ h => h.elim) dR_divide_249 (fun r M' H locs hp hst => ?_)
                    obtain ⟨rfl, rfl⟩ := hp
                    refine tp_n (e2 := (g1 (pl i) * (q0.2 ^ (p - 2) % p) % p)) (by rw [lN_big (by omega), rd_nat]) ?_
                    refine hp_iast hx hb hK rfl hst (hmd.rw (j := 9) (by omega) (by omega)) (j := (9138 - rk (pl i - pl k))) (v := (g1 (pl i) * (q0.2 ^ (p - 2) % p) % p)) (by omega) (by omega) dR_divide_252 (fun H locs hst => ?_)
                    obtain ⟨hm1, hs2⟩ := hmd.sr (j := 9) (by omega) (by omega) (va_up (d 9) (9138 - rk (pl i - pl k)) (g1 (pl i) * (q0.2 ^ (p - 2) % p) % p))
                    generalize hp_up M1 (E 9) ((1000, 9), e_n Y 9139 (va_up (d 9) (9138 - rk (pl i - pl k)) (g1 (pl i) * (q0.2 ^ (p - 2) % p) % p))) = M3 at hst hm1 hs2
                    have ho4 := hod.tr hs2
                    have bq : bl 9139 (pre ++ (pl i - pl k, (g1 (pl i) * (q0.2 ^ (p - 2) % p) % p)) :: dvQ p q0.1 (q0.2 ^ (p - 2) % p) (tp (P b)) (9139 - (i + 1)) (addL p (ng p (g1 (pl i) * (q0.2 ^ (p - 2) % p) % p)) (pl i - q0.1) (tp (P b)) g1)) := by rw [qe1]; rw [← jq]; exact qb1
                    have s9 : rp ((va_up d 9 (va_up (d 9) (9138 - rk (pl i - pl k)) (g1 (pl i) * (q0.2 ^ (p - 2) % p) % p))) 9) (lsP (pre ++ [(pl i - pl k, (g1 (pl i) * (q0.2 ^ (p - 2) % p) % p))])) := by rw [va_up_self, ← ls_up bq]; exact rp_up j9 mq3
                    have sA4 : (va_up d 9 (va_up (d 9) (9138 - rk (pl i - pl k)) (g1 (pl i) * (q0.2 ^ (p - 2) % p) % p))) 4 = d 4 := va_up_ne _ _ (by omega)
                    have sA5 : (va_up d 9 (va_up (d 9) (9138 - rk (pl i - pl k)) (g1 (pl i) * (q0.2 ^ (p - 2) % p) % p))) 5 = d 5 := va_up_ne _ _ (by omega)
                    have sA3 : (va_up d 9 (va_up (d 9) (9138 - rk (pl i - pl k)) (g1 (pl i) * (q0.2 ^ (p - 2) % p) % p))) 3 = d 3 := va_up_ne _ _ (by omega)
                    generalize va_up d 9 (va_up (d 9) (9138 - rk (pl i - pl k)) (g1 (pl i) * (q0.2 ^ (p - 2) % p) % p)) = d1 at *
                    refine lv_aload_n hx hb dR_divide_253 rfl (lv_at hl 4 rfl) ?_
                    refine hp_get hx hb hG in_R hown hK hst hm1.ob rfl 8 (by decide) (hG _ fl_R_27) rfl rfl dR_divide_254 ?_
                    refine ct_callS (av2 := [.ref (E 6)]) (rest := []) X hst (c_R_clear l D Y lo hm1 (j := 6) (by omega) (by omega)) wc_R_clear ml_R_70 ws_R_clear wn_R md_R_clear (by decide) hl.1 rfl (Nat.le_of_ble_eq_true rfl) ⟨by omega, by omega⟩ (fun _ _ h => h.elim) dR_divide_257 (fun r M6 H locs hp hst => ?_)
                    obtain ⟨c6, rfl, hm6, s6a, z6, ho6⟩ := hp
                    have w9 : c6 9 (9138 - rk (pl i - pl k)) = (g1 (pl i) * (q0.2 ^ (p - 2) % p) % p) := by
                      rw [s6a 9 (by omega), rp_at s9 mq3, ← ls_up bq]
                      exact va_up_self _ _ _
                    refine lv_aload_n hx hb dR_divide_260 rfl (lv_at hl 4 rfl) ?_
                    refine hp_get hx hb hG in_R hown hK hst hm6.ob rfl 8 (by decide) (hG _ fl_R_27) rfl rfl dR_divide_261 ?_
                    refine lv_iload hx hb dR_divide_264 (lv_at hl 0 rfl) ?_
                    refine lv_aload_n hx hb dR_divide_266 rfl (lv_at hl 4 rfl) ?_
                    refine hp_get hx hb hG in_R hown hK hst hm6.ob rfl 11 (by decide) (hG _ fl_R_36) rfl rfl dR_divide_267 ?_
                    refine lv_iload hx hb dR_divide_270 (lv_at hl 0 rfl) ?_
                    refine hp_iald hx hb hK rfl hst (hm6.rw (j := 9) (by omega) (by omega)) (j := (9138 - rk (pl i - pl k))) (by omega) (by omega) dR_divide_272 ?_
                    refine tp_n (e2 := (g1 (pl i) * (q0.2 ^ (p - 2) % p) % p)) w9 ?_
                    refine hp_iast hx hb hK rfl hst (hm6.rw (j := 6) (by omega) (by omega)) (j := (9138 - rk (pl i - pl k))) (v := (g1 (pl i) * (q0.2 ^ (p - 2) % p) % p)) (by omega) (by omega) dR_divide_273 (fun H locs hst => ?_)
                    obtain ⟨hm5, hs6⟩ := hm6.sr (j := 6) (by omega) (by omega) (va_up (c6 6) (9138 - rk (pl i - pl k)) (g1 (pl i) * (q0.2 ^ (p - 2) % p) % p))
                    generalize hp_up M6 (E 6) ((1000, 6), e_n Y 9139 (va_up (c6 6) (9138 - rk (pl i - pl k)) (g1 (pl i) * (q0.2 ^ (p - 2) % p) % p))) = M7 at hst hm5 hs6
                    have ho8 := (ho4.tr ho6).tr hs6
                    have r6 : rp ((va_up c6 6 (va_up (c6 6) (9138 - rk (pl i - pl k)) (g1 (pl i) * (q0.2 ^ (p - 2) % p) % p))) 6) (va_up (fun _ => 0) (pl i - pl k) (g1 (pl i) * (q0.2 ^ (p - 2) % p) % p)) := by rw [va_up_self]; exact rp_up (h := fun _ => 0) z6 mq3
                    have t3 : (va_up c6 6 (va_up (c6 6) (9138 - rk (pl i - pl k)) (g1 (pl i) * (q0.2 ^ (p - 2) % p) % p))) 3 = d1 3 := (va_up_ne _ _ (by omega)).trans (s6a 3 (by omega))
                    have t4 : (va_up c6 6 (va_up (c6 6) (9138 - rk (pl i - pl k)) (g1 (pl i) * (q0.2 ^ (p - 2) % p) % p))) 4 = d1 4 := (va_up_ne _ _ (by omega)).trans (s6a 4 (by omega))
                    have t5 : (va_up c6 6 (va_up (c6 6) (9138 - rk (pl i - pl k)) (g1 (pl i) * (q0.2 ^ (p - 2) % p) % p))) 5 = d1 5 := (va_up_ne _ _ (by omega)).trans (s6a 5 (by omega))
                    have t9 : (va_up c6 6 (va_up (c6 6) (9138 - rk (pl i - pl k)) (g1 (pl i) * (q0.2 ^ (p - 2) % p) % p))) 9 = d1 9 := (va_up_ne _ _ (by omega)).trans (s6a 9 (by omega))
                    generalize va_up c6 6 (va_up (c6 6) (9138 - rk (pl i - pl k)) (g1 (pl i) * (q0.2 ^ (p - 2) % p) % p)) = d2 at *
                    have htp : tp (va_up (fun _ => 0) (pl i - pl k) (g1 (pl i) * (q0.2 ^ (p - 2) % p) % p)) = [(pl i - pl k, (g1 (pl i) * (q0.2 ^ (p - 2) % p) % p))] := tp_single mq3 hFz
                    have hmm : ∀ q ∈ tp (va_up (fun _ => 0) (pl i - pl k) (g1 (pl i) * (q0.2 ^ (p - 2) % p) % p)), ∀ q2 ∈ tp (P b), s3 q2.1 + s3 q.1 ≤ 36 := by
                      intro q hq q2 hq2
                      rw [htp, List.mem_singleton] at hq
                      rw [hq]
                      have h9 := dv_mv hq0 (9138 - i) (by omega) (by have h8 := hml; unfold pl at h8; exact h8) q2 hq2
                      refine mv_s3 (tp_mem hq2).1 mq3 ?_
                      rw [qe1]
                      exact h9
                    refine lv_aload_n hx hb dR_divide_274 rfl (lv_at hl 4 rfl) ?_
                    refine lv_aload_n hx hb dR_divide_275 rfl (lv_at hl 4 rfl) ?_
                    refine hp_get hx hb hG in_R hown hK hst hm5.ob rfl 8 (by decide) (hG _ fl_R_27) rfl rfl dR_divide_276 ?_
                    refine lv_iconst (v := nI 0) hx hb dR_divide_279 (by decide +kernel) ?_
                    refine lv_aload_n hx hb dR_divide_280 rfl (lv_at hl 4 rfl) ?_
                    refine hp_get hx hb hG in_R hown hK hst hm5.ob rfl 7 (by decide) (hG _ fl_R_24) rfl rfl dR_divide_281 ?_
                    refine lv_iconst (v := nI 0) hx hb dR_divide_284 (by decide +kernel) ?_
                    refine lv_aload_n hx hb dR_divide_285 rfl (lv_at hl 4 rfl) ?_
                    refine hp_get hx hb hG in_R hown hK hst hm5.ob rfl 6 (by decide) (hG _ fl_R_21) rfl rfl dR_divide_286 ?_
                    refine lv_iconst (v := nI 0) hx hb dR_divide_289 (by decide +kernel) ?_
                    refine lv_iconst (v := nI 1) hx hb dR_divide_290 (by decide +kernel) ?_
                    refine ct_callV (av2 := [.ref (E 6), .int (nI 0), .ref (E 5), .int (nI 0), .ref (E 4), .int (nI 0), .int (nI 1)]) (rest := []) (b := ma) X hst (c_R_gather l D Y lo hm5 (ja := 6) (jb := 5) (jc := 4) (by omega) (by omega) (by omega) (by omega) (by omega) (by omega) (by omega) (by omega) (by omega) (by omega) (by omega) r6 (k9 := P b) (by rw [t5, sA5]; exact j5) (g := g1) (by rw [t4, sA4]; exact j4) (up_lt (fun _ => by omega) hFl) (hPp b hb9) jg hmm (z := 1) (by omega)) hm5.ob rfl wc_R_gather ml_R_74 wi_R_gather wl_R_gather wn_R md_R_gather (by decide) hl.1 rfl (Nat.le_of_ble_eq_true rfl) ⟨by omega, by omega⟩ (fun _ _ h => h.elim) dR_divide_291 (fun r M8 H locs hp hst => ?_)
                    obtain ⟨c8, rfl, hmG8, sG8, r8, hoG8⟩ := hp
                    rw [htp] at r8
                    have r8 : rp (c8 4) (addL p (ng p (g1 (pl i) * (q0.2 ^ (p - 2) % p) % p)) (pl i - q0.1) (tp (P b)) g1) := by rw [← qe1]; exact r8
                    refine lv_iinc (lv' := [(9, .int (nI (i + 1))), (13, .int (nI (9138 - rk (pl i - pl k)))), (12, .int (nI (xe (pl i) 2 - xe (pl k) 2))), (11, .int (nI (xe (pl i) 1 - xe (pl k) 1))), (10, .int (nI (xe (pl i) 0 - xe (pl k) 0))), (0, .ref ma), (1, .int (nI r)), (4, .int (nI 0)), (6, .int (nI k)), (7, .long (lN (q0.2 ^ (p - 2) % p)))]) hx hb dR_divide_294 hl (k := 9) rfl (ii_p _) (by decide) rfl (fun ls hl => ?_)
                    refine lv_goto hx hb dR_divide_297 (tgt := 132) rfl ?_
                    exact ihLP _ (by omega) (i + 1) c8 M8 (addL p (ng p (g1 (pl i) * (q0.2 ^ (p - 2) % p) % p)) (pl i - q0.1) (tp (P b)) g1) (pre ++ [(pl i - pl k, (g1 (pl i) * (q0.2 ^ (p - 2) % p) % p))]) _ _ _ rfl (by omega) hmG8 (by rw [sG8 3 (by omega) (by omega), t3, sA3]; exact j3) (by rw [sG8 5 (by omega) (by omega), t5, sA5]; exact j5) r8 (addL_lt (by omega) jg) jc (by rw [List.append_assoc]; rw [qe1]; exact jq) (by rw [sG8 9 (by omega) (by omega), t9]; exact s9) (ho8.tr hoG8) hst (lv_sub hl [5, 6, 7, 8, 9, 0] rfl)
                  · skip
                    have hlt2 := (dif_lt xl2 yl2).mp (Int32.not_le.mp hc)
                    refine lv_goto hx hb dR_divide_216 (tgt := 294) rfl ?_
                    have hsk : ¬ (g1 (pl i) ≠ 0 ∧ mlt (pl i) q0.1) := fun z => by have h9 := z.2.2.2; rw [← qe1] at h9; omega
                    refine lv_iinc (lv' := [(9, .int (nI (i + 1))), (12, .int (dif (xe (pl i) 2) (xe (pl k) 2))), (11, .int (dif (xe (pl i) 1) (xe (pl k) 1))), (10, .int (dif (xe (pl i) 0) (xe (pl k) 0))), (0, .ref ma), (1, .int (nI r)), (4, .int (nI 0)), (6, .int (nI k)), (7, .long (lN (q0.2 ^ (p - 2) % p)))]) hx hb dR_divide_294 hl (k := 8) rfl (ii_p _) (by decide) rfl (fun ls hl => ?_)
                    refine lv_goto hx hb dR_divide_297 (tgt := 132) rfl ?_
                    exact ihLP _ (by omega) (i + 1) d M1 g1 pre _ _ _ rfl (by omega) hmd j3 j5 j4 jg (by rw [dvC_pn (by omega) hsk] at jc; exact jc) (by rw [dvQ_pn (by omega) hsk] at jq; exact jq) j9 hod hst (lv_sub hl [4, 5, 6, 7, 8, 0] rfl)
        exact LP _ 0 c3 M3 (addL p 1 0 (tp (P a)) (fun _ => 0)) ([]) _ _ _ rfl (by omega) hm3 ((s3a 3 (by omega)).trans e3) (by rw [s3a 5 (by omega)]; exact f5) (by rw [s3a 4 (by omega)]; exact f4) hcp1 rfl rfl z3 (hoG.tr ho3) hst (lv_sub hl [2, 3, 4, 5, 1, 0] rfl)
      · skip
        rw [← nI_0] at hc
        have hcz : (P b (pl k)) = 0 := (nI_eq (by omega) (by omega)).mp hc
        refine lv_iinc (lv' := [(6, .int (nI (k + 1))), (0, .ref ma), (1, .int (nI r)), (4, .int (nI 0))]) hx hb dR_divide_102 hl (k := 3) rfl (ii_p _) (by decide) rfl (fun ls hl => ?_)
        refine lv_goto hx hb dR_divide_105 (tgt := 92) rfl ?_
        exact ihLH _ (by omega) (k + 1) _ _ _ rfl (by omega) (by rw [td_pl_n hk hcz] at hinv; exact hinv) hst (lv_sub hl [1, 2, 3, 0] rfl)
    exact LH _ 0 _ _ _ rfl (by omega) rfl hst (lv_sub hl [2, 3, 6, 0] rfl)
  · skip
    rw [← nI_0] at hc
    have hcz : ¬ bz = 0 := fun z => hc ((nI_eq (by omega) (by omega)).mpr z)
    have h9 := hz2.mp (by omega)
    rw [h9] at hq0
    cases hq0

set_option maxHeartbeats 4000000 in
set_option maxRecDepth 100000 in
theorem e_R_divide (l : Launch) (D : va_G) (Y : Nat → ClassId) (lo : Nat) {M : Hm} {ma p rf th : Nat} {E : Nat → Nat} {c : Nat → Nat → Nat} (hm : mo Y M ma E p rf th c) {x1 x2 x3 x4 : Int32} (hno : ¬ (inR x1 ∧ inR x2 ∧ inR x3)) : ct l D Y lo y_R_divide b_R_divide 14 none 3 [.ref ma, .int x1, .int x2, .int x3, .int x4] M (fun r9 M' => ∃ t : Nat, r9 = none ∧ mo Y M' ma E p rf t c ∧ (t = 1 ∧ ¬ (inR x1 ∧ inR x2 ∧ inR x3) ∨ t = 2 ∧ (inR x1 ∧ inR x2 ∧ inR x3)) ∧ hp_off (fun i => i = 1000) M M') nx 0 0 := by
  refine ct_of (by decide) (Nat.le_of_ble_eq_true rfl) ?_
  intro pg eg sg mg bw mt cg ls X hst hl
  have X1 := X
  obtain ⟨hx, hb, hml, hrt, hlocks, hown, hnm, hts, hkz, hex⟩ := X1
  have hG : ∀ w ∈ GW, w.before _ sg = true := fun w h => hts w (List.mem_cons_of_mem _ h)
  have hK := hkz.1
  have hl : lv_has ls 14 [(0, .ref ma), (1, .int x1), (2, .int x2), (3, .int x3), (4, .int x4)] := hl
  refine lv_iload_n hx hb dR_divide_0 rfl (lv_at hl 1 rfl) ?_
  refine ct_callS (av2 := [.int x1]) (rest := []) X hst (c_R_isRegister l D Y lo x1) wc_R_isRegister ml_R_85 ws_R_isRegister wn_R md_R_isRegister (by decide) hl.1 rfl (Nat.le_of_ble_eq_true rfl) ⟨by omega, by omega⟩ (fun _ _ h => h.elim) dR_divide_1 (fun r M' H locs hp hst => ?_)
  obtain ⟨b1, rfl, hb1, ib1, rfl⟩ := hp
  refine lv_if_eq hx hb dR_divide_4 (tgt := 25) rfl (fun hc => ?_) (fun hc => ?_)
  · skip
    rw [← nI_0] at hc
    have hz1 : b1 = 0 := (nI_eq (by omega) (by omega)).mp hc
    refine lv_iconst (v := nI 0) hx hb dR_divide_25 (by decide +kernel) ?_
    refine lv_istore (lv' := [(5, .int (nI 0)), (0, .ref ma), (1, .int x1), (2, .int x2), (3, .int x3), (4, .int x4)]) hx hb dR_divide_26 hl (by decide) rfl (fun ls hl => ?_)
    refine lv_iload hx hb dR_divide_28 (lv_at hl 0 rfl) ?_
    refine lv_if_eq hx hb dR_divide_30 (tgt := 42) rfl (fun hc => ?_) (fun hc => absurd hc (by decide))
    refine lv_aload_n hx hb dR_divide_42 rfl (lv_at hl 1 rfl) ?_
    refine lv_iload hx hb dR_divide_43 (lv_at hl 0 rfl) ?_
    refine lv_if_ne hx hb dR_divide_45 (tgt := 52) rfl (fun hc => absurd hc (by decide)) (fun hc => ?_)
    refine lv_iconst (v := nI 1) hx hb dR_divide_48 (by decide +kernel) ?_
    refine lv_goto hx hb dR_divide_49 (tgt := 53) rfl ?_
    refine lv_iload hx hb dR_divide_53 (lv_at hl 0 rfl) ?_
    refine lv_if_eq hx hb dR_divide_55 (tgt := 72) rfl (fun hc => ?_) (fun hc => absurd hc (by decide))
    refine lv_iconst (v := nI 0) hx hb dR_divide_72 (by decide +kernel) ?_
    refine ct_callV (av2 := [.int (nI 1), .int (nI 0)]) (rest := []) (b := ma) X hst (c_R_fails l D Y lo hm (a := 1) (b := 0) (by omega) (by omega)) hm.ob rfl wc_R_fails ml_R_88 wi_R_fails wl_R_fails wn_R md_R_fails (by decide) hl.1 rfl (Nat.le_of_ble_eq_true rfl) ⟨by omega, by omega⟩ (fun _ _ h => h.elim) dR_divide_73 (fun r MF H locs hp hst => ?_)
    obtain ⟨rfl, hmF, hoF⟩ := hp
    have hmF : mo Y MF ma E p rf 1 c := hmF
    refine lv_if_eq hx hb dR_divide_76 (tgt := 80) rfl (fun hc => absurd hc (by decide)) (fun hc => ?_)
    exact ct_vret X hst ⟨1, rfl, hmF, Or.inl ⟨rfl, hno⟩, hoF⟩ (by omega) (by omega) dR_divide_79
  · skip
    rw [← nI_0] at hc
    have hz1 : ¬ b1 = 0 := fun z => hc ((nI_eq (by omega) (by omega)).mpr z)
    refine lv_iload_n hx hb dR_divide_7 rfl (lv_at hl 2 rfl) ?_
    refine ct_callS (av2 := [.int x2]) (rest := []) X hst (c_R_isRegister l D Y lo x2) wc_R_isRegister ml_R_85 ws_R_isRegister wn_R md_R_isRegister (by decide) hl.1 rfl (Nat.le_of_ble_eq_true rfl) ⟨by omega, by omega⟩ (fun _ _ h => h.elim) dR_divide_8 (fun r M' H locs hp hst => ?_)
    obtain ⟨b2, rfl, hb2, ib2, rfl⟩ := hp
    refine lv_if_eq hx hb dR_divide_11 (tgt := 25) rfl (fun hc => ?_) (fun hc => ?_)
    · skip
      rw [← nI_0] at hc
      have hz2 : b2 = 0 := (nI_eq (by omega) (by omega)).mp hc
      refine lv_iconst (v := nI 0) hx hb dR_divide_25 (by decide +kernel) ?_
      refine lv_istore (lv' := [(5, .int (nI 0)), (0, .ref ma), (1, .int x1), (2, .int x2), (3, .int x3), (4, .int x4)]) hx hb dR_divide_26 hl (by decide) rfl (fun ls hl => ?_)
      refine lv_iload hx hb dR_divide_28 (lv_at hl 0 rfl) ?_
      refine lv_if_eq hx hb dR_divide_30 (tgt := 42) rfl (fun hc => ?_) (fun hc => absurd hc (by decide))
      refine lv_aload_n hx hb dR_divide_42 rfl (lv_at hl 1 rfl) ?_
      refine lv_iload hx hb dR_divide_43 (lv_at hl 0 rfl) ?_
      refine lv_if_ne hx hb dR_divide_45 (tgt := 52) rfl (fun hc => absurd hc (by decide)) (fun hc => ?_)
      refine lv_iconst (v := nI 1) hx hb dR_divide_48 (by decide +kernel) ?_
      refine lv_goto hx hb dR_divide_49 (tgt := 53) rfl ?_
      refine lv_iload hx hb dR_divide_53 (lv_at hl 0 rfl) ?_
      refine lv_if_eq hx hb dR_divide_55 (tgt := 72) rfl (fun hc => ?_) (fun hc => absurd hc (by decide))
      refine lv_iconst (v := nI 0) hx hb dR_divide_72 (by decide +kernel) ?_
      refine ct_callV (av2 := [.int (nI 1), .int (nI 0)]) (rest := []) (b := ma) X hst (c_R_fails l D Y lo hm (a := 1) (b := 0) (by omega) (by omega)) hm.ob rfl wc_R_fails ml_R_88 wi_R_fails wl_R_fails wn_R md_R_fails (by decide) hl.1 rfl (Nat.le_of_ble_eq_true rfl) ⟨by omega, by omega⟩ (fun _ _ h => h.elim) dR_divide_73 (fun r MF H locs hp hst => ?_)
      obtain ⟨rfl, hmF, hoF⟩ := hp
      have hmF : mo Y MF ma E p rf 1 c := hmF
      refine lv_if_eq hx hb dR_divide_76 (tgt := 80) rfl (fun hc => absurd hc (by decide)) (fun hc => ?_)
      exact ct_vret X hst ⟨1, rfl, hmF, Or.inl ⟨rfl, hno⟩, hoF⟩ (by omega) (by omega) dR_divide_79
    · skip
      rw [← nI_0] at hc
      have hz2 : ¬ b2 = 0 := fun z => hc ((nI_eq (by omega) (by omega)).mpr z)
      refine lv_iload_n hx hb dR_divide_14 rfl (lv_at hl 3 rfl) ?_
      refine ct_callS (av2 := [.int x3]) (rest := []) X hst (c_R_isRegister l D Y lo x3) wc_R_isRegister ml_R_85 ws_R_isRegister wn_R md_R_isRegister (by decide) hl.1 rfl (Nat.le_of_ble_eq_true rfl) ⟨by omega, by omega⟩ (fun _ _ h => h.elim) dR_divide_15 (fun r M' H locs hp hst => ?_)
      obtain ⟨b3, rfl, hb3, ib3, rfl⟩ := hp
      refine lv_if_eq hx hb dR_divide_18 (tgt := 25) rfl (fun hc => ?_) (fun hc => ?_)
      · skip
        rw [← nI_0] at hc
        have hz3 : b3 = 0 := (nI_eq (by omega) (by omega)).mp hc
        refine lv_iconst (v := nI 0) hx hb dR_divide_25 (by decide +kernel) ?_
        refine lv_istore (lv' := [(5, .int (nI 0)), (0, .ref ma), (1, .int x1), (2, .int x2), (3, .int x3), (4, .int x4)]) hx hb dR_divide_26 hl (by decide) rfl (fun ls hl => ?_)
        refine lv_iload hx hb dR_divide_28 (lv_at hl 0 rfl) ?_
        refine lv_if_eq hx hb dR_divide_30 (tgt := 42) rfl (fun hc => ?_) (fun hc => absurd hc (by decide))
        refine lv_aload_n hx hb dR_divide_42 rfl (lv_at hl 1 rfl) ?_
        refine lv_iload hx hb dR_divide_43 (lv_at hl 0 rfl) ?_
        refine lv_if_ne hx hb dR_divide_45 (tgt := 52) rfl (fun hc => absurd hc (by decide)) (fun hc => ?_)
        refine lv_iconst (v := nI 1) hx hb dR_divide_48 (by decide +kernel) ?_
        refine lv_goto hx hb dR_divide_49 (tgt := 53) rfl ?_
        refine lv_iload hx hb dR_divide_53 (lv_at hl 0 rfl) ?_
        refine lv_if_eq hx hb dR_divide_55 (tgt := 72) rfl (fun hc => ?_) (fun hc => absurd hc (by decide))
        refine lv_iconst (v := nI 0) hx hb dR_divide_72 (by decide +kernel) ?_
        refine ct_callV (av2 := [.int (nI 1), .int (nI 0)]) (rest := []) (b := ma) X hst (c_R_fails l D Y lo hm (a := 1) (b := 0) (by omega) (by omega)) hm.ob rfl wc_R_fails ml_R_88 wi_R_fails wl_R_fails wn_R md_R_fails (by decide) hl.1 rfl (Nat.le_of_ble_eq_true rfl) ⟨by omega, by omega⟩ (fun _ _ h => h.elim) dR_divide_73 (fun r MF H locs hp hst => ?_)
        obtain ⟨rfl, hmF, hoF⟩ := hp
        have hmF : mo Y MF ma E p rf 1 c := hmF
        refine lv_if_eq hx hb dR_divide_76 (tgt := 80) rfl (fun hc => absurd hc (by decide)) (fun hc => ?_)
        exact ct_vret X hst ⟨1, rfl, hmF, Or.inl ⟨rfl, hno⟩, hoF⟩ (by omega) (by omega) dR_divide_79
      · skip
        rw [← nI_0] at hc
        have hz3 : ¬ b3 = 0 := fun z => hc ((nI_eq (by omega) (by omega)).mpr z)
        exact absurd ⟨ib1.mp (by omega), ib2.mp (by omega), ib3.mp (by omega)⟩ hno

set_option maxHeartbeats 4000000 in
set_option maxRecDepth 100000 in
theorem e_R_divide_z (l : Launch) (D : va_G) (Y : Nat → ClassId) (lo : Nat) {M : Hm} {ma p rf th : Nat} {E : Nat → Nat} {c : Nat → Nat → Nat} (hm : mo Y M ma E p rf th c) {P : Nat → Pf} (hP : rr c P) (hPp : ∀ r, r < 12 → ∀ m, P r m < p) {r a b : Nat} (hr : r < 12) (ha : a < 12) (hb9 : b < 12) {z4 : Int32} (hzero : tp (P b) = []) : ct l D Y lo y_R_divide b_R_divide 14 none 3 [.ref ma, .int (nI r), .int (nI a), .int (nI b), .int z4] M (fun r9 M' => ∃ c' : Nat → Nat → Nat, r9 = none ∧ mo Y M' ma E p rf 2 c' ∧ rr c' (P) ∧ hp_off (fun i => i = 1000) M M') nx 0 0 := by
  refine ct_of (by decide) (Nat.le_of_ble_eq_true rfl) ?_
  intro pg eg sg mg bw mt cg ls X hst hl
  have X1 := X
  obtain ⟨hx, hb, hml, hrt, hlocks, hown, hnm, hts, hkz, hex⟩ := X1
  have hG : ∀ w ∈ GW, w.before _ sg = true := fun w h => hts w (List.mem_cons_of_mem _ h)
  have hK := hkz.1
  have hl : lv_has ls 14 [(0, .ref ma), (1, .int (nI r)), (2, .int (nI a)), (3, .int (nI b)), (4, .int z4)] := hl
  obtain ⟨hp2, hp3⟩ := hm.p2
  refine lv_iload_n hx hb dR_divide_0 rfl (lv_at hl 1 rfl) ?_
  refine ct_callS (av2 := [.int (nI r)]) (rest := []) X hst (g_R_isRegister l D Y lo hr) wc_R_isRegister ml_R_85 ws_R_isRegister wn_R md_R_isRegister (by decide) hl.1 rfl (Nat.le_of_ble_eq_true rfl) ⟨by omega, by omega⟩ (fun _ _ h => h.elim) dR_divide_1 (fun r M' H locs hp hst => ?_)
  obtain ⟨rfl, rfl⟩ := hp
  refine lv_if_eq hx hb dR_divide_4 (tgt := 25) rfl (fun hc => absurd hc (by decide)) (fun hc => ?_)
  refine lv_iload_n hx hb dR_divide_7 rfl (lv_at hl 2 rfl) ?_
  refine ct_callS (av2 := [.int (nI a)]) (rest := []) X hst (g_R_isRegister l D Y lo ha) wc_R_isRegister ml_R_85 ws_R_isRegister wn_R md_R_isRegister (by decide) hl.1 rfl (Nat.le_of_ble_eq_true rfl) ⟨by omega, by omega⟩ (fun _ _ h => h.elim) dR_divide_8 (fun r M' H locs hp hst => ?_)
  obtain ⟨rfl, rfl⟩ := hp
  refine lv_if_eq hx hb dR_divide_11 (tgt := 25) rfl (fun hc => absurd hc (by decide)) (fun hc => ?_)
  refine lv_iload_n hx hb dR_divide_14 rfl (lv_at hl 3 rfl) ?_
  refine ct_callS (av2 := [.int (nI b)]) (rest := []) X hst (g_R_isRegister l D Y lo hb9) wc_R_isRegister ml_R_85 ws_R_isRegister wn_R md_R_isRegister (by decide) hl.1 rfl (Nat.le_of_ble_eq_true rfl) ⟨by omega, by omega⟩ (fun _ _ h => h.elim) dR_divide_15 (fun r M' H locs hp hst => ?_)
  obtain ⟨rfl, rfl⟩ := hp
  refine lv_if_eq hx hb dR_divide_18 (tgt := 25) rfl (fun hc => absurd hc (by decide)) (fun hc => ?_)
  refine lv_iconst (v := nI 1) hx hb dR_divide_21 (by decide +kernel) ?_
  refine lv_goto hx hb dR_divide_22 (tgt := 26) rfl ?_
  refine lv_istore (lv' := [(5, .int (nI 1)), (0, .ref ma), (1, .int (nI r)), (2, .int (nI a)), (3, .int (nI b)), (4, .int z4)]) hx hb dR_divide_26 hl (by decide) rfl (fun ls hl => ?_)
  refine lv_iload hx hb dR_divide_28 (lv_at hl 0 rfl) ?_
  refine lv_if_eq hx hb dR_divide_30 (tgt := 42) rfl (fun hc => absurd hc (by decide)) (fun hc => ?_)
  refine lv_aload_n hx hb dR_divide_33 rfl (lv_at hl 1 rfl) ?_
  refine lv_iload_n hx hb dR_divide_34 rfl (lv_at hl 4 rfl) ?_
  refine lv_aload_n hx hb dR_divide_35 rfl (lv_at hl 1 rfl) ?_
  refine hp_get hx hb hG in_R hown hK hst hm.ob rfl 7 (by decide) (hG _ fl_R_24) rfl rfl dR_divide_36 ?_
  refine ct_callV (av2 := [.int (nI b), .ref (E 5)]) (rest := []) (b := ma) X hst (c_R_load l D Y lo hm hb9 (j := 5) (by omega) (by omega)) hm.ob rfl wc_R_load ml_R_99 wi_R_load wl_R_load wn_R md_R_load (by decide) hl.1 rfl (Nat.le_of_ble_eq_true rfl) ⟨by omega, by omega⟩ (fun _ _ h => h.elim) dR_divide_39 (fun r ML5 H locs hp hst => ?_)
  obtain ⟨cL5, rfl, hmL5, sL5, vL5, hoL5⟩ := hp
  have e5 : rp (cL5 5) (P b) := fun k hk => by rw [vL5 k hk]; exact hP b hb9 k hk
  refine lv_aload_n hx hb dR_divide_42 rfl (lv_at hl 1 rfl) ?_
  refine lv_iload hx hb dR_divide_43 (lv_at hl 0 rfl) ?_
  refine lv_if_ne hx hb dR_divide_45 (tgt := 52) rfl (fun hc => ?_) (fun hc => absurd hc (by decide))
  refine lv_iconst (v := nI 0) hx hb dR_divide_52 (by decide +kernel) ?_
  refine lv_iload hx hb dR_divide_53 (lv_at hl 0 rfl) ?_
  refine lv_if_eq hx hb dR_divide_55 (tgt := 72) rfl (fun hc => absurd hc (by decide)) (fun hc => ?_)
  refine lv_aload_n hx hb dR_divide_58 rfl (lv_at hl 1 rfl) ?_
  refine hp_get hx hb hG in_R hown hK hst hmL5.ob rfl 7 (by decide) (hG _ fl_R_24) rfl rfl dR_divide_59 ?_
  refine ct_callS (av2 := [.ref (E 5)]) (rest := [.int (nI 0), .ref ma]) X hst (c_R_isZero l D Y lo hmL5 (j := 5) (by omega) (by omega) e5 (p31 hp3 hPp hb9)) wc_R_isZero ml_R_113 ws_R_isZero wn_R md_R_isZero (by decide) hl.1 rfl (Nat.le_of_ble_eq_true rfl) ⟨by omega, by omega⟩ (fun _ _ h => h.elim) dR_divide_62 (fun r M' H locs hp hst => ?_)
  obtain ⟨bz, rfl, hz1, hz2, rfl⟩ := hp
  refine lv_if_eq hx hb dR_divide_65 (tgt := 72) rfl (fun hc => ?_) (fun hc => ?_)
  · skip
    rw [← nI_0] at hc
    have hcz : bz = 0 := (nI_eq (by omega) (by omega)).mp hc
    exact absurd (hz2.mpr hzero) (by omega)
  · skip
    rw [← nI_0] at hc
    have hcz : ¬ bz = 0 := fun z => hc ((nI_eq (by omega) (by omega)).mpr z)
    refine lv_iconst (v := nI 1) hx hb dR_divide_68 (by decide +kernel) ?_
    refine lv_goto hx hb dR_divide_69 (tgt := 73) rfl ?_
    refine ct_callV (av2 := [.int (nI 0), .int (nI 1)]) (rest := []) (b := ma) X hst (c_R_fails l D Y lo hmL5 (a := 0) (b := 1) (by omega) (by omega)) hmL5.ob rfl wc_R_fails ml_R_88 wi_R_fails wl_R_fails wn_R md_R_fails (by decide) hl.1 rfl (Nat.le_of_ble_eq_true rfl) ⟨by omega, by omega⟩ (fun _ _ h => h.elim) dR_divide_73 (fun r MF H locs hp hst => ?_)
    obtain ⟨rfl, hmF, hoF⟩ := hp
    have hmF : mo Y MF ma E p rf 2 cL5 := hmF
    refine lv_if_eq hx hb dR_divide_76 (tgt := 80) rfl (fun hc => absurd hc (by decide)) (fun hc => ?_)
    exact ct_vret X hst ⟨cL5, rfl, hmF, fun r hr k hk => by rw [sL5 3 (by omega)]; exact hP r hr k hk, hoL5.tr hoF⟩ (by omega) (by omega) dR_divide_79
