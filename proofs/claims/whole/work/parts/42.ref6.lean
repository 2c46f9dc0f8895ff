/-! The reference: term, value, count. -/
set_option maxHeartbeats 4000000 in
set_option maxRecDepth 100000 in
theorem c_R_term (l : Launch) (D : va_G) (Y : Nat → ClassId) (lo : Nat) {M : Hm} {ma p rf th : Nat} {E : Nat → Nat} {c : Nat → Nat → Nat} (hm : mo Y M ma E p rf th c) {P : Nat → Pf} (hP : rr c P) (hPp : ∀ r, r < 12 → ∀ m, P r m < p) {r i wh : Nat} {q : Nat × Nat} (hr : r < 12) (hq : (tp (P r))[i]? = some q) (hwh : wh ≤ 3) : ct l D Y lo y_R_term b_R_term 7 (some .int) 1 [.ref ma, .int (nI r), .int (nI i), .int (nI wh)] M (fun r9 M' => ∃ c' : Nat → Nat → Nat, r9 = some (.int (nI (if wh = 0 then q.2 else xe q.1 (wh - 1)))) ∧ mo Y M' ma E p rf 0 c' ∧ rr c' (P) ∧ hp_off (fun i => i = 1000) M M') nx 0 0 := by
  refine ct_of (by decide) (Nat.le_of_ble_eq_true rfl) ?_
  intro pg eg sg mg bw mt cg ls X hst hl
  have X1 := X
  obtain ⟨hx, hb, hml, hrt, hlocks, hown, hnm, hts, hkz, hex⟩ := X1
  have hG : ∀ w ∈ GW, w.before _ sg = true := fun w h => hts w (List.mem_cons_of_mem _ h)
  have hK := hkz.1
  have hl : lv_has ls 7 [(0, .ref ma), (1, .int (nI r)), (2, .int (nI i)), (3, .int (nI wh))] := hl
  obtain ⟨hp2, hp3⟩ := hm.p2
  have hil : i < (tp (P r)).length := (List.getElem?_eq_some_iff.mp hq).1
  have hL9 : (tp (P r)).length ≤ 9139 := td_len _ _
  refine lv_iload_n hx hb dR_term_0 rfl (lv_at hl 1 rfl) ?_
  refine ct_callS (av2 := [.int (nI r)]) (rest := []) X hst (g_R_isRegister l D Y lo hr) wc_R_isRegister ml_R_85 ws_R_isRegister wn_R md_R_isRegister (by decide) hl.1 rfl (Nat.le_of_ble_eq_true rfl) ⟨by omega, by omega⟩ (fun _ _ h => h.elim) dR_term_1 (fun r M' H locs hp hst => ?_)
  obtain ⟨rfl, rfl⟩ := hp
  refine lv_if_eq hx hb dR_term_4 (tgt := 35) rfl (fun hc => absurd hc (by decide)) (fun hc => ?_)
  refine lv_iload_n hx hb dR_term_7 rfl (lv_at hl 2 rfl) ?_
  refine lv_if_lt hx hb dR_term_8 (tgt := 35) rfl (fun hc => ?_) (fun hc => ?_)
  · skip
    rw [← nI_0] at hc
    have hz : i < 0 := (nI_ltI (by omega) (by omega)).mp hc
    exact absurd hz (by omega)
  · skip
    rw [← nI_0] at hc
    have hz : ¬ i < 0 := fun z => hc ((nI_ltI (by omega) (by omega)).mpr z)
    refine lv_iload_n hx hb dR_term_11 rfl (lv_at hl 2 rfl) ?_
    refine lv_aload_n hx hb dR_term_12 rfl (lv_at hl 0 rfl) ?_
    refine lv_iload_n hx hb dR_term_13 rfl (lv_at hl 1 rfl) ?_
    refine ct_callS (av2 := [.int (nI r)]) (rest := [.ref ma, .int (nI i)]) X hst (g_R_isRegister l D Y lo hr) wc_R_isRegister ml_R_85 ws_R_isRegister wn_R md_R_isRegister (by decide) hl.1 rfl (Nat.le_of_ble_eq_true rfl) ⟨by omega, by omega⟩ (fun _ _ h => h.elim) dR_term_14 (fun r M' H locs hp hst => ?_)
    obtain ⟨rfl, rfl⟩ := hp
    refine lv_if_eq hx hb dR_term_17 (tgt := 24) rfl (fun hc => absurd hc (by decide)) (fun hc => ?_)
    refine lv_iload_n hx hb dR_term_20 rfl (lv_at hl 1 rfl) ?_
    refine lv_goto hx hb dR_term_21 (tgt := 25) rfl ?_
    refine ct_callV (av2 := [.int (nI r)]) (rest := [.int (nI i)]) (b := ma) X hst (c_R_counted l D Y lo hm hr (h := P r) (hP r hr) (p31 hp3 hPp hr)) hm.ob rfl wc_R_counted ml_R_140 wi_R_counted wl_R_counted wn_R md_R_counted (by decide) hl.1 rfl (Nat.le_of_ble_eq_true rfl) ⟨by omega, by omega⟩ (fun _ _ h => h.elim) dR_term_25 (fun r M' H locs hp hst => ?_)
    obtain ⟨rfl, rfl⟩ := hp
    refine lv_icmp_ge hx hb dR_term_28 (tgt := 35) rfl (fun hc => ?_) (fun hc => ?_)
    · skip
      have hz : ((tp (P r)).length) ≤ i := (nI_leI (by omega) (by omega)).mp hc
      exact absurd hz (by omega)
    · skip
      have hz : ¬ ((tp (P r)).length) ≤ i := fun z => hc ((nI_leI (by omega) (by omega)).mpr z)
      refine lv_iconst (v := nI 1) hx hb dR_term_31 (by decide +kernel) ?_
      refine lv_goto hx hb dR_term_32 (tgt := 36) rfl ?_
      refine lv_istore (lv' := [(4, .int (nI 1)), (0, .ref ma), (1, .int (nI r)), (2, .int (nI i)), (3, .int (nI wh))]) hx hb dR_term_36 hl (by decide) rfl (fun ls hl => ?_)
      refine lv_aload_n hx hb dR_term_38 rfl (lv_at hl 1 rfl) ?_
      refine lv_iload hx hb dR_term_39 (lv_at hl 0 rfl) ?_
      refine lv_if_ne hx hb dR_term_41 (tgt := 48) rfl (fun hc => ?_) (fun hc => absurd hc (by decide))
      refine lv_iconst (v := nI 0) hx hb dR_term_48 (by decide +kernel) ?_
      refine lv_iload hx hb dR_term_49 (lv_at hl 0 rfl) ?_
      refine lv_if_eq hx hb dR_term_51 (tgt := 67) rfl (fun hc => absurd hc (by decide)) (fun hc => ?_)
      refine lv_iload_n hx hb dR_term_54 rfl (lv_at hl 4 rfl) ?_
      refine lv_if_lt hx hb dR_term_55 (tgt := 63) rfl (fun hc => ?_) (fun hc => ?_)
      · skip
        rw [← nI_0] at hc
        have hz : wh < 0 := (nI_ltI (by omega) (by omega)).mp hc
        exact absurd hz (by omega)
      · skip
        rw [← nI_0] at hc
        have hz : ¬ wh < 0 := fun z => hc ((nI_ltI (by omega) (by omega)).mpr z)
        refine lv_iload_n hx hb dR_term_58 rfl (lv_at hl 4 rfl) ?_
        refine lv_iconst (v := nI 3) hx hb dR_term_59 (by decide +kernel) ?_
        refine lv_icmp_le hx hb dR_term_60 (tgt := 67) rfl (fun hc => ?_) (fun hc => ?_)
        · skip
          have hz : wh ≤ 3 := (nI_leI (by omega) (by omega)).mp hc
          refine lv_iconst (v := nI 0) hx hb dR_term_67 (by decide +kernel) ?_
          refine ct_callV (av2 := [.int (nI 0), .int (nI 0)]) (rest := []) (b := ma) X hst (c_R_fails l D Y lo hm (a := 0) (b := 0) (by omega) (by omega)) hm.ob rfl wc_R_fails ml_R_88 wi_R_fails wl_R_fails wn_R md_R_fails (by decide) hl.1 rfl (Nat.le_of_ble_eq_true rfl) ⟨by omega, by omega⟩ (fun _ _ h => h.elim) dR_term_68 (fun r MF H locs hp hst => ?_)
          obtain ⟨rfl, hmF, hoF⟩ := hp
          have hmF : mo Y MF ma E p rf 0 c := hmF
          refine lv_if_eq hx hb dR_term_71 (tgt := 76) rfl (fun hc => ?_) (fun hc => absurd hc (by decide))
          refine lv_iconst (v := nI 0) hx hb dR_term_76 (by decide +kernel) ?_
          refine lv_istore (lv' := [(5, .int (nI 0)), (4, .int (nI 1)), (0, .ref ma), (1, .int (nI r)), (2, .int (nI i)), (3, .int (nI wh))]) hx hb dR_term_77 hl (by decide) rfl (fun ls hl => ?_)
          refine lv_iload_n hx hb dR_term_79 rfl (lv_at hl 4 rfl) ?_
          refine lv_istore (lv' := [(6, .int (nI i)), (5, .int (nI 0)), (4, .int (nI 1)), (0, .ref ma), (1, .int (nI r)), (2, .int (nI i)), (3, .int (nI wh))]) hx hb dR_term_80 hl (by decide) rfl (fun ls hl => ?_)
          have LP : ∀ (kk : Nat) (k t : Nat) (H : Heap) (locs : List Loc) (ls : Array Slot), kk = 9139 - k → (k ≤ 9139) → ((td (P r) (9139 - k))[t]? = some q) → hp_st D vC lo MF sg.heap H locs → lv_has ls 7 [(0, .ref ma), (1, .int (nI r)), (3, .int (nI wh)), (5, .int (nI k)), (6, .int (nI t))] → cW pg l eg sg mg [.ref ma, .int (nI r), .int (nI i), .int (nI wh)] bw mt cg y_R_term b_R_term 7 (some .int) 1 D lo (fun r9 M' => ∃ c' : Nat → Nat → Nat, r9 = some (.int (nI (if wh = 0 then q.2 else xe q.1 (wh - 1)))) ∧ mo Y M' ma E p rf 0 c' ∧ rr c' (P) ∧ hp_off (fun i => i = 1000) M M') nx 0 0 H locs 0 0 (F0 mg 82 ls []) := by
            intro kk
            induction kk using Nat.strongRecOn with
            | _ kk ihLP =>
            intro k t H locs ls hkk hk9 hinv hst hl
            have hk : k < 9139 := by
              apply Classical.byContradiction
              intro z
              have h0 : 9139 - k = 0 := by omega
              rw [h0] at hinv
              cases hinv
            have u1 := hP r hr k hk
            have l1 := hPp r hr (pl k)
            have hxl := fun v => xe_lt (pl k) v
            have htl : t < 9139 := by have h8 := (List.getElem?_eq_some_iff.mp hinv).1; have h7 := td_len (P r) (9139 - k); omega
            refine lv_iload hx hb dR_term_82 (lv_at hl 4 rfl) ?_
            refine lv_if_gt hx hb dR_term_84 (tgt := 103) rfl (fun hc => ?_) (fun hc => ?_)
            · skip
              rw [← nI_0] at hc
              have hct : 0 < t := (nI_ltI (by omega) (by omega)).mp hc
              have hnx : ¬ (t = 0 ∧ ¬ P r (pl k) = 0) := fun z => by omega
              refine lv_aload_n hx hb dR_term_103 rfl (lv_at hl 0 rfl) ?_
              refine hp_get hx hb hG in_R hown hK hst hmF.ob rfl 5 (by decide) (hG _ fl_R_18) rfl rfl dR_term_104 ?_
              refine lv_sipush (v := nI 9139) hx hb dR_term_107 (by decide +kernel) ?_
              refine lv_iload_n hx hb dR_term_110 rfl (lv_at hl 1 rfl) ?_
              refine t_imul hx hb dR_term_111 (v := nI (9139 * r)) (pk_mul _ _) ?_
              refine lv_iload hx hb dR_term_112 (lv_at hl 3 rfl) ?_
              refine t_iadd hx hb dR_term_114 (v := nI ((9139 * r) + k)) (nI_add _ _) ?_
              refine hp_iald hx hb hK rfl hst hmF.a3 (j := ((9139 * r) + k)) (by omega) (by omega) dR_term_115 ?_
              refine tp_n (e2 := P r (pl k)) u1 ?_
              refine lv_if_eq hx hb dR_term_116 (tgt := 126) rfl (fun hc => ?_) (fun hc => ?_)
              · skip
                rw [← nI_0] at hc
                have hcz : (P r (pl k)) = 0 := (nI_eq (by omega) (by omega)).mp hc
                refine lv_iload hx hb dR_term_126 (lv_at hl 4 rfl) ?_
                refine lv_istore (lv' := [(6, .int (nI t)), (0, .ref ma), (1, .int (nI r)), (3, .int (nI wh)), (5, .int (nI k))]) hx hb dR_term_128 hl (by decide) rfl (fun ls hl => ?_)
                refine lv_iinc (lv' := [(5, .int (nI (k + 1))), (6, .int (nI t)), (0, .ref ma), (1, .int (nI r)), (3, .int (nI wh))]) hx hb dR_term_130 hl (k := 4) rfl (ii_p _) (by decide) rfl (fun ls hl => ?_)
                refine lv_goto hx hb dR_term_133 (tgt := 82) rfl ?_
                exact ihLP _ (by omega) (k + 1) t _ _ _ rfl (by omega) (by rw [td_pl_n hk hcz] at hinv; exact hinv) hst (lv_sub hl [2, 3, 4, 0, 1] rfl)
              · skip
                rw [← nI_0] at hc
                have hcz : ¬ (P r (pl k)) = 0 := fun z => hc ((nI_eq (by omega) (by omega)).mpr z)
                have htp : 0 < t := by
                  apply Classical.byContradiction
                  intro z
                  exact hnx ⟨by omega, hcz⟩
                refine lv_iload hx hb dR_term_119 (lv_at hl 4 rfl) ?_
                refine lv_iconst (v := nI 1) hx hb dR_term_121 (by decide +kernel) ?_
                refine t_isub hx hb dR_term_122 (v := nI (t - 1)) (pk_sub (by omega)) ?_
                refine lv_goto hx hb dR_term_123 (tgt := 128) rfl ?_
                refine lv_istore (lv' := [(6, .int (nI (t - 1))), (0, .ref ma), (1, .int (nI r)), (3, .int (nI wh)), (5, .int (nI k))]) hx hb dR_term_128 hl (by decide) rfl (fun ls hl => ?_)
                refine lv_iinc (lv' := [(5, .int (nI (k + 1))), (6, .int (nI (t - 1))), (0, .ref ma), (1, .int (nI r)), (3, .int (nI wh))]) hx hb dR_term_130 hl (k := 4) rfl (ii_p _) (by decide) rfl (fun ls hl => ?_)
                refine lv_goto hx hb dR_term_133 (tgt := 82) rfl ?_
                exact ihLP _ (by omega) (k + 1) (t - 1) _ _ _ rfl (by omega) (by
                    rw [td_pl_y hk hcz] at hinv
                    rw [show t = t - 1 + 1 by omega, List.getElem?_cons_succ] at hinv
                    exact hinv) hst (lv_sub hl [2, 3, 4, 0, 1] rfl)
            · skip
              rw [← nI_0] at hc
              have hct : ¬ 0 < t := fun z => hc ((nI_ltI (by omega) (by omega)).mpr z)
              refine lv_aload_n hx hb dR_term_87 rfl (lv_at hl 0 rfl) ?_
              refine hp_get hx hb hG in_R hown hK hst hmF.ob rfl 5 (by decide) (hG _ fl_R_18) rfl rfl dR_term_88 ?_
              refine lv_sipush (v := nI 9139) hx hb dR_term_91 (by decide +kernel) ?_
              refine lv_iload_n hx hb dR_term_94 rfl (lv_at hl 1 rfl) ?_
              refine t_imul hx hb dR_term_95 (v := nI (9139 * r)) (pk_mul _ _) ?_
              refine lv_iload hx hb dR_term_96 (lv_at hl 3 rfl) ?_
              refine t_iadd hx hb dR_term_98 (v := nI ((9139 * r) + k)) (nI_add _ _) ?_
              refine hp_iald hx hb hK rfl hst hmF.a3 (j := ((9139 * r) + k)) (by omega) (by omega) dR_term_99 ?_
              refine tp_n (e2 := P r (pl k)) u1 ?_
              refine lv_if_ne hx hb dR_term_100 (tgt := 136) rfl (fun hc => ?_) (fun hc => ?_)
              · skip
                rw [← nI_0] at hc
                have hcy : ¬ (P r (pl k)) = 0 := fun z => hc ((nI_eq (by omega) (by omega)).mpr z)
                rw [show t = 0 by omega, td_pl_y hk hcy] at hinv
                have hqe : q = (pl k, P r (pl k)) := (Option.some.inj hinv).symm
                refine lv_iload_n hx hb dR_term_136 rfl (lv_at hl 2 rfl) ?_
                refine lv_if_ne hx hb dR_term_137 (tgt := 156) rfl (fun hc => ?_) (fun hc => ?_)
                · skip
                  rw [← nI_0] at hc
                  have hcw : ¬ wh = 0 := fun z => hc ((nI_eq (by omega) (by omega)).mpr z)
                  refine lv_aload_n hx hb dR_term_156 rfl (lv_at hl 0 rfl) ?_
                  refine lv_iload hx hb dR_term_157 (lv_at hl 3 rfl) ?_
                  refine lv_iload_n hx hb dR_term_159 rfl (lv_at hl 2 rfl) ?_
                  refine lv_iconst (v := nI 1) hx hb dR_term_160 (by decide +kernel) ?_
                  refine t_isub hx hb dR_term_161 (v := nI (wh - 1)) (pk_sub (by omega)) ?_
                  refine ct_callV (av2 := [.int (nI k), .int (nI (wh - 1))]) (rest := []) (b := ma) X hst (c_R_exponent l D Y lo hmF (k := k) (v := wh - 1) hk (by omega)) hmF.ob rfl wc_R_exponent ml_R_58 wi_R_exponent wl_R_exponent wn_R md_R_exponent (by decide) hl.1 rfl (Nat.le_of_ble_eq_true rfl) ⟨by omega, by omega⟩ (fun _ _ h => h.elim) dR_term_162 (fun r M' H locs hp hst => ?_)
                  obtain ⟨rfl, rfl⟩ := hp
                  exact ct_iret X hst ⟨c, by rw [if_neg hcw, hqe], hmF, hP, hoF⟩ (by omega) (by omega) dR_term_165
                · skip
                  rw [← nI_0] at hc
                  have hcw : wh = 0 := (nI_eq (by omega) (by omega)).mp hc
                  refine lv_aload_n hx hb dR_term_140 rfl (lv_at hl 0 rfl) ?_
                  refine hp_get hx hb hG in_R hown hK hst hmF.ob rfl 5 (by decide) (hG _ fl_R_18) rfl rfl dR_term_141 ?_
                  refine lv_sipush (v := nI 9139) hx hb dR_term_144 (by decide +kernel) ?_
                  refine lv_iload_n hx hb dR_term_147 rfl (lv_at hl 1 rfl) ?_
                  refine t_imul hx hb dR_term_148 (v := nI (9139 * r)) (pk_mul _ _) ?_
                  refine lv_iload hx hb dR_term_149 (lv_at hl 3 rfl) ?_
                  refine t_iadd hx hb dR_term_151 (v := nI ((9139 * r) + k)) (nI_add _ _) ?_
                  refine hp_iald hx hb hK rfl hst hmF.a3 (j := ((9139 * r) + k)) (by omega) (by omega) dR_term_152 ?_
                  refine tp_n (e2 := P r (pl k)) u1 ?_
                  refine lv_goto hx hb dR_term_153 (tgt := 165) rfl ?_
                  exact ct_iret X hst ⟨c, by rw [if_pos hcw, hqe], hmF, hP, hoF⟩ (by omega) (by omega) dR_term_165
              · skip
                rw [← nI_0] at hc
                have hcy : (P r (pl k)) = 0 := (nI_eq (by omega) (by omega)).mp hc
                have hnx : ¬ (t = 0 ∧ ¬ P r (pl k) = 0) := fun z => z.2 hcy
                refine lv_aload_n hx hb dR_term_103 rfl (lv_at hl 0 rfl) ?_
                refine hp_get hx hb hG in_R hown hK hst hmF.ob rfl 5 (by decide) (hG _ fl_R_18) rfl rfl dR_term_104 ?_
                refine lv_sipush (v := nI 9139) hx hb dR_term_107 (by decide +kernel) ?_
                refine lv_iload_n hx hb dR_term_110 rfl (lv_at hl 1 rfl) ?_
                refine t_imul hx hb dR_term_111 (v := nI (9139 * r)) (pk_mul _ _) ?_
                refine lv_iload hx hb dR_term_112 (lv_at hl 3 rfl) ?_
                refine t_iadd hx hb dR_term_114 (v := nI ((9139 * r) + k)) (nI_add _ _) ?_
                refine hp_iald hx hb hK rfl hst hmF.a3 (j := ((9139 * r) + k)) (by omega) (by omega) dR_term_115 ?_
                refine tp_n (e2 := P r (pl k)) u1 ?_
                refine lv_if_eq hx hb dR_term_116 (tgt := 126) rfl (fun hc => ?_) (fun hc => ?_)
                · skip
                  rw [← nI_0] at hc
                  have hcz : (P r (pl k)) = 0 := (nI_eq (by omega) (by omega)).mp hc
                  refine lv_iload hx hb dR_term_126 (lv_at hl 4 rfl) ?_
                  refine lv_istore (lv' := [(6, .int (nI t)), (0, .ref ma), (1, .int (nI r)), (3, .int (nI wh)), (5, .int (nI k))]) hx hb dR_term_128 hl (by decide) rfl (fun ls hl => ?_)
                  refine lv_iinc (lv' := [(5, .int (nI (k + 1))), (6, .int (nI t)), (0, .ref ma), (1, .int (nI r)), (3, .int (nI wh))]) hx hb dR_term_130 hl (k := 4) rfl (ii_p _) (by decide) rfl (fun ls hl => ?_)
                  refine lv_goto hx hb dR_term_133 (tgt := 82) rfl ?_
                  exact ihLP _ (by omega) (k + 1) t _ _ _ rfl (by omega) (by rw [td_pl_n hk hcz] at hinv; exact hinv) hst (lv_sub hl [2, 3, 4, 0, 1] rfl)
                · skip
                  rw [← nI_0] at hc
                  have hcz : ¬ (P r (pl k)) = 0 := fun z => hc ((nI_eq (by omega) (by omega)).mpr z)
                  have htp : 0 < t := by
                    apply Classical.byContradiction
                    intro z
                    exact hnx ⟨by omega, hcz⟩
                  refine lv_iload hx hb dR_term_119 (lv_at hl 4 rfl) ?_
                  refine lv_iconst (v := nI 1) hx hb dR_term_121 (by decide +kernel) ?_
                  refine t_isub hx hb dR_term_122 (v := nI (t - 1)) (pk_sub (by omega)) ?_
                  refine lv_goto hx hb dR_term_123 (tgt := 128) rfl ?_
                  refine lv_istore (lv' := [(6, .int (nI (t - 1))), (0, .ref ma), (1, .int (nI r)), (3, .int (nI wh)), (5, .int (nI k))]) hx hb dR_term_128 hl (by decide) rfl (fun ls hl => ?_)
                  refine lv_iinc (lv' := [(5, .int (nI (k + 1))), (6, .int (nI (t - 1))), (0, .ref ma), (1, .int (nI r)), (3, .int (nI wh))]) hx hb dR_term_130 hl (k := 4) rfl (ii_p _) (by decide) rfl (fun ls hl => ?_)
                  refine lv_goto hx hb dR_term_133 (tgt := 82) rfl ?_
                  exact ihLP _ (by omega) (k + 1) (t - 1) _ _ _ rfl (by omega) (by
                      rw [td_pl_y hk hcz] at hinv
                      rw [show t = t - 1 + 1 by omega, List.getElem?_cons_succ] at hinv
                      exact hinv) hst (lv_sub hl [2, 3, 4, 0, 1] rfl)
          exact LP _ 0 i _ _ _ rfl (by omega) hq hst (lv_sub hl [3, 4, 6, 1, 0] rfl)
        · skip
          have hz : ¬ wh ≤ 3 := fun z => hc ((nI_leI (by omega) (by omega)).mpr z)
          exact absurd hz (by omega)

set_option maxHeartbeats 4000000 in
set_option maxRecDepth 100000 in
theorem e_R_term (l : Launch) (D : va_G) (Y : Nat → ClassId) (lo : Nat) {M : Hm} {ma p rf th : Nat} {E : Nat → Nat} {c : Nat → Nat → Nat} (hm : mo Y M ma E p rf th c) {x1 x2 x3 : Int32} (hno : ¬ inR x1) : ct l D Y lo y_R_term b_R_term 7 (some .int) 1 [.ref ma, .int x1, .int x2, .int x3] M (fun r9 M' => r9 = some (.int (nI 0)) ∧ mo Y M' ma E p rf 1 c ∧ hp_off (fun i => i = 1000) M M') nx 0 0 := by
  refine ct_of (by decide) (Nat.le_of_ble_eq_true rfl) ?_
  intro pg eg sg mg bw mt cg ls X hst hl
  have X1 := X
  obtain ⟨hx, hb, hml, hrt, hlocks, hown, hnm, hts, hkz, hex⟩ := X1
  have hG : ∀ w ∈ GW, w.before _ sg = true := fun w h => hts w (List.mem_cons_of_mem _ h)
  have hK := hkz.1
  have hl : lv_has ls 7 [(0, .ref ma), (1, .int x1), (2, .int x2), (3, .int x3)] := hl
  refine lv_iload_n hx hb dR_term_0 rfl (lv_at hl 1 rfl) ?_
  refine ct_callS (av2 := [.int x1]) (rest := []) X hst (e_R_isRegister l D Y lo hno) wc_R_isRegister ml_R_85 ws_R_isRegister wn_R md_R_isRegister (by decide) hl.1 rfl (Nat.le_of_ble_eq_true rfl) ⟨by omega, by omega⟩ (fun _ _ h => h.elim) dR_term_1 (fun r M' H locs hp hst => ?_)
  obtain ⟨rfl, rfl⟩ := hp
  refine lv_if_eq hx hb dR_term_4 (tgt := 35) rfl (fun hc => ?_) (fun hc => absurd hc (by decide))
  refine lv_iconst (v := nI 0) hx hb dR_term_35 (by decide +kernel) ?_
  refine lv_istore (lv' := [(4, .int (nI 0)), (0, .ref ma), (1, .int x1), (2, .int x2), (3, .int x3)]) hx hb dR_term_36 hl (by decide) rfl (fun ls hl => ?_)
  refine lv_aload_n hx hb dR_term_38 rfl (lv_at hl 1 rfl) ?_
  refine lv_iload hx hb dR_term_39 (lv_at hl 0 rfl) ?_
  refine lv_if_ne hx hb dR_term_41 (tgt := 48) rfl (fun hc => absurd hc (by decide)) (fun hc => ?_)
  refine lv_iconst (v := nI 1) hx hb dR_term_44 (by decide +kernel) ?_
  refine lv_goto hx hb dR_term_45 (tgt := 49) rfl ?_
  refine lv_iload hx hb dR_term_49 (lv_at hl 0 rfl) ?_
  refine lv_if_eq hx hb dR_term_51 (tgt := 67) rfl (fun hc => ?_) (fun hc => absurd hc (by decide))
  refine lv_iconst (v := nI 0) hx hb dR_term_67 (by decide +kernel) ?_
  refine ct_callV (av2 := [.int (nI 1), .int (nI 0)]) (rest := []) (b := ma) X hst (c_R_fails l D Y lo hm (a := 1) (b := 0) (by omega) (by omega)) hm.ob rfl wc_R_fails ml_R_88 wi_R_fails wl_R_fails wn_R md_R_fails (by decide) hl.1 rfl (Nat.le_of_ble_eq_true rfl) ⟨by omega, by omega⟩ (fun _ _ h => h.elim) dR_term_68 (fun r MF H locs hp hst => ?_)
  obtain ⟨rfl, hmF, hoF⟩ := hp
  have hmF : mo Y MF ma E p rf 1 c := hmF
  refine lv_if_eq hx hb dR_term_71 (tgt := 76) rfl (fun hc => absurd hc (by decide)) (fun hc => ?_)
  refine lv_iconst (v := nI 0) hx hb dR_term_74 (by decide +kernel) ?_
  exact ct_iret X hst ⟨rfl, hmF, hoF⟩ (by omega) (by omega) dR_term_75

set_option maxHeartbeats 4000000 in
set_option maxRecDepth 100000 in
theorem e_R_term_i (l : Launch) (D : va_G) (Y : Nat → ClassId) (lo : Nat) {M : Hm} {ma p rf th : Nat} {E : Nat → Nat} {c : Nat → Nat → Nat} (hm : mo Y M ma E p rf th c) {P : Nat → Pf} (hP : rr c P) (hPp : ∀ r, r < 12 → ∀ m, P r m < p) {r : Nat} {z2 z3 : Int32} (hr : r < 12) (hno : ¬ ∃ i : Nat, i < (tp (P r)).length ∧ z2 = nI i) : ct l D Y lo y_R_term b_R_term 7 (some .int) 1 [.ref ma, .int (nI r), .int z2, .int z3] M (fun r9 M' => r9 = some (.int (nI 0)) ∧ mo Y M' ma E p rf 1 c ∧ hp_off (fun i => i = 1000) M M') nx 0 0 := by
  refine ct_of (by decide) (Nat.le_of_ble_eq_true rfl) ?_
  intro pg eg sg mg bw mt cg ls X hst hl
  have X1 := X
  obtain ⟨hx, hb, hml, hrt, hlocks, hown, hnm, hts, hkz, hex⟩ := X1
  have hG : ∀ w ∈ GW, w.before _ sg = true := fun w h => hts w (List.mem_cons_of_mem _ h)
  have hK := hkz.1
  have hl : lv_has ls 7 [(0, .ref ma), (1, .int (nI r)), (2, .int z2), (3, .int z3)] := hl
  obtain ⟨hp2, hp3⟩ := hm.p2
  have hL9 : (tp (P r)).length ≤ 9139 := td_len _ _
  refine lv_iload_n hx hb dR_term_0 rfl (lv_at hl 1 rfl) ?_
  refine ct_callS (av2 := [.int (nI r)]) (rest := []) X hst (g_R_isRegister l D Y lo hr) wc_R_isRegister ml_R_85 ws_R_isRegister wn_R md_R_isRegister (by decide) hl.1 rfl (Nat.le_of_ble_eq_true rfl) ⟨by omega, by omega⟩ (fun _ _ h => h.elim) dR_term_1 (fun r M' H locs hp hst => ?_)
  obtain ⟨rfl, rfl⟩ := hp
  refine lv_if_eq hx hb dR_term_4 (tgt := 35) rfl (fun hc => absurd hc (by decide)) (fun hc => ?_)
  refine lv_iload_n hx hb dR_term_7 rfl (lv_at hl 2 rfl) ?_
  refine lv_if_lt hx hb dR_term_8 (tgt := 35) rfl (fun hc => ?_) (fun hc => ?_)
  · skip
    refine lv_iconst (v := nI 0) hx hb dR_term_35 (by decide +kernel) ?_
    refine lv_istore (lv' := [(4, .int (nI 0)), (0, .ref ma), (1, .int (nI r)), (2, .int z2), (3, .int z3)]) hx hb dR_term_36 hl (by decide) rfl (fun ls hl => ?_)
    refine lv_aload_n hx hb dR_term_38 rfl (lv_at hl 1 rfl) ?_
    refine lv_iload hx hb dR_term_39 (lv_at hl 0 rfl) ?_
    refine lv_if_ne hx hb dR_term_41 (tgt := 48) rfl (fun hc => absurd hc (by decide)) (fun hc => ?_)
    refine lv_iconst (v := nI 1) hx hb dR_term_44 (by decide +kernel) ?_
    refine lv_goto hx hb dR_term_45 (tgt := 49) rfl ?_
    refine lv_iload hx hb dR_term_49 (lv_at hl 0 rfl) ?_
    refine lv_if_eq hx hb dR_term_51 (tgt := 67) rfl (fun hc => ?_) (fun hc => absurd hc (by decide))
    refine lv_iconst (v := nI 0) hx hb dR_term_67 (by decide +kernel) ?_
    refine ct_callV (av2 := [.int (nI 1), .int (nI 0)]) (rest := []) (b := ma) X hst (c_R_fails l D Y lo hm (a := 1) (b := 0) (by omega) (by omega)) hm.ob rfl wc_R_fails ml_R_88 wi_R_fails wl_R_fails wn_R md_R_fails (by decide) hl.1 rfl (Nat.le_of_ble_eq_true rfl) ⟨by omega, by omega⟩ (fun _ _ h => h.elim) dR_term_68 (fun r MF H locs hp hst => ?_)
    obtain ⟨rfl, hmF, hoF⟩ := hp
    have hmF : mo Y MF ma E p rf 1 c := hmF
    refine lv_if_eq hx hb dR_term_71 (tgt := 76) rfl (fun hc => absurd hc (by decide)) (fun hc => ?_)
    refine lv_iconst (v := nI 0) hx hb dR_term_74 (by decide +kernel) ?_
    exact ct_iret X hst ⟨rfl, hmF, hoF⟩ (by omega) (by omega) dR_term_75
  · skip
    have n1 := hc
    refine lv_iload_n hx hb dR_term_11 rfl (lv_at hl 2 rfl) ?_
    refine lv_aload_n hx hb dR_term_12 rfl (lv_at hl 0 rfl) ?_
    refine lv_iload_n hx hb dR_term_13 rfl (lv_at hl 1 rfl) ?_
    refine ct_callS (av2 := [.int (nI r)]) (rest := [.ref ma, .int z2]) X hst (g_R_isRegister l D Y lo hr) wc_R_isRegister ml_R_85 ws_R_isRegister wn_R md_R_isRegister (by decide) hl.1 rfl (Nat.le_of_ble_eq_true rfl) ⟨by omega, by omega⟩ (fun _ _ h => h.elim) dR_term_14 (fun r M' H locs hp hst => ?_)
    obtain ⟨rfl, rfl⟩ := hp
    refine lv_if_eq hx hb dR_term_17 (tgt := 24) rfl (fun hc => absurd hc (by decide)) (fun hc => ?_)
    refine lv_iload_n hx hb dR_term_20 rfl (lv_at hl 1 rfl) ?_
    refine lv_goto hx hb dR_term_21 (tgt := 25) rfl ?_
    refine ct_callV (av2 := [.int (nI r)]) (rest := [.int z2]) (b := ma) X hst (c_R_counted l D Y lo hm hr (h := P r) (hP r hr) (p31 hp3 hPp hr)) hm.ob rfl wc_R_counted ml_R_140 wi_R_counted wl_R_counted wn_R md_R_counted (by decide) hl.1 rfl (Nat.le_of_ble_eq_true rfl) ⟨by omega, by omega⟩ (fun _ _ h => h.elim) dR_term_25 (fun r M' H locs hp hst => ?_)
    obtain ⟨rfl, rfl⟩ := hp
    refine lv_icmp_ge hx hb dR_term_28 (tgt := 35) rfl (fun hc => ?_) (fun hc => ?_)
    · skip
      refine lv_iconst (v := nI 0) hx hb dR_term_35 (by decide +kernel) ?_
      refine lv_istore (lv' := [(4, .int (nI 0)), (0, .ref ma), (1, .int (nI r)), (2, .int z2), (3, .int z3)]) hx hb dR_term_36 hl (by decide) rfl (fun ls hl => ?_)
      refine lv_aload_n hx hb dR_term_38 rfl (lv_at hl 1 rfl) ?_
      refine lv_iload hx hb dR_term_39 (lv_at hl 0 rfl) ?_
      refine lv_if_ne hx hb dR_term_41 (tgt := 48) rfl (fun hc => absurd hc (by decide)) (fun hc => ?_)
      refine lv_iconst (v := nI 1) hx hb dR_term_44 (by decide +kernel) ?_
      refine lv_goto hx hb dR_term_45 (tgt := 49) rfl ?_
      refine lv_iload hx hb dR_term_49 (lv_at hl 0 rfl) ?_
      refine lv_if_eq hx hb dR_term_51 (tgt := 67) rfl (fun hc => ?_) (fun hc => absurd hc (by decide))
      refine lv_iconst (v := nI 0) hx hb dR_term_67 (by decide +kernel) ?_
      refine ct_callV (av2 := [.int (nI 1), .int (nI 0)]) (rest := []) (b := ma) X hst (c_R_fails l D Y lo hm (a := 1) (b := 0) (by omega) (by omega)) hm.ob rfl wc_R_fails ml_R_88 wi_R_fails wl_R_fails wn_R md_R_fails (by decide) hl.1 rfl (Nat.le_of_ble_eq_true rfl) ⟨by omega, by omega⟩ (fun _ _ h => h.elim) dR_term_68 (fun r MF H locs hp hst => ?_)
      obtain ⟨rfl, hmF, hoF⟩ := hp
      have hmF : mo Y MF ma E p rf 1 c := hmF
      refine lv_if_eq hx hb dR_term_71 (tgt := 76) rfl (fun hc => absurd hc (by decide)) (fun hc => ?_)
      refine lv_iconst (v := nI 0) hx hb dR_term_74 (by decide +kernel) ?_
      exact ct_iret X hst ⟨rfl, hmF, hoF⟩ (by omega) (by omega) dR_term_75
    · obtain ⟨k3, hk3, rfl⟩ := nI_of n1
      exact absurd ⟨k3, Classical.byContradiction (fun z => hc ((nI_leI (by omega) hk3).mpr (by omega))), rfl⟩ hno

set_option maxHeartbeats 4000000 in
set_option maxRecDepth 100000 in
theorem e_R_term_w (l : Launch) (D : va_G) (Y : Nat → ClassId) (lo : Nat) {M : Hm} {ma p rf th : Nat} {E : Nat → Nat} {c : Nat → Nat → Nat} (hm : mo Y M ma E p rf th c) {P : Nat → Pf} (hP : rr c P) (hPp : ∀ r, r < 12 → ∀ m, P r m < p) {r i : Nat} {z3 : Int32} (hr : r < 12) (hi : i < (tp (P r)).length) (hno : ¬ ∃ k : Nat, k ≤ 3 ∧ z3 = nI k) : ct l D Y lo y_R_term b_R_term 7 (some .int) 1 [.ref ma, .int (nI r), .int (nI i), .int z3] M (fun r9 M' => r9 = some (.int (nI 0)) ∧ mo Y M' ma E p rf 2 c ∧ hp_off (fun i => i = 1000) M M') nx 0 0 := by
  refine ct_of (by decide) (Nat.le_of_ble_eq_true rfl) ?_
  intro pg eg sg mg bw mt cg ls X hst hl
  have X1 := X
  obtain ⟨hx, hb, hml, hrt, hlocks, hown, hnm, hts, hkz, hex⟩ := X1
  have hG : ∀ w ∈ GW, w.before _ sg = true := fun w h => hts w (List.mem_cons_of_mem _ h)
  have hK := hkz.1
  have hl : lv_has ls 7 [(0, .ref ma), (1, .int (nI r)), (2, .int (nI i)), (3, .int z3)] := hl
  obtain ⟨hp2, hp3⟩ := hm.p2
  have hL9 : (tp (P r)).length ≤ 9139 := td_len _ _
  refine lv_iload_n hx hb dR_term_0 rfl (lv_at hl 1 rfl) ?_
  refine ct_callS (av2 := [.int (nI r)]) (rest := []) X hst (g_R_isRegister l D Y lo hr) wc_R_isRegister ml_R_85 ws_R_isRegister wn_R md_R_isRegister (by decide) hl.1 rfl (Nat.le_of_ble_eq_true rfl) ⟨by omega, by omega⟩ (fun _ _ h => h.elim) dR_term_1 (fun r M' H locs hp hst => ?_)
  obtain ⟨rfl, rfl⟩ := hp
  refine lv_if_eq hx hb dR_term_4 (tgt := 35) rfl (fun hc => absurd hc (by decide)) (fun hc => ?_)
  refine lv_iload_n hx hb dR_term_7 rfl (lv_at hl 2 rfl) ?_
  refine lv_if_lt hx hb dR_term_8 (tgt := 35) rfl (fun hc => ?_) (fun hc => ?_)
  · skip
    rw [← nI_0] at hc
    have hz : i < 0 := (nI_ltI (by omega) (by omega)).mp hc
    exact absurd hz (by omega)
  · skip
    rw [← nI_0] at hc
    have hz : ¬ i < 0 := fun z => hc ((nI_ltI (by omega) (by omega)).mpr z)
    refine lv_iload_n hx hb dR_term_11 rfl (lv_at hl 2 rfl) ?_
    refine lv_aload_n hx hb dR_term_12 rfl (lv_at hl 0 rfl) ?_
    refine lv_iload_n hx hb dR_term_13 rfl (lv_at hl 1 rfl) ?_
    refine ct_callS (av2 := [.int (nI r)]) (rest := [.ref ma, .int (nI i)]) X hst (g_R_isRegister l D Y lo hr) wc_R_isRegister ml_R_85 ws_R_isRegister wn_R md_R_isRegister (by decide) hl.1 rfl (Nat.le_of_ble_eq_true rfl) ⟨by omega, by omega⟩ (fun _ _ h => h.elim) dR_term_14 (fun r M' H locs hp hst => ?_)
    obtain ⟨rfl, rfl⟩ := hp
    refine lv_if_eq hx hb dR_term_17 (tgt := 24) rfl (fun hc => absurd hc (by decide)) (fun hc => ?_)
    refine lv_iload_n hx hb dR_term_20 rfl (lv_at hl 1 rfl) ?_
    refine lv_goto hx hb dR_term_21 (tgt := 25) rfl ?_
    refine ct_callV (av2 := [.int (nI r)]) (rest := [.int (nI i)]) (b := ma) X hst (c_R_counted l D Y lo hm hr (h := P r) (hP r hr) (p31 hp3 hPp hr)) hm.ob rfl wc_R_counted ml_R_140 wi_R_counted wl_R_counted wn_R md_R_counted (by decide) hl.1 rfl (Nat.le_of_ble_eq_true rfl) ⟨by omega, by omega⟩ (fun _ _ h => h.elim) dR_term_25 (fun r M' H locs hp hst => ?_)
    obtain ⟨rfl, rfl⟩ := hp
    refine lv_icmp_ge hx hb dR_term_28 (tgt := 35) rfl (fun hc => ?_) (fun hc => ?_)
    · skip
      have hz : ((tp (P r)).length) ≤ i := (nI_leI (by omega) (by omega)).mp hc
      exact absurd hz (by omega)
    · skip
      have hz : ¬ ((tp (P r)).length) ≤ i := fun z => hc ((nI_leI (by omega) (by omega)).mpr z)
      refine lv_iconst (v := nI 1) hx hb dR_term_31 (by decide +kernel) ?_
      refine lv_goto hx hb dR_term_32 (tgt := 36) rfl ?_
      refine lv_istore (lv' := [(4, .int (nI 1)), (0, .ref ma), (1, .int (nI r)), (2, .int (nI i)), (3, .int z3)]) hx hb dR_term_36 hl (by decide) rfl (fun ls hl => ?_)
      refine lv_aload_n hx hb dR_term_38 rfl (lv_at hl 1 rfl) ?_
      refine lv_iload hx hb dR_term_39 (lv_at hl 0 rfl) ?_
      refine lv_if_ne hx hb dR_term_41 (tgt := 48) rfl (fun hc => ?_) (fun hc => absurd hc (by decide))
      refine lv_iconst (v := nI 0) hx hb dR_term_48 (by decide +kernel) ?_
      refine lv_iload hx hb dR_term_49 (lv_at hl 0 rfl) ?_
      refine lv_if_eq hx hb dR_term_51 (tgt := 67) rfl (fun hc => absurd hc (by decide)) (fun hc => ?_)
      refine lv_iload_n hx hb dR_term_54 rfl (lv_at hl 4 rfl) ?_
      refine lv_if_lt hx hb dR_term_55 (tgt := 63) rfl (fun hc => ?_) (fun hc => ?_)
      · skip
        refine lv_iconst (v := nI 1) hx hb dR_term_63 (by decide +kernel) ?_
        refine lv_goto hx hb dR_term_64 (tgt := 68) rfl ?_
        refine ct_callV (av2 := [.int (nI 0), .int (nI 1)]) (rest := []) (b := ma) X hst (c_R_fails l D Y lo hm (a := 0) (b := 1) (by omega) (by omega)) hm.ob rfl wc_R_fails ml_R_88 wi_R_fails wl_R_fails wn_R md_R_fails (by decide) hl.1 rfl (Nat.le_of_ble_eq_true rfl) ⟨by omega, by omega⟩ (fun _ _ h => h.elim) dR_term_68 (fun r MF H locs hp hst => ?_)
        obtain ⟨rfl, hmF, hoF⟩ := hp
        have hmF : mo Y MF ma E p rf 2 c := hmF
        refine lv_if_eq hx hb dR_term_71 (tgt := 76) rfl (fun hc => absurd hc (by decide)) (fun hc => ?_)
        refine lv_iconst (v := nI 0) hx hb dR_term_74 (by decide +kernel) ?_
        exact ct_iret X hst ⟨rfl, hmF, hoF⟩ (by omega) (by omega) dR_term_75
      · skip
        have n1 := hc
        refine lv_iload_n hx hb dR_term_58 rfl (lv_at hl 4 rfl) ?_
        refine lv_iconst (v := nI 3) hx hb dR_term_59 (by decide +kernel) ?_
        refine lv_icmp_le hx hb dR_term_60 (tgt := 67) rfl (fun hc => ?_) (fun hc => ?_)
        · obtain ⟨k3, hk3, rfl⟩ := nI_of n1
          exact absurd ⟨k3, (nI_leI hk3 (by omega)).mp hc, rfl⟩ hno
        · skip
          refine lv_iconst (v := nI 1) hx hb dR_term_63 (by decide +kernel) ?_
          refine lv_goto hx hb dR_term_64 (tgt := 68) rfl ?_
          refine ct_callV (av2 := [.int (nI 0), .int (nI 1)]) (rest := []) (b := ma) X hst (c_R_fails l D Y lo hm (a := 0) (b := 1) (by omega) (by omega)) hm.ob rfl wc_R_fails ml_R_88 wi_R_fails wl_R_fails wn_R md_R_fails (by decide) hl.1 rfl (Nat.le_of_ble_eq_true rfl) ⟨by omega, by omega⟩ (fun _ _ h => h.elim) dR_term_68 (fun r MF H locs hp hst => ?_)
          obtain ⟨rfl, hmF, hoF⟩ := hp
          have hmF : mo Y MF ma E p rf 2 c := hmF
          refine lv_if_eq hx hb dR_term_71 (tgt := 76) rfl (fun hc => absurd hc (by decide)) (fun hc => ?_)
          refine lv_iconst (v := nI 0) hx hb dR_term_74 (by decide +kernel) ?_
          exact ct_iret X hst ⟨rfl, hmF, hoF⟩ (by omega) (by omega) dR_term_75

set_option maxHeartbeats 4000000 in
set_option maxRecDepth 100000 in
theorem c_R_value (l : Launch) (D : va_G) (Y : Nat → ClassId) (lo : Nat) {M : Hm} {ma p rf th : Nat} {E : Nat → Nat} {c : Nat → Nat → Nat} (hm : mo Y M ma E p rf th c) {P : Nat → Pf} (hP : rr c P) (hPp : ∀ r, r < 12 → ∀ m, P r m < p) {r : Nat} (hr : r < 12) (z0 z1 z2 : Int32) : ct l D Y lo y_R_value b_R_value 11 (some .int) 1 [.ref ma, .int (nI r), .int z0, .int z1, .int z2] M (fun r9 M' => ∃ c' : Nat → Nat → Nat, r9 = some (.int (nI (vlF p (fun v => if v = 0 then rd p z0.toInt else if v = 1 then rd p z1.toInt else rd p z2.toInt) (tp (P r)) 0))) ∧ mo Y M' ma E p rf 0 c' ∧ rr c' (P) ∧ hp_off (fun i => i = 1000) M M') nx 0 0 := by
  refine ct_of (by decide) (Nat.le_of_ble_eq_true rfl) ?_
  intro pg eg sg mg bw mt cg ls X hst hl
  have X1 := X
  obtain ⟨hx, hb, hml, hrt, hlocks, hown, hnm, hts, hkz, hex⟩ := X1
  have hG : ∀ w ∈ GW, w.before _ sg = true := fun w h => hts w (List.mem_cons_of_mem _ h)
  have hK := hkz.1
  have hl : lv_has ls 11 [(0, .ref ma), (1, .int (nI r)), (2, .int z0), (3, .int z1), (4, .int z2)] := hl
  obtain ⟨hp2, hp3⟩ := hm.p2
  refine lv_aload_n hx hb dR_value_0 rfl (lv_at hl 0 rfl) ?_
  refine lv_iload_n hx hb dR_value_1 rfl (lv_at hl 1 rfl) ?_
  refine ct_callS (av2 := [.int (nI r)]) (rest := [.ref ma]) X hst (g_R_isRegister l D Y lo hr) wc_R_isRegister ml_R_85 ws_R_isRegister wn_R md_R_isRegister (by decide) hl.1 rfl (Nat.le_of_ble_eq_true rfl) ⟨by omega, by omega⟩ (fun _ _ h => h.elim) dR_value_2 (fun r M' H locs hp hst => ?_)
  obtain ⟨rfl, rfl⟩ := hp
  refine lv_if_ne hx hb dR_value_5 (tgt := 12) rfl (fun hc => ?_) (fun hc => absurd hc (by decide))
  refine lv_iconst (v := nI 0) hx hb dR_value_12 (by decide +kernel) ?_
  refine lv_iconst (v := nI 0) hx hb dR_value_13 (by decide +kernel) ?_
  refine ct_callV (av2 := [.int (nI 0), .int (nI 0)]) (rest := []) (b := ma) X hst (c_R_fails l D Y lo hm (a := 0) (b := 0) (by omega) (by omega)) hm.ob rfl wc_R_fails ml_R_88 wi_R_fails wl_R_fails wn_R md_R_fails (by decide) hl.1 rfl (Nat.le_of_ble_eq_true rfl) ⟨by omega, by omega⟩ (fun _ _ h => h.elim) dR_value_14 (fun r MF H locs hp hst => ?_)
  obtain ⟨rfl, hmF, hoF⟩ := hp
  have hmF : mo Y MF ma E p rf 0 c := hmF
  refine lv_if_eq hx hb dR_value_17 (tgt := 22) rfl (fun hc => ?_) (fun hc => absurd hc (by decide))
  refine lv_lconst (v := lN 0) hx hb dR_value_22 (by decide +kernel) ?_
  refine lv_lstore (lv' := [(5, .long (lN 0)), (0, .ref ma), (1, .int (nI r)), (2, .int z0), (3, .int z1), (4, .int z2)]) hx hb dR_value_23 hl (by decide) rfl (fun ls hl => ?_)
  refine lv_iconst (v := nI 0) hx hb dR_value_25 (by decide +kernel) ?_
  refine lv_istore (lv' := [(7, .int (nI 0)), (5, .long (lN 0)), (0, .ref ma), (1, .int (nI r)), (2, .int z0), (3, .int z1), (4, .int z2)]) hx hb dR_value_26 hl (by decide) rfl (fun ls hl => ?_)
  have hy0 := rd_lt (p := p) (by omega) z0.toInt
  have hy1 := rd_lt (p := p) (by omega) z1.toInt
  have hy2 := rd_lt (p := p) (by omega) z2.toInt
  have LP : ∀ (kk : Nat) (s k : Nat) (H : Heap) (locs : List Loc) (ls : Array Slot), kk = 9139 - k → (k ≤ 9139) → (s < p) → (vlF p (fun v => if v = 0 then rd p z0.toInt else if v = 1 then rd p z1.toInt else rd p z2.toInt) (td (P r) (9139 - k)) s = vlF p (fun v => if v = 0 then rd p z0.toInt else if v = 1 then rd p z1.toInt else rd p z2.toInt) (tp (P r)) 0) → hp_st D vC lo MF sg.heap H locs → lv_has ls 11 [(0, .ref ma), (1, .int (nI r)), (2, .int z0), (3, .int z1), (4, .int z2), (5, .long (lN s)), (7, .int (nI k))] → cW pg l eg sg mg [.ref ma, .int (nI r), .int z0, .int z1, .int z2] bw mt cg y_R_value b_R_value 11 (some .int) 1 D lo (fun r9 M' => ∃ c' : Nat → Nat → Nat, r9 = some (.int (nI (vlF p (fun v => if v = 0 then rd p z0.toInt else if v = 1 then rd p z1.toInt else rd p z2.toInt) (tp (P r)) 0))) ∧ mo Y M' ma E p rf 0 c' ∧ rr c' (P) ∧ hp_off (fun i => i = 1000) M M') nx 0 0 H locs 0 0 (F0 mg 28 ls []) := by
    intro kk
    induction kk using Nat.strongRecOn with
    | _ kk ihLP =>
    intro s k H locs ls hkk hk9 hs hinv hst hl
    refine lv_iload hx hb dR_value_28 (lv_at hl 6 rfl) ?_
    refine lv_sipush (v := nI 9139) hx hb dR_value_30 (by decide +kernel) ?_
    refine lv_icmp_ge hx hb dR_value_33 (tgt := 210) rfl (fun hc => ?_) (fun hc => ?_)
    · skip
      have hc5 : 9139 ≤ k := (nI_leI (by omega) (by omega)).mp hc
      have hk : k = 9139 := by omega
      rw [hk] at hinv
      have hinv : s = vlF p (fun v => if v = 0 then rd p z0.toInt else if v = 1 then rd p z1.toInt else rd p z2.toInt) (tp (P r)) 0 := hinv
      refine lv_lload hx hb dR_value_210 (lv_at hl 5 rfl) ?_
      refine lv_l2i (v := nI s) hx hb dR_value_212 (lN_i _) ?_
      exact ct_iret X hst ⟨c, by rw [← hinv], hmF, hP, hoF⟩ (by omega) (by omega) dR_value_213
    · skip
      have hc5 : ¬ 9139 ≤ k := fun z => hc ((nI_leI (by omega) (by omega)).mpr z)
      have u1 := hP r hr k (by omega)
      have l0 := hPp r hr (pl k)
      have l1 : (P r (pl k) * (rd p z0.toInt) ^ xe (pl k) 0 % p) < p := Nat.mod_lt _ (by omega)
      have l2 : ((P r (pl k) * (rd p z0.toInt) ^ xe (pl k) 0 % p) * (rd p z1.toInt) ^ xe (pl k) 1 % p) < p := Nat.mod_lt _ (by omega)
      have hxl0 := xe_lt (pl k) 0
      have hxl1 := xe_lt (pl k) 1
      have hxl2 := xe_lt (pl k) 2
      refine lv_aload_n hx hb dR_value_36 rfl (lv_at hl 0 rfl) ?_
      refine hp_get hx hb hG in_R hown hK hst hmF.ob rfl 5 (by decide) (hG _ fl_R_18) rfl rfl dR_value_37 ?_
      refine lv_sipush (v := nI 9139) hx hb dR_value_40 (by decide +kernel) ?_
      refine lv_iload_n hx hb dR_value_43 rfl (lv_at hl 1 rfl) ?_
      refine t_imul hx hb dR_value_44 (v := nI (9139 * r)) (pk_mul _ _) ?_
      refine lv_iload hx hb dR_value_45 (lv_at hl 6 rfl) ?_
      refine t_iadd hx hb dR_value_47 (v := nI ((9139 * r) + k)) (nI_add _ _) ?_
      refine hp_iald hx hb hK rfl hst hmF.a3 (j := ((9139 * r) + k)) (by omega) (by omega) dR_value_48 ?_
      refine tp_n (e2 := P r (pl k)) u1 ?_
      refine lv_i2l (v := lN (P r (pl k))) hx hb dR_value_49 (nI_l (by omega)) ?_
      refine lv_lstore (lv' := [(8, .long (lN (P r (pl k)))), (0, .ref ma), (1, .int (nI r)), (2, .int z0), (3, .int z1), (4, .int z2), (5, .long (lN s)), (7, .int (nI k))]) hx hb dR_value_50 hl (by decide) rfl (fun ls hl => ?_)
      have L2 : ∀ (kk : Nat) (i : Nat) (H : Heap) (locs : List Loc) (ls : Array Slot), kk = xe (pl k) 2 - i → (i ≤ xe (pl k) 2) → hp_st D vC lo MF sg.heap H locs → lv_has ls 11 [(0, .ref ma), (1, .int (nI r)), (2, .int z0), (3, .int z1), (4, .int z2), (5, .long (lN s)), (7, .int (nI k)), (8, .long (lN (((P r (pl k) * (rd p z0.toInt) ^ xe (pl k) 0 % p) * (rd p z1.toInt) ^ xe (pl k) 1 % p) * (rd p z2.toInt) ^ i % p))), (10, .int (nI i))] → cW pg l eg sg mg [.ref ma, .int (nI r), .int z0, .int z1, .int z2] bw mt cg y_R_value b_R_value 11 (some .int) 1 D lo (fun r9 M' => ∃ c' : Nat → Nat → Nat, r9 = some (.int (nI (vlF p (fun v => if v = 0 then rd p z0.toInt else if v = 1 then rd p z1.toInt else rd p z2.toInt) (tp (P r)) 0))) ∧ mo Y M' ma E p rf 0 c' ∧ rr c' (P) ∧ hp_off (fun i => i = 1000) M M') nx 0 0 H locs 0 0 (F0 mg 147 ls []) := by
        intro kk
        induction kk using Nat.strongRecOn with
        | _ kk ihL2 =>
        intro i H locs ls hkk hi9 hst hl
        have hcl : ((P r (pl k) * (rd p z0.toInt) ^ xe (pl k) 0 % p) * (rd p z1.toInt) ^ xe (pl k) 1 % p) * (rd p z2.toInt) ^ i % p < p := Nat.mod_lt _ (by omega)
        refine lv_iload hx hb dR_value_147 (lv_at hl 8 rfl) ?_
        refine lv_aload_n hx hb dR_value_149 rfl (lv_at hl 0 rfl) ?_
        refine lv_iload hx hb dR_value_150 (lv_at hl 6 rfl) ?_
        refine lv_iconst (v := nI 2) hx hb dR_value_152 (by decide +kernel) ?_
        refine ct_callV (av2 := [.int (nI k), .int (nI 2)]) (rest := [.int (nI i)]) (b := ma) X hst (c_R_exponent l D Y lo hmF (k := k) (v := 2) (by omega) (by omega)) hmF.ob rfl wc_R_exponent ml_R_58 wi_R_exponent wl_R_exponent wn_R md_R_exponent (by decide) hl.1 rfl (Nat.le_of_ble_eq_true rfl) ⟨by omega, by omega⟩ (fun _ _ h => h.elim) dR_value_153 (fun r M' H locs hp hst => ?_)
        obtain ⟨rfl, rfl⟩ := hp
        refine lv_icmp_ge hx hb dR_value_156 (tgt := 191) rfl (fun hc => ?_) (fun hc => ?_)
        · skip
          have hci : (xe (pl k) 2) ≤ i := (nI_leI (by omega) (by omega)).mp hc
          have hi : i = xe (pl k) 2 := by omega
          have heq : ((P r (pl k) * (rd p z0.toInt) ^ xe (pl k) 0 % p) * (rd p z1.toInt) ^ xe (pl k) 1 % p) * (rd p z2.toInt) ^ i % p = ((P r (pl k) * (rd p z0.toInt) ^ xe (pl k) 0 % p) * (rd p z1.toInt) ^ xe (pl k) 1 % p) * (rd p z2.toInt) ^ xe (pl k) 2 % p := by rw [hi]
          rw [heq] at hl
          have l3 : ((P r (pl k) * (rd p z0.toInt) ^ xe (pl k) 0 % p) * (rd p z1.toInt) ^ xe (pl k) 1 % p) * (rd p z2.toInt) ^ xe (pl k) 2 % p < p := Nat.mod_lt _ (by omega)
          refine lv_lload hx hb dR_value_191 (lv_at hl 5 rfl) ?_
          refine lv_lload hx hb dR_value_193 (lv_at hl 7 rfl) ?_
          refine lv_ladd hx hb dR_value_195 ?_
          refine tp_l (e2 := lN (s + (((P r (pl k) * (rd p z0.toInt) ^ xe (pl k) 0 % p) * (rd p z1.toInt) ^ xe (pl k) 1 % p) * (rd p z2.toInt) ^ xe (pl k) 2 % p))) (lN_add _ _) ?_
          refine lv_aload_n hx hb dR_value_196 rfl (lv_at hl 0 rfl) ?_
          refine hp_get hx hb hG in_R hown hK hst hmF.ob rfl 1 (by decide) (hG _ fl_R_51) rfl rfl dR_value_197 ?_
          refine lv_i2l (v := lN p) hx hb dR_value_200 (nI_l (by omega)) ?_
          have hmod := Nat.mod_lt (s + (((P r (pl k) * (rd p z0.toInt) ^ xe (pl k) 0 % p) * (rd p z1.toInt) ^ xe (pl k) 1 % p) * (rd p z2.toInt) ^ xe (pl k) 2 % p)) (show 0 < p by omega)
          refine lv_lrem hx hb dR_value_201 (lN_ne0 (by omega) (by omega)) ?_
          refine tp_l (e2 := lN ((s + (((P r (pl k) * (rd p z0.toInt) ^ xe (pl k) 0 % p) * (rd p z1.toInt) ^ xe (pl k) 1 % p) * (rd p z2.toInt) ^ xe (pl k) 2 % p)) % p)) (lN_rem (by omega) (by omega) (by omega)) ?_
          have hve := vl_eq (p := p) (m := pl k) (z := s) (q := P r (pl k)) (ys := (fun v => if v = 0 then rd p z0.toInt else if v = 1 then rd p z1.toInt else rd p z2.toInt)) hp2
          have hve : (s + ((P r (pl k) * (rd p z0.toInt) ^ xe (pl k) 0 % p) * (rd p z1.toInt) ^ xe (pl k) 1 % p) * (rd p z2.toInt) ^ xe (pl k) 2 % p) % p = (s + P r (pl k) * atF p (fun v k => pw p ((fun v => if v = 0 then rd p z0.toInt else if v = 1 then rd p z1.toInt else rd p z2.toInt) v) k) (pl k) 3) % p := hve
          refine lv_lstore (lv' := [(5, .long (lN ((s + (((P r (pl k) * (rd p z0.toInt) ^ xe (pl k) 0 % p) * (rd p z1.toInt) ^ xe (pl k) 1 % p) * (rd p z2.toInt) ^ xe (pl k) 2 % p)) % p))), (0, .ref ma), (1, .int (nI r)), (2, .int z0), (3, .int z1), (4, .int z2), (7, .int (nI k)), (8, .long (lN (((P r (pl k) * (rd p z0.toInt) ^ xe (pl k) 0 % p) * (rd p z1.toInt) ^ xe (pl k) 1 % p) * (rd p z2.toInt) ^ xe (pl k) 2 % p))), (10, .int (nI i))]) hx hb dR_value_202 hl (by decide) rfl (fun ls hl => ?_)
          refine lv_iinc (lv' := [(7, .int (nI (k + 1))), (5, .long (lN ((s + (((P r (pl k) * (rd p z0.toInt) ^ xe (pl k) 0 % p) * (rd p z1.toInt) ^ xe (pl k) 1 % p) * (rd p z2.toInt) ^ xe (pl k) 2 % p)) % p))), (0, .ref ma), (1, .int (nI r)), (2, .int z0), (3, .int z1), (4, .int z2), (8, .long (lN (((P r (pl k) * (rd p z0.toInt) ^ xe (pl k) 0 % p) * (rd p z1.toInt) ^ xe (pl k) 1 % p) * (rd p z2.toInt) ^ xe (pl k) 2 % p))), (10, .int (nI i))]) hx hb dR_value_204 hl (k := 6) rfl (ii_p _) (by decide) rfl (fun ls hl => ?_)
          refine lv_goto hx hb dR_value_207 (tgt := 28) rfl ?_
          exact ihLP _ (by omega) ((s + ((P r (pl k) * (rd p z0.toInt) ^ xe (pl k) 0 % p) * (rd p z1.toInt) ^ xe (pl k) 1 % p) * (rd p z2.toInt) ^ xe (pl k) 2 % p) % p) (k + 1) _ _ _ rfl (by omega) (Nat.mod_lt _ (by omega)) (by
              rw [hve]
              by_cases hz : P r (pl k) = 0
              · rw [td_pl_n (by omega) hz] at hinv
                rw [hz, Nat.zero_mul, show (s + 0) % p = s from Nat.mod_eq_of_lt hs]
                exact hinv
              · rw [td_pl_y (by omega) hz] at hinv
                exact hinv) hst (lv_sub hl [2, 3, 4, 5, 6, 1, 0] rfl)
        · skip
          have hci : ¬ (xe (pl k) 2) ≤ i := fun z => hc ((nI_leI (by omega) (by omega)).mpr z)
          refine lv_lload hx hb dR_value_159 (lv_at hl 7 rfl) ?_
          refine lv_lconst (v := lN 0) hx hb dR_value_161 (by decide +kernel) ?_
          refine lv_lcmp hx hb dR_value_162 ?_
          have hcI : (lN (((P r (pl k) * (rd p z0.toInt) ^ xe (pl k) 0 % p) * (rd p z1.toInt) ^ xe (pl k) 1 % p) * (rd p z2.toInt) ^ i % p)).toInt = ((((P r (pl k) * (rd p z0.toInt) ^ xe (pl k) 0 % p) * (rd p z1.toInt) ^ xe (pl k) 1 % p) * (rd p z2.toInt) ^ i % p : Nat) : Int) := lN_big (by omega)
          have hzI : (lN 0).toInt = 0 := lN_big (by omega)
          refine lv_if_le hx hb dR_value_163 (tgt := 191) rfl (fun hc => ?_) (fun hc => ?_)
          · skip
            have hz0 : ((P r (pl k) * (rd p z0.toInt) ^ xe (pl k) 0 % p) * (rd p z1.toInt) ^ xe (pl k) 1 % p) * (rd p z2.toInt) ^ i % p = 0 := by have := lcm3_le.mp hc; omega
            have heq : ((P r (pl k) * (rd p z0.toInt) ^ xe (pl k) 0 % p) * (rd p z1.toInt) ^ xe (pl k) 1 % p) * (rd p z2.toInt) ^ i % p = ((P r (pl k) * (rd p z0.toInt) ^ xe (pl k) 0 % p) * (rd p z1.toInt) ^ xe (pl k) 1 % p) * (rd p z2.toInt) ^ xe (pl k) 2 % p := by
              rw [hz0, show xe (pl k) 2 = i + (xe (pl k) 2 - i) by omega, Nat.pow_add, ← Nat.mul_assoc, ← Nat.mod_mul_mod, hz0, Nat.zero_mul, Nat.zero_mod]
            rw [heq] at hl
            have l3 : ((P r (pl k) * (rd p z0.toInt) ^ xe (pl k) 0 % p) * (rd p z1.toInt) ^ xe (pl k) 1 % p) * (rd p z2.toInt) ^ xe (pl k) 2 % p < p := Nat.mod_lt _ (by omega)
            refine lv_lload hx hb dR_value_191 (lv_at hl 5 rfl) ?_
            refine lv_lload hx hb dR_value_193 (lv_at hl 7 rfl) ?_
            refine lv_ladd hx hb dR_value_195 ?_
            refine tp_l (e2 := lN (s + (((P r (pl k) * (rd p z0.toInt) ^ xe (pl k) 0 % p) * (rd p z1.toInt) ^ xe (pl k) 1 % p) * (rd p z2.toInt) ^ xe (pl k) 2 % p))) (lN_add _ _) ?_
            refine lv_aload_n hx hb dR_value_196 rfl (lv_at hl 0 rfl) ?_
            refine hp_get hx hb hG in_R hown hK hst hmF.ob rfl 1 (by decide) (hG _ fl_R_51) rfl rfl dR_value_197 ?_
            refine lv_i2l (v := lN p) hx hb dR_value_200 (nI_l (by omega)) ?_
            have hmod := Nat.mod_lt (s + (((P r (pl k) * (rd p z0.toInt) ^ xe (pl k) 0 % p) * (rd p z1.toInt) ^ xe (pl k) 1 % p) * (rd p z2.toInt) ^ xe (pl k) 2 % p)) (show 0 < p by omega)
            refine lv_lrem hx hb dR_value_201 (lN_ne0 (by omega) (by omega)) ?_
            refine tp_l (e2 := lN ((s + (((P r (pl k) * (rd p z0.toInt) ^ xe (pl k) 0 % p) * (rd p z1.toInt) ^ xe (pl k) 1 % p) * (rd p z2.toInt) ^ xe (pl k) 2 % p)) % p)) (lN_rem (by omega) (by omega) (by omega)) ?_
            have hve := vl_eq (p := p) (m := pl k) (z := s) (q := P r (pl k)) (ys := (fun v => if v = 0 then rd p z0.toInt else if v = 1 then rd p z1.toInt else rd p z2.toInt)) hp2
            have hve : (s + ((P r (pl k) * (rd p z0.toInt) ^ xe (pl k) 0 % p) * (rd p z1.toInt) ^ xe (pl k) 1 % p) * (rd p z2.toInt) ^ xe (pl k) 2 % p) % p = (s + P r (pl k) * atF p (fun v k => pw p ((fun v => if v = 0 then rd p z0.toInt else if v = 1 then rd p z1.toInt else rd p z2.toInt) v) k) (pl k) 3) % p := hve
            refine lv_lstore (lv' := [(5, .long (lN ((s + (((P r (pl k) * (rd p z0.toInt) ^ xe (pl k) 0 % p) * (rd p z1.toInt) ^ xe (pl k) 1 % p) * (rd p z2.toInt) ^ xe (pl k) 2 % p)) % p))), (0, .ref ma), (1, .int (nI r)), (2, .int z0), (3, .int z1), (4, .int z2), (7, .int (nI k)), (8, .long (lN (((P r (pl k) * (rd p z0.toInt) ^ xe (pl k) 0 % p) * (rd p z1.toInt) ^ xe (pl k) 1 % p) * (rd p z2.toInt) ^ xe (pl k) 2 % p))), (10, .int (nI i))]) hx hb dR_value_202 hl (by decide) rfl (fun ls hl => ?_)
            refine lv_iinc (lv' := [(7, .int (nI (k + 1))), (5, .long (lN ((s + (((P r (pl k) * (rd p z0.toInt) ^ xe (pl k) 0 % p) * (rd p z1.toInt) ^ xe (pl k) 1 % p) * (rd p z2.toInt) ^ xe (pl k) 2 % p)) % p))), (0, .ref ma), (1, .int (nI r)), (2, .int z0), (3, .int z1), (4, .int z2), (8, .long (lN (((P r (pl k) * (rd p z0.toInt) ^ xe (pl k) 0 % p) * (rd p z1.toInt) ^ xe (pl k) 1 % p) * (rd p z2.toInt) ^ xe (pl k) 2 % p))), (10, .int (nI i))]) hx hb dR_value_204 hl (k := 6) rfl (ii_p _) (by decide) rfl (fun ls hl => ?_)
            refine lv_goto hx hb dR_value_207 (tgt := 28) rfl ?_
            exact ihLP _ (by omega) ((s + ((P r (pl k) * (rd p z0.toInt) ^ xe (pl k) 0 % p) * (rd p z1.toInt) ^ xe (pl k) 1 % p) * (rd p z2.toInt) ^ xe (pl k) 2 % p) % p) (k + 1) _ _ _ rfl (by omega) (Nat.mod_lt _ (by omega)) (by
                rw [hve]
                by_cases hz : P r (pl k) = 0
                · rw [td_pl_n (by omega) hz] at hinv
                  rw [hz, Nat.zero_mul, show (s + 0) % p = s from Nat.mod_eq_of_lt hs]
                  exact hinv
                · rw [td_pl_y (by omega) hz] at hinv
                  exact hinv) hst (lv_sub hl [2, 3, 4, 5, 6, 1, 0] rfl)
          · skip
            refine lv_lload hx hb dR_value_166 (lv_at hl 7 rfl) ?_
            refine lv_aload_n hx hb dR_value_168 rfl (lv_at hl 0 rfl) ?_
            refine lv_iload hx hb dR_value_169 (lv_at hl 4 rfl) ?_
            refine lv_i2l (v := z2.toInt64) hx hb dR_value_171 rfl ?_
            refine ct_callV (av2 := [.long z2.toInt64]) (rest := [.long (lN (((P r (pl k) * (rd p z0.toInt) ^ xe (pl k) 0 % p) * (rd p z1.toInt) ^ xe (pl k) 1 % p) * (rd p z2.toInt) ^ i % p))]) (b := ma) X hst (c_R_reduced l D Y lo hmF (z2.toInt64)) hmF.ob rfl wc_R_reduced ml_R_66 wi_R_reduced wl_R_reduced wn_R md_R_reduced (by decide) hl.1 rfl (Nat.le_of_ble_eq_true rfl) ⟨by omega, by omega⟩ (fun _ _ h => h.elim) dR_value_172 (fun r M' H locs hp hst => ?_)
            obtain ⟨rfl, rfl⟩ := hp
            refine tp_n (e2 := rd p z2.toInt) (by rw [Int32.toInt_toInt64]) ?_
            have hpp : ((P r (pl k) * (rd p z0.toInt) ^ xe (pl k) 0 % p) * (rd p z1.toInt) ^ xe (pl k) 1 % p) * (rd p z2.toInt) ^ i % p * (rd p z2.toInt) ≤ 46337 * 46337 := Nat.mul_le_mul (by omega) (by omega)
            refine lv_i2l (v := lN (rd p z2.toInt)) hx hb dR_value_175 (nI_l (by omega)) ?_
            refine lv_lmul hx hb dR_value_176 ?_
            refine tp_l (e2 := lN ((((P r (pl k) * (rd p z0.toInt) ^ xe (pl k) 0 % p) * (rd p z1.toInt) ^ xe (pl k) 1 % p) * (rd p z2.toInt) ^ i % p) * (rd p z2.toInt))) (lN_mul _ _) ?_
            refine lv_aload_n hx hb dR_value_177 rfl (lv_at hl 0 rfl) ?_
            refine hp_get hx hb hG in_R hown hK hst hmF.ob rfl 1 (by decide) (hG _ fl_R_51) rfl rfl dR_value_178 ?_
            refine lv_i2l (v := lN p) hx hb dR_value_181 (nI_l (by omega)) ?_
            have hmod := Nat.mod_lt ((((P r (pl k) * (rd p z0.toInt) ^ xe (pl k) 0 % p) * (rd p z1.toInt) ^ xe (pl k) 1 % p) * (rd p z2.toInt) ^ i % p) * (rd p z2.toInt)) (show 0 < p by omega)
            refine lv_lrem hx hb dR_value_182 (lN_ne0 (by omega) (by omega)) ?_
            refine tp_l (e2 := lN (((((P r (pl k) * (rd p z0.toInt) ^ xe (pl k) 0 % p) * (rd p z1.toInt) ^ xe (pl k) 1 % p) * (rd p z2.toInt) ^ i % p) * (rd p z2.toInt)) % p)) (lN_rem (by omega) (by omega) (by omega)) ?_
            refine tp_l (e2 := lN (((P r (pl k) * (rd p z0.toInt) ^ xe (pl k) 0 % p) * (rd p z1.toInt) ^ xe (pl k) 1 % p) * (rd p z2.toInt) ^ (i + 1) % p)) (by rw [Nat.mod_mul_mod, Nat.mul_assoc, ← Nat.pow_succ]) ?_
            refine lv_lstore (lv' := [(8, .long (lN (((P r (pl k) * (rd p z0.toInt) ^ xe (pl k) 0 % p) * (rd p z1.toInt) ^ xe (pl k) 1 % p) * (rd p z2.toInt) ^ (i + 1) % p))), (0, .ref ma), (1, .int (nI r)), (2, .int z0), (3, .int z1), (4, .int z2), (5, .long (lN s)), (7, .int (nI k)), (10, .int (nI i))]) hx hb dR_value_183 hl (by decide) rfl (fun ls hl => ?_)
            refine lv_iinc (lv' := [(10, .int (nI (i + 1))), (8, .long (lN (((P r (pl k) * (rd p z0.toInt) ^ xe (pl k) 0 % p) * (rd p z1.toInt) ^ xe (pl k) 1 % p) * (rd p z2.toInt) ^ (i + 1) % p))), (0, .ref ma), (1, .int (nI r)), (2, .int z0), (3, .int z1), (4, .int z2), (5, .long (lN s)), (7, .int (nI k))]) hx hb dR_value_185 hl (k := 8) rfl (ii_p _) (by decide) rfl (fun ls hl => ?_)
            refine lv_goto hx hb dR_value_188 (tgt := 147) rfl ?_
            exact ihL2 _ (by omega) (i + 1) _ _ _ rfl (by omega) hst (lv_sub hl [2, 3, 4, 5, 6, 7, 8, 1, 0] rfl)
      have L1 : ∀ (kk : Nat) (i : Nat) (H : Heap) (locs : List Loc) (ls : Array Slot), kk = xe (pl k) 1 - i → (i ≤ xe (pl k) 1) → hp_st D vC lo MF sg.heap H locs → lv_has ls 11 [(0, .ref ma), (1, .int (nI r)), (2, .int z0), (3, .int z1), (4, .int z2), (5, .long (lN s)), (7, .int (nI k)), (8, .long (lN ((P r (pl k) * (rd p z0.toInt) ^ xe (pl k) 0 % p) * (rd p z1.toInt) ^ i % p))), (10, .int (nI i))] → cW pg l eg sg mg [.ref ma, .int (nI r), .int z0, .int z1, .int z2] bw mt cg y_R_value b_R_value 11 (some .int) 1 D lo (fun r9 M' => ∃ c' : Nat → Nat → Nat, r9 = some (.int (nI (vlF p (fun v => if v = 0 then rd p z0.toInt else if v = 1 then rd p z1.toInt else rd p z2.toInt) (tp (P r)) 0))) ∧ mo Y M' ma E p rf 0 c' ∧ rr c' (P) ∧ hp_off (fun i => i = 1000) M M') nx 0 0 H locs 0 0 (F0 mg 101 ls []) := by
        intro kk
        induction kk using Nat.strongRecOn with
        | _ kk ihL1 =>
        intro i H locs ls hkk hi9 hst hl
        have hcl : (P r (pl k) * (rd p z0.toInt) ^ xe (pl k) 0 % p) * (rd p z1.toInt) ^ i % p < p := Nat.mod_lt _ (by omega)
        refine lv_iload hx hb dR_value_101 (lv_at hl 8 rfl) ?_
        refine lv_aload_n hx hb dR_value_103 rfl (lv_at hl 0 rfl) ?_
        refine lv_iload hx hb dR_value_104 (lv_at hl 6 rfl) ?_
        refine lv_iconst (v := nI 1) hx hb dR_value_106 (by decide +kernel) ?_
        refine ct_callV (av2 := [.int (nI k), .int (nI 1)]) (rest := [.int (nI i)]) (b := ma) X hst (c_R_exponent l D Y lo hmF (k := k) (v := 1) (by omega) (by omega)) hmF.ob rfl wc_R_exponent ml_R_58 wi_R_exponent wl_R_exponent wn_R md_R_exponent (by decide) hl.1 rfl (Nat.le_of_ble_eq_true rfl) ⟨by omega, by omega⟩ (fun _ _ h => h.elim) dR_value_107 (fun r M' H locs hp hst => ?_)
        obtain ⟨rfl, rfl⟩ := hp
        refine lv_icmp_ge hx hb dR_value_110 (tgt := 144) rfl (fun hc => ?_) (fun hc => ?_)
        · skip
          have hci : (xe (pl k) 1) ≤ i := (nI_leI (by omega) (by omega)).mp hc
          have hi : i = xe (pl k) 1 := by omega
          have heq : (P r (pl k) * (rd p z0.toInt) ^ xe (pl k) 0 % p) * (rd p z1.toInt) ^ i % p = (P r (pl k) * (rd p z0.toInt) ^ xe (pl k) 0 % p) * (rd p z1.toInt) ^ xe (pl k) 1 % p := by rw [hi]
          refine lv_iconst (v := nI 0) hx hb dR_value_144 (by decide +kernel) ?_
          refine lv_istore (lv' := [(10, .int (nI 0)), (0, .ref ma), (1, .int (nI r)), (2, .int z0), (3, .int z1), (4, .int z2), (5, .long (lN s)), (7, .int (nI k)), (8, .long (lN ((P r (pl k) * (rd p z0.toInt) ^ xe (pl k) 0 % p) * (rd p z1.toInt) ^ i % p)))]) hx hb dR_value_145 hl (by decide) rfl (fun ls hl => ?_)
          have heq2 : (P r (pl k) * (rd p z0.toInt) ^ xe (pl k) 0 % p) * (rd p z1.toInt) ^ i % p = ((P r (pl k) * (rd p z0.toInt) ^ xe (pl k) 0 % p) * (rd p z1.toInt) ^ xe (pl k) 1 % p) * (rd p z2.toInt) ^ 0 % p := by rw [heq, Nat.pow_zero, Nat.mul_one, Nat.mod_mod]
          rw [heq2] at hl
          exact L2 _ 0 _ _ _ rfl (by omega) hst (lv_sub hl [1, 2, 3, 4, 5, 6, 7, 8, 0] rfl)
        · skip
          have hci : ¬ (xe (pl k) 1) ≤ i := fun z => hc ((nI_leI (by omega) (by omega)).mpr z)
          refine lv_lload hx hb dR_value_113 (lv_at hl 7 rfl) ?_
          refine lv_lconst (v := lN 0) hx hb dR_value_115 (by decide +kernel) ?_
          refine lv_lcmp hx hb dR_value_116 ?_
          have hcI : (lN ((P r (pl k) * (rd p z0.toInt) ^ xe (pl k) 0 % p) * (rd p z1.toInt) ^ i % p)).toInt = (((P r (pl k) * (rd p z0.toInt) ^ xe (pl k) 0 % p) * (rd p z1.toInt) ^ i % p : Nat) : Int) := lN_big (by omega)
          have hzI : (lN 0).toInt = 0 := lN_big (by omega)
          refine lv_if_le hx hb dR_value_117 (tgt := 144) rfl (fun hc => ?_) (fun hc => ?_)
          · skip
            have hz0 : (P r (pl k) * (rd p z0.toInt) ^ xe (pl k) 0 % p) * (rd p z1.toInt) ^ i % p = 0 := by have := lcm3_le.mp hc; omega
            have heq : (P r (pl k) * (rd p z0.toInt) ^ xe (pl k) 0 % p) * (rd p z1.toInt) ^ i % p = (P r (pl k) * (rd p z0.toInt) ^ xe (pl k) 0 % p) * (rd p z1.toInt) ^ xe (pl k) 1 % p := by
              rw [hz0, show xe (pl k) 1 = i + (xe (pl k) 1 - i) by omega, Nat.pow_add, ← Nat.mul_assoc, ← Nat.mod_mul_mod, hz0, Nat.zero_mul, Nat.zero_mod]
            refine lv_iconst (v := nI 0) hx hb dR_value_144 (by decide +kernel) ?_
            refine lv_istore (lv' := [(10, .int (nI 0)), (0, .ref ma), (1, .int (nI r)), (2, .int z0), (3, .int z1), (4, .int z2), (5, .long (lN s)), (7, .int (nI k)), (8, .long (lN ((P r (pl k) * (rd p z0.toInt) ^ xe (pl k) 0 % p) * (rd p z1.toInt) ^ i % p)))]) hx hb dR_value_145 hl (by decide) rfl (fun ls hl => ?_)
            have heq2 : (P r (pl k) * (rd p z0.toInt) ^ xe (pl k) 0 % p) * (rd p z1.toInt) ^ i % p = ((P r (pl k) * (rd p z0.toInt) ^ xe (pl k) 0 % p) * (rd p z1.toInt) ^ xe (pl k) 1 % p) * (rd p z2.toInt) ^ 0 % p := by rw [heq, Nat.pow_zero, Nat.mul_one, Nat.mod_mod]
            rw [heq2] at hl
            exact L2 _ 0 _ _ _ rfl (by omega) hst (lv_sub hl [1, 2, 3, 4, 5, 6, 7, 8, 0] rfl)
          · skip
            refine lv_lload hx hb dR_value_120 (lv_at hl 7 rfl) ?_
            refine lv_aload_n hx hb dR_value_122 rfl (lv_at hl 0 rfl) ?_
            refine lv_iload_n hx hb dR_value_123 rfl (lv_at hl 3 rfl) ?_
            refine lv_i2l (v := z1.toInt64) hx hb dR_value_124 rfl ?_
            refine ct_callV (av2 := [.long z1.toInt64]) (rest := [.long (lN ((P r (pl k) * (rd p z0.toInt) ^ xe (pl k) 0 % p) * (rd p z1.toInt) ^ i % p))]) (b := ma) X hst (c_R_reduced l D Y lo hmF (z1.toInt64)) hmF.ob rfl wc_R_reduced ml_R_66 wi_R_reduced wl_R_reduced wn_R md_R_reduced (by decide) hl.1 rfl (Nat.le_of_ble_eq_true rfl) ⟨by omega, by omega⟩ (fun _ _ h => h.elim) dR_value_125 (fun r M' H locs hp hst => ?_)
            obtain ⟨rfl, rfl⟩ := hp
            refine tp_n (e2 := rd p z1.toInt) (by rw [Int32.toInt_toInt64]) ?_
            have hpp : (P r (pl k) * (rd p z0.toInt) ^ xe (pl k) 0 % p) * (rd p z1.toInt) ^ i % p * (rd p z1.toInt) ≤ 46337 * 46337 := Nat.mul_le_mul (by omega) (by omega)
            refine lv_i2l (v := lN (rd p z1.toInt)) hx hb dR_value_128 (nI_l (by omega)) ?_
            refine lv_lmul hx hb dR_value_129 ?_
            refine tp_l (e2 := lN (((P r (pl k) * (rd p z0.toInt) ^ xe (pl k) 0 % p) * (rd p z1.toInt) ^ i % p) * (rd p z1.toInt))) (lN_mul _ _) ?_
            refine lv_aload_n hx hb dR_value_130 rfl (lv_at hl 0 rfl) ?_
            refine hp_get hx hb hG in_R hown hK hst hmF.ob rfl 1 (by decide) (hG _ fl_R_51) rfl rfl dR_value_131 ?_
            refine lv_i2l (v := lN p) hx hb dR_value_134 (nI_l (by omega)) ?_
            have hmod := Nat.mod_lt (((P r (pl k) * (rd p z0.toInt) ^ xe (pl k) 0 % p) * (rd p z1.toInt) ^ i % p) * (rd p z1.toInt)) (show 0 < p by omega)
            refine lv_lrem hx hb dR_value_135 (lN_ne0 (by omega) (by omega)) ?_
            refine tp_l (e2 := lN ((((P r (pl k) * (rd p z0.toInt) ^ xe (pl k) 0 % p) * (rd p z1.toInt) ^ i % p) * (rd p z1.toInt)) % p)) (lN_rem (by omega) (by omega) (by omega)) ?_
            refine tp_l (e2 := lN ((P r (pl k) * (rd p z0.toInt) ^ xe (pl k) 0 % p) * (rd p z1.toInt) ^ (i + 1) % p)) (by rw [Nat.mod_mul_mod, Nat.mul_assoc, ← Nat.pow_succ]) ?_
            refine lv_lstore (lv' := [(8, .long (lN ((P r (pl k) * (rd p z0.toInt) ^ xe (pl k) 0 % p) * (rd p z1.toInt) ^ (i + 1) % p))), (0, .ref ma), (1, .int (nI r)), (2, .int z0), (3, .int z1), (4, .int z2), (5, .long (lN s)), (7, .int (nI k)), (10, .int (nI i))]) hx hb dR_value_136 hl (by decide) rfl (fun ls hl => ?_)
            refine lv_iinc (lv' := [(10, .int (nI (i + 1))), (8, .long (lN ((P r (pl k) * (rd p z0.toInt) ^ xe (pl k) 0 % p) * (rd p z1.toInt) ^ (i + 1) % p))), (0, .ref ma), (1, .int (nI r)), (2, .int z0), (3, .int z1), (4, .int z2), (5, .long (lN s)), (7, .int (nI k))]) hx hb dR_value_138 hl (k := 8) rfl (ii_p _) (by decide) rfl (fun ls hl => ?_)
            refine lv_goto hx hb dR_value_141 (tgt := 101) rfl ?_
            exact ihL1 _ (by omega) (i + 1) _ _ _ rfl (by omega) hst (lv_sub hl [2, 3, 4, 5, 6, 7, 8, 1, 0] rfl)
      have L0 : ∀ (kk : Nat) (i : Nat) (H : Heap) (locs : List Loc) (ls : Array Slot), kk = xe (pl k) 0 - i → (i ≤ xe (pl k) 0) → hp_st D vC lo MF sg.heap H locs → lv_has ls 11 [(0, .ref ma), (1, .int (nI r)), (2, .int z0), (3, .int z1), (4, .int z2), (5, .long (lN s)), (7, .int (nI k)), (8, .long (lN ((P r (pl k)) * (rd p z0.toInt) ^ i % p))), (10, .int (nI i))] → cW pg l eg sg mg [.ref ma, .int (nI r), .int z0, .int z1, .int z2] bw mt cg y_R_value b_R_value 11 (some .int) 1 D lo (fun r9 M' => ∃ c' : Nat → Nat → Nat, r9 = some (.int (nI (vlF p (fun v => if v = 0 then rd p z0.toInt else if v = 1 then rd p z1.toInt else rd p z2.toInt) (tp (P r)) 0))) ∧ mo Y M' ma E p rf 0 c' ∧ rr c' (P) ∧ hp_off (fun i => i = 1000) M M') nx 0 0 H locs 0 0 (F0 mg 55 ls []) := by
        intro kk
        induction kk using Nat.strongRecOn with
        | _ kk ihL0 =>
        intro i H locs ls hkk hi9 hst hl
        have hcl : (P r (pl k)) * (rd p z0.toInt) ^ i % p < p := Nat.mod_lt _ (by omega)
        refine lv_iload hx hb dR_value_55 (lv_at hl 8 rfl) ?_
        refine lv_aload_n hx hb dR_value_57 rfl (lv_at hl 0 rfl) ?_
        refine lv_iload hx hb dR_value_58 (lv_at hl 6 rfl) ?_
        refine lv_iconst (v := nI 0) hx hb dR_value_60 (by decide +kernel) ?_
        refine ct_callV (av2 := [.int (nI k), .int (nI 0)]) (rest := [.int (nI i)]) (b := ma) X hst (c_R_exponent l D Y lo hmF (k := k) (v := 0) (by omega) (by omega)) hmF.ob rfl wc_R_exponent ml_R_58 wi_R_exponent wl_R_exponent wn_R md_R_exponent (by decide) hl.1 rfl (Nat.le_of_ble_eq_true rfl) ⟨by omega, by omega⟩ (fun _ _ h => h.elim) dR_value_61 (fun r M' H locs hp hst => ?_)
        obtain ⟨rfl, rfl⟩ := hp
        refine lv_icmp_ge hx hb dR_value_64 (tgt := 98) rfl (fun hc => ?_) (fun hc => ?_)
        · skip
          have hci : (xe (pl k) 0) ≤ i := (nI_leI (by omega) (by omega)).mp hc
          have hi : i = xe (pl k) 0 := by omega
          have heq : (P r (pl k)) * (rd p z0.toInt) ^ i % p = (P r (pl k)) * (rd p z0.toInt) ^ xe (pl k) 0 % p := by rw [hi]
          refine lv_iconst (v := nI 0) hx hb dR_value_98 (by decide +kernel) ?_
          refine lv_istore (lv' := [(10, .int (nI 0)), (0, .ref ma), (1, .int (nI r)), (2, .int z0), (3, .int z1), (4, .int z2), (5, .long (lN s)), (7, .int (nI k)), (8, .long (lN ((P r (pl k)) * (rd p z0.toInt) ^ i % p)))]) hx hb dR_value_99 hl (by decide) rfl (fun ls hl => ?_)
          have heq2 : (P r (pl k)) * (rd p z0.toInt) ^ i % p = (P r (pl k) * (rd p z0.toInt) ^ xe (pl k) 0 % p) * (rd p z1.toInt) ^ 0 % p := by rw [heq, Nat.pow_zero, Nat.mul_one, Nat.mod_mod]
          rw [heq2] at hl
          exact L1 _ 0 _ _ _ rfl (by omega) hst (lv_sub hl [1, 2, 3, 4, 5, 6, 7, 8, 0] rfl)
        · skip
          have hci : ¬ (xe (pl k) 0) ≤ i := fun z => hc ((nI_leI (by omega) (by omega)).mpr z)
          refine lv_lload hx hb dR_value_67 (lv_at hl 7 rfl) ?_
          refine lv_lconst (v := lN 0) hx hb dR_value_69 (by decide +kernel) ?_
          refine lv_lcmp hx hb dR_value_70 ?_
          have hcI : (lN ((P r (pl k)) * (rd p z0.toInt) ^ i % p)).toInt = (((P r (pl k)) * (rd p z0.toInt) ^ i % p : Nat) : Int) := lN_big (by omega)
          have hzI : (lN 0).toInt = 0 := lN_big (by omega)
          refine lv_if_le hx hb dR_value_71 (tgt := 98) rfl (fun hc => ?_) (fun hc => ?_)
          · skip
            have hz0 : (P r (pl k)) * (rd p z0.toInt) ^ i % p = 0 := by have := lcm3_le.mp hc; omega
            have heq : (P r (pl k)) * (rd p z0.toInt) ^ i % p = (P r (pl k)) * (rd p z0.toInt) ^ xe (pl k) 0 % p := by
              rw [hz0, show xe (pl k) 0 = i + (xe (pl k) 0 - i) by omega, Nat.pow_add, ← Nat.mul_assoc, ← Nat.mod_mul_mod, hz0, Nat.zero_mul, Nat.zero_mod]
            refine lv_iconst (v := nI 0) hx hb dR_value_98 (by decide +kernel) ?_
            refine lv_istore (lv' := [(10, .int (nI 0)), (0, .ref ma), (1, .int (nI r)), (2, .int z0), (3, .int z1), (4, .int z2), (5, .long (lN s)), (7, .int (nI k)), (8, .long (lN ((P r (pl k)) * (rd p z0.toInt) ^ i % p)))]) hx hb dR_value_99 hl (by decide) rfl (fun ls hl => ?_)
            have heq2 : (P r (pl k)) * (rd p z0.toInt) ^ i % p = (P r (pl k) * (rd p z0.toInt) ^ xe (pl k) 0 % p) * (rd p z1.toInt) ^ 0 % p := by rw [heq, Nat.pow_zero, Nat.mul_one, Nat.mod_mod]
            rw [heq2] at hl
            exact L1 _ 0 _ _ _ rfl (by omega) hst (lv_sub hl [1, 2, 3, 4, 5, 6, 7, 8, 0] rfl)
          · skip
            refine lv_lload hx hb dR_value_74 (lv_at hl 7 rfl) ?_
            refine lv_aload_n hx hb dR_value_76 rfl (lv_at hl 0 rfl) ?_
            refine lv_iload_n hx hb dR_value_77 rfl (lv_at hl 2 rfl) ?_
            refine lv_i2l (v := z0.toInt64) hx hb dR_value_78 rfl ?_
            refine ct_callV (av2 := [.long z0.toInt64]) (rest := [.long (lN ((P r (pl k)) * (rd p z0.toInt) ^ i % p))]) (b := ma) X hst (c_R_reduced l D Y lo hmF (z0.toInt64)) hmF.ob rfl wc_R_reduced ml_R_66 wi_R_reduced wl_R_reduced wn_R md_R_reduced (by decide) hl.1 rfl (Nat.le_of_ble_eq_true rfl) ⟨by omega, by omega⟩ (fun _ _ h => h.elim) dR_value_79 (fun r M' H locs hp hst => ?_)
            obtain ⟨rfl, rfl⟩ := hp
            refine tp_n (e2 := rd p z0.toInt) (by rw [Int32.toInt_toInt64]) ?_
            have hpp : (P r (pl k)) * (rd p z0.toInt) ^ i % p * (rd p z0.toInt) ≤ 46337 * 46337 := Nat.mul_le_mul (by omega) (by omega)
            refine lv_i2l (v := lN (rd p z0.toInt)) hx hb dR_value_82 (nI_l (by omega)) ?_
            refine lv_lmul hx hb dR_value_83 ?_
            refine tp_l (e2 := lN (((P r (pl k)) * (rd p z0.toInt) ^ i % p) * (rd p z0.toInt))) (lN_mul _ _) ?_
            refine lv_aload_n hx hb dR_value_84 rfl (lv_at hl 0 rfl) ?_
            refine hp_get hx hb hG in_R hown hK hst hmF.ob rfl 1 (by decide) (hG _ fl_R_51) rfl rfl dR_value_85 ?_
            refine lv_i2l (v := lN p) hx hb dR_value_88 (nI_l (by omega)) ?_
            have hmod := Nat.mod_lt (((P r (pl k)) * (rd p z0.toInt) ^ i % p) * (rd p z0.toInt)) (show 0 < p by omega)
            refine lv_lrem hx hb dR_value_89 (lN_ne0 (by omega) (by omega)) ?_
            refine tp_l (e2 := lN ((((P r (pl k)) * (rd p z0.toInt) ^ i % p) * (rd p z0.toInt)) % p)) (lN_rem (by omega) (by omega) (by omega)) ?_
            refine tp_l (e2 := lN ((P r (pl k)) * (rd p z0.toInt) ^ (i + 1) % p)) (by rw [Nat.mod_mul_mod, Nat.mul_assoc, ← Nat.pow_succ]) ?_
            refine lv_lstore (lv' := [(8, .long (lN ((P r (pl k)) * (rd p z0.toInt) ^ (i + 1) % p))), (0, .ref ma), (1, .int (nI r)), (2, .int z0), (3, .int z1), (4, .int z2), (5, .long (lN s)), (7, .int (nI k)), (10, .int (nI i))]) hx hb dR_value_90 hl (by decide) rfl (fun ls hl => ?_)
            refine lv_iinc (lv' := [(10, .int (nI (i + 1))), (8, .long (lN ((P r (pl k)) * (rd p z0.toInt) ^ (i + 1) % p))), (0, .ref ma), (1, .int (nI r)), (2, .int z0), (3, .int z1), (4, .int z2), (5, .long (lN s)), (7, .int (nI k))]) hx hb dR_value_92 hl (k := 8) rfl (ii_p _) (by decide) rfl (fun ls hl => ?_)
            refine lv_goto hx hb dR_value_95 (tgt := 55) rfl ?_
            exact ihL0 _ (by omega) (i + 1) _ _ _ rfl (by omega) hst (lv_sub hl [2, 3, 4, 5, 6, 7, 8, 1, 0] rfl)
      refine lv_iconst (v := nI 0) hx hb dR_value_52 (by decide +kernel) ?_
      refine lv_istore (lv' := [(10, .int (nI 0)), (8, .long (lN (P r (pl k)))), (0, .ref ma), (1, .int (nI r)), (2, .int z0), (3, .int z1), (4, .int z2), (5, .long (lN s)), (7, .int (nI k))]) hx hb dR_value_53 hl (by decide) rfl (fun ls hl => ?_)
      have heq0 : P r (pl k) = (P r (pl k)) * (rd p z0.toInt) ^ 0 % p := by rw [Nat.pow_zero, Nat.mul_one, Nat.mod_eq_of_lt l0]
      have hl : lv_has ls 11 [(10, .int (nI 0)), (8, .long (lN ((P r (pl k)) * (rd p z0.toInt) ^ 0 % p))), (0, .ref ma), (1, .int (nI r)), (2, .int z0), (3, .int z1), (4, .int z2), (5, .long (lN s)), (7, .int (nI k))] := by rw [← heq0]; exact hl
      exact L0 _ 0 _ _ _ rfl (by omega) hst (lv_sub hl [2, 3, 4, 5, 6, 7, 8, 1, 0] rfl)
  exact LP _ 0 0 _ _ _ rfl (by omega) (by omega) rfl hst (lv_sub hl [2, 3, 4, 5, 6, 1, 0] rfl)

set_option maxHeartbeats 4000000 in
set_option maxRecDepth 100000 in
theorem e_R_value (l : Launch) (D : va_G) (Y : Nat → ClassId) (lo : Nat) {M : Hm} {ma p rf th : Nat} {E : Nat → Nat} {c : Nat → Nat → Nat} (hm : mo Y M ma E p rf th c) {x1 x2 x3 x4 : Int32} (hno : ¬ inR x1) : ct l D Y lo y_R_value b_R_value 11 (some .int) 1 [.ref ma, .int x1, .int x2, .int x3, .int x4] M (fun r9 M' => ∃ t : Nat, r9 = some (.int (nI 0)) ∧ mo Y M' ma E p rf t c ∧ (t = 1 ∧ ¬ (inR x1) ∨ t = 2 ∧ (inR x1)) ∧ hp_off (fun i => i = 1000) M M') nx 0 0 := by
  refine ct_of (by decide) (Nat.le_of_ble_eq_true rfl) ?_
  intro pg eg sg mg bw mt cg ls X hst hl
  have X1 := X
  obtain ⟨hx, hb, hml, hrt, hlocks, hown, hnm, hts, hkz, hex⟩ := X1
  have hG : ∀ w ∈ GW, w.before _ sg = true := fun w h => hts w (List.mem_cons_of_mem _ h)
  have hK := hkz.1
  have hl : lv_has ls 11 [(0, .ref ma), (1, .int x1), (2, .int x2), (3, .int x3), (4, .int x4)] := hl
  refine lv_aload_n hx hb dR_value_0 rfl (lv_at hl 0 rfl) ?_
  refine lv_iload_n hx hb dR_value_1 rfl (lv_at hl 1 rfl) ?_
  refine ct_callS (av2 := [.int x1]) (rest := [.ref ma]) X hst (e_R_isRegister l D Y lo hno) wc_R_isRegister ml_R_85 ws_R_isRegister wn_R md_R_isRegister (by decide) hl.1 rfl (Nat.le_of_ble_eq_true rfl) ⟨by omega, by omega⟩ (fun _ _ h => h.elim) dR_value_2 (fun r M' H locs hp hst => ?_)
  obtain ⟨rfl, rfl⟩ := hp
  refine lv_if_ne hx hb dR_value_5 (tgt := 12) rfl (fun hc => absurd hc (by decide)) (fun hc => ?_)
  refine lv_iconst (v := nI 1) hx hb dR_value_8 (by decide +kernel) ?_
  refine lv_goto hx hb dR_value_9 (tgt := 13) rfl ?_
  refine lv_iconst (v := nI 0) hx hb dR_value_13 (by decide +kernel) ?_
  refine ct_callV (av2 := [.int (nI 1), .int (nI 0)]) (rest := []) (b := ma) X hst (c_R_fails l D Y lo hm (a := 1) (b := 0) (by omega) (by omega)) hm.ob rfl wc_R_fails ml_R_88 wi_R_fails wl_R_fails wn_R md_R_fails (by decide) hl.1 rfl (Nat.le_of_ble_eq_true rfl) ⟨by omega, by omega⟩ (fun _ _ h => h.elim) dR_value_14 (fun r MF H locs hp hst => ?_)
  obtain ⟨rfl, hmF, hoF⟩ := hp
  have hmF : mo Y MF ma E p rf 1 c := hmF
  refine lv_if_eq hx hb dR_value_17 (tgt := 22) rfl (fun hc => absurd hc (by decide)) (fun hc => ?_)
  refine lv_iconst (v := nI 0) hx hb dR_value_20 (by decide +kernel) ?_
  exact ct_iret X hst ⟨1, rfl, hmF, Or.inl ⟨rfl, hno⟩, hoF⟩ (by omega) (by omega) dR_value_21

theorem sm_le {f : Nat → Nat} {b : Nat} (h : ∀ i, f i ≤ b) : ∀ n, sm f n ≤ n * b
  | 0 => by rw [Nat.zero_mul]; exact Nat.le_refl _
  | n + 1 => by
    have h1 := sm_le h n
    have h2 := h n
    show sm f n + f n ≤ (n + 1) * b
    rw [Nat.add_mul, Nat.one_mul]
    omega

set_option maxHeartbeats 4000000 in
set_option maxRecDepth 100000 in
theorem c_R_count (l : Launch) (D : va_G) (Y : Nat → ClassId) (lo : Nat) {M : Hm} {ma p rf th : Nat} {E : Nat → Nat} {c : Nat → Nat → Nat} (hm : mo Y M ma E p rf th c) {P : Nat → Pf} (hP : rr c P) (hPp : ∀ r, r < 12 → ∀ m, P r m < p) (x : Int32) : ct l D Y lo y_R_count b_R_count 5 (some .int) 2 [.ref ma, .int x] M (fun r9 M' => ∃ c' : Nat → Nat → Nat, r9 = some (.int (cnt p rf P x)) ∧ mo Y M' ma E p rf 0 c' ∧ rr c' (P) ∧ hp_off (fun i => i = 1000) M M') nx 0 0 := by
  refine ct_of (by decide) (Nat.le_of_ble_eq_true rfl) ?_
  intro pg eg sg mg bw mt cg ls X hst hl
  have X1 := X
  obtain ⟨hx, hb, hml, hrt, hlocks, hown, hnm, hts, hkz, hex⟩ := X1
  have hG : ∀ w ∈ GW, w.before _ sg = true := fun w h => hts w (List.mem_cons_of_mem _ h)
  have hK := hkz.1
  have hl : lv_has ls 5 [(0, .ref ma), (1, .int x)] := hl
  obtain ⟨hp2, hp3⟩ := hm.p2
  refine lv_aload_n hx hb dR_count_0 rfl (lv_at hl 0 rfl) ?_
  refine lv_iconst (v := nI 0) hx hb dR_count_1 (by decide +kernel) ?_
  refine hp_put hx hb hG in_R ty_R tyok_R nm_R hown hK hst hm.ob rfl 0 (by decide) (hG _ fl_R_55) rfl rfl rfl rfl (Nat.le_of_ble_eq_true rfl) dR_count_2 (fs' := [.int (nI 0), .int (nI p), .int (nI rf), .ref (E 1), .ref (E 2), .ref (E 3), .ref (E 4), .ref (E 5), .ref (E 6), .ref (E 7), .ref (E 8), .ref (E 9), .ref (E 10), .ref (E 11)]) rfl (fun H locs hst => ?_)
  obtain ⟨hm1, hs2⟩ := hm.nw 0 rf
  generalize hp_up M ma ((1000, 0), .inr (5, [.int (nI 0), .int (nI p), .int (nI rf), .ref (E 1), .ref (E 2), .ref (E 3), .ref (E 4), .ref (E 5), .ref (E 6), .ref (E 7), .ref (E 8), .ref (E 9), .ref (E 10), .ref (E 11)])) = M3 at hst hm1 hs2
  have hmF := hm1
  have hoF := hs2
  refine lv_iconst (v := nI 0) hx hb dR_count_5 (by decide +kernel) ?_
  refine lv_istore_n (lv' := [(2, .int (nI 0)), (0, .ref ma), (1, .int x)]) hx hb dR_count_6 rfl hl (by decide) rfl (fun ls hl => ?_)
  refine lv_iload_n hx hb dR_count_7 rfl (lv_at hl 2 rfl) ?_
  by_cases hin : 0 ≤ x.toInt ∧ x.toInt ≤ 4
  · skip
    obtain ⟨k, hk, rfl⟩ : ∃ k : Nat, k < 5 ∧ x = nI k := ⟨x.toInt.toNat, by omega, i32_of (by omega)⟩
    rcases (show k = 0 ∨ k = 1 ∨ k = 2 ∨ k = 3 ∨ k = 4 by omega) with rfl | rfl | rfl | rfl | rfl
    · skip
      refine lv_tableIn hx hb dR_count_8 (off := 36) (tgt := 44) (by decide +kernel) (by decide +kernel) (by decide +kernel) rfl ?_
      have hcn : cnt p rf P (nI 0) = nI p := by unfold cnt; rw [if_pos rfl]
      have hl : lv_has ls 5 [(0, .ref ma), (1, .int (nI 0)), (2, .int (nI 0))] := lv_sub hl [1, 2, 0] rfl
      refine lv_aload_n hx hb dR_count_44 rfl (lv_at hl 0 rfl) ?_
      refine hp_get hx hb hG in_R hown hK hst hmF.ob rfl 1 (by decide) (hG _ fl_R_51) rfl rfl dR_count_45 ?_
      exact ct_iret X hst ⟨c, by rw [hcn], hmF, hP, hoF⟩ (by omega) (by omega) dR_count_48
    · skip
      refine lv_tableIn hx hb dR_count_8 (off := 41) (tgt := 49) (by decide +kernel) (by decide +kernel) (by decide +kernel) rfl ?_
      have hcn : cnt p rf P (nI 1) = nI (sm (fun r => (tp (P r)).length) 12) := by unfold cnt; rw [if_neg (nI_ne (by omega) (by omega) (by omega))]; rw [if_pos rfl]
      have hl : lv_has ls 5 [(0, .ref ma), (1, .int (nI 1)), (2, .int (nI 0))] := lv_sub hl [1, 2, 0] rfl
      refine lv_iconst (v := nI 0) hx hb dR_count_49 (by decide +kernel) ?_
      refine lv_istore_n (lv' := [(3, .int (nI 0)), (0, .ref ma), (1, .int (nI 1)), (2, .int (nI 0))]) hx hb dR_count_50 rfl hl (by decide) rfl (fun ls hl => ?_)
      have LP : ∀ (kk : Nat) (i : Nat) (H : Heap) (locs : List Loc) (ls : Array Slot), kk = 12 - i → (i ≤ 12) → hp_st D vC lo M3 sg.heap H locs → lv_has ls 5 [(0, .ref ma), (2, .int (nI (sm (fun r => (tp (P r)).length) i))), (3, .int (nI i))] → cW pg l eg sg mg [.ref ma, .int (nI 1)] bw mt cg y_R_count b_R_count 5 (some .int) 2 D lo (fun r9 M' => ∃ c' : Nat → Nat → Nat, r9 = some (.int (cnt p rf P (nI 1))) ∧ mo Y M' ma E p rf 0 c' ∧ rr c' (P) ∧ hp_off (fun i => i = 1000) M M') nx 0 0 H locs 0 0 (F0 mg 51 ls []) := by
        intro kk
        induction kk using Nat.strongRecOn with
        | _ kk ihLP =>
        intro i H locs ls hkk hi9 hst hl
        have hb9 : sm (fun r => (tp (P r)).length) i ≤ i * 9139 := sm_le (fun j => by exact td_len _ _) i
        refine lv_iload_n hx hb dR_count_51 rfl (lv_at hl 2 rfl) ?_
        refine lv_bipush (v := nI 12) hx hb dR_count_52 (by decide +kernel) ?_
        refine lv_icmp_ge hx hb dR_count_54 (tgt := 71) rfl (fun hc => ?_) (fun hc => ?_)
        · skip
          have hc5 : 12 ≤ i := (nI_leI (by omega) (by omega)).mp hc
          have hi : i = 12 := by omega
          rw [hi] at hl
          refine lv_iload_n hx hb dR_count_71 rfl (lv_at hl 1 rfl) ?_
          exact ct_iret X hst ⟨c, by rw [hcn], hmF, hP, hoF⟩ (by omega) (by omega) dR_count_72
        · skip
          have hc5 : ¬ 12 ≤ i := fun z => hc ((nI_leI (by omega) (by omega)).mpr z)
          have hln : (tp (P i)).length ≤ 9139 := td_len _ _
          refine lv_iload_n hx hb dR_count_57 rfl (lv_at hl 1 rfl) ?_
          refine lv_aload_n hx hb dR_count_58 rfl (lv_at hl 0 rfl) ?_
          refine lv_iload_n hx hb dR_count_59 rfl (lv_at hl 2 rfl) ?_
          refine ct_callV (av2 := [.int (nI i)]) (rest := [.int (nI (sm (fun r => (tp (P r)).length) i))]) (b := ma) X hst (c_R_counted l D Y lo hmF (r := i) (by omega) (h := P i) (hP i (by omega)) (p31 hp3 hPp (by omega))) hmF.ob rfl wc_R_counted ml_R_140 wi_R_counted wl_R_counted wn_R md_R_counted (by decide) hl.1 rfl (Nat.le_of_ble_eq_true rfl) ⟨by omega, by omega⟩ (fun _ _ h => h.elim) dR_count_60 (fun r M' H locs hp hst => ?_)
          obtain ⟨rfl, rfl⟩ := hp
          refine t_iadd hx hb dR_count_63 (v := nI ((sm (fun r => (tp (P r)).length) i) + ((tp (P i)).length))) (nI_add _ _) ?_
          refine tp_n (e2 := sm (fun r => (tp (P r)).length) (i + 1)) rfl ?_
          refine lv_istore_n (lv' := [(2, .int (nI (sm (fun r => (tp (P r)).length) (i + 1)))), (0, .ref ma), (3, .int (nI i))]) hx hb dR_count_64 rfl hl (by decide) rfl (fun ls hl => ?_)
          refine lv_iinc (lv' := [(3, .int (nI (i + 1))), (2, .int (nI (sm (fun r => (tp (P r)).length) (i + 1)))), (0, .ref ma)]) hx hb dR_count_65 hl (k := 2) rfl (ii_p _) (by decide) rfl (fun ls hl => ?_)
          refine lv_goto hx hb dR_count_68 (tgt := 51) rfl ?_
          exact ihLP _ (by omega) (i + 1) _ _ _ rfl (by omega) hst (lv_sub hl [2, 1, 0] rfl)
      exact LP _ 0 _ _ _ rfl (by omega) hst (lv_sub hl [1, 3, 0] rfl)
    · skip
      refine lv_tableIn hx hb dR_count_8 (off := 65) (tgt := 73) (by decide +kernel) (by decide +kernel) (by decide +kernel) rfl ?_
      have hcn : cnt p rf P (nI 2) = nI (sm (fun r => if (tp (P r)).length = 0 then 1 else 0) 12) := by unfold cnt; rw [if_neg (nI_ne (by omega) (by omega) (by omega))]; rw [if_neg (nI_ne (by omega) (by omega) (by omega))]; rw [if_pos rfl]
      have hl : lv_has ls 5 [(0, .ref ma), (1, .int (nI 2)), (2, .int (nI 0))] := lv_sub hl [1, 2, 0] rfl
      refine lv_iconst (v := nI 0) hx hb dR_count_73 (by decide +kernel) ?_
      refine lv_istore_n (lv' := [(3, .int (nI 0)), (0, .ref ma), (1, .int (nI 2)), (2, .int (nI 0))]) hx hb dR_count_74 rfl hl (by decide) rfl (fun ls hl => ?_)
      have LP : ∀ (kk : Nat) (i : Nat) (H : Heap) (locs : List Loc) (ls : Array Slot), kk = 12 - i → (i ≤ 12) → hp_st D vC lo M3 sg.heap H locs → lv_has ls 5 [(0, .ref ma), (2, .int (nI (sm (fun r => if (tp (P r)).length = 0 then 1 else 0) i))), (3, .int (nI i))] → cW pg l eg sg mg [.ref ma, .int (nI 2)] bw mt cg y_R_count b_R_count 5 (some .int) 2 D lo (fun r9 M' => ∃ c' : Nat → Nat → Nat, r9 = some (.int (cnt p rf P (nI 2))) ∧ mo Y M' ma E p rf 0 c' ∧ rr c' (P) ∧ hp_off (fun i => i = 1000) M M') nx 0 0 H locs 0 0 (F0 mg 75 ls []) := by
        intro kk
        induction kk using Nat.strongRecOn with
        | _ kk ihLP =>
        intro i H locs ls hkk hi9 hst hl
        have hb9 : sm (fun r => if (tp (P r)).length = 0 then 1 else 0) i ≤ i * 9139 := sm_le (fun j => by show (if _ then _ else _) ≤ _; split <;> omega) i
        refine lv_iload_n hx hb dR_count_75 rfl (lv_at hl 2 rfl) ?_
        refine lv_bipush (v := nI 12) hx hb dR_count_76 (by decide +kernel) ?_
        refine lv_icmp_ge hx hb dR_count_78 (tgt := 103) rfl (fun hc => ?_) (fun hc => ?_)
        · skip
          have hc5 : 12 ≤ i := (nI_leI (by omega) (by omega)).mp hc
          have hi : i = 12 := by omega
          rw [hi] at hl
          refine lv_iload_n hx hb dR_count_103 rfl (lv_at hl 1 rfl) ?_
          exact ct_iret X hst ⟨c, by rw [hcn], hmF, hP, hoF⟩ (by omega) (by omega) dR_count_104
        · skip
          have hc5 : ¬ 12 ≤ i := fun z => hc ((nI_leI (by omega) (by omega)).mpr z)
          have hln : (tp (P i)).length ≤ 9139 := td_len _ _
          refine lv_iload_n hx hb dR_count_81 rfl (lv_at hl 1 rfl) ?_
          refine lv_aload_n hx hb dR_count_82 rfl (lv_at hl 0 rfl) ?_
          refine lv_iload_n hx hb dR_count_83 rfl (lv_at hl 2 rfl) ?_
          refine ct_callV (av2 := [.int (nI i)]) (rest := [.int (nI (sm (fun r => if (tp (P r)).length = 0 then 1 else 0) i))]) (b := ma) X hst (c_R_counted l D Y lo hmF (r := i) (by omega) (h := P i) (hP i (by omega)) (p31 hp3 hPp (by omega))) hmF.ob rfl wc_R_counted ml_R_140 wi_R_counted wl_R_counted wn_R md_R_counted (by decide) hl.1 rfl (Nat.le_of_ble_eq_true rfl) ⟨by omega, by omega⟩ (fun _ _ h => h.elim) dR_count_84 (fun r M' H locs hp hst => ?_)
          obtain ⟨rfl, rfl⟩ := hp
          refine lv_if_ne hx hb dR_count_87 (tgt := 94) rfl (fun hc => ?_) (fun hc => ?_)
          · skip
            rw [← nI_0] at hc
            have hcz : ¬ ((tp (P i)).length) = 0 := fun z => hc ((nI_eq (by omega) (by omega)).mpr z)
            refine lv_iconst (v := nI 0) hx hb dR_count_94 (by decide +kernel) ?_
            refine t_iadd hx hb dR_count_95 (v := nI ((sm (fun r => if (tp (P r)).length = 0 then 1 else 0) i) + 0)) (nI_add _ _) ?_
            refine tp_n (e2 := sm (fun r => if (tp (P r)).length = 0 then 1 else 0) (i + 1)) (by show _ + 0 = sm (fun r => if (tp (P r)).length = 0 then 1 else 0) i + (if _ then _ else _); rw [if_neg hcz]) ?_
            refine lv_istore_n (lv' := [(2, .int (nI (sm (fun r => if (tp (P r)).length = 0 then 1 else 0) (i + 1)))), (0, .ref ma), (3, .int (nI i))]) hx hb dR_count_96 rfl hl (by decide) rfl (fun ls hl => ?_)
            refine lv_iinc (lv' := [(3, .int (nI (i + 1))), (2, .int (nI (sm (fun r => if (tp (P r)).length = 0 then 1 else 0) (i + 1)))), (0, .ref ma)]) hx hb dR_count_97 hl (k := 2) rfl (ii_p _) (by decide) rfl (fun ls hl => ?_)
            refine lv_goto hx hb dR_count_100 (tgt := 75) rfl ?_
            exact ihLP _ (by omega) (i + 1) _ _ _ rfl (by omega) hst (lv_sub hl [2, 1, 0] rfl)
          · skip
            rw [← nI_0] at hc
            have hcz : ((tp (P i)).length) = 0 := (nI_eq (by omega) (by omega)).mp hc
            refine lv_iconst (v := nI 1) hx hb dR_count_90 (by decide +kernel) ?_
            refine lv_goto hx hb dR_count_91 (tgt := 95) rfl ?_
            refine t_iadd hx hb dR_count_95 (v := nI ((sm (fun r => if (tp (P r)).length = 0 then 1 else 0) i) + 1)) (nI_add _ _) ?_
            refine tp_n (e2 := sm (fun r => if (tp (P r)).length = 0 then 1 else 0) (i + 1)) (by show _ + 1 = sm (fun r => if (tp (P r)).length = 0 then 1 else 0) i + (if _ then _ else _); rw [if_pos hcz]) ?_
            refine lv_istore_n (lv' := [(2, .int (nI (sm (fun r => if (tp (P r)).length = 0 then 1 else 0) (i + 1)))), (0, .ref ma), (3, .int (nI i))]) hx hb dR_count_96 rfl hl (by decide) rfl (fun ls hl => ?_)
            refine lv_iinc (lv' := [(3, .int (nI (i + 1))), (2, .int (nI (sm (fun r => if (tp (P r)).length = 0 then 1 else 0) (i + 1)))), (0, .ref ma)]) hx hb dR_count_97 hl (k := 2) rfl (ii_p _) (by decide) rfl (fun ls hl => ?_)
            refine lv_goto hx hb dR_count_100 (tgt := 75) rfl ?_
            exact ihLP _ (by omega) (i + 1) _ _ _ rfl (by omega) hst (lv_sub hl [2, 1, 0] rfl)
      exact LP _ 0 _ _ _ rfl (by omega) hst (lv_sub hl [1, 3, 0] rfl)
    · skip
      refine lv_tableIn hx hb dR_count_8 (off := 97) (tgt := 105) (by decide +kernel) (by decide +kernel) (by decide +kernel) rfl ?_
      have hcn : cnt p rf P (nI 3) = nI (gdA P 12) := by unfold cnt; rw [if_neg (nI_ne (by omega) (by omega) (by omega))]; rw [if_neg (nI_ne (by omega) (by omega) (by omega))]; rw [if_neg (nI_ne (by omega) (by omega) (by omega))]; rw [if_pos rfl]
      have hl : lv_has ls 5 [(0, .ref ma), (1, .int (nI 3)), (2, .int (nI 0))] := lv_sub hl [1, 2, 0] rfl
      refine lv_iconst (v := nI 0) hx hb dR_count_105 (by decide +kernel) ?_
      refine lv_istore_n (lv' := [(3, .int (nI 0)), (0, .ref ma), (1, .int (nI 3)), (2, .int (nI 0))]) hx hb dR_count_106 rfl hl (by decide) rfl (fun ls hl => ?_)
      have LP : ∀ (kk : Nat) (i : Nat) (d : Nat → Nat → Nat) (M1 : Hm) (H : Heap) (locs : List Loc) (ls : Array Slot), kk = 12 - i → (i ≤ 12) → (mo Y M1 ma E p rf 0 d) → (d 3 = c 3) → (hp_off (fun i => i = 1000) M M1) → hp_st D vC lo M1 sg.heap H locs → lv_has ls 5 [(0, .ref ma), (2, .int (nI (gdA P i))), (3, .int (nI i))] → cW pg l eg sg mg [.ref ma, .int (nI 3)] bw mt cg y_R_count b_R_count 5 (some .int) 2 D lo (fun r9 M' => ∃ c' : Nat → Nat → Nat, r9 = some (.int (cnt p rf P (nI 3))) ∧ mo Y M' ma E p rf 0 c' ∧ rr c' (P) ∧ hp_off (fun i => i = 1000) M M') nx 0 0 H locs 0 0 (F0 mg 107 ls []) := by
        intro kk
        induction kk using Nat.strongRecOn with
        | _ kk ihLP =>
        intro i d M1 H locs ls hkk hi9 hmd i3 hod hst hl
        have hgl := gdA_lt P i
        refine lv_iload_n hx hb dR_count_107 rfl (lv_at hl 2 rfl) ?_
        refine lv_bipush (v := nI 12) hx hb dR_count_108 (by decide +kernel) ?_
        refine lv_icmp_ge hx hb dR_count_110 (tgt := 172) rfl (fun hc => ?_) (fun hc => ?_)
        · skip
          have hc5 : 12 ≤ i := (nI_leI (by omega) (by omega)).mp hc
          have hi : i = 12 := by omega
          rw [hi] at hl
          refine lv_iload_n hx hb dR_count_172 rfl (lv_at hl 1 rfl) ?_
          exact ct_iret X hst ⟨d, by rw [hcn], hmd, fun r hr k hk => by rw [i3]; exact hP r hr k hk, hod⟩ (by omega) (by omega) dR_count_173
        · skip
          have hc5 : ¬ 12 ≤ i := fun z => hc ((nI_leI (by omega) (by omega)).mpr z)
          have hi12 : i < 12 := by omega
          refine lv_aload_n hx hb dR_count_113 rfl (lv_at hl 0 rfl) ?_
          refine lv_iload_n hx hb dR_count_114 rfl (lv_at hl 2 rfl) ?_
          refine lv_aload_n hx hb dR_count_115 rfl (lv_at hl 0 rfl) ?_
          refine hp_get hx hb hG in_R hown hK hst hmd.ob rfl 6 (by decide) (hG _ fl_R_21) rfl rfl dR_count_116 ?_
          refine ct_callV (av2 := [.int (nI i), .ref (E 4)]) (rest := []) (b := ma) X hst (c_R_load l D Y lo hmd hi12 (j := 4) (by omega) (by omega)) hmd.ob rfl wc_R_load ml_R_99 wi_R_load wl_R_load wn_R md_R_load (by decide) hl.1 rfl (Nat.le_of_ble_eq_true rfl) ⟨by omega, by omega⟩ (fun _ _ h => h.elim) dR_count_119 (fun r ML4 H locs hp hst => ?_)
          obtain ⟨cL4, rfl, hmL4, sL4, vL4, hoL4⟩ := hp
          have e4 : rp (cL4 4) (P i) := fun k hk => by rw [vL4 k hk, i3]; exact hP i hi12 k hk
          refine lv_iconst (v := nI 0) hx hb dR_count_122 (by decide +kernel) ?_
          refine lv_istore (lv' := [(4, .int (nI 0)), (0, .ref ma), (2, .int (nI (gdA P i))), (3, .int (nI i))]) hx hb dR_count_123 hl (by decide) rfl (fun ls hl => ?_)
          have LQ : ∀ (kk : Nat) (v : Nat) (H : Heap) (locs : List Loc) (ls : Array Slot), kk = 3 - v → (v ≤ 3) → hp_st D vC lo ML4 sg.heap H locs → lv_has ls 5 [(0, .ref ma), (2, .int (nI (gd3 (tp (P i)) (gdA P i) v))), (3, .int (nI i)), (4, .int (nI v))] → cW pg l eg sg mg [.ref ma, .int (nI 3)] bw mt cg y_R_count b_R_count 5 (some .int) 2 D lo (fun r9 M' => ∃ c' : Nat → Nat → Nat, r9 = some (.int (cnt p rf P (nI 3))) ∧ mo Y M' ma E p rf 0 c' ∧ rr c' (P) ∧ hp_off (fun i => i = 1000) M M') nx 0 0 H locs 0 0 (F0 mg 125 ls []) := by
            intro kk
            induction kk using Nat.strongRecOn with
            | _ kk ihLQ =>
            intro v H locs ls hkk hv9 hst hl
            have hg3 := gd3_lt (L := tp (P i)) (g := gdA P i) hgl v
            refine lv_iload hx hb dR_count_125 (lv_at hl 3 rfl) ?_
            refine lv_iconst (v := nI 3) hx hb dR_count_127 (by decide +kernel) ?_
            refine lv_icmp_ge hx hb dR_count_128 (tgt := 166) rfl (fun hc => ?_) (fun hc => ?_)
            · skip
              have hc6 : 3 ≤ v := (nI_leI (by omega) (by omega)).mp hc
              have hv3 : v = 3 := by omega
              rw [hv3] at hl
              refine lv_iinc (lv' := [(3, .int (nI (i + 1))), (0, .ref ma), (2, .int (nI (gdA P (i + 1)))), (4, .int (nI 3))]) hx hb dR_count_166 hl (k := 2) rfl (ii_p _) (by decide) rfl (fun ls hl => ?_)
              refine lv_goto hx hb dR_count_169 (tgt := 107) rfl ?_
              exact ihLP _ (by omega) (i + 1) cL4 ML4 _ _ _ rfl (by omega) hmL4 ((sL4 3 (by omega)).trans i3) (hod.tr hoL4) hst (lv_sub hl [1, 2, 0] rfl)
            · skip
              have hc6 : ¬ 3 ≤ v := fun z => hc ((nI_leI (by omega) (by omega)).mpr z)
              have hv : v < 3 := by omega
              have d1 := dgl_lt (v := v) (g := 0) (L := tp (P i)) (by omega)
              refine lv_aload_n hx hb dR_count_131 rfl (lv_at hl 0 rfl) ?_
              refine lv_aload_n hx hb dR_count_132 rfl (lv_at hl 0 rfl) ?_
              refine hp_get hx hb hG in_R hown hK hst hmL4.ob rfl 6 (by decide) (hG _ fl_R_21) rfl rfl dR_count_133 ?_
              refine lv_iload hx hb dR_count_136 (lv_at hl 3 rfl) ?_
              refine ct_callV (av2 := [.ref (E 4), .int (nI v)]) (rest := []) (b := ma) X hst (c_R_degreeOf l D Y lo hmL4 (j := 4) (by omega) (by omega) e4 (p31 hp3 hPp hi12) (v := v) hv) hmL4.ob rfl wc_R_degreeOf ml_R_102 wi_R_degreeOf wl_R_degreeOf wn_R md_R_degreeOf (by decide) hl.1 rfl (Nat.le_of_ble_eq_true rfl) ⟨by omega, by omega⟩ (fun _ _ h => h.elim) dR_count_138 (fun r M' H locs hp hst => ?_)
              obtain ⟨rfl, rfl⟩ := hp
              refine lv_iload_n hx hb dR_count_141 rfl (lv_at hl 1 rfl) ?_
              refine lv_icmp_le hx hb dR_count_142 (tgt := 158) rfl (fun hc => ?_) (fun hc => ?_)
              · skip
                have hcm : (dgl v (tp (P i)) 0) ≤ (gd3 (tp (P i)) (gdA P i) v) := (nI_leI (by omega) (by omega)).mp hc
                refine lv_iload_n hx hb dR_count_158 rfl (lv_at hl 1 rfl) ?_
                refine tp_n (e2 := gd3 (tp (P i)) (gdA P i) (v + 1)) (by show _ = max _ _; exact (Nat.max_eq_left (by omega)).symm) ?_
                refine lv_istore_n (lv' := [(2, .int (nI (gd3 (tp (P i)) (gdA P i) (v + 1)))), (0, .ref ma), (3, .int (nI i)), (4, .int (nI v))]) hx hb dR_count_159 rfl hl (by decide) rfl (fun ls hl => ?_)
                refine lv_iinc (lv' := [(4, .int (nI (v + 1))), (2, .int (nI (gd3 (tp (P i)) (gdA P i) (v + 1)))), (0, .ref ma), (3, .int (nI i))]) hx hb dR_count_160 hl (k := 3) rfl (ii_p _) (by decide) rfl (fun ls hl => ?_)
                refine lv_goto hx hb dR_count_163 (tgt := 125) rfl ?_
                exact ihLQ _ (by omega) (v + 1) _ _ _ rfl (by omega) hst (lv_sub hl [2, 1, 3, 0] rfl)
              · skip
                have hcm : ¬ (dgl v (tp (P i)) 0) ≤ (gd3 (tp (P i)) (gdA P i) v) := fun z => hc ((nI_leI (by omega) (by omega)).mpr z)
                refine lv_aload_n hx hb dR_count_145 rfl (lv_at hl 0 rfl) ?_
                refine lv_aload_n hx hb dR_count_146 rfl (lv_at hl 0 rfl) ?_
                refine hp_get hx hb hG in_R hown hK hst hmL4.ob rfl 6 (by decide) (hG _ fl_R_21) rfl rfl dR_count_147 ?_
                refine lv_iload hx hb dR_count_150 (lv_at hl 3 rfl) ?_
                refine ct_callV (av2 := [.ref (E 4), .int (nI v)]) (rest := []) (b := ma) X hst (c_R_degreeOf l D Y lo hmL4 (j := 4) (by omega) (by omega) e4 (p31 hp3 hPp hi12) (v := v) hv) hmL4.ob rfl wc_R_degreeOf ml_R_102 wi_R_degreeOf wl_R_degreeOf wn_R md_R_degreeOf (by decide) hl.1 rfl (Nat.le_of_ble_eq_true rfl) ⟨by omega, by omega⟩ (fun _ _ h => h.elim) dR_count_152 (fun r M' H locs hp hst => ?_)
                obtain ⟨rfl, rfl⟩ := hp
                refine lv_goto hx hb dR_count_155 (tgt := 159) rfl ?_
                refine tp_n (e2 := gd3 (tp (P i)) (gdA P i) (v + 1)) (by show _ = max _ _; exact (Nat.max_eq_right (by omega)).symm) ?_
                refine lv_istore_n (lv' := [(2, .int (nI (gd3 (tp (P i)) (gdA P i) (v + 1)))), (0, .ref ma), (3, .int (nI i)), (4, .int (nI v))]) hx hb dR_count_159 rfl hl (by decide) rfl (fun ls hl => ?_)
                refine lv_iinc (lv' := [(4, .int (nI (v + 1))), (2, .int (nI (gd3 (tp (P i)) (gdA P i) (v + 1)))), (0, .ref ma), (3, .int (nI i))]) hx hb dR_count_160 hl (k := 3) rfl (ii_p _) (by decide) rfl (fun ls hl => ?_)
                refine lv_goto hx hb dR_count_163 (tgt := 125) rfl ?_
                exact ihLQ _ (by omega) (v + 1) _ _ _ rfl (by omega) hst (lv_sub hl [2, 1, 3, 0] rfl)
          exact LQ _ 0 _ _ _ rfl (by omega) hst (lv_sub hl [1, 2, 3, 0] rfl)
      exact LP _ 0 c M3 _ _ _ rfl (by omega) hmF rfl hoF hst (lv_sub hl [1, 3, 0] rfl)
    · skip
      refine lv_tableIn hx hb dR_count_8 (off := 166) (tgt := 174) (by decide +kernel) (by decide +kernel) (by decide +kernel) rfl ?_
      have hcn : cnt p rf P (nI 4) = nI rf := by unfold cnt; rw [if_neg (nI_ne (by omega) (by omega) (by omega))]; rw [if_neg (nI_ne (by omega) (by omega) (by omega))]; rw [if_neg (nI_ne (by omega) (by omega) (by omega))]; rw [if_neg (nI_ne (by omega) (by omega) (by omega))]; rw [if_pos rfl]
      have hl : lv_has ls 5 [(0, .ref ma), (1, .int (nI 4)), (2, .int (nI 0))] := lv_sub hl [1, 2, 0] rfl
      refine lv_aload_n hx hb dR_count_174 rfl (lv_at hl 0 rfl) ?_
      refine hp_get hx hb hG in_R hown hK hst hmF.ob rfl 2 (by decide) (hG _ fl_R_82) rfl rfl dR_count_175 ?_
      exact ct_iret X hst ⟨c, by rw [hcn], hmF, hP, hoF⟩ (by omega) (by omega) dR_count_178
  · skip
    refine lv_tableOut hx hb dR_count_8 (tgt := 179) (by omega) rfl ?_
    have hne : ∀ k : Nat, k < 5 → x ≠ nI k := fun k hk z => hin (by rw [z, nI_toInt (by omega)]; omega)
    have hcn : cnt p rf P x = -1 := by unfold cnt; rw [if_neg (hne 0 (by omega)), if_neg (hne 1 (by omega)), if_neg (hne 2 (by omega)), if_neg (hne 3 (by omega)), if_neg (hne 4 (by omega))]
    refine lv_iconst (v := (-1 : Int32)) hx hb dR_count_179 (by decide +kernel) ?_
    exact ct_iret X hst ⟨c, by rw [hcn], hmF, hP, hoF⟩ (by omega) (by omega) dR_count_180
