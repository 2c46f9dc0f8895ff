/-! The reference: put, terms, isSame, coefficient, term. -/
theorem ptL_lt {v e p : Nat} : ∀ {L : List (Nat × Nat)} {s : Pf}, (∀ q ∈ L, q.2 < p) → (∀ m, s m < p) → ∀ m, ptL v e L s m < p := by
  intro L
  induction L with
  | nil => intro s _ h; exact h
  | cons q L ih =>
    intro s hq h
    refine ih (s := if xe q.1 v = e then va_up s (wo q.1 v) q.2 else s) (fun q2 h2 => hq q2 (List.mem_cons_of_mem _ h2)) ?_
    split
    · exact up_lt h (hq q List.mem_cons_self)
    · exact h

set_option maxHeartbeats 4000000 in
set_option maxRecDepth 100000 in
theorem c_R_put (l : Launch) (D : va_G) (Y : Nat → ClassId) (lo : Nat) {M : Hm} {ma p rf th : Nat} {E : Nat → Nat} {c : Nat → Nat → Nat} (hm : mo Y M ma E p rf th c) {P : Nat → Pf} (hP : rr c P) (hPp : ∀ r, r < 12 → ∀ m, P r m < p) {r a v b : Nat} (hr : r < 12) (ha : a < 12) (hv : v < 3) (hb9 : b < 12) (hdg : ∀ u, u < 3 → hrD v (P a) (P b) (dgl v (tp (P a)) 0) u ≤ 12) : ct l D Y lo y_R_put b_R_put 10 (some .boolean) 3 [.ref ma, .int (nI r), .int (nI a), .int (nI v), .int (nI b)] M (fun r9 M' => ∃ c' : Nat → Nat → Nat, r9 = some (.int (nI 1)) ∧ mo Y M' ma E p rf 0 c' ∧ rr c' (va_up P r (hrP p v (dgl v (tp (P a)) 0) (P a) (P b) (dgl v (tp (P a)) 0 + 1))) ∧ hp_off (fun i => i = 1000) M M') nx 0 0 := by
  refine ct_of (by decide) (Nat.le_of_ble_eq_true rfl) ?_
  intro pg eg sg mg bw mt cg ls X hst hl
  have X1 := X
  obtain ⟨hx, hb, hml, hrt, hlocks, hown, hnm, hts, hkz, hex⟩ := X1
  have hG : ∀ w ∈ GW, w.before _ sg = true := fun w h => hts w (List.mem_cons_of_mem _ h)
  have hK := hkz.1
  have hl : lv_has ls 10 [(0, .ref ma), (1, .int (nI r)), (2, .int (nI a)), (3, .int (nI v)), (4, .int (nI b))] := hl
  obtain ⟨hp2, hp3⟩ := hm.p2
  refine lv_iload_n hx hb dR_put_0 rfl (lv_at hl 1 rfl) ?_
  refine ct_callS (av2 := [.int (nI r)]) (rest := []) X hst (g_R_isRegister l D Y lo hr) wc_R_isRegister ml_R_85 ws_R_isRegister wn_R md_R_isRegister (by decide) hl.1 rfl (Nat.le_of_ble_eq_true rfl) ⟨by omega, by omega⟩ (fun _ _ h => h.elim) dR_put_1 (fun r M' H locs hp hst => ?_)
  obtain ⟨rfl, rfl⟩ := hp
  refine lv_if_eq hx hb dR_put_4 (tgt := 26) rfl (fun hc => absurd hc (by decide)) (fun hc => ?_)
  refine lv_iload_n hx hb dR_put_7 rfl (lv_at hl 2 rfl) ?_
  refine ct_callS (av2 := [.int (nI a)]) (rest := []) X hst (g_R_isRegister l D Y lo ha) wc_R_isRegister ml_R_85 ws_R_isRegister wn_R md_R_isRegister (by decide) hl.1 rfl (Nat.le_of_ble_eq_true rfl) ⟨by omega, by omega⟩ (fun _ _ h => h.elim) dR_put_8 (fun r M' H locs hp hst => ?_)
  obtain ⟨rfl, rfl⟩ := hp
  refine lv_if_eq hx hb dR_put_11 (tgt := 26) rfl (fun hc => absurd hc (by decide)) (fun hc => ?_)
  refine lv_iload hx hb dR_put_14 (lv_at hl 4 rfl) ?_
  refine ct_callS (av2 := [.int (nI b)]) (rest := []) X hst (g_R_isRegister l D Y lo hb9) wc_R_isRegister ml_R_85 ws_R_isRegister wn_R md_R_isRegister (by decide) hl.1 rfl (Nat.le_of_ble_eq_true rfl) ⟨by omega, by omega⟩ (fun _ _ h => h.elim) dR_put_16 (fun r M' H locs hp hst => ?_)
  obtain ⟨rfl, rfl⟩ := hp
  refine lv_if_eq hx hb dR_put_19 (tgt := 26) rfl (fun hc => absurd hc (by decide)) (fun hc => ?_)
  refine lv_iconst (v := nI 1) hx hb dR_put_22 (by decide +kernel) ?_
  refine lv_goto hx hb dR_put_23 (tgt := 27) rfl ?_
  refine lv_istore (lv' := [(5, .int (nI 1)), (0, .ref ma), (1, .int (nI r)), (2, .int (nI a)), (3, .int (nI v)), (4, .int (nI b))]) hx hb dR_put_27 hl (by decide) rfl (fun ls hl => ?_)
  refine lv_aload_n hx hb dR_put_29 rfl (lv_at hl 1 rfl) ?_
  refine lv_iload hx hb dR_put_30 (lv_at hl 0 rfl) ?_
  refine lv_if_ne hx hb dR_put_32 (tgt := 39) rfl (fun hc => ?_) (fun hc => absurd hc (by decide))
  refine lv_iconst (v := nI 0) hx hb dR_put_39 (by decide +kernel) ?_
  refine lv_iload hx hb dR_put_40 (lv_at hl 0 rfl) ?_
  refine lv_if_eq hx hb dR_put_42 (tgt := 56) rfl (fun hc => absurd hc (by decide)) (fun hc => ?_)
  refine lv_iload_n hx hb dR_put_45 rfl (lv_at hl 4 rfl) ?_
  refine ct_callS (av2 := [.int (nI v)]) (rest := [.int (nI 0), .ref ma]) X hst (g_R_isVariable l D Y lo hv) wc_R_isVariable ml_R_96 ws_R_isVariable wn_R md_R_isVariable (by decide) hl.1 rfl (Nat.le_of_ble_eq_true rfl) ⟨by omega, by omega⟩ (fun _ _ h => h.elim) dR_put_46 (fun r M' H locs hp hst => ?_)
  obtain ⟨rfl, rfl⟩ := hp
  refine lv_if_ne hx hb dR_put_49 (tgt := 56) rfl (fun hc => ?_) (fun hc => absurd hc (by decide))
  refine lv_iconst (v := nI 0) hx hb dR_put_56 (by decide +kernel) ?_
  refine ct_callV (av2 := [.int (nI 0), .int (nI 0)]) (rest := []) (b := ma) X hst (c_R_fails l D Y lo hm (a := 0) (b := 0) (by omega) (by omega)) hm.ob rfl wc_R_fails ml_R_88 wi_R_fails wl_R_fails wn_R md_R_fails (by decide) hl.1 rfl (Nat.le_of_ble_eq_true rfl) ⟨by omega, by omega⟩ (fun _ _ h => h.elim) dR_put_57 (fun r MF H locs hp hst => ?_)
  obtain ⟨rfl, hmF, hoF⟩ := hp
  have hmF : mo Y MF ma E p rf 0 c := hmF
  refine lv_if_eq hx hb dR_put_60 (tgt := 65) rfl (fun hc => ?_) (fun hc => absurd hc (by decide))
  refine lv_aload_n hx hb dR_put_65 rfl (lv_at hl 1 rfl) ?_
  refine lv_iload_n hx hb dR_put_66 rfl (lv_at hl 3 rfl) ?_
  refine lv_aload_n hx hb dR_put_67 rfl (lv_at hl 1 rfl) ?_
  refine hp_get hx hb hG in_R hown hK hst hmF.ob rfl 6 (by decide) (hG _ fl_R_21) rfl rfl dR_put_68 ?_
  refine ct_callV (av2 := [.int (nI a), .ref (E 4)]) (rest := []) (b := ma) X hst (c_R_load l D Y lo hmF ha (j := 4) (by omega) (by omega)) hmF.ob rfl wc_R_load ml_R_99 wi_R_load wl_R_load wn_R md_R_load (by decide) hl.1 rfl (Nat.le_of_ble_eq_true rfl) ⟨by omega, by omega⟩ (fun _ _ h => h.elim) dR_put_71 (fun r ML4 H locs hp hst => ?_)
  obtain ⟨cL4, rfl, hmL4, sL4, vL4, hoL4⟩ := hp
  refine lv_aload_n hx hb dR_put_74 rfl (lv_at hl 1 rfl) ?_
  refine lv_iload hx hb dR_put_75 (lv_at hl 5 rfl) ?_
  refine lv_aload_n hx hb dR_put_77 rfl (lv_at hl 1 rfl) ?_
  refine hp_get hx hb hG in_R hown hK hst hmL4.ob rfl 7 (by decide) (hG _ fl_R_24) rfl rfl dR_put_78 ?_
  refine ct_callV (av2 := [.int (nI b), .ref (E 5)]) (rest := []) (b := ma) X hst (c_R_load l D Y lo hmL4 hb9 (j := 5) (by omega) (by omega)) hmL4.ob rfl wc_R_load ml_R_99 wi_R_load wl_R_load wn_R md_R_load (by decide) hl.1 rfl (Nat.le_of_ble_eq_true rfl) ⟨by omega, by omega⟩ (fun _ _ h => h.elim) dR_put_81 (fun r ML5 H locs hp hst => ?_)
  obtain ⟨cL5, rfl, hmL5, sL5, vL5, hoL5⟩ := hp
  have e3 : cL5 3 = c 3 := (sL5 3 (by omega)).trans (sL4 3 (by omega))
  have e4 : rp (cL5 4) (P a) := fun k hk => by rw [sL5 4 (by omega), vL4 k hk]; exact hP a ha k hk
  have e5 : rp (cL5 5) (P b) := fun k hk => by rw [vL5 k hk, sL4 3 (by omega)]; exact hP b hb9 k hk
  have dod := dgl_lt (v := v) (g := 0) (L := tp (P a)) (by omega)
  refine lv_aload_n hx hb dR_put_84 rfl (lv_at hl 1 rfl) ?_
  refine lv_aload_n hx hb dR_put_85 rfl (lv_at hl 1 rfl) ?_
  refine hp_get hx hb hG in_R hown hK hst hmL5.ob rfl 6 (by decide) (hG _ fl_R_21) rfl rfl dR_put_86 ?_
  refine lv_iload_n hx hb dR_put_89 rfl (lv_at hl 4 rfl) ?_
  refine ct_callV (av2 := [.ref (E 4), .int (nI v)]) (rest := []) (b := ma) X hst (c_R_degreeOf l D Y lo hmL5 (j := 4) (by omega) (by omega) e4 (p31 hp3 hPp ha) (v := v) hv) hmL5.ob rfl wc_R_degreeOf ml_R_102 wi_R_degreeOf wl_R_degreeOf wn_R md_R_degreeOf (by decide) hl.1 rfl (Nat.le_of_ble_eq_true rfl) ⟨by omega, by omega⟩ (fun _ _ h => h.elim) dR_put_90 (fun r M' H locs hp hst => ?_)
  obtain ⟨rfl, rfl⟩ := hp
  refine lv_istore (lv' := [(6, .int (nI (dgl v (tp (P a)) 0))), (5, .int (nI 1)), (0, .ref ma), (1, .int (nI r)), (2, .int (nI a)), (3, .int (nI v)), (4, .int (nI b))]) hx hb dR_put_93 hl (by decide) rfl (fun ls hl => ?_)
  refine lv_iconst (v := nI 0) hx hb dR_put_95 (by decide +kernel) ?_
  refine lv_istore (lv' := [(7, .int (nI 0)), (6, .int (nI (dgl v (tp (P a)) 0))), (5, .int (nI 1)), (0, .ref ma), (1, .int (nI r)), (2, .int (nI a)), (3, .int (nI v)), (4, .int (nI b))]) hx hb dR_put_96 hl (by decide) rfl (fun ls hl => ?_)
  refine lv_iconst (v := nI 0) hx hb dR_put_98 (by decide +kernel) ?_
  refine lv_istore (lv' := [(8, .int (nI 0)), (7, .int (nI 0)), (6, .int (nI (dgl v (tp (P a)) 0))), (5, .int (nI 1)), (0, .ref ma), (1, .int (nI r)), (2, .int (nI a)), (3, .int (nI v)), (4, .int (nI b))]) hx hb dR_put_99 hl (by decide) rfl (fun ls hl => ?_)
  have LP : ∀ (kk : Nat) (z u : Nat) (H : Heap) (locs : List Loc) (ls : Array Slot), kk = 3 - u → (u ≤ 3) → (z ≤ 1) → (z = 1 ↔ ∃ y, y < u ∧ ¬ hrD v (P a) (P b) (dgl v (tp (P a)) 0) y ≤ 12) → hp_st D vC lo ML5 sg.heap H locs → lv_has ls 10 [(0, .ref ma), (1, .int (nI r)), (3, .int (nI v)), (6, .int (nI (dgl v (tp (P a)) 0))), (7, .int (nI z)), (8, .int (nI u))] → cW pg l eg sg mg [.ref ma, .int (nI r), .int (nI a), .int (nI v), .int (nI b)] bw mt cg y_R_put b_R_put 10 (some .boolean) 3 D lo (fun r9 M' => ∃ c' : Nat → Nat → Nat, r9 = some (.int (nI 1)) ∧ mo Y M' ma E p rf 0 c' ∧ rr c' (va_up P r (hrP p v (dgl v (tp (P a)) 0) (P a) (P b) (dgl v (tp (P a)) 0 + 1))) ∧ hp_off (fun i => i = 1000) M M') nx 0 0 H locs 0 0 (F0 mg 101 ls []) := by
    intro kk
    induction kk using Nat.strongRecOn with
    | _ kk ihLP =>
    intro z u H locs ls hkk hu9 hz1 hz2 hst hl
    refine lv_iload hx hb dR_put_101 (lv_at hl 5 rfl) ?_
    refine lv_iconst (v := nI 3) hx hb dR_put_103 (by decide +kernel) ?_
    refine lv_icmp_ge hx hb dR_put_104 (tgt := 164) rfl (fun hc => ?_) (fun hc => ?_)
    · skip
      have hc5 : 3 ≤ u := (nI_leI (by omega) (by omega)).mp hc
      refine lv_aload_n hx hb dR_put_164 rfl (lv_at hl 0 rfl) ?_
      refine lv_iload hx hb dR_put_165 (lv_at hl 4 rfl) ?_
      refine ct_callV (av2 := [.int (nI z)]) (rest := []) (b := ma) X hst (c_R_refuses l D Y lo hmL5 (a := z) hz1) hmL5.ob rfl wc_R_refuses ml_R_106 wi_R_refuses wl_R_refuses wn_R md_R_refuses (by decide) hl.1 rfl (Nat.le_of_ble_eq_true rfl) ⟨by omega, by omega⟩ (fun _ _ h => h.elim) dR_put_167 (fun r MR H locs hp hst => ?_)
      obtain ⟨rfl, hmR, hoR⟩ := hp
      have hoo := ((hoF.tr hoL4).tr hoL5).tr hoR
      have hz0 : z = 0 := by
        have : z ≠ 1 := fun q => by
          obtain ⟨y, y1, y2⟩ := hz2.mp q
          exact y2 (hdg y (by omega))
        omega
      subst hz0
      have hmR : mo Y MR ma E p rf 0 cL5 := hmR
      refine lv_if_eq hx hb dR_put_170 (tgt := 175) rfl (fun hc => ?_) (fun hc => absurd hc (by decide))
      refine lv_aload_n hx hb dR_put_175 rfl (lv_at hl 0 rfl) ?_
      refine hp_get hx hb hG in_R hown hK hst hmR.ob rfl 10 (by decide) (hG _ fl_R_33) rfl rfl dR_put_176 ?_
      refine ct_callS (av2 := [.ref (E 8)]) (rest := []) X hst (c_R_clear l D Y lo hmR (j := 8) (by omega) (by omega)) wc_R_clear ml_R_70 ws_R_clear wn_R md_R_clear (by decide) hl.1 rfl (Nat.le_of_ble_eq_true rfl) ⟨by omega, by omega⟩ (fun _ _ h => h.elim) dR_put_179 (fun r M3 H locs hp hst => ?_)
      obtain ⟨c3, rfl, hm3, s3a, z3, ho3⟩ := hp
      refine lv_iload hx hb dR_put_182 (lv_at hl 3 rfl) ?_
      refine lv_istore (lv' := [(8, .int (nI (dgl v (tp (P a)) 0))), (0, .ref ma), (1, .int (nI r)), (3, .int (nI v)), (6, .int (nI (dgl v (tp (P a)) 0))), (7, .int (nI 0))]) hx hb dR_put_184 hl (by decide) rfl (fun ls hl => ?_)
      have LQ : ∀ (kk : Nat) (n k : Nat) (d : Nat → Nat → Nat) (M1 : Hm) (H : Heap) (locs : List Loc) (ls : Array Slot), kk = n → (n + k = dgl v (tp (P a)) 0 + 1) → (mo Y M1 ma E p rf 0 d) → (rp (d 8) (hrP p v (dgl v (tp (P a)) 0) (P a) (P b) k)) → (rp (d 4) (P a)) → (rp (d 5) (P b)) → (d 3 = c 3) → (hp_off (fun i => i = 1000) M M1) → hp_st D vC lo M1 sg.heap H locs → lv_has ls 10 [(0, .ref ma), (1, .int (nI r)), (3, .int (nI v)), (8, .int (dn n))] → cW pg l eg sg mg [.ref ma, .int (nI r), .int (nI a), .int (nI v), .int (nI b)] bw mt cg y_R_put b_R_put 10 (some .boolean) 3 D lo (fun r9 M' => ∃ c' : Nat → Nat → Nat, r9 = some (.int (nI 1)) ∧ mo Y M' ma E p rf 0 c' ∧ rr c' (va_up P r (hrP p v (dgl v (tp (P a)) 0) (P a) (P b) (dgl v (tp (P a)) 0 + 1))) ∧ hp_off (fun i => i = 1000) M M') nx 0 0 H locs 0 0 (F0 mg 186 ls []) := by
        intro kk
        induction kk using Nat.strongRecOn with
        | _ kk ihLQ =>
        intro n k d M1 H locs ls hkk hi9 hmd i8 i4 i5 i3 hod hst hl
        cases n with
        | zero =>
          refine lv_iload hx hb dR_put_186 (lv_at hl 3 rfl) ?_
          refine lv_if_lt hx hb dR_put_188 (tgt := 265) rfl (fun hc => ?_) (fun hc => absurd dn_0 hc)
          have hk : k = dgl v (tp (P a)) 0 + 1 := by omega
          rw [hk] at i8
          have hPn : rr d P := fun r hr k hk => by rw [i3]; exact hP r hr k hk
          refine lv_aload_n hx hb dR_put_265 rfl (lv_at hl 0 rfl) ?_
          refine lv_iload_n hx hb dR_put_266 rfl (lv_at hl 1 rfl) ?_
          refine lv_aload_n hx hb dR_put_267 rfl (lv_at hl 0 rfl) ?_
          refine hp_get hx hb hG in_R hown hK hst hmd.ob rfl 10 (by decide) (hG _ fl_R_33) rfl rfl dR_put_268 ?_
          refine ct_callV (av2 := [.int (nI r), .ref (E 8)]) (rest := []) (b := ma) X hst (c_R_keep l D Y lo hmd hr (j := 8) (by omega) (by omega)) hmd.ob rfl wc_R_keep ml_R_92 wi_R_keep wl_R_keep wn_R md_R_keep (by decide) hl.1 rfl (Nat.le_of_ble_eq_true rfl) ⟨by omega, by omega⟩ (fun _ _ h => h.elim) dR_put_271 (fun r MK H locs hp hst => ?_)
          obtain ⟨cK, rfl, hmK, sK, vK, nK, hoK⟩ := hp
          have hrK : rr cK (va_up P r (hrP p v (dgl v (tp (P a)) 0) (P a) (P b) (dgl v (tp (P a)) 0 + 1))) := rr_keep hPn vK nK i8
          refine lv_iconst (v := nI 1) hx hb dR_put_274 (by decide +kernel) ?_
          exact ct_zret X hst (by omega) ⟨cK, rfl, hmK, hrK, hod.tr hoK⟩ (by omega) (by omega) dR_put_275
        | succ n =>
          rw [dn_s] at hl
          refine lv_iload hx hb dR_put_186 (lv_at hl 3 rfl) ?_
          refine lv_if_lt hx hb dR_put_188 (tgt := 265) rfl (fun hc => ?_) (fun hc => ?_)
          · skip
            rw [← nI_0] at hc
            have hcg : n < 0 := (nI_ltI (by omega) (by omega)).mp hc
            exact absurd hcg (by omega)
          · skip
            rw [← nI_0] at hc
            have hcg : ¬ n < 0 := fun z => hc ((nI_ltI (by omega) (by omega)).mpr z)
            have hmm := hrP_ok (p := p) (v := v) (by omega) hv hdg (k := k) (by omega)
            refine lv_aload_n hx hb dR_put_191 rfl (lv_at hl 0 rfl) ?_
            refine lv_aload_n hx hb dR_put_192 rfl (lv_at hl 0 rfl) ?_
            refine hp_get hx hb hG in_R hown hK hst hmd.ob rfl 10 (by decide) (hG _ fl_R_33) rfl rfl dR_put_193 ?_
            refine lv_aload_n hx hb dR_put_196 rfl (lv_at hl 0 rfl) ?_
            refine hp_get hx hb hG in_R hown hK hst hmd.ob rfl 7 (by decide) (hG _ fl_R_24) rfl rfl dR_put_197 ?_
            refine ct_callV (av2 := [.ref (E 8), .ref (E 5)]) (rest := []) (b := ma) X hst (c_R_times l D Y lo hmd (ja := 8) (jb := 5) (by omega) (by omega) (by omega) (by omega) (by omega) (by omega) (by omega) (by omega) i8 i5 (hrP_lt (by omega) (P a) (P b) k) (hPp b hb9) (fun q hq q2 hq2 => mv_s3 (tp_mem hq2).1 (tp_mem hq).1 (hmm q hq q2 hq2))) hmd.ob rfl wc_R_times ml_R_110 wi_R_times wl_R_times wn_R md_R_times (by decide) hl.1 rfl (Nat.le_of_ble_eq_true rfl) ⟨by omega, by omega⟩ (fun _ _ h => h.elim) dR_put_200 (fun r MT H locs hp hst => ?_)
            obtain ⟨cT, rfl, hmT, sT, rT, hoT⟩ := hp
            refine lv_aload_n hx hb dR_put_203 rfl (lv_at hl 0 rfl) ?_
            refine lv_aload_n hx hb dR_put_204 rfl (lv_at hl 0 rfl) ?_
            refine hp_get hx hb hG in_R hown hK hst hmT.ob rfl 6 (by decide) (hG _ fl_R_21) rfl rfl dR_put_205 ?_
            refine lv_iload_n hx hb dR_put_208 rfl (lv_at hl 2 rfl) ?_
            refine lv_iload hx hb dR_put_209 (lv_at hl 3 rfl) ?_
            refine ct_callV (av2 := [.ref (E 4), .int (nI v), .int (nI n)]) (rest := []) (b := ma) X hst (c_R_part l D Y lo hmT (j := 4) (by omega) (by omega) (by omega) (h := P a) (by rw [sT 4 (by omega) (by omega) (by omega)]; exact i4) (p31 hp3 hPp ha) (v := v) (ex := n) hv (by omega)) hmT.ob rfl wc_R_part ml_R_121 wi_R_part wl_R_part wn_R md_R_part (by decide) hl.1 rfl (Nat.le_of_ble_eq_true rfl) ⟨by omega, by omega⟩ (fun _ _ h => h.elim) dR_put_211 (fun r MU H locs hp hst => ?_)
            obtain ⟨cU, rfl, hmU, sU, rU, hoU⟩ := hp
            have r8 : rp (cU 8) (mulP p (hrP p v (dgl v (tp (P a)) 0) (P a) (P b) k) (P b)) := by rw [sU 8 (by omega)]; exact rT
            have hml9 := mulP_lt (p := p) (by omega) (hrP p v (dgl v (tp (P a)) 0) (P a) (P b) k) (P b)
            have hpt := ptL_lt (v := v) (e := n) (p := p) (L := tp (P a)) (s := fun _ => 0) (fun q hq => by rw [(tp_mem hq).2.1]; exact hPp a ha _) (fun _ => by omega)
            have hst9 : ∀ m, hrP p v (dgl v (tp (P a)) 0) (P a) (P b) (k + 1) m = (mulP p (hrP p v (dgl v (tp (P a)) 0) (P a) (P b) k) (P b) m + ptL v n (tp (P a)) (fun _ => 0) m) % p := fun m => by
              show addC p v (dgl v (tp (P a)) 0 - k) (tp (P a)) (mulP p (hrP p v (dgl v (tp (P a)) 0) (P a) (P b) k) (P b)) m = _
              rw [show dgl v (tp (P a)) 0 - k = n by omega]
              exact addC_pt hv (bl_td (g := P a) (n := 9139) (Nat.le_refl _)) (hml9 m) rfl
            refine lv_iconst (v := nI 0) hx hb dR_put_214 (by decide +kernel) ?_
            refine lv_istore (lv' := [(9, .int (nI 0)), (0, .ref ma), (1, .int (nI r)), (3, .int (nI v)), (8, .int (nI n))]) hx hb dR_put_215 hl (by decide) rfl (fun ls hl => ?_)
            have LR : ∀ (kk : Nat) (i : Nat) (e : Nat → Nat → Nat) (M2 : Hm) (H : Heap) (locs : List Loc) (ls : Array Slot), kk = 9139 - i → (i ≤ 9139) → (mo Y M2 ma E p rf 0 e) → (∀ x, x ≠ 8 → e x = cU x) → (∀ z, z < i → e 8 z = hrP p v (dgl v (tp (P a)) 0) (P a) (P b) (k + 1) (pl z)) → (∀ z, i ≤ z → z < 9139 → e 8 z = mulP p (hrP p v (dgl v (tp (P a)) 0) (P a) (P b) k) (P b) (pl z)) → (hp_off (fun i => i = 1000) M M2) → hp_st D vC lo M2 sg.heap H locs → lv_has ls 10 [(0, .ref ma), (1, .int (nI r)), (3, .int (nI v)), (8, .int (nI n)), (9, .int (nI i))] → cW pg l eg sg mg [.ref ma, .int (nI r), .int (nI a), .int (nI v), .int (nI b)] bw mt cg y_R_put b_R_put 10 (some .boolean) 3 D lo (fun r9 M' => ∃ c' : Nat → Nat → Nat, r9 = some (.int (nI 1)) ∧ mo Y M' ma E p rf 0 c' ∧ rr c' (va_up P r (hrP p v (dgl v (tp (P a)) 0) (P a) (P b) (dgl v (tp (P a)) 0 + 1))) ∧ hp_off (fun i => i = 1000) M M') nx 0 0 H locs 0 0 (F0 mg 217 ls []) := by
              intro kk
              induction kk using Nat.strongRecOn with
              | _ kk ihLR =>
              intro i e M2 H locs ls hkk hi9 hme js jv jw hoe hst hl
              refine lv_iload hx hb dR_put_217 (lv_at hl 4 rfl) ?_
              refine lv_sipush (v := nI 9139) hx hb dR_put_219 (by decide +kernel) ?_
              refine lv_icmp_ge hx hb dR_put_222 (tgt := 259) rfl (fun hc => ?_) (fun hc => ?_)
              · skip
                have hc7 : 9139 ≤ i := (nI_leI (by omega) (by omega)).mp hc
                have ii : i = 9139 := by omega
                refine lv_iinc (lv' := [(8, .int (dn n)), (0, .ref ma), (1, .int (nI r)), (3, .int (nI v)), (9, .int (nI i))]) hx hb dR_put_259 hl (k := 3) rfl (ii_m _) (by decide) rfl (fun ls hl => ?_)
                refine lv_goto hx hb dR_put_262 (tgt := 186) rfl ?_
                exact ihLQ _ (by omega) n (k + 1) e M2 _ _ _ rfl (by omega) hme (fun z hz => jv z (by omega)) (by rw [js 4 (by omega), sU 4 (by omega), sT 4 (by omega) (by omega) (by omega)]; exact i4) (by rw [js 5 (by omega), sU 5 (by omega), sT 5 (by omega) (by omega) (by omega)]; exact i5) ((js 3 (by omega)).trans ((sU 3 (by omega)).trans ((sT 3 (by omega) (by omega) (by omega)).trans i3))) hoe hst (lv_sub hl [1, 2, 3, 0] rfl)
              · skip
                have hc7 : ¬ 9139 ≤ i := fun z => hc ((nI_leI (by omega) (by omega)).mpr z)
                have u1 : e 8 i = mulP p (hrP p v (dgl v (tp (P a)) 0) (P a) (P b) k) (P b) (pl i) := jw i (by omega) (by omega)
                have u2 : e 9 i = ptL v n (tp (P a)) (fun _ => 0) (pl i) := by rw [js 9 (by omega)]; exact rU i (by omega)
                have l1 := hml9 (pl i)
                have l2 := hpt (pl i)
                refine lv_aload_n hx hb dR_put_225 rfl (lv_at hl 0 rfl) ?_
                refine hp_get hx hb hG in_R hown hK hst hme.ob rfl 10 (by decide) (hG _ fl_R_33) rfl rfl dR_put_226 ?_
                refine lv_iload hx hb dR_put_229 (lv_at hl 4 rfl) ?_
                refine lv_aload_n hx hb dR_put_231 rfl (lv_at hl 0 rfl) ?_
                refine lv_aload_n hx hb dR_put_232 rfl (lv_at hl 0 rfl) ?_
                refine hp_get hx hb hG in_R hown hK hst hme.ob rfl 10 (by decide) (hG _ fl_R_33) rfl rfl dR_put_233 ?_
                refine lv_iload hx hb dR_put_236 (lv_at hl 4 rfl) ?_
                refine hp_iald hx hb hK rfl hst (hme.rw (j := 8) (by omega) (by omega)) (j := i) (by omega) (by omega) dR_put_238 ?_
                refine tp_n (e2 := mulP p (hrP p v (dgl v (tp (P a)) 0) (P a) (P b) k) (P b) (pl i)) u1 ?_
                refine lv_i2l (v := lN (mulP p (hrP p v (dgl v (tp (P a)) 0) (P a) (P b) k) (P b) (pl i))) hx hb dR_put_239 (nI_l (by omega)) ?_
                refine lv_aload_n hx hb dR_put_240 rfl (lv_at hl 0 rfl) ?_
                refine hp_get hx hb hG in_R hown hK hst hme.ob rfl 11 (by decide) (hG _ fl_R_36) rfl rfl dR_put_241 ?_
                refine lv_iload hx hb dR_put_244 (lv_at hl 4 rfl) ?_
                refine hp_iald hx hb hK rfl hst (hme.rw (j := 9) (by omega) (by omega)) (j := i) (by omega) (by omega) dR_put_246 ?_
                refine tp_n (e2 := ptL v n (tp (P a)) (fun _ => 0) (pl i)) u2 ?_
                refine lv_i2l (v := lN (ptL v n (tp (P a)) (fun _ => 0) (pl i))) hx hb dR_put_247 (nI_l (by omega)) ?_
                refine lv_ladd hx hb dR_put_248 ?_
                refine tp_l (e2 := lN ((mulP p (hrP p v (dgl v (tp (P a)) 0) (P a) (P b) k) (P b) (pl i)) + (ptL v n (tp (P a)) (fun _ => 0) (pl i)))) (lN_add _ _) ?_
                refine ct_callV (av2 := [.long (lN ((mulP p (hrP p v (dgl v (tp (P a)) 0) (P a) (P b) k) (P b) (pl i)) + (ptL v n (tp (P a)) (fun _ => 0) (pl i))))]) (rest := [.int (nI i), .ref (E 8)]) (b := ma) X hst (c_R_reduced l D Y lo hme (lN (mulP p (hrP p v (dgl v (tp (P a)) 0) (P a) (P b) k) (P b) (pl i) + ptL v n (tp (P a)) (fun _ => 0) (pl i)))) hme.ob rfl wc_R_reduced ml_R_66 wi_R_reduced wl_R_reduced wn_R md_R_reduced (by decide) hl.1 rfl (Nat.le_of_ble_eq_true rfl) ⟨by omega, by omega⟩ (fun _ _ h => h.elim) dR_put_249 (fun r M' H locs hp hst => ?_)
                obtain ⟨rfl, rfl⟩ := hp
                refine tp_n (e2 := hrP p v (dgl v (tp (P a)) 0) (P a) (P b) (k + 1) (pl i)) (by rw [lN_big (by omega), rd_nat, hst9]) ?_
                refine hp_iast hx hb hK rfl hst (hme.rw (j := 8) (by omega) (by omega)) (j := i) (v := (hrP p v (dgl v (tp (P a)) 0) (P a) (P b) (k + 1) (pl i))) (by omega) (by omega) dR_put_252 (fun H locs hst => ?_)
                obtain ⟨hm1, hs2⟩ := hme.sr (j := 8) (by omega) (by omega) (va_up (e 8) i (hrP p v (dgl v (tp (P a)) 0) (P a) (P b) (k + 1) (pl i)))
                generalize hp_up M2 (E 8) ((1000, 8), e_n Y 9139 (va_up (e 8) i (hrP p v (dgl v (tp (P a)) 0) (P a) (P b) (k + 1) (pl i)))) = M3 at hst hm1 hs2
                have ho4 := hoe.tr hs2
                refine lv_iinc (lv' := [(9, .int (nI (i + 1))), (0, .ref ma), (1, .int (nI r)), (3, .int (nI v)), (8, .int (nI n))]) hx hb dR_put_253 hl (k := 4) rfl (ii_p _) (by decide) rfl (fun ls hl => ?_)
                refine lv_goto hx hb dR_put_256 (tgt := 217) rfl ?_
                exact ihLR _ (by omega) (i + 1) (va_up e 8 (va_up (e 8) i (hrP p v (dgl v (tp (P a)) 0) (P a) (P b) (k + 1) (pl i)))) M3 _ _ _ rfl (by omega) hm1 (fun x hx => by rw [va_up_ne _ _ hx]; exact js x hx) (fun z hz => by
                    rw [va_up_self]
                    by_cases h9 : z = i
                    · subst h9; exact va_up_self _ _ _
                    · rw [va_up_ne _ _ h9]; exact jv z (by omega)) (fun z h1 h2 => by rw [va_up_self, va_up_ne _ _ (by omega)]; exact jw z (by omega) h2) ho4 hst (lv_sub hl [1, 2, 3, 4, 0] rfl)
            exact LR _ 0 cU MU _ _ _ rfl (by omega) hmU (fun x hx => rfl) (fun z hz => by omega) (fun z _ hz => r8 z hz) ((hod.tr hoT).tr hoU) hst (lv_sub hl [1, 2, 3, 4, 0] rfl)
      have hl : lv_has ls 10 [(8, .int (dn (dgl v (tp (P a)) 0 + 1))), (0, .ref ma), (1, .int (nI r)), (3, .int (nI v)), (6, .int (nI (dgl v (tp (P a)) 0))), (7, .int (nI 0))] := by rw [dn_s]; exact hl
      exact LQ _ (dgl v (tp (P a)) 0 + 1) 0 c3 M3 _ _ _ rfl (by omega) hm3 z3 (by rw [s3a 4 (by omega)]; exact e4) (by rw [s3a 5 (by omega)]; exact e5) ((s3a 3 (by omega)).trans e3) (hoo.tr ho3) hst (lv_sub hl [1, 2, 3, 0] rfl)
    · skip
      have hc5 : ¬ 3 ≤ u := fun z => hc ((nI_leI (by omega) (by omega)).mpr z)
      have hu : u < 3 := by omega
      have d1 := dgl_lt (v := u) (g := 0) (L := tp (P a)) (by omega)
      have d2 := dgl_lt (v := u) (g := 0) (L := tp (P b)) (by omega)
      have d3 : dgl v (tp (P a)) 0 * dgl u (tp (P b)) 0 ≤ 64 * 64 := Nat.mul_le_mul (by omega) (by omega)
      refine lv_iload hx hb dR_put_107 (lv_at hl 4 rfl) ?_
      refine lv_if_ne hx hb dR_put_109 (tgt := 151) rfl (fun hc => ?_) (fun hc => ?_)
      · skip
        rw [← nI_0] at hc
        have hcz : ¬ z = 0 := fun z => hc ((nI_eq (by omega) (by omega)).mpr z)
        refine lv_iconst (v := nI 1) hx hb dR_put_151 (by decide +kernel) ?_
        refine lv_goto hx hb dR_put_152 (tgt := 156) rfl ?_
        refine lv_istore (lv' := [(7, .int (nI 1)), (0, .ref ma), (1, .int (nI r)), (3, .int (nI v)), (6, .int (nI (dgl v (tp (P a)) 0))), (8, .int (nI u))]) hx hb dR_put_156 hl (by decide) rfl (fun ls hl => ?_)
        refine lv_iinc (lv' := [(8, .int (nI (u + 1))), (7, .int (nI 1)), (0, .ref ma), (1, .int (nI r)), (3, .int (nI v)), (6, .int (nI (dgl v (tp (P a)) 0)))]) hx hb dR_put_158 hl (k := 5) rfl (ii_p _) (by decide) rfl (fun ls hl => ?_)
        refine lv_goto hx hb dR_put_161 (tgt := 101) rfl ?_
        exact ihLP _ (by omega) 1 (u + 1) _ _ _ rfl (by omega) (by omega) ⟨fun _ => by obtain ⟨y, y1, y2⟩ := hz2.mp (by omega); exact ⟨y, by omega, y2⟩, fun _ => rfl⟩ hst (lv_sub hl [2, 3, 4, 5, 1, 0] rfl)
      · skip
        rw [← nI_0] at hc
        have hcz : z = 0 := (nI_eq (by omega) (by omega)).mp hc
        refine lv_iload hx hb dR_put_112 (lv_at hl 5 rfl) ?_
        refine lv_iload_n hx hb dR_put_114 rfl (lv_at hl 2 rfl) ?_
        refine lv_icmp_ne hx hb dR_put_115 (tgt := 122) rfl (fun hc => ?_) (fun hc => ?_)
        · skip
          have hcv : ¬ u = v := fun z => hc ((nI_eq (by omega) (by omega)).mpr z)
          refine lv_aload_n hx hb dR_put_122 rfl (lv_at hl 0 rfl) ?_
          refine lv_aload_n hx hb dR_put_123 rfl (lv_at hl 0 rfl) ?_
          refine hp_get hx hb hG in_R hown hK hst hmL5.ob rfl 6 (by decide) (hG _ fl_R_21) rfl rfl dR_put_124 ?_
          refine lv_iload hx hb dR_put_127 (lv_at hl 5 rfl) ?_
          refine ct_callV (av2 := [.ref (E 4), .int (nI u)]) (rest := []) (b := ma) X hst (c_R_degreeOf l D Y lo hmL5 (j := 4) (by omega) (by omega) e4 (p31 hp3 hPp ha) (v := u) hu) hmL5.ob rfl wc_R_degreeOf ml_R_102 wi_R_degreeOf wl_R_degreeOf wn_R md_R_degreeOf (by decide) hl.1 rfl (Nat.le_of_ble_eq_true rfl) ⟨by omega, by omega⟩ (fun _ _ h => h.elim) dR_put_129 (fun r M' H locs hp hst => ?_)
          obtain ⟨rfl, rfl⟩ := hp
          refine lv_iload hx hb dR_put_132 (lv_at hl 3 rfl) ?_
          refine lv_aload_n hx hb dR_put_134 rfl (lv_at hl 0 rfl) ?_
          refine lv_aload_n hx hb dR_put_135 rfl (lv_at hl 0 rfl) ?_
          refine hp_get hx hb hG in_R hown hK hst hmL5.ob rfl 7 (by decide) (hG _ fl_R_24) rfl rfl dR_put_136 ?_
          refine lv_iload hx hb dR_put_139 (lv_at hl 5 rfl) ?_
          refine ct_callV (av2 := [.ref (E 5), .int (nI u)]) (rest := [.int (nI (dgl v (tp (P a)) 0)), .int (nI (dgl u (tp (P a)) 0))]) (b := ma) X hst (c_R_degreeOf l D Y lo hmL5 (j := 5) (by omega) (by omega) e5 (p31 hp3 hPp hb9) (v := u) hu) hmL5.ob rfl wc_R_degreeOf ml_R_102 wi_R_degreeOf wl_R_degreeOf wn_R md_R_degreeOf (by decide) hl.1 rfl (Nat.le_of_ble_eq_true rfl) ⟨by omega, by omega⟩ (fun _ _ h => h.elim) dR_put_141 (fun r M' H locs hp hst => ?_)
          obtain ⟨rfl, rfl⟩ := hp
          refine t_imul hx hb dR_put_144 (v := nI ((dgl v (tp (P a)) 0) * (dgl u (tp (P b)) 0))) (pk_mul _ _) ?_
          refine t_iadd hx hb dR_put_145 (v := nI ((dgl u (tp (P a)) 0) + ((dgl v (tp (P a)) 0) * (dgl u (tp (P b)) 0)))) (nI_add _ _) ?_
          refine lv_bipush (v := nI 12) hx hb dR_put_146 (by decide +kernel) ?_
          refine lv_icmp_le hx hb dR_put_148 (tgt := 155) rfl (fun hc => ?_) (fun hc => ?_)
          · skip
            have hcd : ((dgl u (tp (P a)) 0) + ((dgl v (tp (P a)) 0) * (dgl u (tp (P b)) 0))) ≤ 12 := (nI_leI (by omega) (by omega)).mp hc
            have hcd : hrD v (P a) (P b) (dgl v (tp (P a)) 0) u ≤ 12 := by
              show (if _ then _ else _) + _ ≤ 12
              rw [if_neg hcv]
              exact hcd
            refine lv_iconst (v := nI 0) hx hb dR_put_155 (by decide +kernel) ?_
            refine lv_istore (lv' := [(7, .int (nI 0)), (0, .ref ma), (1, .int (nI r)), (3, .int (nI v)), (6, .int (nI (dgl v (tp (P a)) 0))), (8, .int (nI u))]) hx hb dR_put_156 hl (by decide) rfl (fun ls hl => ?_)
            refine lv_iinc (lv' := [(8, .int (nI (u + 1))), (7, .int (nI 0)), (0, .ref ma), (1, .int (nI r)), (3, .int (nI v)), (6, .int (nI (dgl v (tp (P a)) 0)))]) hx hb dR_put_158 hl (k := 5) rfl (ii_p _) (by decide) rfl (fun ls hl => ?_)
            refine lv_goto hx hb dR_put_161 (tgt := 101) rfl ?_
            exact ihLP _ (by omega) 0 (u + 1) _ _ _ rfl (by omega) (by omega) ⟨fun q => by omega, fun ⟨y, y1, y2⟩ => by
                by_cases h9 : y = u
                · subst h9; exact absurd hcd y2
                · exact absurd (hz2.mpr ⟨y, by omega, y2⟩) (by omega)⟩ hst (lv_sub hl [2, 3, 4, 5, 1, 0] rfl)
          · skip
            have hcd : ¬ ((dgl u (tp (P a)) 0) + ((dgl v (tp (P a)) 0) * (dgl u (tp (P b)) 0))) ≤ 12 := fun z => hc ((nI_leI (by omega) (by omega)).mpr z)
            have hcd : ¬ hrD v (P a) (P b) (dgl v (tp (P a)) 0) u ≤ 12 := by
              show ¬ (if _ then _ else _) + _ ≤ 12
              rw [if_neg hcv]
              exact hcd
            refine lv_iconst (v := nI 1) hx hb dR_put_151 (by decide +kernel) ?_
            refine lv_goto hx hb dR_put_152 (tgt := 156) rfl ?_
            refine lv_istore (lv' := [(7, .int (nI 1)), (0, .ref ma), (1, .int (nI r)), (3, .int (nI v)), (6, .int (nI (dgl v (tp (P a)) 0))), (8, .int (nI u))]) hx hb dR_put_156 hl (by decide) rfl (fun ls hl => ?_)
            refine lv_iinc (lv' := [(8, .int (nI (u + 1))), (7, .int (nI 1)), (0, .ref ma), (1, .int (nI r)), (3, .int (nI v)), (6, .int (nI (dgl v (tp (P a)) 0)))]) hx hb dR_put_158 hl (k := 5) rfl (ii_p _) (by decide) rfl (fun ls hl => ?_)
            refine lv_goto hx hb dR_put_161 (tgt := 101) rfl ?_
            exact ihLP _ (by omega) 1 (u + 1) _ _ _ rfl (by omega) (by omega) ⟨fun _ => ⟨u, by omega, hcd⟩, fun _ => rfl⟩ hst (lv_sub hl [2, 3, 4, 5, 1, 0] rfl)
        · skip
          have hcv : u = v := (nI_eq (by omega) (by omega)).mp hc
          refine lv_iconst (v := nI 0) hx hb dR_put_118 (by decide +kernel) ?_
          refine lv_goto hx hb dR_put_119 (tgt := 132) rfl ?_
          refine lv_iload hx hb dR_put_132 (lv_at hl 3 rfl) ?_
          refine lv_aload_n hx hb dR_put_134 rfl (lv_at hl 0 rfl) ?_
          refine lv_aload_n hx hb dR_put_135 rfl (lv_at hl 0 rfl) ?_
          refine hp_get hx hb hG in_R hown hK hst hmL5.ob rfl 7 (by decide) (hG _ fl_R_24) rfl rfl dR_put_136 ?_
          refine lv_iload hx hb dR_put_139 (lv_at hl 5 rfl) ?_
          refine ct_callV (av2 := [.ref (E 5), .int (nI u)]) (rest := [.int (nI (dgl v (tp (P a)) 0)), .int (nI 0)]) (b := ma) X hst (c_R_degreeOf l D Y lo hmL5 (j := 5) (by omega) (by omega) e5 (p31 hp3 hPp hb9) (v := u) hu) hmL5.ob rfl wc_R_degreeOf ml_R_102 wi_R_degreeOf wl_R_degreeOf wn_R md_R_degreeOf (by decide) hl.1 rfl (Nat.le_of_ble_eq_true rfl) ⟨by omega, by omega⟩ (fun _ _ h => h.elim) dR_put_141 (fun r M' H locs hp hst => ?_)
          obtain ⟨rfl, rfl⟩ := hp
          refine t_imul hx hb dR_put_144 (v := nI ((dgl v (tp (P a)) 0) * (dgl u (tp (P b)) 0))) (pk_mul _ _) ?_
          refine t_iadd hx hb dR_put_145 (v := nI (0 + ((dgl v (tp (P a)) 0) * (dgl u (tp (P b)) 0)))) (nI_add _ _) ?_
          refine lv_bipush (v := nI 12) hx hb dR_put_146 (by decide +kernel) ?_
          refine lv_icmp_le hx hb dR_put_148 (tgt := 155) rfl (fun hc => ?_) (fun hc => ?_)
          · skip
            have hcd : (0 + ((dgl v (tp (P a)) 0) * (dgl u (tp (P b)) 0))) ≤ 12 := (nI_leI (by omega) (by omega)).mp hc
            have hcd : hrD v (P a) (P b) (dgl v (tp (P a)) 0) u ≤ 12 := by
              show (if _ then _ else _) + _ ≤ 12
              rw [if_pos hcv]
              exact hcd
            refine lv_iconst (v := nI 0) hx hb dR_put_155 (by decide +kernel) ?_
            refine lv_istore (lv' := [(7, .int (nI 0)), (0, .ref ma), (1, .int (nI r)), (3, .int (nI v)), (6, .int (nI (dgl v (tp (P a)) 0))), (8, .int (nI u))]) hx hb dR_put_156 hl (by decide) rfl (fun ls hl => ?_)
            refine lv_iinc (lv' := [(8, .int (nI (u + 1))), (7, .int (nI 0)), (0, .ref ma), (1, .int (nI r)), (3, .int (nI v)), (6, .int (nI (dgl v (tp (P a)) 0)))]) hx hb dR_put_158 hl (k := 5) rfl (ii_p _) (by decide) rfl (fun ls hl => ?_)
            refine lv_goto hx hb dR_put_161 (tgt := 101) rfl ?_
            exact ihLP _ (by omega) 0 (u + 1) _ _ _ rfl (by omega) (by omega) ⟨fun q => by omega, fun ⟨y, y1, y2⟩ => by
                by_cases h9 : y = u
                · subst h9; exact absurd hcd y2
                · exact absurd (hz2.mpr ⟨y, by omega, y2⟩) (by omega)⟩ hst (lv_sub hl [2, 3, 4, 5, 1, 0] rfl)
          · skip
            have hcd : ¬ (0 + ((dgl v (tp (P a)) 0) * (dgl u (tp (P b)) 0))) ≤ 12 := fun z => hc ((nI_leI (by omega) (by omega)).mpr z)
            have hcd : ¬ hrD v (P a) (P b) (dgl v (tp (P a)) 0) u ≤ 12 := by
              show ¬ (if _ then _ else _) + _ ≤ 12
              rw [if_pos hcv]
              exact hcd
            refine lv_iconst (v := nI 1) hx hb dR_put_151 (by decide +kernel) ?_
            refine lv_goto hx hb dR_put_152 (tgt := 156) rfl ?_
            refine lv_istore (lv' := [(7, .int (nI 1)), (0, .ref ma), (1, .int (nI r)), (3, .int (nI v)), (6, .int (nI (dgl v (tp (P a)) 0))), (8, .int (nI u))]) hx hb dR_put_156 hl (by decide) rfl (fun ls hl => ?_)
            refine lv_iinc (lv' := [(8, .int (nI (u + 1))), (7, .int (nI 1)), (0, .ref ma), (1, .int (nI r)), (3, .int (nI v)), (6, .int (nI (dgl v (tp (P a)) 0)))]) hx hb dR_put_158 hl (k := 5) rfl (ii_p _) (by decide) rfl (fun ls hl => ?_)
            refine lv_goto hx hb dR_put_161 (tgt := 101) rfl ?_
            exact ihLP _ (by omega) 1 (u + 1) _ _ _ rfl (by omega) (by omega) ⟨fun _ => ⟨u, by omega, hcd⟩, fun _ => rfl⟩ hst (lv_sub hl [2, 3, 4, 5, 1, 0] rfl)
  exact LP _ 0 0 _ _ _ rfl (by omega) (by omega) ⟨fun q => by omega, fun ⟨y, y1, _⟩ => by omega⟩ hst (lv_sub hl [4, 5, 7, 2, 1, 0] rfl)

set_option maxHeartbeats 4000000 in
set_option maxRecDepth 100000 in
theorem n_R_put (l : Launch) (D : va_G) (Y : Nat → ClassId) (lo : Nat) {M : Hm} {ma p rf th : Nat} {E : Nat → Nat} {c : Nat → Nat → Nat} (hm : mo Y M ma E p rf th c) {P : Nat → Pf} (hP : rr c P) (hPp : ∀ r, r < 12 → ∀ m, P r m < p) {r a v b : Nat} (hr : r < 12) (ha : a < 12) (hv : v < 3) (hb9 : b < 12) (hdg : ¬ ∀ u, u < 3 → hrD v (P a) (P b) (dgl v (tp (P a)) 0) u ≤ 12) : ct l D Y lo y_R_put b_R_put 10 (some .boolean) 3 [.ref ma, .int (nI r), .int (nI a), .int (nI v), .int (nI b)] M (fun r9 M' => ∃ c' : Nat → Nat → Nat, r9 = some (.int (nI 0)) ∧ mo Y M' ma E p (rf + 1) 0 c' ∧ rr c' (P) ∧ hp_off (fun i => i = 1000) M M') nx 0 0 := by
  refine ct_of (by decide) (Nat.le_of_ble_eq_true rfl) ?_
  intro pg eg sg mg bw mt cg ls X hst hl
  have X1 := X
  obtain ⟨hx, hb, hml, hrt, hlocks, hown, hnm, hts, hkz, hex⟩ := X1
  have hG : ∀ w ∈ GW, w.before _ sg = true := fun w h => hts w (List.mem_cons_of_mem _ h)
  have hK := hkz.1
  have hl : lv_has ls 10 [(0, .ref ma), (1, .int (nI r)), (2, .int (nI a)), (3, .int (nI v)), (4, .int (nI b))] := hl
  obtain ⟨hp2, hp3⟩ := hm.p2
  refine lv_iload_n hx hb dR_put_0 rfl (lv_at hl 1 rfl) ?_
  refine ct_callS (av2 := [.int (nI r)]) (rest := []) X hst (g_R_isRegister l D Y lo hr) wc_R_isRegister ml_R_85 ws_R_isRegister wn_R md_R_isRegister (by decide) hl.1 rfl (Nat.le_of_ble_eq_true rfl) ⟨by omega, by omega⟩ (fun _ _ h => h.elim) dR_put_1 (fun r M' H locs hp hst => ?_)
  obtain ⟨rfl, rfl⟩ := hp
  refine lv_if_eq hx hb dR_put_4 (tgt := 26) rfl (fun hc => absurd hc (by decide)) (fun hc => ?_)
  refine lv_iload_n hx hb dR_put_7 rfl (lv_at hl 2 rfl) ?_
  refine ct_callS (av2 := [.int (nI a)]) (rest := []) X hst (g_R_isRegister l D Y lo ha) wc_R_isRegister ml_R_85 ws_R_isRegister wn_R md_R_isRegister (by decide) hl.1 rfl (Nat.le_of_ble_eq_true rfl) ⟨by omega, by omega⟩ (fun _ _ h => h.elim) dR_put_8 (fun r M' H locs hp hst => ?_)
  obtain ⟨rfl, rfl⟩ := hp
  refine lv_if_eq hx hb dR_put_11 (tgt := 26) rfl (fun hc => absurd hc (by decide)) (fun hc => ?_)
  refine lv_iload hx hb dR_put_14 (lv_at hl 4 rfl) ?_
  refine ct_callS (av2 := [.int (nI b)]) (rest := []) X hst (g_R_isRegister l D Y lo hb9) wc_R_isRegister ml_R_85 ws_R_isRegister wn_R md_R_isRegister (by decide) hl.1 rfl (Nat.le_of_ble_eq_true rfl) ⟨by omega, by omega⟩ (fun _ _ h => h.elim) dR_put_16 (fun r M' H locs hp hst => ?_)
  obtain ⟨rfl, rfl⟩ := hp
  refine lv_if_eq hx hb dR_put_19 (tgt := 26) rfl (fun hc => absurd hc (by decide)) (fun hc => ?_)
  refine lv_iconst (v := nI 1) hx hb dR_put_22 (by decide +kernel) ?_
  refine lv_goto hx hb dR_put_23 (tgt := 27) rfl ?_
  refine lv_istore (lv' := [(5, .int (nI 1)), (0, .ref ma), (1, .int (nI r)), (2, .int (nI a)), (3, .int (nI v)), (4, .int (nI b))]) hx hb dR_put_27 hl (by decide) rfl (fun ls hl => ?_)
  refine lv_aload_n hx hb dR_put_29 rfl (lv_at hl 1 rfl) ?_
  refine lv_iload hx hb dR_put_30 (lv_at hl 0 rfl) ?_
  refine lv_if_ne hx hb dR_put_32 (tgt := 39) rfl (fun hc => ?_) (fun hc => absurd hc (by decide))
  refine lv_iconst (v := nI 0) hx hb dR_put_39 (by decide +kernel) ?_
  refine lv_iload hx hb dR_put_40 (lv_at hl 0 rfl) ?_
  refine lv_if_eq hx hb dR_put_42 (tgt := 56) rfl (fun hc => absurd hc (by decide)) (fun hc => ?_)
  refine lv_iload_n hx hb dR_put_45 rfl (lv_at hl 4 rfl) ?_
  refine ct_callS (av2 := [.int (nI v)]) (rest := [.int (nI 0), .ref ma]) X hst (g_R_isVariable l D Y lo hv) wc_R_isVariable ml_R_96 ws_R_isVariable wn_R md_R_isVariable (by decide) hl.1 rfl (Nat.le_of_ble_eq_true rfl) ⟨by omega, by omega⟩ (fun _ _ h => h.elim) dR_put_46 (fun r M' H locs hp hst => ?_)
  obtain ⟨rfl, rfl⟩ := hp
  refine lv_if_ne hx hb dR_put_49 (tgt := 56) rfl (fun hc => ?_) (fun hc => absurd hc (by decide))
  refine lv_iconst (v := nI 0) hx hb dR_put_56 (by decide +kernel) ?_
  refine ct_callV (av2 := [.int (nI 0), .int (nI 0)]) (rest := []) (b := ma) X hst (c_R_fails l D Y lo hm (a := 0) (b := 0) (by omega) (by omega)) hm.ob rfl wc_R_fails ml_R_88 wi_R_fails wl_R_fails wn_R md_R_fails (by decide) hl.1 rfl (Nat.le_of_ble_eq_true rfl) ⟨by omega, by omega⟩ (fun _ _ h => h.elim) dR_put_57 (fun r MF H locs hp hst => ?_)
  obtain ⟨rfl, hmF, hoF⟩ := hp
  have hmF : mo Y MF ma E p rf 0 c := hmF
  refine lv_if_eq hx hb dR_put_60 (tgt := 65) rfl (fun hc => ?_) (fun hc => absurd hc (by decide))
  refine lv_aload_n hx hb dR_put_65 rfl (lv_at hl 1 rfl) ?_
  refine lv_iload_n hx hb dR_put_66 rfl (lv_at hl 3 rfl) ?_
  refine lv_aload_n hx hb dR_put_67 rfl (lv_at hl 1 rfl) ?_
  refine hp_get hx hb hG in_R hown hK hst hmF.ob rfl 6 (by decide) (hG _ fl_R_21) rfl rfl dR_put_68 ?_
  refine ct_callV (av2 := [.int (nI a), .ref (E 4)]) (rest := []) (b := ma) X hst (c_R_load l D Y lo hmF ha (j := 4) (by omega) (by omega)) hmF.ob rfl wc_R_load ml_R_99 wi_R_load wl_R_load wn_R md_R_load (by decide) hl.1 rfl (Nat.le_of_ble_eq_true rfl) ⟨by omega, by omega⟩ (fun _ _ h => h.elim) dR_put_71 (fun r ML4 H locs hp hst => ?_)
  obtain ⟨cL4, rfl, hmL4, sL4, vL4, hoL4⟩ := hp
  refine lv_aload_n hx hb dR_put_74 rfl (lv_at hl 1 rfl) ?_
  refine lv_iload hx hb dR_put_75 (lv_at hl 5 rfl) ?_
  refine lv_aload_n hx hb dR_put_77 rfl (lv_at hl 1 rfl) ?_
  refine hp_get hx hb hG in_R hown hK hst hmL4.ob rfl 7 (by decide) (hG _ fl_R_24) rfl rfl dR_put_78 ?_
  refine ct_callV (av2 := [.int (nI b), .ref (E 5)]) (rest := []) (b := ma) X hst (c_R_load l D Y lo hmL4 hb9 (j := 5) (by omega) (by omega)) hmL4.ob rfl wc_R_load ml_R_99 wi_R_load wl_R_load wn_R md_R_load (by decide) hl.1 rfl (Nat.le_of_ble_eq_true rfl) ⟨by omega, by omega⟩ (fun _ _ h => h.elim) dR_put_81 (fun r ML5 H locs hp hst => ?_)
  obtain ⟨cL5, rfl, hmL5, sL5, vL5, hoL5⟩ := hp
  have e3 : cL5 3 = c 3 := (sL5 3 (by omega)).trans (sL4 3 (by omega))
  have e4 : rp (cL5 4) (P a) := fun k hk => by rw [sL5 4 (by omega), vL4 k hk]; exact hP a ha k hk
  have e5 : rp (cL5 5) (P b) := fun k hk => by rw [vL5 k hk, sL4 3 (by omega)]; exact hP b hb9 k hk
  have dod := dgl_lt (v := v) (g := 0) (L := tp (P a)) (by omega)
  refine lv_aload_n hx hb dR_put_84 rfl (lv_at hl 1 rfl) ?_
  refine lv_aload_n hx hb dR_put_85 rfl (lv_at hl 1 rfl) ?_
  refine hp_get hx hb hG in_R hown hK hst hmL5.ob rfl 6 (by decide) (hG _ fl_R_21) rfl rfl dR_put_86 ?_
  refine lv_iload_n hx hb dR_put_89 rfl (lv_at hl 4 rfl) ?_
  refine ct_callV (av2 := [.ref (E 4), .int (nI v)]) (rest := []) (b := ma) X hst (c_R_degreeOf l D Y lo hmL5 (j := 4) (by omega) (by omega) e4 (p31 hp3 hPp ha) (v := v) hv) hmL5.ob rfl wc_R_degreeOf ml_R_102 wi_R_degreeOf wl_R_degreeOf wn_R md_R_degreeOf (by decide) hl.1 rfl (Nat.le_of_ble_eq_true rfl) ⟨by omega, by omega⟩ (fun _ _ h => h.elim) dR_put_90 (fun r M' H locs hp hst => ?_)
  obtain ⟨rfl, rfl⟩ := hp
  refine lv_istore (lv' := [(6, .int (nI (dgl v (tp (P a)) 0))), (5, .int (nI 1)), (0, .ref ma), (1, .int (nI r)), (2, .int (nI a)), (3, .int (nI v)), (4, .int (nI b))]) hx hb dR_put_93 hl (by decide) rfl (fun ls hl => ?_)
  refine lv_iconst (v := nI 0) hx hb dR_put_95 (by decide +kernel) ?_
  refine lv_istore (lv' := [(7, .int (nI 0)), (6, .int (nI (dgl v (tp (P a)) 0))), (5, .int (nI 1)), (0, .ref ma), (1, .int (nI r)), (2, .int (nI a)), (3, .int (nI v)), (4, .int (nI b))]) hx hb dR_put_96 hl (by decide) rfl (fun ls hl => ?_)
  refine lv_iconst (v := nI 0) hx hb dR_put_98 (by decide +kernel) ?_
  refine lv_istore (lv' := [(8, .int (nI 0)), (7, .int (nI 0)), (6, .int (nI (dgl v (tp (P a)) 0))), (5, .int (nI 1)), (0, .ref ma), (1, .int (nI r)), (2, .int (nI a)), (3, .int (nI v)), (4, .int (nI b))]) hx hb dR_put_99 hl (by decide) rfl (fun ls hl => ?_)
  have LP : ∀ (kk : Nat) (z u : Nat) (H : Heap) (locs : List Loc) (ls : Array Slot), kk = 3 - u → (u ≤ 3) → (z ≤ 1) → (z = 1 ↔ ∃ y, y < u ∧ ¬ hrD v (P a) (P b) (dgl v (tp (P a)) 0) y ≤ 12) → hp_st D vC lo ML5 sg.heap H locs → lv_has ls 10 [(0, .ref ma), (1, .int (nI r)), (3, .int (nI v)), (6, .int (nI (dgl v (tp (P a)) 0))), (7, .int (nI z)), (8, .int (nI u))] → cW pg l eg sg mg [.ref ma, .int (nI r), .int (nI a), .int (nI v), .int (nI b)] bw mt cg y_R_put b_R_put 10 (some .boolean) 3 D lo (fun r9 M' => ∃ c' : Nat → Nat → Nat, r9 = some (.int (nI 0)) ∧ mo Y M' ma E p (rf + 1) 0 c' ∧ rr c' (P) ∧ hp_off (fun i => i = 1000) M M') nx 0 0 H locs 0 0 (F0 mg 101 ls []) := by
    intro kk
    induction kk using Nat.strongRecOn with
    | _ kk ihLP =>
    intro z u H locs ls hkk hu9 hz1 hz2 hst hl
    refine lv_iload hx hb dR_put_101 (lv_at hl 5 rfl) ?_
    refine lv_iconst (v := nI 3) hx hb dR_put_103 (by decide +kernel) ?_
    refine lv_icmp_ge hx hb dR_put_104 (tgt := 164) rfl (fun hc => ?_) (fun hc => ?_)
    · skip
      have hc5 : 3 ≤ u := (nI_leI (by omega) (by omega)).mp hc
      refine lv_aload_n hx hb dR_put_164 rfl (lv_at hl 0 rfl) ?_
      refine lv_iload hx hb dR_put_165 (lv_at hl 4 rfl) ?_
      refine ct_callV (av2 := [.int (nI z)]) (rest := []) (b := ma) X hst (c_R_refuses l D Y lo hmL5 (a := z) hz1) hmL5.ob rfl wc_R_refuses ml_R_106 wi_R_refuses wl_R_refuses wn_R md_R_refuses (by decide) hl.1 rfl (Nat.le_of_ble_eq_true rfl) ⟨by omega, by omega⟩ (fun _ _ h => h.elim) dR_put_167 (fun r MR H locs hp hst => ?_)
      obtain ⟨rfl, hmR, hoR⟩ := hp
      have hoo := ((hoF.tr hoL4).tr hoL5).tr hoR
      have hz0 : z = 1 := hz2.mpr (by
        apply Classical.byContradiction
        intro q
        exact hdg (fun u hu => Classical.byContradiction (fun y => q ⟨u, by omega, y⟩)))
      subst hz0
      refine lv_if_eq hx hb dR_put_170 (tgt := 175) rfl (fun hc => absurd hc (by decide)) (fun hc => ?_)
      refine lv_iconst (v := nI 0) hx hb dR_put_173 (by decide +kernel) ?_
      exact ct_zret X hst (by omega) ⟨cL5, rfl, hmR, fun r hr k hk => by rw [e3]; exact hP r hr k hk, hoo⟩ (by omega) (by omega) dR_put_174
    · skip
      have hc5 : ¬ 3 ≤ u := fun z => hc ((nI_leI (by omega) (by omega)).mpr z)
      have hu : u < 3 := by omega
      have d1 := dgl_lt (v := u) (g := 0) (L := tp (P a)) (by omega)
      have d2 := dgl_lt (v := u) (g := 0) (L := tp (P b)) (by omega)
      have d3 : dgl v (tp (P a)) 0 * dgl u (tp (P b)) 0 ≤ 64 * 64 := Nat.mul_le_mul (by omega) (by omega)
      refine lv_iload hx hb dR_put_107 (lv_at hl 4 rfl) ?_
      refine lv_if_ne hx hb dR_put_109 (tgt := 151) rfl (fun hc => ?_) (fun hc => ?_)
      · skip
        rw [← nI_0] at hc
        have hcz : ¬ z = 0 := fun z => hc ((nI_eq (by omega) (by omega)).mpr z)
        refine lv_iconst (v := nI 1) hx hb dR_put_151 (by decide +kernel) ?_
        refine lv_goto hx hb dR_put_152 (tgt := 156) rfl ?_
        refine lv_istore (lv' := [(7, .int (nI 1)), (0, .ref ma), (1, .int (nI r)), (3, .int (nI v)), (6, .int (nI (dgl v (tp (P a)) 0))), (8, .int (nI u))]) hx hb dR_put_156 hl (by decide) rfl (fun ls hl => ?_)
        refine lv_iinc (lv' := [(8, .int (nI (u + 1))), (7, .int (nI 1)), (0, .ref ma), (1, .int (nI r)), (3, .int (nI v)), (6, .int (nI (dgl v (tp (P a)) 0)))]) hx hb dR_put_158 hl (k := 5) rfl (ii_p _) (by decide) rfl (fun ls hl => ?_)
        refine lv_goto hx hb dR_put_161 (tgt := 101) rfl ?_
        exact ihLP _ (by omega) 1 (u + 1) _ _ _ rfl (by omega) (by omega) ⟨fun _ => by obtain ⟨y, y1, y2⟩ := hz2.mp (by omega); exact ⟨y, by omega, y2⟩, fun _ => rfl⟩ hst (lv_sub hl [2, 3, 4, 5, 1, 0] rfl)
      · skip
        rw [← nI_0] at hc
        have hcz : z = 0 := (nI_eq (by omega) (by omega)).mp hc
        refine lv_iload hx hb dR_put_112 (lv_at hl 5 rfl) ?_
        refine lv_iload_n hx hb dR_put_114 rfl (lv_at hl 2 rfl) ?_
        refine lv_icmp_ne hx hb dR_put_115 (tgt := 122) rfl (fun hc => ?_) (fun hc => ?_)
        · skip
          have hcv : ¬ u = v := fun z => hc ((nI_eq (by omega) (by omega)).mpr z)
          refine lv_aload_n hx hb dR_put_122 rfl (lv_at hl 0 rfl) ?_
          refine lv_aload_n hx hb dR_put_123 rfl (lv_at hl 0 rfl) ?_
          refine hp_get hx hb hG in_R hown hK hst hmL5.ob rfl 6 (by decide) (hG _ fl_R_21) rfl rfl dR_put_124 ?_
          refine lv_iload hx hb dR_put_127 (lv_at hl 5 rfl) ?_
          refine ct_callV (av2 := [.ref (E 4), .int (nI u)]) (rest := []) (b := ma) X hst (c_R_degreeOf l D Y lo hmL5 (j := 4) (by omega) (by omega) e4 (p31 hp3 hPp ha) (v := u) hu) hmL5.ob rfl wc_R_degreeOf ml_R_102 wi_R_degreeOf wl_R_degreeOf wn_R md_R_degreeOf (by decide) hl.1 rfl (Nat.le_of_ble_eq_true rfl) ⟨by omega, by omega⟩ (fun _ _ h => h.elim) dR_put_129 (fun r M' H locs hp hst => ?_)
          obtain ⟨rfl, rfl⟩ := hp
          refine lv_iload hx hb dR_put_132 (lv_at hl 3 rfl) ?_
          refine lv_aload_n hx hb dR_put_134 rfl (lv_at hl 0 rfl) ?_
          refine lv_aload_n hx hb dR_put_135 rfl (lv_at hl 0 rfl) ?_
          refine hp_get hx hb hG in_R hown hK hst hmL5.ob rfl 7 (by decide) (hG _ fl_R_24) rfl rfl dR_put_136 ?_
          refine lv_iload hx hb dR_put_139 (lv_at hl 5 rfl) ?_
          refine ct_callV (av2 := [.ref (E 5), .int (nI u)]) (rest := [.int (nI (dgl v (tp (P a)) 0)), .int (nI (dgl u (tp (P a)) 0))]) (b := ma) X hst (c_R_degreeOf l D Y lo hmL5 (j := 5) (by omega) (by omega) e5 (p31 hp3 hPp hb9) (v := u) hu) hmL5.ob rfl wc_R_degreeOf ml_R_102 wi_R_degreeOf wl_R_degreeOf wn_R md_R_degreeOf (by decide) hl.1 rfl (Nat.le_of_ble_eq_true rfl) ⟨by omega, by omega⟩ (fun _ _ h => h.elim) dR_put_141 (fun r M' H locs hp hst => ?_)
          obtain ⟨rfl, rfl⟩ := hp
          refine t_imul hx hb dR_put_144 (v := nI ((dgl v (tp (P a)) 0) * (dgl u (tp (P b)) 0))) (pk_mul _ _) ?_
          refine t_iadd hx hb dR_put_145 (v := nI ((dgl u (tp (P a)) 0) + ((dgl v (tp (P a)) 0) * (dgl u (tp (P b)) 0)))) (nI_add _ _) ?_
          refine lv_bipush (v := nI 12) hx hb dR_put_146 (by decide +kernel) ?_
          refine lv_icmp_le hx hb dR_put_148 (tgt := 155) rfl (fun hc => ?_) (fun hc => ?_)
          · skip
            have hcd : ((dgl u (tp (P a)) 0) + ((dgl v (tp (P a)) 0) * (dgl u (tp (P b)) 0))) ≤ 12 := (nI_leI (by omega) (by omega)).mp hc
            have hcd : hrD v (P a) (P b) (dgl v (tp (P a)) 0) u ≤ 12 := by
              show (if _ then _ else _) + _ ≤ 12
              rw [if_neg hcv]
              exact hcd
            refine lv_iconst (v := nI 0) hx hb dR_put_155 (by decide +kernel) ?_
            refine lv_istore (lv' := [(7, .int (nI 0)), (0, .ref ma), (1, .int (nI r)), (3, .int (nI v)), (6, .int (nI (dgl v (tp (P a)) 0))), (8, .int (nI u))]) hx hb dR_put_156 hl (by decide) rfl (fun ls hl => ?_)
            refine lv_iinc (lv' := [(8, .int (nI (u + 1))), (7, .int (nI 0)), (0, .ref ma), (1, .int (nI r)), (3, .int (nI v)), (6, .int (nI (dgl v (tp (P a)) 0)))]) hx hb dR_put_158 hl (k := 5) rfl (ii_p _) (by decide) rfl (fun ls hl => ?_)
            refine lv_goto hx hb dR_put_161 (tgt := 101) rfl ?_
            exact ihLP _ (by omega) 0 (u + 1) _ _ _ rfl (by omega) (by omega) ⟨fun q => by omega, fun ⟨y, y1, y2⟩ => by
                by_cases h9 : y = u
                · subst h9; exact absurd hcd y2
                · exact absurd (hz2.mpr ⟨y, by omega, y2⟩) (by omega)⟩ hst (lv_sub hl [2, 3, 4, 5, 1, 0] rfl)
          · skip
            have hcd : ¬ ((dgl u (tp (P a)) 0) + ((dgl v (tp (P a)) 0) * (dgl u (tp (P b)) 0))) ≤ 12 := fun z => hc ((nI_leI (by omega) (by omega)).mpr z)
            have hcd : ¬ hrD v (P a) (P b) (dgl v (tp (P a)) 0) u ≤ 12 := by
              show ¬ (if _ then _ else _) + _ ≤ 12
              rw [if_neg hcv]
              exact hcd
            refine lv_iconst (v := nI 1) hx hb dR_put_151 (by decide +kernel) ?_
            refine lv_goto hx hb dR_put_152 (tgt := 156) rfl ?_
            refine lv_istore (lv' := [(7, .int (nI 1)), (0, .ref ma), (1, .int (nI r)), (3, .int (nI v)), (6, .int (nI (dgl v (tp (P a)) 0))), (8, .int (nI u))]) hx hb dR_put_156 hl (by decide) rfl (fun ls hl => ?_)
            refine lv_iinc (lv' := [(8, .int (nI (u + 1))), (7, .int (nI 1)), (0, .ref ma), (1, .int (nI r)), (3, .int (nI v)), (6, .int (nI (dgl v (tp (P a)) 0)))]) hx hb dR_put_158 hl (k := 5) rfl (ii_p _) (by decide) rfl (fun ls hl => ?_)
            refine lv_goto hx hb dR_put_161 (tgt := 101) rfl ?_
            exact ihLP _ (by omega) 1 (u + 1) _ _ _ rfl (by omega) (by omega) ⟨fun _ => ⟨u, by omega, hcd⟩, fun _ => rfl⟩ hst (lv_sub hl [2, 3, 4, 5, 1, 0] rfl)
        · skip
          have hcv : u = v := (nI_eq (by omega) (by omega)).mp hc
          refine lv_iconst (v := nI 0) hx hb dR_put_118 (by decide +kernel) ?_
          refine lv_goto hx hb dR_put_119 (tgt := 132) rfl ?_
          refine lv_iload hx hb dR_put_132 (lv_at hl 3 rfl) ?_
          refine lv_aload_n hx hb dR_put_134 rfl (lv_at hl 0 rfl) ?_
          refine lv_aload_n hx hb dR_put_135 rfl (lv_at hl 0 rfl) ?_
          refine hp_get hx hb hG in_R hown hK hst hmL5.ob rfl 7 (by decide) (hG _ fl_R_24) rfl rfl dR_put_136 ?_
          refine lv_iload hx hb dR_put_139 (lv_at hl 5 rfl) ?_
          refine ct_callV (av2 := [.ref (E 5), .int (nI u)]) (rest := [.int (nI (dgl v (tp (P a)) 0)), .int (nI 0)]) (b := ma) X hst (c_R_degreeOf l D Y lo hmL5 (j := 5) (by omega) (by omega) e5 (p31 hp3 hPp hb9) (v := u) hu) hmL5.ob rfl wc_R_degreeOf ml_R_102 wi_R_degreeOf wl_R_degreeOf wn_R md_R_degreeOf (by decide) hl.1 rfl (Nat.le_of_ble_eq_true rfl) ⟨by omega, by omega⟩ (fun _ _ h => h.elim) dR_put_141 (fun r M' H locs hp hst => ?_)
          obtain ⟨rfl, rfl⟩ := hp
          refine t_imul hx hb dR_put_144 (v := nI ((dgl v (tp (P a)) 0) * (dgl u (tp (P b)) 0))) (pk_mul _ _) ?_
          refine t_iadd hx hb dR_put_145 (v := nI (0 + ((dgl v (tp (P a)) 0) * (dgl u (tp (P b)) 0)))) (nI_add _ _) ?_
          refine lv_bipush (v := nI 12) hx hb dR_put_146 (by decide +kernel) ?_
          refine lv_icmp_le hx hb dR_put_148 (tgt := 155) rfl (fun hc => ?_) (fun hc => ?_)
          · skip
            have hcd : (0 + ((dgl v (tp (P a)) 0) * (dgl u (tp (P b)) 0))) ≤ 12 := (nI_leI (by omega) (by omega)).mp hc
            have hcd : hrD v (P a) (P b) (dgl v (tp (P a)) 0) u ≤ 12 := by
              show (if _ then _ else _) + _ ≤ 12
              rw [if_pos hcv]
              exact hcd
            refine lv_iconst (v := nI 0) hx hb dR_put_155 (by decide +kernel) ?_
            refine lv_istore (lv' := [(7, .int (nI 0)), (0, .ref ma), (1, .int (nI r)), (3, .int (nI v)), (6, .int (nI (dgl v (tp (P a)) 0))), (8, .int (nI u))]) hx hb dR_put_156 hl (by decide) rfl (fun ls hl => ?_)
            refine lv_iinc (lv' := [(8, .int (nI (u + 1))), (7, .int (nI 0)), (0, .ref ma), (1, .int (nI r)), (3, .int (nI v)), (6, .int (nI (dgl v (tp (P a)) 0)))]) hx hb dR_put_158 hl (k := 5) rfl (ii_p _) (by decide) rfl (fun ls hl => ?_)
            refine lv_goto hx hb dR_put_161 (tgt := 101) rfl ?_
            exact ihLP _ (by omega) 0 (u + 1) _ _ _ rfl (by omega) (by omega) ⟨fun q => by omega, fun ⟨y, y1, y2⟩ => by
                by_cases h9 : y = u
                · subst h9; exact absurd hcd y2
                · exact absurd (hz2.mpr ⟨y, by omega, y2⟩) (by omega)⟩ hst (lv_sub hl [2, 3, 4, 5, 1, 0] rfl)
          · skip
            have hcd : ¬ (0 + ((dgl v (tp (P a)) 0) * (dgl u (tp (P b)) 0))) ≤ 12 := fun z => hc ((nI_leI (by omega) (by omega)).mpr z)
            have hcd : ¬ hrD v (P a) (P b) (dgl v (tp (P a)) 0) u ≤ 12 := by
              show ¬ (if _ then _ else _) + _ ≤ 12
              rw [if_pos hcv]
              exact hcd
            refine lv_iconst (v := nI 1) hx hb dR_put_151 (by decide +kernel) ?_
            refine lv_goto hx hb dR_put_152 (tgt := 156) rfl ?_
            refine lv_istore (lv' := [(7, .int (nI 1)), (0, .ref ma), (1, .int (nI r)), (3, .int (nI v)), (6, .int (nI (dgl v (tp (P a)) 0))), (8, .int (nI u))]) hx hb dR_put_156 hl (by decide) rfl (fun ls hl => ?_)
            refine lv_iinc (lv' := [(8, .int (nI (u + 1))), (7, .int (nI 1)), (0, .ref ma), (1, .int (nI r)), (3, .int (nI v)), (6, .int (nI (dgl v (tp (P a)) 0)))]) hx hb dR_put_158 hl (k := 5) rfl (ii_p _) (by decide) rfl (fun ls hl => ?_)
            refine lv_goto hx hb dR_put_161 (tgt := 101) rfl ?_
            exact ihLP _ (by omega) 1 (u + 1) _ _ _ rfl (by omega) (by omega) ⟨fun _ => ⟨u, by omega, hcd⟩, fun _ => rfl⟩ hst (lv_sub hl [2, 3, 4, 5, 1, 0] rfl)
  exact LP _ 0 0 _ _ _ rfl (by omega) (by omega) ⟨fun q => by omega, fun ⟨y, y1, _⟩ => by omega⟩ hst (lv_sub hl [4, 5, 7, 2, 1, 0] rfl)

set_option maxHeartbeats 4000000 in
set_option maxRecDepth 100000 in
theorem e_R_put (l : Launch) (D : va_G) (Y : Nat → ClassId) (lo : Nat) {M : Hm} {ma p rf th : Nat} {E : Nat → Nat} {c : Nat → Nat → Nat} (hm : mo Y M ma E p rf th c) {x1 x2 x3 x4 : Int32} (hno : ¬ ((inR x1 ∧ inR x2 ∧ inR x4) ∧ inV x3)) : ct l D Y lo y_R_put b_R_put 10 (some .boolean) 3 [.ref ma, .int x1, .int x2, .int x3, .int x4] M (fun r9 M' => ∃ t : Nat, r9 = some (.int (nI 0)) ∧ mo Y M' ma E p rf t c ∧ (t = 1 ∧ ¬ (inR x1 ∧ inR x2 ∧ inR x4) ∨ t = 2 ∧ (inR x1 ∧ inR x2 ∧ inR x4)) ∧ hp_off (fun i => i = 1000) M M') nx 0 0 := by
  refine ct_of (by decide) (Nat.le_of_ble_eq_true rfl) ?_
  intro pg eg sg mg bw mt cg ls X hst hl
  have X1 := X
  obtain ⟨hx, hb, hml, hrt, hlocks, hown, hnm, hts, hkz, hex⟩ := X1
  have hG : ∀ w ∈ GW, w.before _ sg = true := fun w h => hts w (List.mem_cons_of_mem _ h)
  have hK := hkz.1
  have hl : lv_has ls 10 [(0, .ref ma), (1, .int x1), (2, .int x2), (3, .int x3), (4, .int x4)] := hl
  refine lv_iload_n hx hb dR_put_0 rfl (lv_at hl 1 rfl) ?_
  refine ct_callS (av2 := [.int x1]) (rest := []) X hst (c_R_isRegister l D Y lo x1) wc_R_isRegister ml_R_85 ws_R_isRegister wn_R md_R_isRegister (by decide) hl.1 rfl (Nat.le_of_ble_eq_true rfl) ⟨by omega, by omega⟩ (fun _ _ h => h.elim) dR_put_1 (fun r M' H locs hp hst => ?_)
  obtain ⟨b1, rfl, hb1, ib1, rfl⟩ := hp
  refine lv_if_eq hx hb dR_put_4 (tgt := 26) rfl (fun hc => ?_) (fun hc => ?_)
  · skip
    rw [← nI_0] at hc
    have hz1 : b1 = 0 := (nI_eq (by omega) (by omega)).mp hc
    have hnt : ¬ (inR x1 ∧ inR x2 ∧ inR x4) := fun z => by have := ib1.mpr z.1; omega
    refine lv_iconst (v := nI 0) hx hb dR_put_26 (by decide +kernel) ?_
    refine lv_istore (lv' := [(5, .int (nI 0)), (0, .ref ma), (1, .int x1), (2, .int x2), (3, .int x3), (4, .int x4)]) hx hb dR_put_27 hl (by decide) rfl (fun ls hl => ?_)
    refine lv_aload_n hx hb dR_put_29 rfl (lv_at hl 1 rfl) ?_
    refine lv_iload hx hb dR_put_30 (lv_at hl 0 rfl) ?_
    refine lv_if_ne hx hb dR_put_32 (tgt := 39) rfl (fun hc => absurd hc (by decide)) (fun hc => ?_)
    refine lv_iconst (v := nI 1) hx hb dR_put_35 (by decide +kernel) ?_
    refine lv_goto hx hb dR_put_36 (tgt := 40) rfl ?_
    refine lv_iload hx hb dR_put_40 (lv_at hl 0 rfl) ?_
    refine lv_if_eq hx hb dR_put_42 (tgt := 56) rfl (fun hc => ?_) (fun hc => absurd hc (by decide))
    refine lv_iconst (v := nI 0) hx hb dR_put_56 (by decide +kernel) ?_
    refine ct_callV (av2 := [.int (nI 1), .int (nI 0)]) (rest := []) (b := ma) X hst (c_R_fails l D Y lo hm (a := 1) (b := 0) (by omega) (by omega)) hm.ob rfl wc_R_fails ml_R_88 wi_R_fails wl_R_fails wn_R md_R_fails (by decide) hl.1 rfl (Nat.le_of_ble_eq_true rfl) ⟨by omega, by omega⟩ (fun _ _ h => h.elim) dR_put_57 (fun r MF H locs hp hst => ?_)
    obtain ⟨rfl, hmF, hoF⟩ := hp
    have hmF : mo Y MF ma E p rf 1 c := hmF
    refine lv_if_eq hx hb dR_put_60 (tgt := 65) rfl (fun hc => absurd hc (by decide)) (fun hc => ?_)
    refine lv_iconst (v := nI 0) hx hb dR_put_63 (by decide +kernel) ?_
    exact ct_zret X hst (by omega) ⟨1, rfl, hmF, Or.inl ⟨rfl, hnt⟩, hoF⟩ (by omega) (by omega) dR_put_64
  · skip
    rw [← nI_0] at hc
    have hz1 : ¬ b1 = 0 := fun z => hc ((nI_eq (by omega) (by omega)).mpr z)
    refine lv_iload_n hx hb dR_put_7 rfl (lv_at hl 2 rfl) ?_
    refine ct_callS (av2 := [.int x2]) (rest := []) X hst (c_R_isRegister l D Y lo x2) wc_R_isRegister ml_R_85 ws_R_isRegister wn_R md_R_isRegister (by decide) hl.1 rfl (Nat.le_of_ble_eq_true rfl) ⟨by omega, by omega⟩ (fun _ _ h => h.elim) dR_put_8 (fun r M' H locs hp hst => ?_)
    obtain ⟨b2, rfl, hb2, ib2, rfl⟩ := hp
    refine lv_if_eq hx hb dR_put_11 (tgt := 26) rfl (fun hc => ?_) (fun hc => ?_)
    · skip
      rw [← nI_0] at hc
      have hz2 : b2 = 0 := (nI_eq (by omega) (by omega)).mp hc
      have hnt : ¬ (inR x1 ∧ inR x2 ∧ inR x4) := fun z => by have := ib2.mpr z.2.1; omega
      refine lv_iconst (v := nI 0) hx hb dR_put_26 (by decide +kernel) ?_
      refine lv_istore (lv' := [(5, .int (nI 0)), (0, .ref ma), (1, .int x1), (2, .int x2), (3, .int x3), (4, .int x4)]) hx hb dR_put_27 hl (by decide) rfl (fun ls hl => ?_)
      refine lv_aload_n hx hb dR_put_29 rfl (lv_at hl 1 rfl) ?_
      refine lv_iload hx hb dR_put_30 (lv_at hl 0 rfl) ?_
      refine lv_if_ne hx hb dR_put_32 (tgt := 39) rfl (fun hc => absurd hc (by decide)) (fun hc => ?_)
      refine lv_iconst (v := nI 1) hx hb dR_put_35 (by decide +kernel) ?_
      refine lv_goto hx hb dR_put_36 (tgt := 40) rfl ?_
      refine lv_iload hx hb dR_put_40 (lv_at hl 0 rfl) ?_
      refine lv_if_eq hx hb dR_put_42 (tgt := 56) rfl (fun hc => ?_) (fun hc => absurd hc (by decide))
      refine lv_iconst (v := nI 0) hx hb dR_put_56 (by decide +kernel) ?_
      refine ct_callV (av2 := [.int (nI 1), .int (nI 0)]) (rest := []) (b := ma) X hst (c_R_fails l D Y lo hm (a := 1) (b := 0) (by omega) (by omega)) hm.ob rfl wc_R_fails ml_R_88 wi_R_fails wl_R_fails wn_R md_R_fails (by decide) hl.1 rfl (Nat.le_of_ble_eq_true rfl) ⟨by omega, by omega⟩ (fun _ _ h => h.elim) dR_put_57 (fun r MF H locs hp hst => ?_)
      obtain ⟨rfl, hmF, hoF⟩ := hp
      have hmF : mo Y MF ma E p rf 1 c := hmF
      refine lv_if_eq hx hb dR_put_60 (tgt := 65) rfl (fun hc => absurd hc (by decide)) (fun hc => ?_)
      refine lv_iconst (v := nI 0) hx hb dR_put_63 (by decide +kernel) ?_
      exact ct_zret X hst (by omega) ⟨1, rfl, hmF, Or.inl ⟨rfl, hnt⟩, hoF⟩ (by omega) (by omega) dR_put_64
    · skip
      rw [← nI_0] at hc
      have hz2 : ¬ b2 = 0 := fun z => hc ((nI_eq (by omega) (by omega)).mpr z)
      refine lv_iload hx hb dR_put_14 (lv_at hl 4 rfl) ?_
      refine ct_callS (av2 := [.int x4]) (rest := []) X hst (c_R_isRegister l D Y lo x4) wc_R_isRegister ml_R_85 ws_R_isRegister wn_R md_R_isRegister (by decide) hl.1 rfl (Nat.le_of_ble_eq_true rfl) ⟨by omega, by omega⟩ (fun _ _ h => h.elim) dR_put_16 (fun r M' H locs hp hst => ?_)
      obtain ⟨b3, rfl, hb3, ib3, rfl⟩ := hp
      refine lv_if_eq hx hb dR_put_19 (tgt := 26) rfl (fun hc => ?_) (fun hc => ?_)
      · skip
        rw [← nI_0] at hc
        have hz3 : b3 = 0 := (nI_eq (by omega) (by omega)).mp hc
        have hnt : ¬ (inR x1 ∧ inR x2 ∧ inR x4) := fun z => by have := ib3.mpr z.2.2; omega
        refine lv_iconst (v := nI 0) hx hb dR_put_26 (by decide +kernel) ?_
        refine lv_istore (lv' := [(5, .int (nI 0)), (0, .ref ma), (1, .int x1), (2, .int x2), (3, .int x3), (4, .int x4)]) hx hb dR_put_27 hl (by decide) rfl (fun ls hl => ?_)
        refine lv_aload_n hx hb dR_put_29 rfl (lv_at hl 1 rfl) ?_
        refine lv_iload hx hb dR_put_30 (lv_at hl 0 rfl) ?_
        refine lv_if_ne hx hb dR_put_32 (tgt := 39) rfl (fun hc => absurd hc (by decide)) (fun hc => ?_)
        refine lv_iconst (v := nI 1) hx hb dR_put_35 (by decide +kernel) ?_
        refine lv_goto hx hb dR_put_36 (tgt := 40) rfl ?_
        refine lv_iload hx hb dR_put_40 (lv_at hl 0 rfl) ?_
        refine lv_if_eq hx hb dR_put_42 (tgt := 56) rfl (fun hc => ?_) (fun hc => absurd hc (by decide))
        refine lv_iconst (v := nI 0) hx hb dR_put_56 (by decide +kernel) ?_
        refine ct_callV (av2 := [.int (nI 1), .int (nI 0)]) (rest := []) (b := ma) X hst (c_R_fails l D Y lo hm (a := 1) (b := 0) (by omega) (by omega)) hm.ob rfl wc_R_fails ml_R_88 wi_R_fails wl_R_fails wn_R md_R_fails (by decide) hl.1 rfl (Nat.le_of_ble_eq_true rfl) ⟨by omega, by omega⟩ (fun _ _ h => h.elim) dR_put_57 (fun r MF H locs hp hst => ?_)
        obtain ⟨rfl, hmF, hoF⟩ := hp
        have hmF : mo Y MF ma E p rf 1 c := hmF
        refine lv_if_eq hx hb dR_put_60 (tgt := 65) rfl (fun hc => absurd hc (by decide)) (fun hc => ?_)
        refine lv_iconst (v := nI 0) hx hb dR_put_63 (by decide +kernel) ?_
        exact ct_zret X hst (by omega) ⟨1, rfl, hmF, Or.inl ⟨rfl, hnt⟩, hoF⟩ (by omega) (by omega) dR_put_64
      · skip
        rw [← nI_0] at hc
        have hz3 : ¬ b3 = 0 := fun z => hc ((nI_eq (by omega) (by omega)).mpr z)
        have htt : inR x1 ∧ inR x2 ∧ inR x4 := ⟨ib1.mp (by omega), ib2.mp (by omega), ib3.mp (by omega)⟩
        have h3 : ¬ inV x3 := fun z => hno ⟨htt, z⟩
        refine lv_iconst (v := nI 1) hx hb dR_put_22 (by decide +kernel) ?_
        refine lv_goto hx hb dR_put_23 (tgt := 27) rfl ?_
        refine lv_istore (lv' := [(5, .int (nI 1)), (0, .ref ma), (1, .int x1), (2, .int x2), (3, .int x3), (4, .int x4)]) hx hb dR_put_27 hl (by decide) rfl (fun ls hl => ?_)
        refine lv_aload_n hx hb dR_put_29 rfl (lv_at hl 1 rfl) ?_
        refine lv_iload hx hb dR_put_30 (lv_at hl 0 rfl) ?_
        refine lv_if_ne hx hb dR_put_32 (tgt := 39) rfl (fun hc => ?_) (fun hc => absurd hc (by decide))
        refine lv_iconst (v := nI 0) hx hb dR_put_39 (by decide +kernel) ?_
        refine lv_iload hx hb dR_put_40 (lv_at hl 0 rfl) ?_
        refine lv_if_eq hx hb dR_put_42 (tgt := 56) rfl (fun hc => absurd hc (by decide)) (fun hc => ?_)
        refine lv_iload_n hx hb dR_put_45 rfl (lv_at hl 4 rfl) ?_
        refine ct_callS (av2 := [.int x3]) (rest := [.int (nI 0), .ref ma]) X hst (e_R_isVariable l D Y lo h3) wc_R_isVariable ml_R_96 ws_R_isVariable wn_R md_R_isVariable (by decide) hl.1 rfl (Nat.le_of_ble_eq_true rfl) ⟨by omega, by omega⟩ (fun _ _ h => h.elim) dR_put_46 (fun r M' H locs hp hst => ?_)
        obtain ⟨rfl, rfl⟩ := hp
        refine lv_if_ne hx hb dR_put_49 (tgt := 56) rfl (fun hc => absurd hc (by decide)) (fun hc => ?_)
        refine lv_iconst (v := nI 1) hx hb dR_put_52 (by decide +kernel) ?_
        refine lv_goto hx hb dR_put_53 (tgt := 57) rfl ?_
        refine ct_callV (av2 := [.int (nI 0), .int (nI 1)]) (rest := []) (b := ma) X hst (c_R_fails l D Y lo hm (a := 0) (b := 1) (by omega) (by omega)) hm.ob rfl wc_R_fails ml_R_88 wi_R_fails wl_R_fails wn_R md_R_fails (by decide) hl.1 rfl (Nat.le_of_ble_eq_true rfl) ⟨by omega, by omega⟩ (fun _ _ h => h.elim) dR_put_57 (fun r MF H locs hp hst => ?_)
        obtain ⟨rfl, hmF, hoF⟩ := hp
        have hmF : mo Y MF ma E p rf 2 c := hmF
        refine lv_if_eq hx hb dR_put_60 (tgt := 65) rfl (fun hc => absurd hc (by decide)) (fun hc => ?_)
        refine lv_iconst (v := nI 0) hx hb dR_put_63 (by decide +kernel) ?_
        exact ct_zret X hst (by omega) ⟨2, rfl, hmF, Or.inr ⟨rfl, htt⟩, hoF⟩ (by omega) (by omega) dR_put_64

set_option maxHeartbeats 4000000 in
set_option maxRecDepth 100000 in
theorem c_R_terms (l : Launch) (D : va_G) (Y : Nat → ClassId) (lo : Nat) {M : Hm} {ma p rf th : Nat} {E : Nat → Nat} {c : Nat → Nat → Nat} (hm : mo Y M ma E p rf th c) {P : Nat → Pf} (hP : rr c P) (hPp : ∀ r, r < 12 → ∀ m, P r m < p) {r : Nat} (hr : r < 12) : ct l D Y lo y_R_terms b_R_terms 2 (some .int) 1 [.ref ma, .int (nI r)] M (fun r9 M' => ∃ c' : Nat → Nat → Nat, r9 = some (.int (nI (tp (P r)).length)) ∧ mo Y M' ma E p rf 0 c' ∧ rr c' (P) ∧ hp_off (fun i => i = 1000) M M') nx 0 0 := by
  refine ct_of (by decide) (Nat.le_of_ble_eq_true rfl) ?_
  intro pg eg sg mg bw mt cg ls X hst hl
  have X1 := X
  obtain ⟨hx, hb, hml, hrt, hlocks, hown, hnm, hts, hkz, hex⟩ := X1
  have hG : ∀ w ∈ GW, w.before _ sg = true := fun w h => hts w (List.mem_cons_of_mem _ h)
  have hK := hkz.1
  have hl : lv_has ls 2 [(0, .ref ma), (1, .int (nI r))] := hl
  obtain ⟨hp2, hp3⟩ := hm.p2
  refine lv_aload_n hx hb dR_terms_0 rfl (lv_at hl 0 rfl) ?_
  refine lv_iload_n hx hb dR_terms_1 rfl (lv_at hl 1 rfl) ?_
  refine ct_callS (av2 := [.int (nI r)]) (rest := [.ref ma]) X hst (g_R_isRegister l D Y lo hr) wc_R_isRegister ml_R_85 ws_R_isRegister wn_R md_R_isRegister (by decide) hl.1 rfl (Nat.le_of_ble_eq_true rfl) ⟨by omega, by omega⟩ (fun _ _ h => h.elim) dR_terms_2 (fun r M' H locs hp hst => ?_)
  obtain ⟨rfl, rfl⟩ := hp
  refine lv_if_ne hx hb dR_terms_5 (tgt := 12) rfl (fun hc => ?_) (fun hc => absurd hc (by decide))
  refine lv_iconst (v := nI 0) hx hb dR_terms_12 (by decide +kernel) ?_
  refine lv_iconst (v := nI 0) hx hb dR_terms_13 (by decide +kernel) ?_
  refine ct_callV (av2 := [.int (nI 0), .int (nI 0)]) (rest := []) (b := ma) X hst (c_R_fails l D Y lo hm (a := 0) (b := 0) (by omega) (by omega)) hm.ob rfl wc_R_fails ml_R_88 wi_R_fails wl_R_fails wn_R md_R_fails (by decide) hl.1 rfl (Nat.le_of_ble_eq_true rfl) ⟨by omega, by omega⟩ (fun _ _ h => h.elim) dR_terms_14 (fun r MF H locs hp hst => ?_)
  obtain ⟨rfl, hmF, hoF⟩ := hp
  have hmF : mo Y MF ma E p rf 0 c := hmF
  refine lv_if_eq hx hb dR_terms_17 (tgt := 22) rfl (fun hc => ?_) (fun hc => absurd hc (by decide))
  refine lv_aload_n hx hb dR_terms_22 rfl (lv_at hl 0 rfl) ?_
  refine lv_iload_n hx hb dR_terms_23 rfl (lv_at hl 1 rfl) ?_
  refine ct_callV (av2 := [.int (nI r)]) (rest := []) (b := ma) X hst (c_R_counted l D Y lo hmF hr (h := P r) (hP r hr) (p31 hp3 hPp hr)) hmF.ob rfl wc_R_counted ml_R_140 wi_R_counted wl_R_counted wn_R md_R_counted (by decide) hl.1 rfl (Nat.le_of_ble_eq_true rfl) ⟨by omega, by omega⟩ (fun _ _ h => h.elim) dR_terms_24 (fun r M' H locs hp hst => ?_)
  obtain ⟨rfl, rfl⟩ := hp
  exact ct_iret X hst ⟨c, rfl, hmF, hP, hoF⟩ (by omega) (by omega) dR_terms_27

set_option maxHeartbeats 4000000 in
set_option maxRecDepth 100000 in
theorem e_R_terms (l : Launch) (D : va_G) (Y : Nat → ClassId) (lo : Nat) {M : Hm} {ma p rf th : Nat} {E : Nat → Nat} {c : Nat → Nat → Nat} (hm : mo Y M ma E p rf th c) {x1 : Int32} (hno : ¬ inR x1) : ct l D Y lo y_R_terms b_R_terms 2 (some .int) 1 [.ref ma, .int x1] M (fun r9 M' => ∃ t : Nat, r9 = some (.int (nI 0)) ∧ mo Y M' ma E p rf t c ∧ (t = 1 ∧ ¬ (inR x1) ∨ t = 2 ∧ (inR x1)) ∧ hp_off (fun i => i = 1000) M M') nx 0 0 := by
  refine ct_of (by decide) (Nat.le_of_ble_eq_true rfl) ?_
  intro pg eg sg mg bw mt cg ls X hst hl
  have X1 := X
  obtain ⟨hx, hb, hml, hrt, hlocks, hown, hnm, hts, hkz, hex⟩ := X1
  have hG : ∀ w ∈ GW, w.before _ sg = true := fun w h => hts w (List.mem_cons_of_mem _ h)
  have hK := hkz.1
  have hl : lv_has ls 2 [(0, .ref ma), (1, .int x1)] := hl
  refine lv_aload_n hx hb dR_terms_0 rfl (lv_at hl 0 rfl) ?_
  refine lv_iload_n hx hb dR_terms_1 rfl (lv_at hl 1 rfl) ?_
  refine ct_callS (av2 := [.int x1]) (rest := [.ref ma]) X hst (e_R_isRegister l D Y lo hno) wc_R_isRegister ml_R_85 ws_R_isRegister wn_R md_R_isRegister (by decide) hl.1 rfl (Nat.le_of_ble_eq_true rfl) ⟨by omega, by omega⟩ (fun _ _ h => h.elim) dR_terms_2 (fun r M' H locs hp hst => ?_)
  obtain ⟨rfl, rfl⟩ := hp
  refine lv_if_ne hx hb dR_terms_5 (tgt := 12) rfl (fun hc => absurd hc (by decide)) (fun hc => ?_)
  refine lv_iconst (v := nI 1) hx hb dR_terms_8 (by decide +kernel) ?_
  refine lv_goto hx hb dR_terms_9 (tgt := 13) rfl ?_
  refine lv_iconst (v := nI 0) hx hb dR_terms_13 (by decide +kernel) ?_
  refine ct_callV (av2 := [.int (nI 1), .int (nI 0)]) (rest := []) (b := ma) X hst (c_R_fails l D Y lo hm (a := 1) (b := 0) (by omega) (by omega)) hm.ob rfl wc_R_fails ml_R_88 wi_R_fails wl_R_fails wn_R md_R_fails (by decide) hl.1 rfl (Nat.le_of_ble_eq_true rfl) ⟨by omega, by omega⟩ (fun _ _ h => h.elim) dR_terms_14 (fun r MF H locs hp hst => ?_)
  obtain ⟨rfl, hmF, hoF⟩ := hp
  have hmF : mo Y MF ma E p rf 1 c := hmF
  refine lv_if_eq hx hb dR_terms_17 (tgt := 22) rfl (fun hc => absurd hc (by decide)) (fun hc => ?_)
  refine lv_iconst (v := nI 0) hx hb dR_terms_20 (by decide +kernel) ?_
  exact ct_iret X hst ⟨1, rfl, hmF, Or.inl ⟨rfl, hno⟩, hoF⟩ (by omega) (by omega) dR_terms_21

set_option maxHeartbeats 4000000 in
set_option maxRecDepth 100000 in
theorem c_R_isSame (l : Launch) (D : va_G) (Y : Nat → ClassId) (lo : Nat) {M : Hm} {ma p rf th : Nat} {E : Nat → Nat} {c : Nat → Nat → Nat} (hm : mo Y M ma E p rf th c) {P : Nat → Pf} (hP : rr c P) (hPp : ∀ r, r < 12 → ∀ m, P r m < p) {r a : Nat} (hr : r < 12) (ha : a < 12) : ct l D Y lo y_R_isSame b_R_isSame 5 (some .boolean) 1 [.ref ma, .int (nI r), .int (nI a)] M (fun r9 M' => ∃ b : Nat, r9 = some (.int (nI b)) ∧ b ≤ 1 ∧ (b = 1 ↔ tp (P r) = tp (P a)) ∧ ∃ c' : Nat → Nat → Nat, mo Y M' ma E p rf 0 c' ∧ rr c' P ∧ hp_off (fun i => i = 1000) M M') nx 0 0 := by
  refine ct_of (by decide) (Nat.le_of_ble_eq_true rfl) ?_
  intro pg eg sg mg bw mt cg ls X hst hl
  have X1 := X
  obtain ⟨hx, hb, hml, hrt, hlocks, hown, hnm, hts, hkz, hex⟩ := X1
  have hG : ∀ w ∈ GW, w.before _ sg = true := fun w h => hts w (List.mem_cons_of_mem _ h)
  have hK := hkz.1
  have hl : lv_has ls 5 [(0, .ref ma), (1, .int (nI r)), (2, .int (nI a))] := hl
  obtain ⟨hp2, hp3⟩ := hm.p2
  refine lv_aload_n hx hb dR_isSame_0 rfl (lv_at hl 0 rfl) ?_
  refine lv_iload_n hx hb dR_isSame_1 rfl (lv_at hl 1 rfl) ?_
  refine ct_callS (av2 := [.int (nI r)]) (rest := [.ref ma]) X hst (g_R_isRegister l D Y lo hr) wc_R_isRegister ml_R_85 ws_R_isRegister wn_R md_R_isRegister (by decide) hl.1 rfl (Nat.le_of_ble_eq_true rfl) ⟨by omega, by omega⟩ (fun _ _ h => h.elim) dR_isSame_2 (fun r M' H locs hp hst => ?_)
  obtain ⟨rfl, rfl⟩ := hp
  refine lv_if_eq hx hb dR_isSame_5 (tgt := 15) rfl (fun hc => absurd hc (by decide)) (fun hc => ?_)
  refine lv_iload_n hx hb dR_isSame_8 rfl (lv_at hl 2 rfl) ?_
  refine ct_callS (av2 := [.int (nI a)]) (rest := [.ref ma]) X hst (g_R_isRegister l D Y lo ha) wc_R_isRegister ml_R_85 ws_R_isRegister wn_R md_R_isRegister (by decide) hl.1 rfl (Nat.le_of_ble_eq_true rfl) ⟨by omega, by omega⟩ (fun _ _ h => h.elim) dR_isSame_9 (fun r M' H locs hp hst => ?_)
  obtain ⟨rfl, rfl⟩ := hp
  refine lv_if_ne hx hb dR_isSame_12 (tgt := 19) rfl (fun hc => ?_) (fun hc => absurd hc (by decide))
  refine lv_iconst (v := nI 0) hx hb dR_isSame_19 (by decide +kernel) ?_
  refine lv_iconst (v := nI 0) hx hb dR_isSame_20 (by decide +kernel) ?_
  refine ct_callV (av2 := [.int (nI 0), .int (nI 0)]) (rest := []) (b := ma) X hst (c_R_fails l D Y lo hm (a := 0) (b := 0) (by omega) (by omega)) hm.ob rfl wc_R_fails ml_R_88 wi_R_fails wl_R_fails wn_R md_R_fails (by decide) hl.1 rfl (Nat.le_of_ble_eq_true rfl) ⟨by omega, by omega⟩ (fun _ _ h => h.elim) dR_isSame_21 (fun r MF H locs hp hst => ?_)
  obtain ⟨rfl, hmF, hoF⟩ := hp
  have hmF : mo Y MF ma E p rf 0 c := hmF
  refine lv_if_eq hx hb dR_isSame_24 (tgt := 29) rfl (fun hc => ?_) (fun hc => absurd hc (by decide))
  refine lv_iconst (v := nI 1) hx hb dR_isSame_29 (by decide +kernel) ?_
  refine lv_istore_n (lv' := [(3, .int (nI 1)), (0, .ref ma), (1, .int (nI r)), (2, .int (nI a))]) hx hb dR_isSame_30 rfl hl (by decide) rfl (fun ls hl => ?_)
  refine lv_iconst (v := nI 0) hx hb dR_isSame_31 (by decide +kernel) ?_
  refine lv_istore (lv' := [(4, .int (nI 0)), (3, .int (nI 1)), (0, .ref ma), (1, .int (nI r)), (2, .int (nI a))]) hx hb dR_isSame_32 hl (by decide) rfl (fun ls hl => ?_)
  have LP : ∀ (kk : Nat) (b k : Nat) (H : Heap) (locs : List Loc) (ls : Array Slot), kk = 9139 - k → (k ≤ 9139) → (b ≤ 1) → (b = 1 ↔ ∀ i, i < k → P r (pl i) = P a (pl i)) → hp_st D vC lo MF sg.heap H locs → lv_has ls 5 [(0, .ref ma), (1, .int (nI r)), (2, .int (nI a)), (3, .int (nI b)), (4, .int (nI k))] → cW pg l eg sg mg [.ref ma, .int (nI r), .int (nI a)] bw mt cg y_R_isSame b_R_isSame 5 (some .boolean) 1 D lo (fun r9 M' => ∃ b : Nat, r9 = some (.int (nI b)) ∧ b ≤ 1 ∧ (b = 1 ↔ tp (P r) = tp (P a)) ∧ ∃ c' : Nat → Nat → Nat, mo Y M' ma E p rf 0 c' ∧ rr c' P ∧ hp_off (fun i => i = 1000) M M') nx 0 0 H locs 0 0 (F0 mg 34 ls []) := by
    intro kk
    induction kk using Nat.strongRecOn with
    | _ kk ihLP =>
    intro b k H locs ls hkk hk9 hb1 hinv hst hl
    refine lv_iload hx hb dR_isSame_34 (lv_at hl 4 rfl) ?_
    refine lv_sipush (v := nI 9139) hx hb dR_isSame_36 (by decide +kernel) ?_
    refine lv_icmp_ge hx hb dR_isSame_39 (tgt := 87) rfl (fun hc => ?_) (fun hc => ?_)
    · skip
      have hc5 : 9139 ≤ k := (nI_leI (by omega) (by omega)).mp hc
      have hk : k = 9139 := by omega
      rw [hk] at hinv
      refine lv_iload_n hx hb dR_isSame_87 rfl (lv_at hl 3 rfl) ?_
      exact ct_zret X hst (by omega) ⟨b, rfl, hb1, hinv.trans tp_ext.symm, c, hmF, hP, hoF⟩ (by omega) (by omega) dR_isSame_88
    · skip
      have hc5 : ¬ 9139 ≤ k := fun z => hc ((nI_leI (by omega) (by omega)).mpr z)
      have u1 := hP r hr k (by omega)
      have u2 := hP a ha k (by omega)
      have l1 := hPp r hr (pl k)
      have l2 := hPp a ha (pl k)
      refine lv_iload_n hx hb dR_isSame_42 rfl (lv_at hl 3 rfl) ?_
      refine lv_if_eq hx hb dR_isSame_43 (tgt := 79) rfl (fun hc => ?_) (fun hc => ?_)
      · skip
        rw [← nI_0] at hc
        have hcb : b = 0 := (nI_eq (by omega) (by omega)).mp hc
        refine lv_iconst (v := nI 0) hx hb dR_isSame_79 (by decide +kernel) ?_
        refine lv_istore_n (lv' := [(3, .int (nI 0)), (0, .ref ma), (1, .int (nI r)), (2, .int (nI a)), (4, .int (nI k))]) hx hb dR_isSame_80 rfl hl (by decide) rfl (fun ls hl => ?_)
        refine lv_iinc (lv' := [(4, .int (nI (k + 1))), (3, .int (nI 0)), (0, .ref ma), (1, .int (nI r)), (2, .int (nI a))]) hx hb dR_isSame_81 hl (k := 4) rfl (ii_p _) (by decide) rfl (fun ls hl => ?_)
        refine lv_goto hx hb dR_isSame_84 (tgt := 34) rfl ?_
        exact ihLP _ (by omega) 0 (k + 1) _ _ _ rfl (by omega) (by omega) ⟨fun q => by omega, fun q => absurd (hinv.mpr (fun i hi => q i (by omega))) (by omega)⟩ hst (lv_sub hl [2, 3, 4, 1, 0] rfl)
      · skip
        rw [← nI_0] at hc
        have hcb : ¬ b = 0 := fun z => hc ((nI_eq (by omega) (by omega)).mpr z)
        refine lv_aload_n hx hb dR_isSame_46 rfl (lv_at hl 0 rfl) ?_
        refine hp_get hx hb hG in_R hown hK hst hmF.ob rfl 5 (by decide) (hG _ fl_R_18) rfl rfl dR_isSame_47 ?_
        refine lv_sipush (v := nI 9139) hx hb dR_isSame_50 (by decide +kernel) ?_
        refine lv_iload_n hx hb dR_isSame_53 rfl (lv_at hl 1 rfl) ?_
        refine t_imul hx hb dR_isSame_54 (v := nI (9139 * r)) (pk_mul _ _) ?_
        refine lv_iload hx hb dR_isSame_55 (lv_at hl 4 rfl) ?_
        refine t_iadd hx hb dR_isSame_57 (v := nI ((9139 * r) + k)) (nI_add _ _) ?_
        refine hp_iald hx hb hK rfl hst hmF.a3 (j := ((9139 * r) + k)) (by omega) (by omega) dR_isSame_58 ?_
        refine tp_n (e2 := P r (pl k)) u1 ?_
        refine lv_aload_n hx hb dR_isSame_59 rfl (lv_at hl 0 rfl) ?_
        refine hp_get hx hb hG in_R hown hK hst hmF.ob rfl 5 (by decide) (hG _ fl_R_18) rfl rfl dR_isSame_60 ?_
        refine lv_sipush (v := nI 9139) hx hb dR_isSame_63 (by decide +kernel) ?_
        refine lv_iload_n hx hb dR_isSame_66 rfl (lv_at hl 2 rfl) ?_
        refine t_imul hx hb dR_isSame_67 (v := nI (9139 * a)) (pk_mul _ _) ?_
        refine lv_iload hx hb dR_isSame_68 (lv_at hl 4 rfl) ?_
        refine t_iadd hx hb dR_isSame_70 (v := nI ((9139 * a) + k)) (nI_add _ _) ?_
        refine hp_iald hx hb hK rfl hst hmF.a3 (j := ((9139 * a) + k)) (by omega) (by omega) dR_isSame_71 ?_
        refine tp_n (e2 := P a (pl k)) u2 ?_
        refine lv_icmp_ne hx hb dR_isSame_72 (tgt := 79) rfl (fun hc => ?_) (fun hc => ?_)
        · skip
          have hce : ¬ (P r (pl k)) = (P a (pl k)) := fun z => hc ((nI_eq (by omega) (by omega)).mpr z)
          refine lv_iconst (v := nI 0) hx hb dR_isSame_79 (by decide +kernel) ?_
          refine lv_istore_n (lv' := [(3, .int (nI 0)), (0, .ref ma), (1, .int (nI r)), (2, .int (nI a)), (4, .int (nI k))]) hx hb dR_isSame_80 rfl hl (by decide) rfl (fun ls hl => ?_)
          refine lv_iinc (lv' := [(4, .int (nI (k + 1))), (3, .int (nI 0)), (0, .ref ma), (1, .int (nI r)), (2, .int (nI a))]) hx hb dR_isSame_81 hl (k := 4) rfl (ii_p _) (by decide) rfl (fun ls hl => ?_)
          refine lv_goto hx hb dR_isSame_84 (tgt := 34) rfl ?_
          exact ihLP _ (by omega) 0 (k + 1) _ _ _ rfl (by omega) (by omega) ⟨fun q => by omega, fun q => absurd (q k (by omega)) hce⟩ hst (lv_sub hl [2, 3, 4, 1, 0] rfl)
        · skip
          have hce : (P r (pl k)) = (P a (pl k)) := (nI_eq (by omega) (by omega)).mp hc
          refine lv_iconst (v := nI 1) hx hb dR_isSame_75 (by decide +kernel) ?_
          refine lv_goto hx hb dR_isSame_76 (tgt := 80) rfl ?_
          refine lv_istore_n (lv' := [(3, .int (nI 1)), (0, .ref ma), (1, .int (nI r)), (2, .int (nI a)), (4, .int (nI k))]) hx hb dR_isSame_80 rfl hl (by decide) rfl (fun ls hl => ?_)
          refine lv_iinc (lv' := [(4, .int (nI (k + 1))), (3, .int (nI 1)), (0, .ref ma), (1, .int (nI r)), (2, .int (nI a))]) hx hb dR_isSame_81 hl (k := 4) rfl (ii_p _) (by decide) rfl (fun ls hl => ?_)
          refine lv_goto hx hb dR_isSame_84 (tgt := 34) rfl ?_
          exact ihLP _ (by omega) 1 (k + 1) _ _ _ rfl (by omega) (by omega) ⟨fun _ i hi => by
              by_cases h9 : i = k
              · rw [h9]; exact hce
              · exact hinv.mp (by omega) i (by omega), fun _ => rfl⟩ hst (lv_sub hl [2, 3, 4, 1, 0] rfl)
  exact LP _ 1 0 _ _ _ rfl (by omega) (by omega) ⟨fun _ i hi => by omega, fun _ => rfl⟩ hst (lv_sub hl [2, 3, 4, 1, 0] rfl)

set_option maxHeartbeats 4000000 in
set_option maxRecDepth 100000 in
theorem e_R_isSame (l : Launch) (D : va_G) (Y : Nat → ClassId) (lo : Nat) {M : Hm} {ma p rf th : Nat} {E : Nat → Nat} {c : Nat → Nat → Nat} (hm : mo Y M ma E p rf th c) {x1 x2 : Int32} (hno : ¬ (inR x1 ∧ inR x2)) : ct l D Y lo y_R_isSame b_R_isSame 5 (some .boolean) 1 [.ref ma, .int x1, .int x2] M (fun r9 M' => ∃ t : Nat, r9 = some (.int (nI 0)) ∧ mo Y M' ma E p rf t c ∧ (t = 1 ∧ ¬ (inR x1 ∧ inR x2) ∨ t = 2 ∧ (inR x1 ∧ inR x2)) ∧ hp_off (fun i => i = 1000) M M') nx 0 0 := by
  refine ct_of (by decide) (Nat.le_of_ble_eq_true rfl) ?_
  intro pg eg sg mg bw mt cg ls X hst hl
  have X1 := X
  obtain ⟨hx, hb, hml, hrt, hlocks, hown, hnm, hts, hkz, hex⟩ := X1
  have hG : ∀ w ∈ GW, w.before _ sg = true := fun w h => hts w (List.mem_cons_of_mem _ h)
  have hK := hkz.1
  have hl : lv_has ls 5 [(0, .ref ma), (1, .int x1), (2, .int x2)] := hl
  refine lv_aload_n hx hb dR_isSame_0 rfl (lv_at hl 0 rfl) ?_
  refine lv_iload_n hx hb dR_isSame_1 rfl (lv_at hl 1 rfl) ?_
  refine ct_callS (av2 := [.int x1]) (rest := [.ref ma]) X hst (c_R_isRegister l D Y lo x1) wc_R_isRegister ml_R_85 ws_R_isRegister wn_R md_R_isRegister (by decide) hl.1 rfl (Nat.le_of_ble_eq_true rfl) ⟨by omega, by omega⟩ (fun _ _ h => h.elim) dR_isSame_2 (fun r M' H locs hp hst => ?_)
  obtain ⟨b1, rfl, hb1, ib1, rfl⟩ := hp
  refine lv_if_eq hx hb dR_isSame_5 (tgt := 15) rfl (fun hc => ?_) (fun hc => ?_)
  · skip
    rw [← nI_0] at hc
    have hz1 : b1 = 0 := (nI_eq (by omega) (by omega)).mp hc
    refine lv_iconst (v := nI 1) hx hb dR_isSame_15 (by decide +kernel) ?_
    refine lv_goto hx hb dR_isSame_16 (tgt := 20) rfl ?_
    refine lv_iconst (v := nI 0) hx hb dR_isSame_20 (by decide +kernel) ?_
    refine ct_callV (av2 := [.int (nI 1), .int (nI 0)]) (rest := []) (b := ma) X hst (c_R_fails l D Y lo hm (a := 1) (b := 0) (by omega) (by omega)) hm.ob rfl wc_R_fails ml_R_88 wi_R_fails wl_R_fails wn_R md_R_fails (by decide) hl.1 rfl (Nat.le_of_ble_eq_true rfl) ⟨by omega, by omega⟩ (fun _ _ h => h.elim) dR_isSame_21 (fun r MF H locs hp hst => ?_)
    obtain ⟨rfl, hmF, hoF⟩ := hp
    have hmF : mo Y MF ma E p rf 1 c := hmF
    refine lv_if_eq hx hb dR_isSame_24 (tgt := 29) rfl (fun hc => absurd hc (by decide)) (fun hc => ?_)
    refine lv_iconst (v := nI 0) hx hb dR_isSame_27 (by decide +kernel) ?_
    exact ct_zret X hst (by omega) ⟨1, rfl, hmF, Or.inl ⟨rfl, hno⟩, hoF⟩ (by omega) (by omega) dR_isSame_28
  · skip
    rw [← nI_0] at hc
    have hz1 : ¬ b1 = 0 := fun z => hc ((nI_eq (by omega) (by omega)).mpr z)
    refine lv_iload_n hx hb dR_isSame_8 rfl (lv_at hl 2 rfl) ?_
    refine ct_callS (av2 := [.int x2]) (rest := [.ref ma]) X hst (c_R_isRegister l D Y lo x2) wc_R_isRegister ml_R_85 ws_R_isRegister wn_R md_R_isRegister (by decide) hl.1 rfl (Nat.le_of_ble_eq_true rfl) ⟨by omega, by omega⟩ (fun _ _ h => h.elim) dR_isSame_9 (fun r M' H locs hp hst => ?_)
    obtain ⟨b2, rfl, hb2, ib2, rfl⟩ := hp
    refine lv_if_ne hx hb dR_isSame_12 (tgt := 19) rfl (fun hc => ?_) (fun hc => ?_)
    · skip
      rw [← nI_0] at hc
      have hz2 : ¬ b2 = 0 := fun z => hc ((nI_eq (by omega) (by omega)).mpr z)
      exact absurd ⟨ib1.mp (by omega), ib2.mp (by omega)⟩ hno
    · skip
      rw [← nI_0] at hc
      have hz2 : b2 = 0 := (nI_eq (by omega) (by omega)).mp hc
      refine lv_iconst (v := nI 1) hx hb dR_isSame_15 (by decide +kernel) ?_
      refine lv_goto hx hb dR_isSame_16 (tgt := 20) rfl ?_
      refine lv_iconst (v := nI 0) hx hb dR_isSame_20 (by decide +kernel) ?_
      refine ct_callV (av2 := [.int (nI 1), .int (nI 0)]) (rest := []) (b := ma) X hst (c_R_fails l D Y lo hm (a := 1) (b := 0) (by omega) (by omega)) hm.ob rfl wc_R_fails ml_R_88 wi_R_fails wl_R_fails wn_R md_R_fails (by decide) hl.1 rfl (Nat.le_of_ble_eq_true rfl) ⟨by omega, by omega⟩ (fun _ _ h => h.elim) dR_isSame_21 (fun r MF H locs hp hst => ?_)
      obtain ⟨rfl, hmF, hoF⟩ := hp
      have hmF : mo Y MF ma E p rf 1 c := hmF
      refine lv_if_eq hx hb dR_isSame_24 (tgt := 29) rfl (fun hc => absurd hc (by decide)) (fun hc => ?_)
      refine lv_iconst (v := nI 0) hx hb dR_isSame_27 (by decide +kernel) ?_
      exact ct_zret X hst (by omega) ⟨1, rfl, hmF, Or.inl ⟨rfl, hno⟩, hoF⟩ (by omega) (by omega) dR_isSame_28

set_option maxHeartbeats 4000000 in
set_option maxRecDepth 100000 in
theorem c_R_coefficient (l : Launch) (D : va_G) (Y : Nat → ClassId) (lo : Nat) {M : Hm} {ma p rf th : Nat} {E : Nat → Nat} {c : Nat → Nat → Nat} (hm : mo Y M ma E p rf th c) {P : Nat → Pf} (hP : rr c P) (hPp : ∀ r, r < 12 → ∀ m, P r m < p) {r e0 e1 e2 : Nat} (hr : r < 12) (h0 : e0 < 2 ^ 31) (h1 : e1 < 2 ^ 31) (h2 : e2 < 2 ^ 31) : ct l D Y lo y_R_coefficient b_R_coefficient 6 (some .int) 1 [.ref ma, .int (nI r), .int (nI e0), .int (nI e1), .int (nI e2)] M (fun r9 M' => ∃ c' : Nat → Nat → Nat, r9 = some (.int (nI (if e0 + e1 + e2 ≤ 36 then cfo (mp e0 e1 e2) (tp (P r)) else 0))) ∧ mo Y M' ma E p rf 0 c' ∧ rr c' (P) ∧ hp_off (fun i => i = 1000) M M') nx 0 0 := by
  refine ct_of (by decide) (Nat.le_of_ble_eq_true rfl) ?_
  intro pg eg sg mg bw mt cg ls X hst hl
  have X1 := X
  obtain ⟨hx, hb, hml, hrt, hlocks, hown, hnm, hts, hkz, hex⟩ := X1
  have hG : ∀ w ∈ GW, w.before _ sg = true := fun w h => hts w (List.mem_cons_of_mem _ h)
  have hK := hkz.1
  have hl : lv_has ls 6 [(0, .ref ma), (1, .int (nI r)), (2, .int (nI e0)), (3, .int (nI e1)), (4, .int (nI e2))] := hl
  obtain ⟨hp2, hp3⟩ := hm.p2
  refine lv_iload_n hx hb dR_coefficient_0 rfl (lv_at hl 1 rfl) ?_
  refine ct_callS (av2 := [.int (nI r)]) (rest := []) X hst (g_R_isRegister l D Y lo hr) wc_R_isRegister ml_R_85 ws_R_isRegister wn_R md_R_isRegister (by decide) hl.1 rfl (Nat.le_of_ble_eq_true rfl) ⟨by omega, by omega⟩ (fun _ _ h => h.elim) dR_coefficient_1 (fun r M' H locs hp hst => ?_)
  obtain ⟨rfl, rfl⟩ := hp
  refine lv_istore (lv' := [(5, .int (nI 1)), (0, .ref ma), (1, .int (nI r)), (2, .int (nI e0)), (3, .int (nI e1)), (4, .int (nI e2))]) hx hb dR_coefficient_4 hl (by decide) rfl (fun ls hl => ?_)
  refine lv_aload_n hx hb dR_coefficient_6 rfl (lv_at hl 1 rfl) ?_
  refine lv_iload hx hb dR_coefficient_7 (lv_at hl 0 rfl) ?_
  refine lv_if_ne hx hb dR_coefficient_9 (tgt := 16) rfl (fun hc => ?_) (fun hc => absurd hc (by decide))
  refine lv_iconst (v := nI 0) hx hb dR_coefficient_16 (by decide +kernel) ?_
  refine lv_iload hx hb dR_coefficient_17 (lv_at hl 0 rfl) ?_
  refine lv_if_eq hx hb dR_coefficient_19 (tgt := 39) rfl (fun hc => absurd hc (by decide)) (fun hc => ?_)
  refine lv_iload_n hx hb dR_coefficient_22 rfl (lv_at hl 3 rfl) ?_
  refine lv_if_lt hx hb dR_coefficient_23 (tgt := 35) rfl (fun hc => ?_) (fun hc => ?_)
  · skip
    rw [← nI_0] at hc
    have hq : e0 < 0 := (nI_ltI (by omega) (by omega)).mp hc
    exact absurd hq (by omega)
  · skip
    rw [← nI_0] at hc
    have hq : ¬ e0 < 0 := fun z => hc ((nI_ltI (by omega) (by omega)).mpr z)
    refine lv_iload_n hx hb dR_coefficient_26 rfl (lv_at hl 4 rfl) ?_
    refine lv_if_lt hx hb dR_coefficient_27 (tgt := 35) rfl (fun hc => ?_) (fun hc => ?_)
    · skip
      rw [← nI_0] at hc
      have hq : e1 < 0 := (nI_ltI (by omega) (by omega)).mp hc
      exact absurd hq (by omega)
    · skip
      rw [← nI_0] at hc
      have hq : ¬ e1 < 0 := fun z => hc ((nI_ltI (by omega) (by omega)).mpr z)
      refine lv_iload hx hb dR_coefficient_30 (lv_at hl 5 rfl) ?_
      refine lv_if_ge hx hb dR_coefficient_32 (tgt := 39) rfl (fun hc => ?_) (fun hc => ?_)
      · skip
        rw [← nI_0] at hc
        have hq : 0 ≤ e2 := (nI_leI (by omega) (by omega)).mp hc
        refine lv_iconst (v := nI 0) hx hb dR_coefficient_39 (by decide +kernel) ?_
        refine ct_callV (av2 := [.int (nI 0), .int (nI 0)]) (rest := []) (b := ma) X hst (c_R_fails l D Y lo hm (a := 0) (b := 0) (by omega) (by omega)) hm.ob rfl wc_R_fails ml_R_88 wi_R_fails wl_R_fails wn_R md_R_fails (by decide) hl.1 rfl (Nat.le_of_ble_eq_true rfl) ⟨by omega, by omega⟩ (fun _ _ h => h.elim) dR_coefficient_40 (fun r MF H locs hp hst => ?_)
        obtain ⟨rfl, hmF, hoF⟩ := hp
        have hmF : mo Y MF ma E p rf 0 c := hmF
        refine lv_if_eq hx hb dR_coefficient_43 (tgt := 48) rfl (fun hc => ?_) (fun hc => absurd hc (by decide))
        refine lv_iload_n hx hb dR_coefficient_48 rfl (lv_at hl 3 rfl) ?_
        refine lv_i2l (v := lN e0) hx hb dR_coefficient_49 (nI_l (by omega)) ?_
        refine lv_iload_n hx hb dR_coefficient_50 rfl (lv_at hl 4 rfl) ?_
        refine lv_i2l (v := lN e1) hx hb dR_coefficient_51 (nI_l (by omega)) ?_
        refine lv_ladd hx hb dR_coefficient_52 ?_
        refine tp_l (e2 := lN (e0 + e1)) (lN_add _ _) ?_
        refine lv_iload hx hb dR_coefficient_53 (lv_at hl 5 rfl) ?_
        refine lv_i2l (v := lN e2) hx hb dR_coefficient_55 (nI_l (by omega)) ?_
        refine lv_ladd hx hb dR_coefficient_56 ?_
        refine tp_l (e2 := lN ((e0 + e1) + e2)) (lN_add _ _) ?_
        refine lv_ldc2 (v := lN 36) hx hb hown (hG _ kl_R_143) dR_coefficient_57 ?_
        refine lv_lcmp hx hb dR_coefficient_60 ?_
        have hs36 : (lN (e0 + e1 + e2)).toInt = ((e0 + e1 + e2 : Nat) : Int) := lN_big (by omega)
        have hk36 : (lN 36).toInt = 36 := lN_big (by omega)
        refine lv_if_le hx hb dR_coefficient_61 (tgt := 68) rfl (fun hc => ?_) (fun hc => ?_)
        · skip
          have h36 : e0 + e1 + e2 ≤ 36 := by have := lcm3_le.mp hc; omega
          have hmv := mv_mp h36
          have hrk := rk_lt hmv
          refine lv_aload_n hx hb dR_coefficient_68 rfl (lv_at hl 1 rfl) ?_
          refine hp_get hx hb hG in_R hown hK hst hmF.ob rfl 5 (by decide) (hG _ fl_R_18) rfl rfl dR_coefficient_69 ?_
          refine lv_sipush (v := nI 9139) hx hb dR_coefficient_72 (by decide +kernel) ?_
          refine lv_iload_n hx hb dR_coefficient_75 rfl (lv_at hl 2 rfl) ?_
          refine t_imul hx hb dR_coefficient_76 (v := nI (9139 * r)) (pk_mul _ _) ?_
          refine lv_aload_n hx hb dR_coefficient_77 rfl (lv_at hl 1 rfl) ?_
          refine lv_iload_n hx hb dR_coefficient_78 rfl (lv_at hl 3 rfl) ?_
          refine lv_iload_n hx hb dR_coefficient_79 rfl (lv_at hl 4 rfl) ?_
          refine lv_iload hx hb dR_coefficient_80 (lv_at hl 5 rfl) ?_
          refine ct_callV (av2 := [.int (nI e0), .int (nI e1), .int (nI e2)]) (rest := [.int (nI (9139 * r)), .ref (E 3)]) (b := ma) X hst (c_R_place l D Y lo hmF h36) hmF.ob rfl wc_R_place ml_R_62 wi_R_place wl_R_place wn_R md_R_place (by decide) hl.1 rfl (Nat.le_of_ble_eq_true rfl) ⟨by omega, by omega⟩ (fun _ _ h => h.elim) dR_coefficient_82 (fun r M' H locs hp hst => ?_)
          obtain ⟨rfl, rfl⟩ := hp
          refine t_iadd hx hb dR_coefficient_85 (v := nI ((9139 * r) + (9138 - rk (mp e0 e1 e2)))) (nI_add _ _) ?_
          refine hp_iald hx hb hK rfl hst hmF.a3 (j := ((9139 * r) + (9138 - rk (mp e0 e1 e2)))) (by omega) (by omega) dR_coefficient_86 ?_
          refine tp_n (e2 := P r (mp e0 e1 e2)) (by rw [hP r hr _ (by omega), pl_rk hmv]) ?_
          exact ct_iret X hst ⟨c, by rw [if_pos h36, cfo_tp hmv], hmF, hP, hoF⟩ (by omega) (by omega) dR_coefficient_87
        · skip
          have h36 : ¬ e0 + e1 + e2 ≤ 36 := fun z => hc (lcm3_le.mpr (by omega))
          refine lv_iconst (v := nI 0) hx hb dR_coefficient_64 (by decide +kernel) ?_
          refine lv_goto hx hb dR_coefficient_65 (tgt := 87) rfl ?_
          exact ct_iret X hst ⟨c, by rw [if_neg h36], hmF, hP, hoF⟩ (by omega) (by omega) dR_coefficient_87
      · skip
        rw [← nI_0] at hc
        have hq : ¬ 0 ≤ e2 := fun z => hc ((nI_leI (by omega) (by omega)).mpr z)
        exact absurd hq (by omega)

set_option maxHeartbeats 4000000 in
set_option maxRecDepth 100000 in
theorem e_R_coefficient (l : Launch) (D : va_G) (Y : Nat → ClassId) (lo : Nat) {M : Hm} {ma p rf th : Nat} {E : Nat → Nat} {c : Nat → Nat → Nat} (hm : mo Y M ma E p rf th c) {x1 x2 x3 x4 : Int32} (hno : ¬ (inR x1 ∧ ¬ x2 < 0 ∧ ¬ x3 < 0 ∧ ¬ x4 < 0)) : ct l D Y lo y_R_coefficient b_R_coefficient 6 (some .int) 1 [.ref ma, .int x1, .int x2, .int x3, .int x4] M (fun r9 M' => ∃ t : Nat, r9 = some (.int (nI 0)) ∧ mo Y M' ma E p rf t c ∧ (t = 1 ∧ ¬ (inR x1) ∨ t = 2 ∧ (inR x1)) ∧ hp_off (fun i => i = 1000) M M') nx 0 0 := by
  refine ct_of (by decide) (Nat.le_of_ble_eq_true rfl) ?_
  intro pg eg sg mg bw mt cg ls X hst hl
  have X1 := X
  obtain ⟨hx, hb, hml, hrt, hlocks, hown, hnm, hts, hkz, hex⟩ := X1
  have hG : ∀ w ∈ GW, w.before _ sg = true := fun w h => hts w (List.mem_cons_of_mem _ h)
  have hK := hkz.1
  have hl : lv_has ls 6 [(0, .ref ma), (1, .int x1), (2, .int x2), (3, .int x3), (4, .int x4)] := hl
  by_cases h1 : inR x1
  · skip
    have h1b := h1
    obtain ⟨r, hr, rfl⟩ := h1
    refine lv_iload_n hx hb dR_coefficient_0 rfl (lv_at hl 1 rfl) ?_
    refine ct_callS (av2 := [.int (nI r)]) (rest := []) X hst (g_R_isRegister l D Y lo hr) wc_R_isRegister ml_R_85 ws_R_isRegister wn_R md_R_isRegister (by decide) hl.1 rfl (Nat.le_of_ble_eq_true rfl) ⟨by omega, by omega⟩ (fun _ _ h => h.elim) dR_coefficient_1 (fun r M' H locs hp hst => ?_)
    obtain ⟨rfl, rfl⟩ := hp
    refine lv_istore (lv' := [(5, .int (nI 1)), (0, .ref ma), (1, .int (nI r)), (2, .int x2), (3, .int x3), (4, .int x4)]) hx hb dR_coefficient_4 hl (by decide) rfl (fun ls hl => ?_)
    refine lv_aload_n hx hb dR_coefficient_6 rfl (lv_at hl 1 rfl) ?_
    refine lv_iload hx hb dR_coefficient_7 (lv_at hl 0 rfl) ?_
    refine lv_if_ne hx hb dR_coefficient_9 (tgt := 16) rfl (fun hc => ?_) (fun hc => absurd hc (by decide))
    refine lv_iconst (v := nI 0) hx hb dR_coefficient_16 (by decide +kernel) ?_
    refine lv_iload hx hb dR_coefficient_17 (lv_at hl 0 rfl) ?_
    refine lv_if_eq hx hb dR_coefficient_19 (tgt := 39) rfl (fun hc => absurd hc (by decide)) (fun hc => ?_)
    refine lv_iload_n hx hb dR_coefficient_22 rfl (lv_at hl 3 rfl) ?_
    refine lv_if_lt hx hb dR_coefficient_23 (tgt := 35) rfl (fun hc => ?_) (fun hc => ?_)
    · skip
      refine lv_iconst (v := nI 1) hx hb dR_coefficient_35 (by decide +kernel) ?_
      refine lv_goto hx hb dR_coefficient_36 (tgt := 40) rfl ?_
      refine ct_callV (av2 := [.int (nI 0), .int (nI 1)]) (rest := []) (b := ma) X hst (c_R_fails l D Y lo hm (a := 0) (b := 1) (by omega) (by omega)) hm.ob rfl wc_R_fails ml_R_88 wi_R_fails wl_R_fails wn_R md_R_fails (by decide) hl.1 rfl (Nat.le_of_ble_eq_true rfl) ⟨by omega, by omega⟩ (fun _ _ h => h.elim) dR_coefficient_40 (fun r MF H locs hp hst => ?_)
      obtain ⟨rfl, hmF, hoF⟩ := hp
      have hmF : mo Y MF ma E p rf 2 c := hmF
      refine lv_if_eq hx hb dR_coefficient_43 (tgt := 48) rfl (fun hc => absurd hc (by decide)) (fun hc => ?_)
      refine lv_iconst (v := nI 0) hx hb dR_coefficient_46 (by decide +kernel) ?_
      exact ct_iret X hst ⟨2, rfl, hmF, Or.inr ⟨rfl, h1b⟩, hoF⟩ (by omega) (by omega) dR_coefficient_47
    · skip
      have n2 := hc
      refine lv_iload_n hx hb dR_coefficient_26 rfl (lv_at hl 4 rfl) ?_
      refine lv_if_lt hx hb dR_coefficient_27 (tgt := 35) rfl (fun hc => ?_) (fun hc => ?_)
      · skip
        refine lv_iconst (v := nI 1) hx hb dR_coefficient_35 (by decide +kernel) ?_
        refine lv_goto hx hb dR_coefficient_36 (tgt := 40) rfl ?_
        refine ct_callV (av2 := [.int (nI 0), .int (nI 1)]) (rest := []) (b := ma) X hst (c_R_fails l D Y lo hm (a := 0) (b := 1) (by omega) (by omega)) hm.ob rfl wc_R_fails ml_R_88 wi_R_fails wl_R_fails wn_R md_R_fails (by decide) hl.1 rfl (Nat.le_of_ble_eq_true rfl) ⟨by omega, by omega⟩ (fun _ _ h => h.elim) dR_coefficient_40 (fun r MF H locs hp hst => ?_)
        obtain ⟨rfl, hmF, hoF⟩ := hp
        have hmF : mo Y MF ma E p rf 2 c := hmF
        refine lv_if_eq hx hb dR_coefficient_43 (tgt := 48) rfl (fun hc => absurd hc (by decide)) (fun hc => ?_)
        refine lv_iconst (v := nI 0) hx hb dR_coefficient_46 (by decide +kernel) ?_
        exact ct_iret X hst ⟨2, rfl, hmF, Or.inr ⟨rfl, h1b⟩, hoF⟩ (by omega) (by omega) dR_coefficient_47
      · skip
        have n3 := hc
        refine lv_iload hx hb dR_coefficient_30 (lv_at hl 5 rfl) ?_
        refine lv_if_ge hx hb dR_coefficient_32 (tgt := 39) rfl (fun hc => ?_) (fun hc => ?_)
        · skip
          exact absurd ⟨h1b, n2, n3, fun z => Int32.not_le.mpr z hc⟩ hno
        · skip
          refine lv_iconst (v := nI 1) hx hb dR_coefficient_35 (by decide +kernel) ?_
          refine lv_goto hx hb dR_coefficient_36 (tgt := 40) rfl ?_
          refine ct_callV (av2 := [.int (nI 0), .int (nI 1)]) (rest := []) (b := ma) X hst (c_R_fails l D Y lo hm (a := 0) (b := 1) (by omega) (by omega)) hm.ob rfl wc_R_fails ml_R_88 wi_R_fails wl_R_fails wn_R md_R_fails (by decide) hl.1 rfl (Nat.le_of_ble_eq_true rfl) ⟨by omega, by omega⟩ (fun _ _ h => h.elim) dR_coefficient_40 (fun r MF H locs hp hst => ?_)
          obtain ⟨rfl, hmF, hoF⟩ := hp
          have hmF : mo Y MF ma E p rf 2 c := hmF
          refine lv_if_eq hx hb dR_coefficient_43 (tgt := 48) rfl (fun hc => absurd hc (by decide)) (fun hc => ?_)
          refine lv_iconst (v := nI 0) hx hb dR_coefficient_46 (by decide +kernel) ?_
          exact ct_iret X hst ⟨2, rfl, hmF, Or.inr ⟨rfl, h1b⟩, hoF⟩ (by omega) (by omega) dR_coefficient_47
  · skip
    refine lv_iload_n hx hb dR_coefficient_0 rfl (lv_at hl 1 rfl) ?_
    refine ct_callS (av2 := [.int x1]) (rest := []) X hst (e_R_isRegister l D Y lo h1) wc_R_isRegister ml_R_85 ws_R_isRegister wn_R md_R_isRegister (by decide) hl.1 rfl (Nat.le_of_ble_eq_true rfl) ⟨by omega, by omega⟩ (fun _ _ h => h.elim) dR_coefficient_1 (fun r M' H locs hp hst => ?_)
    obtain ⟨rfl, rfl⟩ := hp
    refine lv_istore (lv' := [(5, .int (nI 0)), (0, .ref ma), (1, .int x1), (2, .int x2), (3, .int x3), (4, .int x4)]) hx hb dR_coefficient_4 hl (by decide) rfl (fun ls hl => ?_)
    refine lv_aload_n hx hb dR_coefficient_6 rfl (lv_at hl 1 rfl) ?_
    refine lv_iload hx hb dR_coefficient_7 (lv_at hl 0 rfl) ?_
    refine lv_if_ne hx hb dR_coefficient_9 (tgt := 16) rfl (fun hc => absurd hc (by decide)) (fun hc => ?_)
    refine lv_iconst (v := nI 1) hx hb dR_coefficient_12 (by decide +kernel) ?_
    refine lv_goto hx hb dR_coefficient_13 (tgt := 17) rfl ?_
    refine lv_iload hx hb dR_coefficient_17 (lv_at hl 0 rfl) ?_
    refine lv_if_eq hx hb dR_coefficient_19 (tgt := 39) rfl (fun hc => ?_) (fun hc => absurd hc (by decide))
    refine lv_iconst (v := nI 0) hx hb dR_coefficient_39 (by decide +kernel) ?_
    refine ct_callV (av2 := [.int (nI 1), .int (nI 0)]) (rest := []) (b := ma) X hst (c_R_fails l D Y lo hm (a := 1) (b := 0) (by omega) (by omega)) hm.ob rfl wc_R_fails ml_R_88 wi_R_fails wl_R_fails wn_R md_R_fails (by decide) hl.1 rfl (Nat.le_of_ble_eq_true rfl) ⟨by omega, by omega⟩ (fun _ _ h => h.elim) dR_coefficient_40 (fun r MF H locs hp hst => ?_)
    obtain ⟨rfl, hmF, hoF⟩ := hp
    have hmF : mo Y MF ma E p rf 1 c := hmF
    refine lv_if_eq hx hb dR_coefficient_43 (tgt := 48) rfl (fun hc => absurd hc (by decide)) (fun hc => ?_)
    refine lv_iconst (v := nI 0) hx hb dR_coefficient_46 (by decide +kernel) ?_
    exact ct_iret X hst ⟨1, rfl, hmF, Or.inl ⟨rfl, h1⟩, hoF⟩ (by omega) (by omega) dR_coefficient_47
