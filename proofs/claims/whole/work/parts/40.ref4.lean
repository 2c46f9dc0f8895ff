/-! The reference: power, derive, put, degree. -/
set_option maxHeartbeats 4000000 in
set_option maxRecDepth 100000 in
theorem c_R_power (l : Launch) (D : va_G) (Y : Nat → ClassId) (lo : Nat) {M : Hm} {ma p rf th : Nat} {E : Nat → Nat} {c : Nat → Nat → Nat} (hm : mo Y M ma E p rf th c) {P : Nat → Pf} (hP : rr c P) (hPp : ∀ r, r < 12 → ∀ m, P r m < p) {r a : Nat} (hr : r < 12) (ha : a < 12) {n : Nat} (hn : n ≤ 100) (hdg : ∀ u, u < 3 → n * dgl u (tp (P a)) 0 ≤ 12) : ct l D Y lo y_R_power b_R_power 7 (some .boolean) 3 [.ref ma, .int (nI r), .int (nI a), .int (nI n)] M (fun r9 M' => ∃ c' : Nat → Nat → Nat, r9 = some (.int (nI 1)) ∧ mo Y M' ma E p rf 0 c' ∧ rr c' (va_up P r (pwP p (P a) n)) ∧ hp_off (fun i => i = 1000) M M') nx 0 0 := by
  refine ct_of (by decide) (Nat.le_of_ble_eq_true rfl) ?_
  intro pg eg sg mg bw mt cg ls X hst hl
  have X1 := X
  obtain ⟨hx, hb, hml, hrt, hlocks, hown, hnm, hts, hkz, hex⟩ := X1
  have hG : ∀ w ∈ GW, w.before _ sg = true := fun w h => hts w (List.mem_cons_of_mem _ h)
  have hK := hkz.1
  have hl : lv_has ls 7 [(0, .ref ma), (1, .int (nI r)), (2, .int (nI a)), (3, .int (nI n))] := hl
  obtain ⟨hp2, hp3⟩ := hm.p2
  refine lv_iload_n hx hb dR_power_0 rfl (lv_at hl 1 rfl) ?_
  refine ct_callS (av2 := [.int (nI r)]) (rest := []) X hst (g_R_isRegister l D Y lo hr) wc_R_isRegister ml_R_85 ws_R_isRegister wn_R md_R_isRegister (by decide) hl.1 rfl (Nat.le_of_ble_eq_true rfl) ⟨by omega, by omega⟩ (fun _ _ h => h.elim) dR_power_1 (fun r M' H locs hp hst => ?_)
  obtain ⟨rfl, rfl⟩ := hp
  refine lv_if_eq hx hb dR_power_4 (tgt := 18) rfl (fun hc => absurd hc (by decide)) (fun hc => ?_)
  refine lv_iload_n hx hb dR_power_7 rfl (lv_at hl 2 rfl) ?_
  refine ct_callS (av2 := [.int (nI a)]) (rest := []) X hst (g_R_isRegister l D Y lo ha) wc_R_isRegister ml_R_85 ws_R_isRegister wn_R md_R_isRegister (by decide) hl.1 rfl (Nat.le_of_ble_eq_true rfl) ⟨by omega, by omega⟩ (fun _ _ h => h.elim) dR_power_8 (fun r M' H locs hp hst => ?_)
  obtain ⟨rfl, rfl⟩ := hp
  refine lv_if_eq hx hb dR_power_11 (tgt := 18) rfl (fun hc => absurd hc (by decide)) (fun hc => ?_)
  refine lv_iconst (v := nI 1) hx hb dR_power_14 (by decide +kernel) ?_
  refine lv_goto hx hb dR_power_15 (tgt := 19) rfl ?_
  refine lv_istore (lv' := [(4, .int (nI 1)), (0, .ref ma), (1, .int (nI r)), (2, .int (nI a)), (3, .int (nI n))]) hx hb dR_power_19 hl (by decide) rfl (fun ls hl => ?_)
  refine lv_aload_n hx hb dR_power_21 rfl (lv_at hl 1 rfl) ?_
  refine lv_iload hx hb dR_power_22 (lv_at hl 0 rfl) ?_
  refine lv_if_ne hx hb dR_power_24 (tgt := 31) rfl (fun hc => ?_) (fun hc => absurd hc (by decide))
  refine lv_iconst (v := nI 0) hx hb dR_power_31 (by decide +kernel) ?_
  refine lv_iload hx hb dR_power_32 (lv_at hl 0 rfl) ?_
  refine lv_if_eq hx hb dR_power_34 (tgt := 51) rfl (fun hc => absurd hc (by decide)) (fun hc => ?_)
  refine lv_iload_n hx hb dR_power_37 rfl (lv_at hl 4 rfl) ?_
  refine lv_if_lt hx hb dR_power_38 (tgt := 47) rfl (fun hc => ?_) (fun hc => ?_)
  · skip
    rw [← nI_0] at hc
    have hcn : n < 0 := (nI_ltI (by omega) (by omega)).mp hc
    exact absurd hcn (by omega)
  · skip
    rw [← nI_0] at hc
    have hcn : ¬ n < 0 := fun z => hc ((nI_ltI (by omega) (by omega)).mpr z)
    refine lv_iload_n hx hb dR_power_41 rfl (lv_at hl 4 rfl) ?_
    refine lv_bipush (v := nI 100) hx hb dR_power_42 (by decide +kernel) ?_
    refine lv_icmp_le hx hb dR_power_44 (tgt := 51) rfl (fun hc => ?_) (fun hc => ?_)
    · skip
      have hcn : n ≤ 100 := (nI_leI (by omega) (by omega)).mp hc
      refine lv_iconst (v := nI 0) hx hb dR_power_51 (by decide +kernel) ?_
      refine ct_callV (av2 := [.int (nI 0), .int (nI 0)]) (rest := []) (b := ma) X hst (c_R_fails l D Y lo hm (a := 0) (b := 0) (by omega) (by omega)) hm.ob rfl wc_R_fails ml_R_88 wi_R_fails wl_R_fails wn_R md_R_fails (by decide) hl.1 rfl (Nat.le_of_ble_eq_true rfl) ⟨by omega, by omega⟩ (fun _ _ h => h.elim) dR_power_52 (fun r MF H locs hp hst => ?_)
      obtain ⟨rfl, hmF, hoF⟩ := hp
      have hmF : mo Y MF ma E p rf 0 c := hmF
      refine lv_if_eq hx hb dR_power_55 (tgt := 60) rfl (fun hc => ?_) (fun hc => absurd hc (by decide))
      refine lv_aload_n hx hb dR_power_60 rfl (lv_at hl 1 rfl) ?_
      refine lv_iload_n hx hb dR_power_61 rfl (lv_at hl 3 rfl) ?_
      refine lv_aload_n hx hb dR_power_62 rfl (lv_at hl 1 rfl) ?_
      refine hp_get hx hb hG in_R hown hK hst hmF.ob rfl 7 (by decide) (hG _ fl_R_24) rfl rfl dR_power_63 ?_
      refine ct_callV (av2 := [.int (nI a), .ref (E 5)]) (rest := []) (b := ma) X hst (c_R_load l D Y lo hmF ha (j := 5) (by omega) (by omega)) hmF.ob rfl wc_R_load ml_R_99 wi_R_load wl_R_load wn_R md_R_load (by decide) hl.1 rfl (Nat.le_of_ble_eq_true rfl) ⟨by omega, by omega⟩ (fun _ _ h => h.elim) dR_power_66 (fun r ML5 H locs hp hst => ?_)
      obtain ⟨cL5, rfl, hmL5, sL5, vL5, hoL5⟩ := hp
      have e3 : cL5 3 = c 3 := sL5 3 (by omega)
      have e5 : rp (cL5 5) (P a) := fun k hk => by rw [vL5 k hk]; exact hP a ha k hk
      refine lv_iconst (v := nI 0) hx hb dR_power_69 (by decide +kernel) ?_
      refine lv_istore (lv' := [(5, .int (nI 0)), (4, .int (nI 1)), (0, .ref ma), (1, .int (nI r)), (2, .int (nI a)), (3, .int (nI n))]) hx hb dR_power_70 hl (by decide) rfl (fun ls hl => ?_)
      refine lv_iconst (v := nI 0) hx hb dR_power_72 (by decide +kernel) ?_
      refine lv_istore (lv' := [(6, .int (nI 0)), (5, .int (nI 0)), (4, .int (nI 1)), (0, .ref ma), (1, .int (nI r)), (2, .int (nI a)), (3, .int (nI n))]) hx hb dR_power_73 hl (by decide) rfl (fun ls hl => ?_)
      have LP : ∀ (kk : Nat) (z u : Nat) (H : Heap) (locs : List Loc) (ls : Array Slot), kk = 3 - u → (u ≤ 3) → (z ≤ 1) → (z = 1 ↔ ∃ y, y < u ∧ ¬ n * dgl y (tp (P a)) 0 ≤ 12) → hp_st D vC lo ML5 sg.heap H locs → lv_has ls 7 [(0, .ref ma), (1, .int (nI r)), (3, .int (nI n)), (5, .int (nI z)), (6, .int (nI u))] → cW pg l eg sg mg [.ref ma, .int (nI r), .int (nI a), .int (nI n)] bw mt cg y_R_power b_R_power 7 (some .boolean) 3 D lo (fun r9 M' => ∃ c' : Nat → Nat → Nat, r9 = some (.int (nI 1)) ∧ mo Y M' ma E p rf 0 c' ∧ rr c' (va_up P r (pwP p (P a) n)) ∧ hp_off (fun i => i = 1000) M M') nx 0 0 H locs 0 0 (F0 mg 75 ls []) := by
        intro kk
        induction kk using Nat.strongRecOn with
        | _ kk ihLP =>
        intro z u H locs ls hkk hu9 hz1 hz2 hst hl
        refine lv_iload hx hb dR_power_75 (lv_at hl 4 rfl) ?_
        refine lv_iconst (v := nI 3) hx hb dR_power_77 (by decide +kernel) ?_
        refine lv_icmp_ge hx hb dR_power_78 (tgt := 116) rfl (fun hc => ?_) (fun hc => ?_)
        · skip
          have hc5 : 3 ≤ u := (nI_leI (by omega) (by omega)).mp hc
          refine lv_aload_n hx hb dR_power_116 rfl (lv_at hl 0 rfl) ?_
          refine lv_iload hx hb dR_power_117 (lv_at hl 3 rfl) ?_
          refine ct_callV (av2 := [.int (nI z)]) (rest := []) (b := ma) X hst (c_R_refuses l D Y lo hmL5 (a := z) hz1) hmL5.ob rfl wc_R_refuses ml_R_106 wi_R_refuses wl_R_refuses wn_R md_R_refuses (by decide) hl.1 rfl (Nat.le_of_ble_eq_true rfl) ⟨by omega, by omega⟩ (fun _ _ h => h.elim) dR_power_119 (fun r MR H locs hp hst => ?_)
          obtain ⟨rfl, hmR, hoR⟩ := hp
          have hoo := (hoF.tr hoL5).tr hoR
          have hz0 : z = 0 := by
            have : z ≠ 1 := fun q => by
              obtain ⟨y, y1, y2⟩ := hz2.mp q
              exact y2 (hdg y (by omega))
            omega
          subst hz0
          have hmR : mo Y MR ma E p rf 0 cL5 := hmR
          refine lv_if_eq hx hb dR_power_122 (tgt := 127) rfl (fun hc => ?_) (fun hc => absurd hc (by decide))
          refine lv_aload_n hx hb dR_power_127 rfl (lv_at hl 0 rfl) ?_
          refine hp_get hx hb hG in_R hown hK hst hmR.ob rfl 6 (by decide) (hG _ fl_R_21) rfl rfl dR_power_128 ?_
          refine ct_callS (av2 := [.ref (E 4)]) (rest := []) X hst (c_R_clear l D Y lo hmR (j := 4) (by omega) (by omega)) wc_R_clear ml_R_70 ws_R_clear wn_R md_R_clear (by decide) hl.1 rfl (Nat.le_of_ble_eq_true rfl) ⟨by omega, by omega⟩ (fun _ _ h => h.elim) dR_power_131 (fun r M3 H locs hp hst => ?_)
          obtain ⟨c3, rfl, hm3, s3a, z3, ho3⟩ := hp
          refine lv_aload_n hx hb dR_power_134 rfl (lv_at hl 0 rfl) ?_
          refine hp_get hx hb hG in_R hown hK hst hm3.ob rfl 6 (by decide) (hG _ fl_R_21) rfl rfl dR_power_135 ?_
          refine lv_sipush (v := nI 9138) hx hb dR_power_138 (by decide +kernel) ?_
          refine lv_iconst (v := nI 1) hx hb dR_power_141 (by decide +kernel) ?_
          refine hp_iast hx hb hK rfl hst (hm3.rw (j := 4) (by omega) (by omega)) (j := 9138) (v := 1) (by omega) (by omega) dR_power_142 (fun H locs hst => ?_)
          obtain ⟨hm1, hs2⟩ := hm3.sr (j := 4) (by omega) (by omega) (va_up (c3 4) 9138 1)
          generalize hp_up M3 (E 4) ((1000, 4), e_n Y 9139 (va_up (c3 4) 9138 1)) = M3 at hst hm1 hs2
          have ho4 := (hoo.tr ho3).tr hs2
          have hr4 : rp ((va_up c3 4 (va_up (c3 4) 9138 1)) 4) (pwP p (P a) 0) := by
            rw [va_up_self]
            have h9 := rp_up (v := 1) (h := fun _ => 0) z3 mv_0
            rw [rk_0] at h9
            exact h9
          have hr5 : rp ((va_up c3 4 (va_up (c3 4) 9138 1)) 5) (P a) := by rw [va_up_ne _ _ (by omega), s3a 5 (by omega)]; exact e5
          have h33 : (va_up c3 4 (va_up (c3 4) 9138 1)) 3 = c 3 := by rw [va_up_ne _ _ (by omega), s3a 3 (by omega)]; exact e3
          refine lv_iconst (v := nI 0) hx hb dR_power_143 (by decide +kernel) ?_
          refine lv_istore (lv' := [(6, .int (nI 0)), (0, .ref ma), (1, .int (nI r)), (3, .int (nI n)), (5, .int (nI 0))]) hx hb dR_power_144 hl (by decide) rfl (fun ls hl => ?_)
          have LQ : ∀ (kk : Nat) (k : Nat) (d : Nat → Nat → Nat) (M1 : Hm) (H : Heap) (locs : List Loc) (ls : Array Slot), kk = n - k → (k ≤ n) → (mo Y M1 ma E p rf 0 d) → (rp (d 4) (pwP p (P a) k)) → (rp (d 5) (P a)) → (d 3 = c 3) → (hp_off (fun i => i = 1000) M M1) → hp_st D vC lo M1 sg.heap H locs → lv_has ls 7 [(0, .ref ma), (1, .int (nI r)), (3, .int (nI n)), (6, .int (nI k))] → cW pg l eg sg mg [.ref ma, .int (nI r), .int (nI a), .int (nI n)] bw mt cg y_R_power b_R_power 7 (some .boolean) 3 D lo (fun r9 M' => ∃ c' : Nat → Nat → Nat, r9 = some (.int (nI 1)) ∧ mo Y M' ma E p rf 0 c' ∧ rr c' (va_up P r (pwP p (P a) n)) ∧ hp_off (fun i => i = 1000) M M') nx 0 0 H locs 0 0 (F0 mg 146 ls []) := by
            intro kk
            induction kk using Nat.strongRecOn with
            | _ kk ihLQ =>
            intro k d M1 H locs ls hkk hk9 hmd i4 i5 i3 hod hst hl
            refine lv_iload hx hb dR_power_146 (lv_at hl 3 rfl) ?_
            refine lv_iload_n hx hb dR_power_148 rfl (lv_at hl 2 rfl) ?_
            refine lv_icmp_ge hx hb dR_power_149 (tgt := 170) rfl (fun hc => ?_) (fun hc => ?_)
            · skip
              have hc6 : n ≤ k := (nI_leI (by omega) (by omega)).mp hc
              have hkn : k = n := by omega
              rw [hkn] at i4
              have hPn : rr d P := fun r hr k hk => by rw [i3]; exact hP r hr k hk
              refine lv_aload_n hx hb dR_power_170 rfl (lv_at hl 0 rfl) ?_
              refine lv_iload_n hx hb dR_power_171 rfl (lv_at hl 1 rfl) ?_
              refine lv_aload_n hx hb dR_power_172 rfl (lv_at hl 0 rfl) ?_
              refine hp_get hx hb hG in_R hown hK hst hmd.ob rfl 6 (by decide) (hG _ fl_R_21) rfl rfl dR_power_173 ?_
              refine ct_callV (av2 := [.int (nI r), .ref (E 4)]) (rest := []) (b := ma) X hst (c_R_keep l D Y lo hmd hr (j := 4) (by omega) (by omega)) hmd.ob rfl wc_R_keep ml_R_92 wi_R_keep wl_R_keep wn_R md_R_keep (by decide) hl.1 rfl (Nat.le_of_ble_eq_true rfl) ⟨by omega, by omega⟩ (fun _ _ h => h.elim) dR_power_176 (fun r MK H locs hp hst => ?_)
              obtain ⟨cK, rfl, hmK, sK, vK, nK, hoK⟩ := hp
              have hrK : rr cK (va_up P r (pwP p (P a) n)) := rr_keep hPn vK nK i4
              refine lv_iconst (v := nI 1) hx hb dR_power_179 (by decide +kernel) ?_
              exact ct_zret X hst (by omega) ⟨cK, rfl, hmK, hrK, hod.tr hoK⟩ (by omega) (by omega) dR_power_180
            · skip
              have hc6 : ¬ n ≤ k := fun z => hc ((nI_leI (by omega) (by omega)).mpr z)
              have hdd : ∀ u, u < 3 → dgl u (tp (pwP p (P a) k)) 0 + dgl u (tp (P a)) 0 ≤ 12 := fun u hu => by
                have h1 := pwP_deg hp2 hdg (i := k) (by omega) u hu
                have h2 := hdg u hu
                have h3 : (k + 1) * dgl u (tp (P a)) 0 ≤ n * dgl u (tp (P a)) 0 := Nat.mul_le_mul_right _ (by omega)
                rw [Nat.add_mul, Nat.one_mul] at h3
                omega
              refine lv_aload_n hx hb dR_power_152 rfl (lv_at hl 0 rfl) ?_
              refine lv_aload_n hx hb dR_power_153 rfl (lv_at hl 0 rfl) ?_
              refine hp_get hx hb hG in_R hown hK hst hmd.ob rfl 6 (by decide) (hG _ fl_R_21) rfl rfl dR_power_154 ?_
              refine lv_aload_n hx hb dR_power_157 rfl (lv_at hl 0 rfl) ?_
              refine hp_get hx hb hG in_R hown hK hst hmd.ob rfl 7 (by decide) (hG _ fl_R_24) rfl rfl dR_power_158 ?_
              refine ct_callV (av2 := [.ref (E 4), .ref (E 5)]) (rest := []) (b := ma) X hst (c_R_times l D Y lo hmd (ja := 4) (jb := 5) (by omega) (by omega) (by omega) (by omega) (by omega) (by omega) (by omega) (by omega) i4 i5 (pwP_lt hp2 (P a) k) (hPp a ha) (mul_s3 hdd)) hmd.ob rfl wc_R_times ml_R_110 wi_R_times wl_R_times wn_R md_R_times (by decide) hl.1 rfl (Nat.le_of_ble_eq_true rfl) ⟨by omega, by omega⟩ (fun _ _ h => h.elim) dR_power_161 (fun r MT H locs hp hst => ?_)
              obtain ⟨cT, rfl, hmT, sT, rT, hoT⟩ := hp
              refine lv_iinc (lv' := [(6, .int (nI (k + 1))), (0, .ref ma), (1, .int (nI r)), (3, .int (nI n))]) hx hb dR_power_164 hl (k := 3) rfl (ii_p _) (by decide) rfl (fun ls hl => ?_)
              refine lv_goto hx hb dR_power_167 (tgt := 146) rfl ?_
              exact ihLQ _ (by omega) (k + 1) cT MT _ _ _ rfl (by omega) hmT rT (by rw [sT 5 (by omega) (by omega) (by omega)]; exact i5) ((sT 3 (by omega) (by omega) (by omega)).trans i3) (hod.tr hoT) hst (lv_sub hl [1, 2, 3, 0] rfl)
          exact LQ _ 0 (va_up c3 4 (va_up (c3 4) 9138 1)) M3 _ _ _ rfl (by omega) hm1 hr4 hr5 h33 ho4 hst (lv_sub hl [1, 2, 3, 0] rfl)
        · skip
          have hc5 : ¬ 3 ≤ u := fun z => hc ((nI_leI (by omega) (by omega)).mpr z)
          have hu : u < 3 := by omega
          have d1 := dgl_lt (v := u) (g := 0) (L := tp (P a)) (by omega)
          have d2 : n * dgl u (tp (P a)) 0 ≤ 100 * 64 := Nat.mul_le_mul hn (by omega)
          refine lv_iload hx hb dR_power_81 (lv_at hl 3 rfl) ?_
          refine lv_if_ne hx hb dR_power_83 (tgt := 103) rfl (fun hc => ?_) (fun hc => ?_)
          · skip
            rw [← nI_0] at hc
            have hcz : ¬ z = 0 := fun z => hc ((nI_eq (by omega) (by omega)).mpr z)
            refine lv_iconst (v := nI 1) hx hb dR_power_103 (by decide +kernel) ?_
            refine lv_goto hx hb dR_power_104 (tgt := 108) rfl ?_
            refine lv_istore (lv' := [(5, .int (nI 1)), (0, .ref ma), (1, .int (nI r)), (3, .int (nI n)), (6, .int (nI u))]) hx hb dR_power_108 hl (by decide) rfl (fun ls hl => ?_)
            refine lv_iinc (lv' := [(6, .int (nI (u + 1))), (5, .int (nI 1)), (0, .ref ma), (1, .int (nI r)), (3, .int (nI n))]) hx hb dR_power_110 hl (k := 4) rfl (ii_p _) (by decide) rfl (fun ls hl => ?_)
            refine lv_goto hx hb dR_power_113 (tgt := 75) rfl ?_
            exact ihLP _ (by omega) 1 (u + 1) _ _ _ rfl (by omega) (by omega) ⟨fun _ => by obtain ⟨y, y1, y2⟩ := hz2.mp (by omega); exact ⟨y, by omega, y2⟩, fun _ => rfl⟩ hst (lv_sub hl [2, 3, 4, 1, 0] rfl)
          · skip
            rw [← nI_0] at hc
            have hcz : z = 0 := (nI_eq (by omega) (by omega)).mp hc
            refine lv_iload_n hx hb dR_power_86 rfl (lv_at hl 2 rfl) ?_
            refine lv_aload_n hx hb dR_power_87 rfl (lv_at hl 0 rfl) ?_
            refine lv_aload_n hx hb dR_power_88 rfl (lv_at hl 0 rfl) ?_
            refine hp_get hx hb hG in_R hown hK hst hmL5.ob rfl 7 (by decide) (hG _ fl_R_24) rfl rfl dR_power_89 ?_
            refine lv_iload hx hb dR_power_92 (lv_at hl 4 rfl) ?_
            refine ct_callV (av2 := [.ref (E 5), .int (nI u)]) (rest := [.int (nI n)]) (b := ma) X hst (c_R_degreeOf l D Y lo hmL5 (j := 5) (by omega) (by omega) e5 (p31 hp3 hPp ha) (v := u) hu) hmL5.ob rfl wc_R_degreeOf ml_R_102 wi_R_degreeOf wl_R_degreeOf wn_R md_R_degreeOf (by decide) hl.1 rfl (Nat.le_of_ble_eq_true rfl) ⟨by omega, by omega⟩ (fun _ _ h => h.elim) dR_power_94 (fun r M' H locs hp hst => ?_)
            obtain ⟨rfl, rfl⟩ := hp
            refine t_imul hx hb dR_power_97 (v := nI (n * (dgl u (tp (P a)) 0))) (pk_mul _ _) ?_
            refine lv_bipush (v := nI 12) hx hb dR_power_98 (by decide +kernel) ?_
            refine lv_icmp_le hx hb dR_power_100 (tgt := 107) rfl (fun hc => ?_) (fun hc => ?_)
            · skip
              have hcd : (n * (dgl u (tp (P a)) 0)) ≤ 12 := (nI_leI (by omega) (by omega)).mp hc
              refine lv_iconst (v := nI 0) hx hb dR_power_107 (by decide +kernel) ?_
              refine lv_istore (lv' := [(5, .int (nI 0)), (0, .ref ma), (1, .int (nI r)), (3, .int (nI n)), (6, .int (nI u))]) hx hb dR_power_108 hl (by decide) rfl (fun ls hl => ?_)
              refine lv_iinc (lv' := [(6, .int (nI (u + 1))), (5, .int (nI 0)), (0, .ref ma), (1, .int (nI r)), (3, .int (nI n))]) hx hb dR_power_110 hl (k := 4) rfl (ii_p _) (by decide) rfl (fun ls hl => ?_)
              refine lv_goto hx hb dR_power_113 (tgt := 75) rfl ?_
              exact ihLP _ (by omega) 0 (u + 1) _ _ _ rfl (by omega) (by omega) ⟨fun q => by omega, fun ⟨y, y1, y2⟩ => by
                  by_cases h9 : y = u
                  · subst h9; exact absurd hcd y2
                  · exact absurd (hz2.mpr ⟨y, by omega, y2⟩) (by omega)⟩ hst (lv_sub hl [2, 3, 4, 1, 0] rfl)
            · skip
              have hcd : ¬ (n * (dgl u (tp (P a)) 0)) ≤ 12 := fun z => hc ((nI_leI (by omega) (by omega)).mpr z)
              refine lv_iconst (v := nI 1) hx hb dR_power_103 (by decide +kernel) ?_
              refine lv_goto hx hb dR_power_104 (tgt := 108) rfl ?_
              refine lv_istore (lv' := [(5, .int (nI 1)), (0, .ref ma), (1, .int (nI r)), (3, .int (nI n)), (6, .int (nI u))]) hx hb dR_power_108 hl (by decide) rfl (fun ls hl => ?_)
              refine lv_iinc (lv' := [(6, .int (nI (u + 1))), (5, .int (nI 1)), (0, .ref ma), (1, .int (nI r)), (3, .int (nI n))]) hx hb dR_power_110 hl (k := 4) rfl (ii_p _) (by decide) rfl (fun ls hl => ?_)
              refine lv_goto hx hb dR_power_113 (tgt := 75) rfl ?_
              exact ihLP _ (by omega) 1 (u + 1) _ _ _ rfl (by omega) (by omega) ⟨fun _ => ⟨u, by omega, hcd⟩, fun _ => rfl⟩ hst (lv_sub hl [2, 3, 4, 1, 0] rfl)
      exact LP _ 0 0 _ _ _ rfl (by omega) (by omega) ⟨fun q => by omega, fun ⟨y, y1, _⟩ => by omega⟩ hst (lv_sub hl [3, 4, 6, 1, 0] rfl)
    · skip
      have hcn : ¬ n ≤ 100 := fun z => hc ((nI_leI (by omega) (by omega)).mpr z)
      exact absurd hcn (by omega)

set_option maxHeartbeats 4000000 in
set_option maxRecDepth 100000 in
theorem n_R_power (l : Launch) (D : va_G) (Y : Nat → ClassId) (lo : Nat) {M : Hm} {ma p rf th : Nat} {E : Nat → Nat} {c : Nat → Nat → Nat} (hm : mo Y M ma E p rf th c) {P : Nat → Pf} (hP : rr c P) (hPp : ∀ r, r < 12 → ∀ m, P r m < p) {r a : Nat} (hr : r < 12) (ha : a < 12) {n : Nat} (hn : n ≤ 100) (hdg : ¬ ∀ u, u < 3 → n * dgl u (tp (P a)) 0 ≤ 12) : ct l D Y lo y_R_power b_R_power 7 (some .boolean) 3 [.ref ma, .int (nI r), .int (nI a), .int (nI n)] M (fun r9 M' => ∃ c' : Nat → Nat → Nat, r9 = some (.int (nI 0)) ∧ mo Y M' ma E p (rf + 1) 0 c' ∧ rr c' (P) ∧ hp_off (fun i => i = 1000) M M') nx 0 0 := by
  refine ct_of (by decide) (Nat.le_of_ble_eq_true rfl) ?_
  intro pg eg sg mg bw mt cg ls X hst hl
  have X1 := X
  obtain ⟨hx, hb, hml, hrt, hlocks, hown, hnm, hts, hkz, hex⟩ := X1
  have hG : ∀ w ∈ GW, w.before _ sg = true := fun w h => hts w (List.mem_cons_of_mem _ h)
  have hK := hkz.1
  have hl : lv_has ls 7 [(0, .ref ma), (1, .int (nI r)), (2, .int (nI a)), (3, .int (nI n))] := hl
  obtain ⟨hp2, hp3⟩ := hm.p2
  refine lv_iload_n hx hb dR_power_0 rfl (lv_at hl 1 rfl) ?_
  refine ct_callS (av2 := [.int (nI r)]) (rest := []) X hst (g_R_isRegister l D Y lo hr) wc_R_isRegister ml_R_85 ws_R_isRegister wn_R md_R_isRegister (by decide) hl.1 rfl (Nat.le_of_ble_eq_true rfl) ⟨by omega, by omega⟩ (fun _ _ h => h.elim) dR_power_1 (fun r M' H locs hp hst => ?_)
  obtain ⟨rfl, rfl⟩ := hp
  refine lv_if_eq hx hb dR_power_4 (tgt := 18) rfl (fun hc => absurd hc (by decide)) (fun hc => ?_)
  refine lv_iload_n hx hb dR_power_7 rfl (lv_at hl 2 rfl) ?_
  refine ct_callS (av2 := [.int (nI a)]) (rest := []) X hst (g_R_isRegister l D Y lo ha) wc_R_isRegister ml_R_85 ws_R_isRegister wn_R md_R_isRegister (by decide) hl.1 rfl (Nat.le_of_ble_eq_true rfl) ⟨by omega, by omega⟩ (fun _ _ h => h.elim) dR_power_8 (fun r M' H locs hp hst => ?_)
  obtain ⟨rfl, rfl⟩ := hp
  refine lv_if_eq hx hb dR_power_11 (tgt := 18) rfl (fun hc => absurd hc (by decide)) (fun hc => ?_)
  refine lv_iconst (v := nI 1) hx hb dR_power_14 (by decide +kernel) ?_
  refine lv_goto hx hb dR_power_15 (tgt := 19) rfl ?_
  refine lv_istore (lv' := [(4, .int (nI 1)), (0, .ref ma), (1, .int (nI r)), (2, .int (nI a)), (3, .int (nI n))]) hx hb dR_power_19 hl (by decide) rfl (fun ls hl => ?_)
  refine lv_aload_n hx hb dR_power_21 rfl (lv_at hl 1 rfl) ?_
  refine lv_iload hx hb dR_power_22 (lv_at hl 0 rfl) ?_
  refine lv_if_ne hx hb dR_power_24 (tgt := 31) rfl (fun hc => ?_) (fun hc => absurd hc (by decide))
  refine lv_iconst (v := nI 0) hx hb dR_power_31 (by decide +kernel) ?_
  refine lv_iload hx hb dR_power_32 (lv_at hl 0 rfl) ?_
  refine lv_if_eq hx hb dR_power_34 (tgt := 51) rfl (fun hc => absurd hc (by decide)) (fun hc => ?_)
  refine lv_iload_n hx hb dR_power_37 rfl (lv_at hl 4 rfl) ?_
  refine lv_if_lt hx hb dR_power_38 (tgt := 47) rfl (fun hc => ?_) (fun hc => ?_)
  · skip
    rw [← nI_0] at hc
    have hcn : n < 0 := (nI_ltI (by omega) (by omega)).mp hc
    exact absurd hcn (by omega)
  · skip
    rw [← nI_0] at hc
    have hcn : ¬ n < 0 := fun z => hc ((nI_ltI (by omega) (by omega)).mpr z)
    refine lv_iload_n hx hb dR_power_41 rfl (lv_at hl 4 rfl) ?_
    refine lv_bipush (v := nI 100) hx hb dR_power_42 (by decide +kernel) ?_
    refine lv_icmp_le hx hb dR_power_44 (tgt := 51) rfl (fun hc => ?_) (fun hc => ?_)
    · skip
      have hcn : n ≤ 100 := (nI_leI (by omega) (by omega)).mp hc
      refine lv_iconst (v := nI 0) hx hb dR_power_51 (by decide +kernel) ?_
      refine ct_callV (av2 := [.int (nI 0), .int (nI 0)]) (rest := []) (b := ma) X hst (c_R_fails l D Y lo hm (a := 0) (b := 0) (by omega) (by omega)) hm.ob rfl wc_R_fails ml_R_88 wi_R_fails wl_R_fails wn_R md_R_fails (by decide) hl.1 rfl (Nat.le_of_ble_eq_true rfl) ⟨by omega, by omega⟩ (fun _ _ h => h.elim) dR_power_52 (fun r MF H locs hp hst => ?_)
      obtain ⟨rfl, hmF, hoF⟩ := hp
      have hmF : mo Y MF ma E p rf 0 c := hmF
      refine lv_if_eq hx hb dR_power_55 (tgt := 60) rfl (fun hc => ?_) (fun hc => absurd hc (by decide))
      refine lv_aload_n hx hb dR_power_60 rfl (lv_at hl 1 rfl) ?_
      refine lv_iload_n hx hb dR_power_61 rfl (lv_at hl 3 rfl) ?_
      refine lv_aload_n hx hb dR_power_62 rfl (lv_at hl 1 rfl) ?_
      refine hp_get hx hb hG in_R hown hK hst hmF.ob rfl 7 (by decide) (hG _ fl_R_24) rfl rfl dR_power_63 ?_
      refine ct_callV (av2 := [.int (nI a), .ref (E 5)]) (rest := []) (b := ma) X hst (c_R_load l D Y lo hmF ha (j := 5) (by omega) (by omega)) hmF.ob rfl wc_R_load ml_R_99 wi_R_load wl_R_load wn_R md_R_load (by decide) hl.1 rfl (Nat.le_of_ble_eq_true rfl) ⟨by omega, by omega⟩ (fun _ _ h => h.elim) dR_power_66 (fun r ML5 H locs hp hst => ?_)
      obtain ⟨cL5, rfl, hmL5, sL5, vL5, hoL5⟩ := hp
      have e3 : cL5 3 = c 3 := sL5 3 (by omega)
      have e5 : rp (cL5 5) (P a) := fun k hk => by rw [vL5 k hk]; exact hP a ha k hk
      refine lv_iconst (v := nI 0) hx hb dR_power_69 (by decide +kernel) ?_
      refine lv_istore (lv' := [(5, .int (nI 0)), (4, .int (nI 1)), (0, .ref ma), (1, .int (nI r)), (2, .int (nI a)), (3, .int (nI n))]) hx hb dR_power_70 hl (by decide) rfl (fun ls hl => ?_)
      refine lv_iconst (v := nI 0) hx hb dR_power_72 (by decide +kernel) ?_
      refine lv_istore (lv' := [(6, .int (nI 0)), (5, .int (nI 0)), (4, .int (nI 1)), (0, .ref ma), (1, .int (nI r)), (2, .int (nI a)), (3, .int (nI n))]) hx hb dR_power_73 hl (by decide) rfl (fun ls hl => ?_)
      have LP : ∀ (kk : Nat) (z u : Nat) (H : Heap) (locs : List Loc) (ls : Array Slot), kk = 3 - u → (u ≤ 3) → (z ≤ 1) → (z = 1 ↔ ∃ y, y < u ∧ ¬ n * dgl y (tp (P a)) 0 ≤ 12) → hp_st D vC lo ML5 sg.heap H locs → lv_has ls 7 [(0, .ref ma), (1, .int (nI r)), (3, .int (nI n)), (5, .int (nI z)), (6, .int (nI u))] → cW pg l eg sg mg [.ref ma, .int (nI r), .int (nI a), .int (nI n)] bw mt cg y_R_power b_R_power 7 (some .boolean) 3 D lo (fun r9 M' => ∃ c' : Nat → Nat → Nat, r9 = some (.int (nI 0)) ∧ mo Y M' ma E p (rf + 1) 0 c' ∧ rr c' (P) ∧ hp_off (fun i => i = 1000) M M') nx 0 0 H locs 0 0 (F0 mg 75 ls []) := by
        intro kk
        induction kk using Nat.strongRecOn with
        | _ kk ihLP =>
        intro z u H locs ls hkk hu9 hz1 hz2 hst hl
        refine lv_iload hx hb dR_power_75 (lv_at hl 4 rfl) ?_
        refine lv_iconst (v := nI 3) hx hb dR_power_77 (by decide +kernel) ?_
        refine lv_icmp_ge hx hb dR_power_78 (tgt := 116) rfl (fun hc => ?_) (fun hc => ?_)
        · skip
          have hc5 : 3 ≤ u := (nI_leI (by omega) (by omega)).mp hc
          refine lv_aload_n hx hb dR_power_116 rfl (lv_at hl 0 rfl) ?_
          refine lv_iload hx hb dR_power_117 (lv_at hl 3 rfl) ?_
          refine ct_callV (av2 := [.int (nI z)]) (rest := []) (b := ma) X hst (c_R_refuses l D Y lo hmL5 (a := z) hz1) hmL5.ob rfl wc_R_refuses ml_R_106 wi_R_refuses wl_R_refuses wn_R md_R_refuses (by decide) hl.1 rfl (Nat.le_of_ble_eq_true rfl) ⟨by omega, by omega⟩ (fun _ _ h => h.elim) dR_power_119 (fun r MR H locs hp hst => ?_)
          obtain ⟨rfl, hmR, hoR⟩ := hp
          have hoo := (hoF.tr hoL5).tr hoR
          have hz0 : z = 1 := hz2.mpr (by
            apply Classical.byContradiction
            intro q
            exact hdg (fun u hu => Classical.byContradiction (fun y => q ⟨u, by omega, y⟩)))
          subst hz0
          refine lv_if_eq hx hb dR_power_122 (tgt := 127) rfl (fun hc => absurd hc (by decide)) (fun hc => ?_)
          refine lv_iconst (v := nI 0) hx hb dR_power_125 (by decide +kernel) ?_
          exact ct_zret X hst (by omega) ⟨cL5, rfl, hmR, fun r hr k hk => by rw [e3]; exact hP r hr k hk, hoo⟩ (by omega) (by omega) dR_power_126
        · skip
          have hc5 : ¬ 3 ≤ u := fun z => hc ((nI_leI (by omega) (by omega)).mpr z)
          have hu : u < 3 := by omega
          have d1 := dgl_lt (v := u) (g := 0) (L := tp (P a)) (by omega)
          have d2 : n * dgl u (tp (P a)) 0 ≤ 100 * 64 := Nat.mul_le_mul hn (by omega)
          refine lv_iload hx hb dR_power_81 (lv_at hl 3 rfl) ?_
          refine lv_if_ne hx hb dR_power_83 (tgt := 103) rfl (fun hc => ?_) (fun hc => ?_)
          · skip
            rw [← nI_0] at hc
            have hcz : ¬ z = 0 := fun z => hc ((nI_eq (by omega) (by omega)).mpr z)
            refine lv_iconst (v := nI 1) hx hb dR_power_103 (by decide +kernel) ?_
            refine lv_goto hx hb dR_power_104 (tgt := 108) rfl ?_
            refine lv_istore (lv' := [(5, .int (nI 1)), (0, .ref ma), (1, .int (nI r)), (3, .int (nI n)), (6, .int (nI u))]) hx hb dR_power_108 hl (by decide) rfl (fun ls hl => ?_)
            refine lv_iinc (lv' := [(6, .int (nI (u + 1))), (5, .int (nI 1)), (0, .ref ma), (1, .int (nI r)), (3, .int (nI n))]) hx hb dR_power_110 hl (k := 4) rfl (ii_p _) (by decide) rfl (fun ls hl => ?_)
            refine lv_goto hx hb dR_power_113 (tgt := 75) rfl ?_
            exact ihLP _ (by omega) 1 (u + 1) _ _ _ rfl (by omega) (by omega) ⟨fun _ => by obtain ⟨y, y1, y2⟩ := hz2.mp (by omega); exact ⟨y, by omega, y2⟩, fun _ => rfl⟩ hst (lv_sub hl [2, 3, 4, 1, 0] rfl)
          · skip
            rw [← nI_0] at hc
            have hcz : z = 0 := (nI_eq (by omega) (by omega)).mp hc
            refine lv_iload_n hx hb dR_power_86 rfl (lv_at hl 2 rfl) ?_
            refine lv_aload_n hx hb dR_power_87 rfl (lv_at hl 0 rfl) ?_
            refine lv_aload_n hx hb dR_power_88 rfl (lv_at hl 0 rfl) ?_
            refine hp_get hx hb hG in_R hown hK hst hmL5.ob rfl 7 (by decide) (hG _ fl_R_24) rfl rfl dR_power_89 ?_
            refine lv_iload hx hb dR_power_92 (lv_at hl 4 rfl) ?_
            refine ct_callV (av2 := [.ref (E 5), .int (nI u)]) (rest := [.int (nI n)]) (b := ma) X hst (c_R_degreeOf l D Y lo hmL5 (j := 5) (by omega) (by omega) e5 (p31 hp3 hPp ha) (v := u) hu) hmL5.ob rfl wc_R_degreeOf ml_R_102 wi_R_degreeOf wl_R_degreeOf wn_R md_R_degreeOf (by decide) hl.1 rfl (Nat.le_of_ble_eq_true rfl) ⟨by omega, by omega⟩ (fun _ _ h => h.elim) dR_power_94 (fun r M' H locs hp hst => ?_)
            obtain ⟨rfl, rfl⟩ := hp
            refine t_imul hx hb dR_power_97 (v := nI (n * (dgl u (tp (P a)) 0))) (pk_mul _ _) ?_
            refine lv_bipush (v := nI 12) hx hb dR_power_98 (by decide +kernel) ?_
            refine lv_icmp_le hx hb dR_power_100 (tgt := 107) rfl (fun hc => ?_) (fun hc => ?_)
            · skip
              have hcd : (n * (dgl u (tp (P a)) 0)) ≤ 12 := (nI_leI (by omega) (by omega)).mp hc
              refine lv_iconst (v := nI 0) hx hb dR_power_107 (by decide +kernel) ?_
              refine lv_istore (lv' := [(5, .int (nI 0)), (0, .ref ma), (1, .int (nI r)), (3, .int (nI n)), (6, .int (nI u))]) hx hb dR_power_108 hl (by decide) rfl (fun ls hl => ?_)
              refine lv_iinc (lv' := [(6, .int (nI (u + 1))), (5, .int (nI 0)), (0, .ref ma), (1, .int (nI r)), (3, .int (nI n))]) hx hb dR_power_110 hl (k := 4) rfl (ii_p _) (by decide) rfl (fun ls hl => ?_)
              refine lv_goto hx hb dR_power_113 (tgt := 75) rfl ?_
              exact ihLP _ (by omega) 0 (u + 1) _ _ _ rfl (by omega) (by omega) ⟨fun q => by omega, fun ⟨y, y1, y2⟩ => by
                  by_cases h9 : y = u
                  · subst h9; exact absurd hcd y2
                  · exact absurd (hz2.mpr ⟨y, by omega, y2⟩) (by omega)⟩ hst (lv_sub hl [2, 3, 4, 1, 0] rfl)
            · skip
              have hcd : ¬ (n * (dgl u (tp (P a)) 0)) ≤ 12 := fun z => hc ((nI_leI (by omega) (by omega)).mpr z)
              refine lv_iconst (v := nI 1) hx hb dR_power_103 (by decide +kernel) ?_
              refine lv_goto hx hb dR_power_104 (tgt := 108) rfl ?_
              refine lv_istore (lv' := [(5, .int (nI 1)), (0, .ref ma), (1, .int (nI r)), (3, .int (nI n)), (6, .int (nI u))]) hx hb dR_power_108 hl (by decide) rfl (fun ls hl => ?_)
              refine lv_iinc (lv' := [(6, .int (nI (u + 1))), (5, .int (nI 1)), (0, .ref ma), (1, .int (nI r)), (3, .int (nI n))]) hx hb dR_power_110 hl (k := 4) rfl (ii_p _) (by decide) rfl (fun ls hl => ?_)
              refine lv_goto hx hb dR_power_113 (tgt := 75) rfl ?_
              exact ihLP _ (by omega) 1 (u + 1) _ _ _ rfl (by omega) (by omega) ⟨fun _ => ⟨u, by omega, hcd⟩, fun _ => rfl⟩ hst (lv_sub hl [2, 3, 4, 1, 0] rfl)
      exact LP _ 0 0 _ _ _ rfl (by omega) (by omega) ⟨fun q => by omega, fun ⟨y, y1, _⟩ => by omega⟩ hst (lv_sub hl [3, 4, 6, 1, 0] rfl)
    · skip
      have hcn : ¬ n ≤ 100 := fun z => hc ((nI_leI (by omega) (by omega)).mpr z)
      exact absurd hcn (by omega)

set_option maxHeartbeats 4000000 in
set_option maxRecDepth 100000 in
theorem e_R_power (l : Launch) (D : va_G) (Y : Nat → ClassId) (lo : Nat) {M : Hm} {ma p rf th : Nat} {E : Nat → Nat} {c : Nat → Nat → Nat} (hm : mo Y M ma E p rf th c) {x1 x2 x3 : Int32} (hno : ¬ ((inR x1 ∧ inR x2) ∧ ∃ n : Nat, n ≤ 100 ∧ x3 = nI n)) : ct l D Y lo y_R_power b_R_power 7 (some .boolean) 3 [.ref ma, .int x1, .int x2, .int x3] M (fun r9 M' => ∃ t : Nat, r9 = some (.int (nI 0)) ∧ mo Y M' ma E p rf t c ∧ (t = 1 ∧ ¬ (inR x1 ∧ inR x2) ∨ t = 2 ∧ (inR x1 ∧ inR x2)) ∧ hp_off (fun i => i = 1000) M M') nx 0 0 := by
  refine ct_of (by decide) (Nat.le_of_ble_eq_true rfl) ?_
  intro pg eg sg mg bw mt cg ls X hst hl
  have X1 := X
  obtain ⟨hx, hb, hml, hrt, hlocks, hown, hnm, hts, hkz, hex⟩ := X1
  have hG : ∀ w ∈ GW, w.before _ sg = true := fun w h => hts w (List.mem_cons_of_mem _ h)
  have hK := hkz.1
  have hl : lv_has ls 7 [(0, .ref ma), (1, .int x1), (2, .int x2), (3, .int x3)] := hl
  refine lv_iload_n hx hb dR_power_0 rfl (lv_at hl 1 rfl) ?_
  refine ct_callS (av2 := [.int x1]) (rest := []) X hst (c_R_isRegister l D Y lo x1) wc_R_isRegister ml_R_85 ws_R_isRegister wn_R md_R_isRegister (by decide) hl.1 rfl (Nat.le_of_ble_eq_true rfl) ⟨by omega, by omega⟩ (fun _ _ h => h.elim) dR_power_1 (fun r M' H locs hp hst => ?_)
  obtain ⟨b1, rfl, hb1, ib1, rfl⟩ := hp
  refine lv_if_eq hx hb dR_power_4 (tgt := 18) rfl (fun hc => ?_) (fun hc => ?_)
  · skip
    rw [← nI_0] at hc
    have hz1 : b1 = 0 := (nI_eq (by omega) (by omega)).mp hc
    have hnt : ¬ (inR x1 ∧ inR x2) := fun z => by have := ib1.mpr z.1; omega
    refine lv_iconst (v := nI 0) hx hb dR_power_18 (by decide +kernel) ?_
    refine lv_istore (lv' := [(4, .int (nI 0)), (0, .ref ma), (1, .int x1), (2, .int x2), (3, .int x3)]) hx hb dR_power_19 hl (by decide) rfl (fun ls hl => ?_)
    refine lv_aload_n hx hb dR_power_21 rfl (lv_at hl 1 rfl) ?_
    refine lv_iload hx hb dR_power_22 (lv_at hl 0 rfl) ?_
    refine lv_if_ne hx hb dR_power_24 (tgt := 31) rfl (fun hc => absurd hc (by decide)) (fun hc => ?_)
    refine lv_iconst (v := nI 1) hx hb dR_power_27 (by decide +kernel) ?_
    refine lv_goto hx hb dR_power_28 (tgt := 32) rfl ?_
    refine lv_iload hx hb dR_power_32 (lv_at hl 0 rfl) ?_
    refine lv_if_eq hx hb dR_power_34 (tgt := 51) rfl (fun hc => ?_) (fun hc => absurd hc (by decide))
    refine lv_iconst (v := nI 0) hx hb dR_power_51 (by decide +kernel) ?_
    refine ct_callV (av2 := [.int (nI 1), .int (nI 0)]) (rest := []) (b := ma) X hst (c_R_fails l D Y lo hm (a := 1) (b := 0) (by omega) (by omega)) hm.ob rfl wc_R_fails ml_R_88 wi_R_fails wl_R_fails wn_R md_R_fails (by decide) hl.1 rfl (Nat.le_of_ble_eq_true rfl) ⟨by omega, by omega⟩ (fun _ _ h => h.elim) dR_power_52 (fun r MF H locs hp hst => ?_)
    obtain ⟨rfl, hmF, hoF⟩ := hp
    have hmF : mo Y MF ma E p rf 1 c := hmF
    refine lv_if_eq hx hb dR_power_55 (tgt := 60) rfl (fun hc => absurd hc (by decide)) (fun hc => ?_)
    refine lv_iconst (v := nI 0) hx hb dR_power_58 (by decide +kernel) ?_
    exact ct_zret X hst (by omega) ⟨1, rfl, hmF, Or.inl ⟨rfl, hnt⟩, hoF⟩ (by omega) (by omega) dR_power_59
  · skip
    rw [← nI_0] at hc
    have hz1 : ¬ b1 = 0 := fun z => hc ((nI_eq (by omega) (by omega)).mpr z)
    refine lv_iload_n hx hb dR_power_7 rfl (lv_at hl 2 rfl) ?_
    refine ct_callS (av2 := [.int x2]) (rest := []) X hst (c_R_isRegister l D Y lo x2) wc_R_isRegister ml_R_85 ws_R_isRegister wn_R md_R_isRegister (by decide) hl.1 rfl (Nat.le_of_ble_eq_true rfl) ⟨by omega, by omega⟩ (fun _ _ h => h.elim) dR_power_8 (fun r M' H locs hp hst => ?_)
    obtain ⟨b2, rfl, hb2, ib2, rfl⟩ := hp
    refine lv_if_eq hx hb dR_power_11 (tgt := 18) rfl (fun hc => ?_) (fun hc => ?_)
    · skip
      rw [← nI_0] at hc
      have hz2 : b2 = 0 := (nI_eq (by omega) (by omega)).mp hc
      have hnt : ¬ (inR x1 ∧ inR x2) := fun z => by have := ib2.mpr z.2; omega
      refine lv_iconst (v := nI 0) hx hb dR_power_18 (by decide +kernel) ?_
      refine lv_istore (lv' := [(4, .int (nI 0)), (0, .ref ma), (1, .int x1), (2, .int x2), (3, .int x3)]) hx hb dR_power_19 hl (by decide) rfl (fun ls hl => ?_)
      refine lv_aload_n hx hb dR_power_21 rfl (lv_at hl 1 rfl) ?_
      refine lv_iload hx hb dR_power_22 (lv_at hl 0 rfl) ?_
      refine lv_if_ne hx hb dR_power_24 (tgt := 31) rfl (fun hc => absurd hc (by decide)) (fun hc => ?_)
      refine lv_iconst (v := nI 1) hx hb dR_power_27 (by decide +kernel) ?_
      refine lv_goto hx hb dR_power_28 (tgt := 32) rfl ?_
      refine lv_iload hx hb dR_power_32 (lv_at hl 0 rfl) ?_
      refine lv_if_eq hx hb dR_power_34 (tgt := 51) rfl (fun hc => ?_) (fun hc => absurd hc (by decide))
      refine lv_iconst (v := nI 0) hx hb dR_power_51 (by decide +kernel) ?_
      refine ct_callV (av2 := [.int (nI 1), .int (nI 0)]) (rest := []) (b := ma) X hst (c_R_fails l D Y lo hm (a := 1) (b := 0) (by omega) (by omega)) hm.ob rfl wc_R_fails ml_R_88 wi_R_fails wl_R_fails wn_R md_R_fails (by decide) hl.1 rfl (Nat.le_of_ble_eq_true rfl) ⟨by omega, by omega⟩ (fun _ _ h => h.elim) dR_power_52 (fun r MF H locs hp hst => ?_)
      obtain ⟨rfl, hmF, hoF⟩ := hp
      have hmF : mo Y MF ma E p rf 1 c := hmF
      refine lv_if_eq hx hb dR_power_55 (tgt := 60) rfl (fun hc => absurd hc (by decide)) (fun hc => ?_)
      refine lv_iconst (v := nI 0) hx hb dR_power_58 (by decide +kernel) ?_
      exact ct_zret X hst (by omega) ⟨1, rfl, hmF, Or.inl ⟨rfl, hnt⟩, hoF⟩ (by omega) (by omega) dR_power_59
    · skip
      rw [← nI_0] at hc
      have hz2 : ¬ b2 = 0 := fun z => hc ((nI_eq (by omega) (by omega)).mpr z)
      have htt : inR x1 ∧ inR x2 := ⟨ib1.mp (by omega), ib2.mp (by omega)⟩
      refine lv_iconst (v := nI 1) hx hb dR_power_14 (by decide +kernel) ?_
      refine lv_goto hx hb dR_power_15 (tgt := 19) rfl ?_
      refine lv_istore (lv' := [(4, .int (nI 1)), (0, .ref ma), (1, .int x1), (2, .int x2), (3, .int x3)]) hx hb dR_power_19 hl (by decide) rfl (fun ls hl => ?_)
      refine lv_aload_n hx hb dR_power_21 rfl (lv_at hl 1 rfl) ?_
      refine lv_iload hx hb dR_power_22 (lv_at hl 0 rfl) ?_
      refine lv_if_ne hx hb dR_power_24 (tgt := 31) rfl (fun hc => ?_) (fun hc => absurd hc (by decide))
      refine lv_iconst (v := nI 0) hx hb dR_power_31 (by decide +kernel) ?_
      refine lv_iload hx hb dR_power_32 (lv_at hl 0 rfl) ?_
      refine lv_if_eq hx hb dR_power_34 (tgt := 51) rfl (fun hc => absurd hc (by decide)) (fun hc => ?_)
      refine lv_iload_n hx hb dR_power_37 rfl (lv_at hl 4 rfl) ?_
      refine lv_if_lt hx hb dR_power_38 (tgt := 47) rfl (fun hc => ?_) (fun hc => ?_)
      · skip
        refine lv_iconst (v := nI 1) hx hb dR_power_47 (by decide +kernel) ?_
        refine lv_goto hx hb dR_power_48 (tgt := 52) rfl ?_
        refine ct_callV (av2 := [.int (nI 0), .int (nI 1)]) (rest := []) (b := ma) X hst (c_R_fails l D Y lo hm (a := 0) (b := 1) (by omega) (by omega)) hm.ob rfl wc_R_fails ml_R_88 wi_R_fails wl_R_fails wn_R md_R_fails (by decide) hl.1 rfl (Nat.le_of_ble_eq_true rfl) ⟨by omega, by omega⟩ (fun _ _ h => h.elim) dR_power_52 (fun r MF H locs hp hst => ?_)
        obtain ⟨rfl, hmF, hoF⟩ := hp
        have hmF : mo Y MF ma E p rf 2 c := hmF
        refine lv_if_eq hx hb dR_power_55 (tgt := 60) rfl (fun hc => absurd hc (by decide)) (fun hc => ?_)
        refine lv_iconst (v := nI 0) hx hb dR_power_58 (by decide +kernel) ?_
        exact ct_zret X hst (by omega) ⟨2, rfl, hmF, Or.inr ⟨rfl, htt⟩, hoF⟩ (by omega) (by omega) dR_power_59
      · skip
        have n1 := hc
        refine lv_iload_n hx hb dR_power_41 rfl (lv_at hl 4 rfl) ?_
        refine lv_bipush (v := nI 100) hx hb dR_power_42 (by decide +kernel) ?_
        refine lv_icmp_le hx hb dR_power_44 (tgt := 51) rfl (fun hc => ?_) (fun hc => ?_)
        · obtain ⟨k3, hk3, rfl⟩ := nI_of n1
          exact absurd ⟨htt, k3, (nI_leI hk3 (by omega)).mp hc, rfl⟩ hno
        · skip
          refine lv_iconst (v := nI 1) hx hb dR_power_47 (by decide +kernel) ?_
          refine lv_goto hx hb dR_power_48 (tgt := 52) rfl ?_
          refine ct_callV (av2 := [.int (nI 0), .int (nI 1)]) (rest := []) (b := ma) X hst (c_R_fails l D Y lo hm (a := 0) (b := 1) (by omega) (by omega)) hm.ob rfl wc_R_fails ml_R_88 wi_R_fails wl_R_fails wn_R md_R_fails (by decide) hl.1 rfl (Nat.le_of_ble_eq_true rfl) ⟨by omega, by omega⟩ (fun _ _ h => h.elim) dR_power_52 (fun r MF H locs hp hst => ?_)
          obtain ⟨rfl, hmF, hoF⟩ := hp
          have hmF : mo Y MF ma E p rf 2 c := hmF
          refine lv_if_eq hx hb dR_power_55 (tgt := 60) rfl (fun hc => absurd hc (by decide)) (fun hc => ?_)
          refine lv_iconst (v := nI 0) hx hb dR_power_58 (by decide +kernel) ?_
          exact ct_zret X hst (by omega) ⟨2, rfl, hmF, Or.inr ⟨rfl, htt⟩, hoF⟩ (by omega) (by omega) dR_power_59

set_option maxHeartbeats 4000000 in
set_option maxRecDepth 100000 in
theorem c_R_derive (l : Launch) (D : va_G) (Y : Nat → ClassId) (lo : Nat) {M : Hm} {ma p rf th : Nat} {E : Nat → Nat} {c : Nat → Nat → Nat} (hm : mo Y M ma E p rf th c) {P : Nat → Pf} (hP : rr c P) (hPp : ∀ r, r < 12 → ∀ m, P r m < p) {r a : Nat} (hr : r < 12) (ha : a < 12) {v : Nat} (hv : v < 3) : ct l D Y lo y_R_derive b_R_derive 7 none 1 [.ref ma, .int (nI r), .int (nI a), .int (nI v)] M (fun r9 M' => ∃ c' : Nat → Nat → Nat, r9 = none ∧ mo Y M' ma E p rf 0 c' ∧ rr c' (va_up P r (lsP (der p v (tp (P a))))) ∧ hp_off (fun i => i = 1000) M M') nx 0 0 := by
  refine ct_of (by decide) (Nat.le_of_ble_eq_true rfl) ?_
  intro pg eg sg mg bw mt cg ls X hst hl
  have X1 := X
  obtain ⟨hx, hb, hml, hrt, hlocks, hown, hnm, hts, hkz, hex⟩ := X1
  have hG : ∀ w ∈ GW, w.before _ sg = true := fun w h => hts w (List.mem_cons_of_mem _ h)
  have hK := hkz.1
  have hl : lv_has ls 7 [(0, .ref ma), (1, .int (nI r)), (2, .int (nI a)), (3, .int (nI v))] := hl
  obtain ⟨hp2, hp3⟩ := hm.p2
  refine lv_iload_n hx hb dR_derive_0 rfl (lv_at hl 1 rfl) ?_
  refine ct_callS (av2 := [.int (nI r)]) (rest := []) X hst (g_R_isRegister l D Y lo hr) wc_R_isRegister ml_R_85 ws_R_isRegister wn_R md_R_isRegister (by decide) hl.1 rfl (Nat.le_of_ble_eq_true rfl) ⟨by omega, by omega⟩ (fun _ _ h => h.elim) dR_derive_1 (fun r M' H locs hp hst => ?_)
  obtain ⟨rfl, rfl⟩ := hp
  refine lv_if_eq hx hb dR_derive_4 (tgt := 18) rfl (fun hc => absurd hc (by decide)) (fun hc => ?_)
  refine lv_iload_n hx hb dR_derive_7 rfl (lv_at hl 2 rfl) ?_
  refine ct_callS (av2 := [.int (nI a)]) (rest := []) X hst (g_R_isRegister l D Y lo ha) wc_R_isRegister ml_R_85 ws_R_isRegister wn_R md_R_isRegister (by decide) hl.1 rfl (Nat.le_of_ble_eq_true rfl) ⟨by omega, by omega⟩ (fun _ _ h => h.elim) dR_derive_8 (fun r M' H locs hp hst => ?_)
  obtain ⟨rfl, rfl⟩ := hp
  refine lv_if_eq hx hb dR_derive_11 (tgt := 18) rfl (fun hc => absurd hc (by decide)) (fun hc => ?_)
  refine lv_iconst (v := nI 1) hx hb dR_derive_14 (by decide +kernel) ?_
  refine lv_goto hx hb dR_derive_15 (tgt := 19) rfl ?_
  refine lv_istore (lv' := [(4, .int (nI 1)), (0, .ref ma), (1, .int (nI r)), (2, .int (nI a)), (3, .int (nI v))]) hx hb dR_derive_19 hl (by decide) rfl (fun ls hl => ?_)
  refine lv_aload_n hx hb dR_derive_21 rfl (lv_at hl 1 rfl) ?_
  refine lv_iload hx hb dR_derive_22 (lv_at hl 0 rfl) ?_
  refine lv_if_ne hx hb dR_derive_24 (tgt := 31) rfl (fun hc => ?_) (fun hc => absurd hc (by decide))
  refine lv_iconst (v := nI 0) hx hb dR_derive_31 (by decide +kernel) ?_
  refine lv_iload hx hb dR_derive_32 (lv_at hl 0 rfl) ?_
  refine lv_if_eq hx hb dR_derive_34 (tgt := 48) rfl (fun hc => absurd hc (by decide)) (fun hc => ?_)
  refine lv_iload_n hx hb dR_derive_37 rfl (lv_at hl 4 rfl) ?_
  refine ct_callS (av2 := [.int (nI v)]) (rest := [.int (nI 0), .ref ma]) X hst (g_R_isVariable l D Y lo hv) wc_R_isVariable ml_R_96 ws_R_isVariable wn_R md_R_isVariable (by decide) hl.1 rfl (Nat.le_of_ble_eq_true rfl) ⟨by omega, by omega⟩ (fun _ _ h => h.elim) dR_derive_38 (fun r M' H locs hp hst => ?_)
  obtain ⟨rfl, rfl⟩ := hp
  refine lv_if_ne hx hb dR_derive_41 (tgt := 48) rfl (fun hc => ?_) (fun hc => absurd hc (by decide))
  refine lv_iconst (v := nI 0) hx hb dR_derive_48 (by decide +kernel) ?_
  refine ct_callV (av2 := [.int (nI 0), .int (nI 0)]) (rest := []) (b := ma) X hst (c_R_fails l D Y lo hm (a := 0) (b := 0) (by omega) (by omega)) hm.ob rfl wc_R_fails ml_R_88 wi_R_fails wl_R_fails wn_R md_R_fails (by decide) hl.1 rfl (Nat.le_of_ble_eq_true rfl) ⟨by omega, by omega⟩ (fun _ _ h => h.elim) dR_derive_49 (fun r MF H locs hp hst => ?_)
  obtain ⟨rfl, hmF, hoF⟩ := hp
  have hmF : mo Y MF ma E p rf 0 c := hmF
  refine lv_if_eq hx hb dR_derive_52 (tgt := 56) rfl (fun hc => ?_) (fun hc => absurd hc (by decide))
  refine lv_aload_n hx hb dR_derive_56 rfl (lv_at hl 1 rfl) ?_
  refine lv_iload_n hx hb dR_derive_57 rfl (lv_at hl 3 rfl) ?_
  refine lv_aload_n hx hb dR_derive_58 rfl (lv_at hl 1 rfl) ?_
  refine hp_get hx hb hG in_R hown hK hst hmF.ob rfl 6 (by decide) (hG _ fl_R_21) rfl rfl dR_derive_59 ?_
  refine ct_callV (av2 := [.int (nI a), .ref (E 4)]) (rest := []) (b := ma) X hst (c_R_load l D Y lo hmF ha (j := 4) (by omega) (by omega)) hmF.ob rfl wc_R_load ml_R_99 wi_R_load wl_R_load wn_R md_R_load (by decide) hl.1 rfl (Nat.le_of_ble_eq_true rfl) ⟨by omega, by omega⟩ (fun _ _ h => h.elim) dR_derive_62 (fun r ML4 H locs hp hst => ?_)
  obtain ⟨cL4, rfl, hmL4, sL4, vL4, hoL4⟩ := hp
  refine lv_aload_n hx hb dR_derive_65 rfl (lv_at hl 1 rfl) ?_
  refine hp_get hx hb hG in_R hown hK hst hmL4.ob rfl 8 (by decide) (hG _ fl_R_27) rfl rfl dR_derive_66 ?_
  refine ct_callS (av2 := [.ref (E 6)]) (rest := []) X hst (c_R_clear l D Y lo hmL4 (j := 6) (by omega) (by omega)) wc_R_clear ml_R_70 ws_R_clear wn_R md_R_clear (by decide) hl.1 rfl (Nat.le_of_ble_eq_true rfl) ⟨by omega, by omega⟩ (fun _ _ h => h.elim) dR_derive_69 (fun r M3 H locs hp hst => ?_)
  obtain ⟨c3, rfl, hm3, s3a, z3, ho3⟩ := hp
  have e3 : c3 3 = c 3 := (s3a 3 (by omega)).trans (sL4 3 (by omega))
  have e4 : rp (c3 4) (P a) := fun k hk => by rw [s3a 4 (by omega), vL4 k hk]; exact hP a ha k hk
  refine lv_iconst (v := nI 0) hx hb dR_derive_72 (by decide +kernel) ?_
  refine lv_istore (lv' := [(5, .int (nI 0)), (4, .int (nI 1)), (0, .ref ma), (1, .int (nI r)), (2, .int (nI a)), (3, .int (nI v))]) hx hb dR_derive_73 hl (by decide) rfl (fun ls hl => ?_)
  have LP : ∀ (kk : Nat) (k : Nat) (d : Nat → Nat → Nat) (M1 : Hm) (g1 : Pf) (H : Heap) (locs : List Loc) (ls : Array Slot), kk = 9139 - k → (k ≤ 9139) → (mo Y M1 ma E p rf 0 d) → (∀ x, x ≠ 6 → d x = c3 x) → (rp (d 6) g1) → (drL p v (td (P a) (9139 - k)) g1 = drL p v (tp (P a)) (fun _ => 0)) → (hp_off (fun i => i = 1000) M M1) → hp_st D vC lo M1 sg.heap H locs → lv_has ls 7 [(0, .ref ma), (1, .int (nI r)), (3, .int (nI v)), (5, .int (nI k))] → cW pg l eg sg mg [.ref ma, .int (nI r), .int (nI a), .int (nI v)] bw mt cg y_R_derive b_R_derive 7 none 1 D lo (fun r9 M' => ∃ c' : Nat → Nat → Nat, r9 = none ∧ mo Y M' ma E p rf 0 c' ∧ rr c' (va_up P r (lsP (der p v (tp (P a))))) ∧ hp_off (fun i => i = 1000) M M') nx 0 0 H locs 0 0 (F0 mg 75 ls []) := by
    intro kk
    induction kk using Nat.strongRecOn with
    | _ kk ihLP =>
    intro k d M1 g1 H locs ls hkk hk9 hm hsm hr1 hinv ho hst hl
    refine lv_iload hx hb dR_derive_75 (lv_at hl 3 rfl) ?_
    refine lv_sipush (v := nI 9139) hx hb dR_derive_77 (by decide +kernel) ?_
    refine lv_icmp_ge hx hb dR_derive_80 (tgt := 194) rfl (fun hc => ?_) (fun hc => ?_)
    · skip
      have hc5 : 9139 ≤ k := (nI_leI (by omega) (by omega)).mp hc
      have hk : k = 9139 := by omega
      rw [hk] at hinv
      have hinv : g1 = drL p v (tp (P a)) (fun _ => 0) := hinv
      have hfin : g1 = lsP (der p v (tp (P a))) := by
        rw [hinv]
        funext m
        exact dr_eq hv (bl_td (g := P a) (n := 9139) (Nat.le_refl _)) rfl
      rw [hfin] at hr1
      have hPn : rr d P := fun r hr k hk => by rw [hsm 3 (by omega), e3]; exact hP r hr k hk
      refine lv_aload_n hx hb dR_derive_194 rfl (lv_at hl 0 rfl) ?_
      refine lv_iload_n hx hb dR_derive_195 rfl (lv_at hl 1 rfl) ?_
      refine lv_aload_n hx hb dR_derive_196 rfl (lv_at hl 0 rfl) ?_
      refine hp_get hx hb hG in_R hown hK hst hm.ob rfl 8 (by decide) (hG _ fl_R_27) rfl rfl dR_derive_197 ?_
      refine ct_callV (av2 := [.int (nI r), .ref (E 6)]) (rest := []) (b := ma) X hst (c_R_keep l D Y lo hm hr (j := 6) (by omega) (by omega)) hm.ob rfl wc_R_keep ml_R_92 wi_R_keep wl_R_keep wn_R md_R_keep (by decide) hl.1 rfl (Nat.le_of_ble_eq_true rfl) ⟨by omega, by omega⟩ (fun _ _ h => h.elim) dR_derive_200 (fun r MK H locs hp hst => ?_)
      obtain ⟨cK, rfl, hmK, sK, vK, nK, hoK⟩ := hp
      have hrK : rr cK (va_up P r (lsP (der p v (tp (P a))))) := rr_keep hPn vK nK hr1
      exact ct_vret X hst ⟨cK, rfl, hmK, hrK, ho.tr hoK⟩ (by omega) (by omega) dR_derive_203
    · skip
      have hc5 : ¬ 9139 ≤ k := fun z => hc ((nI_leI (by omega) (by omega)).mpr z)
      have hbi : d 4 k = P a (pl k) := by rw [hsm 4 (by omega)]; exact e4 k (by omega)
      have hhi := hPp a ha (pl k)
      have pmi := pl_mv (k := k) (by omega)
      have hxl := xe_lt (pl k) v
      refine lv_aload_n hx hb dR_derive_83 rfl (lv_at hl 0 rfl) ?_
      refine lv_iload hx hb dR_derive_84 (lv_at hl 3 rfl) ?_
      refine lv_iload_n hx hb dR_derive_86 rfl (lv_at hl 2 rfl) ?_
      refine ct_callV (av2 := [.int (nI k), .int (nI v)]) (rest := []) (b := ma) X hst (c_R_exponent l D Y lo hm (k := k) (v := v) (by omega) hv) hm.ob rfl wc_R_exponent ml_R_58 wi_R_exponent wl_R_exponent wn_R md_R_exponent (by decide) hl.1 rfl (Nat.le_of_ble_eq_true rfl) ⟨by omega, by omega⟩ (fun _ _ h => h.elim) dR_derive_87 (fun r M' H locs hp hst => ?_)
      obtain ⟨rfl, rfl⟩ := hp
      refine lv_istore (lv' := [(6, .int (nI (xe (pl k) v))), (0, .ref ma), (1, .int (nI r)), (3, .int (nI v)), (5, .int (nI k))]) hx hb dR_derive_90 hl (by decide) rfl (fun ls hl => ?_)
      refine lv_aload_n hx hb dR_derive_92 rfl (lv_at hl 1 rfl) ?_
      refine hp_get hx hb hG in_R hown hK hst hm.ob rfl 6 (by decide) (hG _ fl_R_21) rfl rfl dR_derive_93 ?_
      refine lv_iload hx hb dR_derive_96 (lv_at hl 4 rfl) ?_
      refine hp_iald hx hb hK rfl hst (hm.rw (j := 4) (by omega) (by omega)) (j := k) (by omega) (by omega) dR_derive_98 ?_
      refine tp_n (e2 := P a (pl k)) hbi ?_
      refine lv_if_eq hx hb dR_derive_99 (tgt := 188) rfl (fun hc => ?_) (fun hc => ?_)
      · skip
        rw [← nI_0] at hc
        have hcz : (P a (pl k)) = 0 := (nI_eq (by omega) (by omega)).mp hc
        refine lv_iinc (lv' := [(5, .int (nI (k + 1))), (6, .int (nI (xe (pl k) v))), (0, .ref ma), (1, .int (nI r)), (3, .int (nI v))]) hx hb dR_derive_188 hl (k := 4) rfl (ii_p _) (by decide) rfl (fun ls hl => ?_)
        refine lv_goto hx hb dR_derive_191 (tgt := 75) rfl ?_
        exact ihLP _ (by omega) (k + 1) d M1 g1 _ _ _ rfl (by omega) hm hsm hr1 (by rw [td_pl_n (by omega) hcz] at hinv; exact hinv) ho hst (lv_sub hl [2, 3, 4, 0] rfl)
      · skip
        rw [← nI_0] at hc
        have hcz : ¬ (P a (pl k)) = 0 := fun z => hc ((nI_eq (by omega) (by omega)).mpr z)
        rw [td_pl_y (by omega) hcz] at hinv
        refine lv_iload hx hb dR_derive_102 (lv_at hl 0 rfl) ?_
        refine lv_if_ne hx hb dR_derive_104 (tgt := 110) rfl (fun hc => ?_) (fun hc => ?_)
        · skip
          rw [← nI_0] at hc
          have hce : ¬ (xe (pl k) v) = 0 := fun z => hc ((nI_eq (by omega) (by omega)).mpr z)
          rw [drL_y (q := (pl k, P a (pl k))) hce] at hinv
          obtain ⟨sv1, sv2⟩ := sv_mv pmi hv hce
          have hrw := rk_lt sv2
          have h36 := pmi.1
          have l4 : xe (pl k) v * P a (pl k) ≤ 64 * 46337 := Nat.mul_le_mul (by omega) (by omega)
          have pe := pmi.2
          refine lv_aload_n hx hb dR_derive_110 rfl (lv_at hl 1 rfl) ?_
          refine hp_get hx hb hG in_R hown hK hst hm.ob rfl 8 (by decide) (hG _ fl_R_27) rfl rfl dR_derive_111 ?_
          refine lv_aload_n hx hb dR_derive_114 rfl (lv_at hl 1 rfl) ?_
          refine lv_aload_n hx hb dR_derive_115 rfl (lv_at hl 1 rfl) ?_
          refine lv_iload hx hb dR_derive_116 (lv_at hl 4 rfl) ?_
          refine lv_iconst (v := nI 0) hx hb dR_derive_118 (by decide +kernel) ?_
          refine ct_callV (av2 := [.int (nI k), .int (nI 0)]) (rest := [.ref ma, .ref (E 6)]) (b := ma) X hst (c_R_exponent l D Y lo hm (k := k) (v := 0) (by omega) (by omega)) hm.ob rfl wc_R_exponent ml_R_58 wi_R_exponent wl_R_exponent wn_R md_R_exponent (by decide) hl.1 rfl (Nat.le_of_ble_eq_true rfl) ⟨by omega, by omega⟩ (fun _ _ h => h.elim) dR_derive_119 (fun r M' H locs hp hst => ?_)
          obtain ⟨rfl, rfl⟩ := hp
          refine lv_iload_n hx hb dR_derive_122 rfl (lv_at hl 3 rfl) ?_
          refine lv_if_ne hx hb dR_derive_123 (tgt := 130) rfl (fun hc => ?_) (fun hc => ?_)
          · skip
            rw [← nI_0] at hc
            have hv0 : ¬ v = 0 := fun z => hc ((nI_eq (by omega) (by omega)).mpr z)
            refine lv_iconst (v := nI 0) hx hb dR_derive_130 (by decide +kernel) ?_
            refine t_isub hx hb dR_derive_131 (v := nI ((xe (pl k) 0) - 0)) (pk_sub (by omega)) ?_
            refine lv_aload_n hx hb dR_derive_132 rfl (lv_at hl 1 rfl) ?_
            refine lv_iload hx hb dR_derive_133 (lv_at hl 4 rfl) ?_
            refine lv_iconst (v := nI 1) hx hb dR_derive_135 (by decide +kernel) ?_
            refine ct_callV (av2 := [.int (nI k), .int (nI 1)]) (rest := [.int (nI ((xe (pl k) 0) - 0)), .ref ma, .ref (E 6)]) (b := ma) X hst (c_R_exponent l D Y lo hm (k := k) (v := 1) (by omega) (by omega)) hm.ob rfl wc_R_exponent ml_R_58 wi_R_exponent wl_R_exponent wn_R md_R_exponent (by decide) hl.1 rfl (Nat.le_of_ble_eq_true rfl) ⟨by omega, by omega⟩ (fun _ _ h => h.elim) dR_derive_136 (fun r M' H locs hp hst => ?_)
            obtain ⟨rfl, rfl⟩ := hp
            refine lv_iload_n hx hb dR_derive_139 rfl (lv_at hl 3 rfl) ?_
            refine lv_iconst (v := nI 1) hx hb dR_derive_140 (by decide +kernel) ?_
            refine lv_icmp_ne hx hb dR_derive_141 (tgt := 148) rfl (fun hc => ?_) (fun hc => ?_)
            · skip
              have hv1 : ¬ v = 1 := fun z => hc ((nI_eq (by omega) (by omega)).mpr z)
              refine lv_iconst (v := nI 0) hx hb dR_derive_148 (by decide +kernel) ?_
              refine t_isub hx hb dR_derive_149 (v := nI ((xe (pl k) 1) - 0)) (pk_sub (by omega)) ?_
              refine lv_aload_n hx hb dR_derive_150 rfl (lv_at hl 1 rfl) ?_
              refine lv_iload hx hb dR_derive_151 (lv_at hl 4 rfl) ?_
              refine lv_iconst (v := nI 2) hx hb dR_derive_153 (by decide +kernel) ?_
              refine ct_callV (av2 := [.int (nI k), .int (nI 2)]) (rest := [.int (nI ((xe (pl k) 1) - 0)), .int (nI ((xe (pl k) 0) - 0)), .ref ma, .ref (E 6)]) (b := ma) X hst (c_R_exponent l D Y lo hm (k := k) (v := 2) (by omega) (by omega)) hm.ob rfl wc_R_exponent ml_R_58 wi_R_exponent wl_R_exponent wn_R md_R_exponent (by decide) hl.1 rfl (Nat.le_of_ble_eq_true rfl) ⟨by omega, by omega⟩ (fun _ _ h => h.elim) dR_derive_154 (fun r M' H locs hp hst => ?_)
              obtain ⟨rfl, rfl⟩ := hp
              refine lv_iload_n hx hb dR_derive_157 rfl (lv_at hl 3 rfl) ?_
              refine lv_iconst (v := nI 2) hx hb dR_derive_158 (by decide +kernel) ?_
              refine lv_icmp_ne hx hb dR_derive_159 (tgt := 166) rfl (fun hc => ?_) (fun hc => ?_)
              · skip
                have hv2 : ¬ v = 2 := fun z => hc ((nI_eq (by omega) (by omega)).mpr z)
                refine lv_iconst (v := nI 0) hx hb dR_derive_166 (by decide +kernel) ?_
                refine t_isub hx hb dR_derive_167 (v := nI ((xe (pl k) 2) - 0)) (pk_sub (by omega)) ?_
                exact absurd hv (by omega)
              · skip
                have hv2 : v = 2 := (nI_eq (by omega) (by omega)).mp hc
                have hvu2 : 1 ≤ xe (pl k) 2 := by have h9 := hce; rw [hv2] at h9; omega
                refine lv_iconst (v := nI 1) hx hb dR_derive_162 (by decide +kernel) ?_
                refine lv_goto hx hb dR_derive_163 (tgt := 167) rfl ?_
                refine t_isub hx hb dR_derive_167 (v := nI ((xe (pl k) 2) - 1)) (pk_sub (by omega)) ?_
                have hmpe : mp (xe (pl k) 0 - 0) (xe (pl k) 1 - 0) (xe (pl k) 2 - 1) = pl k - vv v := by
                  rw [hv2]
                  generalize xe (pl k) 0 = x0 at *
                  generalize xe (pl k) 1 = x1 at *
                  generalize xe (pl k) 2 = x2 at *
                  rw [pe]
                  unfold mp vv
                  omega
                refine ct_callV (av2 := [.int (nI ((xe (pl k) 0) - 0)), .int (nI ((xe (pl k) 1) - 0)), .int (nI ((xe (pl k) 2) - 1))]) (rest := [.ref (E 6)]) (b := ma) X hst (c_R_place l D Y lo hm (a := xe (pl k) 0 - 0) (b := xe (pl k) 1 - 0) (d := xe (pl k) 2 - 1) (by omega)) hm.ob rfl wc_R_place ml_R_62 wi_R_place wl_R_place wn_R md_R_place (by decide) hl.1 rfl (Nat.le_of_ble_eq_true rfl) ⟨by omega, by omega⟩ (fun _ _ h => h.elim) dR_derive_168 (fun r M' H locs hp hst => ?_)
                obtain ⟨rfl, rfl⟩ := hp
                refine tp_n (e2 := 9138 - rk (pl k - vv v)) (by rw [hmpe]) ?_
                refine lv_aload_n hx hb dR_derive_171 rfl (lv_at hl 1 rfl) ?_
                refine lv_iload hx hb dR_derive_172 (lv_at hl 0 rfl) ?_
                refine lv_i2l (v := lN (xe (pl k) v)) hx hb dR_derive_174 (nI_l (by omega)) ?_
                refine lv_aload_n hx hb dR_derive_175 rfl (lv_at hl 1 rfl) ?_
                refine hp_get hx hb hG in_R hown hK hst hm.ob rfl 6 (by decide) (hG _ fl_R_21) rfl rfl dR_derive_176 ?_
                refine lv_iload hx hb dR_derive_179 (lv_at hl 4 rfl) ?_
                refine hp_iald hx hb hK rfl hst (hm.rw (j := 4) (by omega) (by omega)) (j := k) (by omega) (by omega) dR_derive_181 ?_
                refine tp_n (e2 := P a (pl k)) hbi ?_
                refine lv_i2l (v := lN (P a (pl k))) hx hb dR_derive_182 (nI_l (by omega)) ?_
                refine lv_lmul hx hb dR_derive_183 ?_
                refine tp_l (e2 := lN ((xe (pl k) v) * (P a (pl k)))) (lN_mul _ _) ?_
                refine ct_callV (av2 := [.long (lN ((xe (pl k) v) * (P a (pl k))))]) (rest := [.int (nI (9138 - rk (pl k - vv v))), .ref (E 6)]) (b := ma) X hst (c_R_reduced l D Y lo hm (lN (xe (pl k) v * P a (pl k)))) hm.ob rfl wc_R_reduced ml_R_66 wi_R_reduced wl_R_reduced wn_R md_R_reduced (by decide) hl.1 rfl (Nat.le_of_ble_eq_true rfl) ⟨by omega, by omega⟩ (fun _ _ h => h.elim) dR_derive_184 (fun r M' H locs hp hst => ?_)
                obtain ⟨rfl, rfl⟩ := hp
                refine tp_n (e2 := xe (pl k) v * P a (pl k) % p) (by rw [lN_big (by omega), rd_nat]) ?_
                refine hp_iast hx hb hK rfl hst (hm.rw (j := 6) (by omega) (by omega)) (j := (9138 - rk (pl k - vv v))) (v := (xe (pl k) v * P a (pl k) % p)) (by omega) (by omega) dR_derive_187 (fun H locs hst => ?_)
                obtain ⟨hm1, hs2⟩ := hm.sr (j := 6) (by omega) (by omega) (va_up (d 6) (9138 - rk (pl k - vv v)) (xe (pl k) v * P a (pl k) % p))
                generalize hp_up M1 (E 6) ((1000, 6), e_n Y 9139 (va_up (d 6) (9138 - rk (pl k - vv v)) (xe (pl k) v * P a (pl k) % p))) = M3 at hst hm1 hs2
                have ho4 := ho.tr hs2
                refine lv_iinc (lv' := [(5, .int (nI (k + 1))), (6, .int (nI (xe (pl k) v))), (0, .ref ma), (1, .int (nI r)), (3, .int (nI v))]) hx hb dR_derive_188 hl (k := 4) rfl (ii_p _) (by decide) rfl (fun ls hl => ?_)
                refine lv_goto hx hb dR_derive_191 (tgt := 75) rfl ?_
                exact ihLP _ (by omega) (k + 1) (va_up d 6 (va_up (d 6) (9138 - rk (pl k - vv v)) (xe (pl k) v * P a (pl k) % p))) M3 (va_up g1 (pl k - vv v) (xe (pl k) v * P a (pl k) % p)) _ _ _ rfl (by omega) hm1 (fun x hx => by rw [va_up_ne _ _ hx]; exact hsm x hx) (by rw [va_up_self]; exact rp_up hr1 sv2) hinv ho4 hst (lv_sub hl [2, 3, 4, 0] rfl)
            · skip
              have hv1 : v = 1 := (nI_eq (by omega) (by omega)).mp hc
              have hvu1 : 1 ≤ xe (pl k) 1 := by have h9 := hce; rw [hv1] at h9; omega
              refine lv_iconst (v := nI 1) hx hb dR_derive_144 (by decide +kernel) ?_
              refine lv_goto hx hb dR_derive_145 (tgt := 149) rfl ?_
              refine t_isub hx hb dR_derive_149 (v := nI ((xe (pl k) 1) - 1)) (pk_sub (by omega)) ?_
              refine lv_aload_n hx hb dR_derive_150 rfl (lv_at hl 1 rfl) ?_
              refine lv_iload hx hb dR_derive_151 (lv_at hl 4 rfl) ?_
              refine lv_iconst (v := nI 2) hx hb dR_derive_153 (by decide +kernel) ?_
              refine ct_callV (av2 := [.int (nI k), .int (nI 2)]) (rest := [.int (nI ((xe (pl k) 1) - 1)), .int (nI ((xe (pl k) 0) - 0)), .ref ma, .ref (E 6)]) (b := ma) X hst (c_R_exponent l D Y lo hm (k := k) (v := 2) (by omega) (by omega)) hm.ob rfl wc_R_exponent ml_R_58 wi_R_exponent wl_R_exponent wn_R md_R_exponent (by decide) hl.1 rfl (Nat.le_of_ble_eq_true rfl) ⟨by omega, by omega⟩ (fun _ _ h => h.elim) dR_derive_154 (fun r M' H locs hp hst => ?_)
              obtain ⟨rfl, rfl⟩ := hp
              refine lv_iload_n hx hb dR_derive_157 rfl (lv_at hl 3 rfl) ?_
              refine lv_iconst (v := nI 2) hx hb dR_derive_158 (by decide +kernel) ?_
              refine lv_icmp_ne hx hb dR_derive_159 (tgt := 166) rfl (fun hc => ?_) (fun hc => ?_)
              · skip
                have hv2 : ¬ v = 2 := fun z => hc ((nI_eq (by omega) (by omega)).mpr z)
                refine lv_iconst (v := nI 0) hx hb dR_derive_166 (by decide +kernel) ?_
                refine t_isub hx hb dR_derive_167 (v := nI ((xe (pl k) 2) - 0)) (pk_sub (by omega)) ?_
                have hmpe : mp (xe (pl k) 0 - 0) (xe (pl k) 1 - 1) (xe (pl k) 2 - 0) = pl k - vv v := by
                  rw [hv1]
                  generalize xe (pl k) 0 = x0 at *
                  generalize xe (pl k) 1 = x1 at *
                  generalize xe (pl k) 2 = x2 at *
                  rw [pe]
                  unfold mp vv
                  omega
                refine ct_callV (av2 := [.int (nI ((xe (pl k) 0) - 0)), .int (nI ((xe (pl k) 1) - 1)), .int (nI ((xe (pl k) 2) - 0))]) (rest := [.ref (E 6)]) (b := ma) X hst (c_R_place l D Y lo hm (a := xe (pl k) 0 - 0) (b := xe (pl k) 1 - 1) (d := xe (pl k) 2 - 0) (by omega)) hm.ob rfl wc_R_place ml_R_62 wi_R_place wl_R_place wn_R md_R_place (by decide) hl.1 rfl (Nat.le_of_ble_eq_true rfl) ⟨by omega, by omega⟩ (fun _ _ h => h.elim) dR_derive_168 (fun r M' H locs hp hst => ?_)
                obtain ⟨rfl, rfl⟩ := hp
                refine tp_n (e2 := 9138 - rk (pl k - vv v)) (by rw [hmpe]) ?_
                refine lv_aload_n hx hb dR_derive_171 rfl (lv_at hl 1 rfl) ?_
                refine lv_iload hx hb dR_derive_172 (lv_at hl 0 rfl) ?_
                refine lv_i2l (v := lN (xe (pl k) v)) hx hb dR_derive_174 (nI_l (by omega)) ?_
                refine lv_aload_n hx hb dR_derive_175 rfl (lv_at hl 1 rfl) ?_
                refine hp_get hx hb hG in_R hown hK hst hm.ob rfl 6 (by decide) (hG _ fl_R_21) rfl rfl dR_derive_176 ?_
                refine lv_iload hx hb dR_derive_179 (lv_at hl 4 rfl) ?_
                refine hp_iald hx hb hK rfl hst (hm.rw (j := 4) (by omega) (by omega)) (j := k) (by omega) (by omega) dR_derive_181 ?_
                refine tp_n (e2 := P a (pl k)) hbi ?_
                refine lv_i2l (v := lN (P a (pl k))) hx hb dR_derive_182 (nI_l (by omega)) ?_
                refine lv_lmul hx hb dR_derive_183 ?_
                refine tp_l (e2 := lN ((xe (pl k) v) * (P a (pl k)))) (lN_mul _ _) ?_
                refine ct_callV (av2 := [.long (lN ((xe (pl k) v) * (P a (pl k))))]) (rest := [.int (nI (9138 - rk (pl k - vv v))), .ref (E 6)]) (b := ma) X hst (c_R_reduced l D Y lo hm (lN (xe (pl k) v * P a (pl k)))) hm.ob rfl wc_R_reduced ml_R_66 wi_R_reduced wl_R_reduced wn_R md_R_reduced (by decide) hl.1 rfl (Nat.le_of_ble_eq_true rfl) ⟨by omega, by omega⟩ (fun _ _ h => h.elim) dR_derive_184 (fun r M' H locs hp hst => ?_)
                obtain ⟨rfl, rfl⟩ := hp
                refine tp_n (e2 := xe (pl k) v * P a (pl k) % p) (by rw [lN_big (by omega), rd_nat]) ?_
                refine hp_iast hx hb hK rfl hst (hm.rw (j := 6) (by omega) (by omega)) (j := (9138 - rk (pl k - vv v))) (v := (xe (pl k) v * P a (pl k) % p)) (by omega) (by omega) dR_derive_187 (fun H locs hst => ?_)
                obtain ⟨hm1, hs2⟩ := hm.sr (j := 6) (by omega) (by omega) (va_up (d 6) (9138 - rk (pl k - vv v)) (xe (pl k) v * P a (pl k) % p))
                generalize hp_up M1 (E 6) ((1000, 6), e_n Y 9139 (va_up (d 6) (9138 - rk (pl k - vv v)) (xe (pl k) v * P a (pl k) % p))) = M3 at hst hm1 hs2
                have ho4 := ho.tr hs2
                refine lv_iinc (lv' := [(5, .int (nI (k + 1))), (6, .int (nI (xe (pl k) v))), (0, .ref ma), (1, .int (nI r)), (3, .int (nI v))]) hx hb dR_derive_188 hl (k := 4) rfl (ii_p _) (by decide) rfl (fun ls hl => ?_)
                refine lv_goto hx hb dR_derive_191 (tgt := 75) rfl ?_
                exact ihLP _ (by omega) (k + 1) (va_up d 6 (va_up (d 6) (9138 - rk (pl k - vv v)) (xe (pl k) v * P a (pl k) % p))) M3 (va_up g1 (pl k - vv v) (xe (pl k) v * P a (pl k) % p)) _ _ _ rfl (by omega) hm1 (fun x hx => by rw [va_up_ne _ _ hx]; exact hsm x hx) (by rw [va_up_self]; exact rp_up hr1 sv2) hinv ho4 hst (lv_sub hl [2, 3, 4, 0] rfl)
              · skip
                have hv2 : v = 2 := (nI_eq (by omega) (by omega)).mp hc
                have hvu2 : 1 ≤ xe (pl k) 2 := by have h9 := hce; rw [hv2] at h9; omega
                refine lv_iconst (v := nI 1) hx hb dR_derive_162 (by decide +kernel) ?_
                refine lv_goto hx hb dR_derive_163 (tgt := 167) rfl ?_
                refine t_isub hx hb dR_derive_167 (v := nI ((xe (pl k) 2) - 1)) (pk_sub (by omega)) ?_
                exact absurd hv (by omega)
          · skip
            rw [← nI_0] at hc
            have hv0 : v = 0 := (nI_eq (by omega) (by omega)).mp hc
            have hvu0 : 1 ≤ xe (pl k) 0 := by have h9 := hce; rw [hv0] at h9; omega
            refine lv_iconst (v := nI 1) hx hb dR_derive_126 (by decide +kernel) ?_
            refine lv_goto hx hb dR_derive_127 (tgt := 131) rfl ?_
            refine t_isub hx hb dR_derive_131 (v := nI ((xe (pl k) 0) - 1)) (pk_sub (by omega)) ?_
            refine lv_aload_n hx hb dR_derive_132 rfl (lv_at hl 1 rfl) ?_
            refine lv_iload hx hb dR_derive_133 (lv_at hl 4 rfl) ?_
            refine lv_iconst (v := nI 1) hx hb dR_derive_135 (by decide +kernel) ?_
            refine ct_callV (av2 := [.int (nI k), .int (nI 1)]) (rest := [.int (nI ((xe (pl k) 0) - 1)), .ref ma, .ref (E 6)]) (b := ma) X hst (c_R_exponent l D Y lo hm (k := k) (v := 1) (by omega) (by omega)) hm.ob rfl wc_R_exponent ml_R_58 wi_R_exponent wl_R_exponent wn_R md_R_exponent (by decide) hl.1 rfl (Nat.le_of_ble_eq_true rfl) ⟨by omega, by omega⟩ (fun _ _ h => h.elim) dR_derive_136 (fun r M' H locs hp hst => ?_)
            obtain ⟨rfl, rfl⟩ := hp
            refine lv_iload_n hx hb dR_derive_139 rfl (lv_at hl 3 rfl) ?_
            refine lv_iconst (v := nI 1) hx hb dR_derive_140 (by decide +kernel) ?_
            refine lv_icmp_ne hx hb dR_derive_141 (tgt := 148) rfl (fun hc => ?_) (fun hc => ?_)
            · skip
              have hv1 : ¬ v = 1 := fun z => hc ((nI_eq (by omega) (by omega)).mpr z)
              refine lv_iconst (v := nI 0) hx hb dR_derive_148 (by decide +kernel) ?_
              refine t_isub hx hb dR_derive_149 (v := nI ((xe (pl k) 1) - 0)) (pk_sub (by omega)) ?_
              refine lv_aload_n hx hb dR_derive_150 rfl (lv_at hl 1 rfl) ?_
              refine lv_iload hx hb dR_derive_151 (lv_at hl 4 rfl) ?_
              refine lv_iconst (v := nI 2) hx hb dR_derive_153 (by decide +kernel) ?_
              refine ct_callV (av2 := [.int (nI k), .int (nI 2)]) (rest := [.int (nI ((xe (pl k) 1) - 0)), .int (nI ((xe (pl k) 0) - 1)), .ref ma, .ref (E 6)]) (b := ma) X hst (c_R_exponent l D Y lo hm (k := k) (v := 2) (by omega) (by omega)) hm.ob rfl wc_R_exponent ml_R_58 wi_R_exponent wl_R_exponent wn_R md_R_exponent (by decide) hl.1 rfl (Nat.le_of_ble_eq_true rfl) ⟨by omega, by omega⟩ (fun _ _ h => h.elim) dR_derive_154 (fun r M' H locs hp hst => ?_)
              obtain ⟨rfl, rfl⟩ := hp
              refine lv_iload_n hx hb dR_derive_157 rfl (lv_at hl 3 rfl) ?_
              refine lv_iconst (v := nI 2) hx hb dR_derive_158 (by decide +kernel) ?_
              refine lv_icmp_ne hx hb dR_derive_159 (tgt := 166) rfl (fun hc => ?_) (fun hc => ?_)
              · skip
                have hv2 : ¬ v = 2 := fun z => hc ((nI_eq (by omega) (by omega)).mpr z)
                refine lv_iconst (v := nI 0) hx hb dR_derive_166 (by decide +kernel) ?_
                refine t_isub hx hb dR_derive_167 (v := nI ((xe (pl k) 2) - 0)) (pk_sub (by omega)) ?_
                have hmpe : mp (xe (pl k) 0 - 1) (xe (pl k) 1 - 0) (xe (pl k) 2 - 0) = pl k - vv v := by
                  rw [hv0]
                  generalize xe (pl k) 0 = x0 at *
                  generalize xe (pl k) 1 = x1 at *
                  generalize xe (pl k) 2 = x2 at *
                  rw [pe]
                  unfold mp vv
                  omega
                refine ct_callV (av2 := [.int (nI ((xe (pl k) 0) - 1)), .int (nI ((xe (pl k) 1) - 0)), .int (nI ((xe (pl k) 2) - 0))]) (rest := [.ref (E 6)]) (b := ma) X hst (c_R_place l D Y lo hm (a := xe (pl k) 0 - 1) (b := xe (pl k) 1 - 0) (d := xe (pl k) 2 - 0) (by omega)) hm.ob rfl wc_R_place ml_R_62 wi_R_place wl_R_place wn_R md_R_place (by decide) hl.1 rfl (Nat.le_of_ble_eq_true rfl) ⟨by omega, by omega⟩ (fun _ _ h => h.elim) dR_derive_168 (fun r M' H locs hp hst => ?_)
                obtain ⟨rfl, rfl⟩ := hp
                refine tp_n (e2 := 9138 - rk (pl k - vv v)) (by rw [hmpe]) ?_
                refine lv_aload_n hx hb dR_derive_171 rfl (lv_at hl 1 rfl) ?_
                refine lv_iload hx hb dR_derive_172 (lv_at hl 0 rfl) ?_
                refine lv_i2l (v := lN (xe (pl k) v)) hx hb dR_derive_174 (nI_l (by omega)) ?_
                refine lv_aload_n hx hb dR_derive_175 rfl (lv_at hl 1 rfl) ?_
                refine hp_get hx hb hG in_R hown hK hst hm.ob rfl 6 (by decide) (hG _ fl_R_21) rfl rfl dR_derive_176 ?_
                refine lv_iload hx hb dR_derive_179 (lv_at hl 4 rfl) ?_
                refine hp_iald hx hb hK rfl hst (hm.rw (j := 4) (by omega) (by omega)) (j := k) (by omega) (by omega) dR_derive_181 ?_
                refine tp_n (e2 := P a (pl k)) hbi ?_
                refine lv_i2l (v := lN (P a (pl k))) hx hb dR_derive_182 (nI_l (by omega)) ?_
                refine lv_lmul hx hb dR_derive_183 ?_
                refine tp_l (e2 := lN ((xe (pl k) v) * (P a (pl k)))) (lN_mul _ _) ?_
                refine ct_callV (av2 := [.long (lN ((xe (pl k) v) * (P a (pl k))))]) (rest := [.int (nI (9138 - rk (pl k - vv v))), .ref (E 6)]) (b := ma) X hst (c_R_reduced l D Y lo hm (lN (xe (pl k) v * P a (pl k)))) hm.ob rfl wc_R_reduced ml_R_66 wi_R_reduced wl_R_reduced wn_R md_R_reduced (by decide) hl.1 rfl (Nat.le_of_ble_eq_true rfl) ⟨by omega, by omega⟩ (fun _ _ h => h.elim) dR_derive_184 (fun r M' H locs hp hst => ?_)
                obtain ⟨rfl, rfl⟩ := hp
                refine tp_n (e2 := xe (pl k) v * P a (pl k) % p) (by rw [lN_big (by omega), rd_nat]) ?_
                refine hp_iast hx hb hK rfl hst (hm.rw (j := 6) (by omega) (by omega)) (j := (9138 - rk (pl k - vv v))) (v := (xe (pl k) v * P a (pl k) % p)) (by omega) (by omega) dR_derive_187 (fun H locs hst => ?_)
                obtain ⟨hm1, hs2⟩ := hm.sr (j := 6) (by omega) (by omega) (va_up (d 6) (9138 - rk (pl k - vv v)) (xe (pl k) v * P a (pl k) % p))
                generalize hp_up M1 (E 6) ((1000, 6), e_n Y 9139 (va_up (d 6) (9138 - rk (pl k - vv v)) (xe (pl k) v * P a (pl k) % p))) = M3 at hst hm1 hs2
                have ho4 := ho.tr hs2
                refine lv_iinc (lv' := [(5, .int (nI (k + 1))), (6, .int (nI (xe (pl k) v))), (0, .ref ma), (1, .int (nI r)), (3, .int (nI v))]) hx hb dR_derive_188 hl (k := 4) rfl (ii_p _) (by decide) rfl (fun ls hl => ?_)
                refine lv_goto hx hb dR_derive_191 (tgt := 75) rfl ?_
                exact ihLP _ (by omega) (k + 1) (va_up d 6 (va_up (d 6) (9138 - rk (pl k - vv v)) (xe (pl k) v * P a (pl k) % p))) M3 (va_up g1 (pl k - vv v) (xe (pl k) v * P a (pl k) % p)) _ _ _ rfl (by omega) hm1 (fun x hx => by rw [va_up_ne _ _ hx]; exact hsm x hx) (by rw [va_up_self]; exact rp_up hr1 sv2) hinv ho4 hst (lv_sub hl [2, 3, 4, 0] rfl)
              · skip
                have hv2 : v = 2 := (nI_eq (by omega) (by omega)).mp hc
                have hvu2 : 1 ≤ xe (pl k) 2 := by have h9 := hce; rw [hv2] at h9; omega
                refine lv_iconst (v := nI 1) hx hb dR_derive_162 (by decide +kernel) ?_
                refine lv_goto hx hb dR_derive_163 (tgt := 167) rfl ?_
                refine t_isub hx hb dR_derive_167 (v := nI ((xe (pl k) 2) - 1)) (pk_sub (by omega)) ?_
                exact absurd hv (by omega)
            · skip
              have hv1 : v = 1 := (nI_eq (by omega) (by omega)).mp hc
              have hvu1 : 1 ≤ xe (pl k) 1 := by have h9 := hce; rw [hv1] at h9; omega
              refine lv_iconst (v := nI 1) hx hb dR_derive_144 (by decide +kernel) ?_
              refine lv_goto hx hb dR_derive_145 (tgt := 149) rfl ?_
              refine t_isub hx hb dR_derive_149 (v := nI ((xe (pl k) 1) - 1)) (pk_sub (by omega)) ?_
              refine lv_aload_n hx hb dR_derive_150 rfl (lv_at hl 1 rfl) ?_
              refine lv_iload hx hb dR_derive_151 (lv_at hl 4 rfl) ?_
              refine lv_iconst (v := nI 2) hx hb dR_derive_153 (by decide +kernel) ?_
              refine ct_callV (av2 := [.int (nI k), .int (nI 2)]) (rest := [.int (nI ((xe (pl k) 1) - 1)), .int (nI ((xe (pl k) 0) - 1)), .ref ma, .ref (E 6)]) (b := ma) X hst (c_R_exponent l D Y lo hm (k := k) (v := 2) (by omega) (by omega)) hm.ob rfl wc_R_exponent ml_R_58 wi_R_exponent wl_R_exponent wn_R md_R_exponent (by decide) hl.1 rfl (Nat.le_of_ble_eq_true rfl) ⟨by omega, by omega⟩ (fun _ _ h => h.elim) dR_derive_154 (fun r M' H locs hp hst => ?_)
              obtain ⟨rfl, rfl⟩ := hp
              refine lv_iload_n hx hb dR_derive_157 rfl (lv_at hl 3 rfl) ?_
              refine lv_iconst (v := nI 2) hx hb dR_derive_158 (by decide +kernel) ?_
              refine lv_icmp_ne hx hb dR_derive_159 (tgt := 166) rfl (fun hc => ?_) (fun hc => ?_)
              · skip
                have hv2 : ¬ v = 2 := fun z => hc ((nI_eq (by omega) (by omega)).mpr z)
                refine lv_iconst (v := nI 0) hx hb dR_derive_166 (by decide +kernel) ?_
                refine t_isub hx hb dR_derive_167 (v := nI ((xe (pl k) 2) - 0)) (pk_sub (by omega)) ?_
                exact absurd hv (by omega)
              · skip
                have hv2 : v = 2 := (nI_eq (by omega) (by omega)).mp hc
                have hvu2 : 1 ≤ xe (pl k) 2 := by have h9 := hce; rw [hv2] at h9; omega
                refine lv_iconst (v := nI 1) hx hb dR_derive_162 (by decide +kernel) ?_
                refine lv_goto hx hb dR_derive_163 (tgt := 167) rfl ?_
                refine t_isub hx hb dR_derive_167 (v := nI ((xe (pl k) 2) - 1)) (pk_sub (by omega)) ?_
                exact absurd hv (by omega)
        · skip
          rw [← nI_0] at hc
          have hce : (xe (pl k) v) = 0 := (nI_eq (by omega) (by omega)).mp hc
          rw [drL_n (q := (pl k, P a (pl k))) hce] at hinv
          refine lv_goto hx hb dR_derive_107 (tgt := 188) rfl ?_
          refine lv_iinc (lv' := [(5, .int (nI (k + 1))), (6, .int (nI (xe (pl k) v))), (0, .ref ma), (1, .int (nI r)), (3, .int (nI v))]) hx hb dR_derive_188 hl (k := 4) rfl (ii_p _) (by decide) rfl (fun ls hl => ?_)
          refine lv_goto hx hb dR_derive_191 (tgt := 75) rfl ?_
          exact ihLP _ (by omega) (k + 1) d M1 g1 _ _ _ rfl (by omega) hm hsm hr1 hinv ho hst (lv_sub hl [2, 3, 4, 0] rfl)
  exact LP _ 0 c3 M3 (fun _ => 0) _ _ _ rfl (by omega) hm3 (fun x hx => rfl) z3 rfl ((hoF.tr hoL4).tr ho3) hst (lv_sub hl [2, 3, 5, 0] rfl)

set_option maxHeartbeats 4000000 in
set_option maxRecDepth 100000 in
theorem e_R_derive (l : Launch) (D : va_G) (Y : Nat → ClassId) (lo : Nat) {M : Hm} {ma p rf th : Nat} {E : Nat → Nat} {c : Nat → Nat → Nat} (hm : mo Y M ma E p rf th c) {x1 x2 x3 : Int32} (hno : ¬ ((inR x1 ∧ inR x2) ∧ inV x3)) : ct l D Y lo y_R_derive b_R_derive 7 none 1 [.ref ma, .int x1, .int x2, .int x3] M (fun r9 M' => ∃ t : Nat, r9 = none ∧ mo Y M' ma E p rf t c ∧ (t = 1 ∧ ¬ (inR x1 ∧ inR x2) ∨ t = 2 ∧ (inR x1 ∧ inR x2)) ∧ hp_off (fun i => i = 1000) M M') nx 0 0 := by
  refine ct_of (by decide) (Nat.le_of_ble_eq_true rfl) ?_
  intro pg eg sg mg bw mt cg ls X hst hl
  have X1 := X
  obtain ⟨hx, hb, hml, hrt, hlocks, hown, hnm, hts, hkz, hex⟩ := X1
  have hG : ∀ w ∈ GW, w.before _ sg = true := fun w h => hts w (List.mem_cons_of_mem _ h)
  have hK := hkz.1
  have hl : lv_has ls 7 [(0, .ref ma), (1, .int x1), (2, .int x2), (3, .int x3)] := hl
  refine lv_iload_n hx hb dR_derive_0 rfl (lv_at hl 1 rfl) ?_
  refine ct_callS (av2 := [.int x1]) (rest := []) X hst (c_R_isRegister l D Y lo x1) wc_R_isRegister ml_R_85 ws_R_isRegister wn_R md_R_isRegister (by decide) hl.1 rfl (Nat.le_of_ble_eq_true rfl) ⟨by omega, by omega⟩ (fun _ _ h => h.elim) dR_derive_1 (fun r M' H locs hp hst => ?_)
  obtain ⟨b1, rfl, hb1, ib1, rfl⟩ := hp
  refine lv_if_eq hx hb dR_derive_4 (tgt := 18) rfl (fun hc => ?_) (fun hc => ?_)
  · skip
    rw [← nI_0] at hc
    have hz1 : b1 = 0 := (nI_eq (by omega) (by omega)).mp hc
    have hnt : ¬ (inR x1 ∧ inR x2) := fun z => by have := ib1.mpr z.1; omega
    refine lv_iconst (v := nI 0) hx hb dR_derive_18 (by decide +kernel) ?_
    refine lv_istore (lv' := [(4, .int (nI 0)), (0, .ref ma), (1, .int x1), (2, .int x2), (3, .int x3)]) hx hb dR_derive_19 hl (by decide) rfl (fun ls hl => ?_)
    refine lv_aload_n hx hb dR_derive_21 rfl (lv_at hl 1 rfl) ?_
    refine lv_iload hx hb dR_derive_22 (lv_at hl 0 rfl) ?_
    refine lv_if_ne hx hb dR_derive_24 (tgt := 31) rfl (fun hc => absurd hc (by decide)) (fun hc => ?_)
    refine lv_iconst (v := nI 1) hx hb dR_derive_27 (by decide +kernel) ?_
    refine lv_goto hx hb dR_derive_28 (tgt := 32) rfl ?_
    refine lv_iload hx hb dR_derive_32 (lv_at hl 0 rfl) ?_
    refine lv_if_eq hx hb dR_derive_34 (tgt := 48) rfl (fun hc => ?_) (fun hc => absurd hc (by decide))
    refine lv_iconst (v := nI 0) hx hb dR_derive_48 (by decide +kernel) ?_
    refine ct_callV (av2 := [.int (nI 1), .int (nI 0)]) (rest := []) (b := ma) X hst (c_R_fails l D Y lo hm (a := 1) (b := 0) (by omega) (by omega)) hm.ob rfl wc_R_fails ml_R_88 wi_R_fails wl_R_fails wn_R md_R_fails (by decide) hl.1 rfl (Nat.le_of_ble_eq_true rfl) ⟨by omega, by omega⟩ (fun _ _ h => h.elim) dR_derive_49 (fun r MF H locs hp hst => ?_)
    obtain ⟨rfl, hmF, hoF⟩ := hp
    have hmF : mo Y MF ma E p rf 1 c := hmF
    refine lv_if_eq hx hb dR_derive_52 (tgt := 56) rfl (fun hc => absurd hc (by decide)) (fun hc => ?_)
    exact ct_vret X hst ⟨1, rfl, hmF, Or.inl ⟨rfl, hnt⟩, hoF⟩ (by omega) (by omega) dR_derive_55
  · skip
    rw [← nI_0] at hc
    have hz1 : ¬ b1 = 0 := fun z => hc ((nI_eq (by omega) (by omega)).mpr z)
    refine lv_iload_n hx hb dR_derive_7 rfl (lv_at hl 2 rfl) ?_
    refine ct_callS (av2 := [.int x2]) (rest := []) X hst (c_R_isRegister l D Y lo x2) wc_R_isRegister ml_R_85 ws_R_isRegister wn_R md_R_isRegister (by decide) hl.1 rfl (Nat.le_of_ble_eq_true rfl) ⟨by omega, by omega⟩ (fun _ _ h => h.elim) dR_derive_8 (fun r M' H locs hp hst => ?_)
    obtain ⟨b2, rfl, hb2, ib2, rfl⟩ := hp
    refine lv_if_eq hx hb dR_derive_11 (tgt := 18) rfl (fun hc => ?_) (fun hc => ?_)
    · skip
      rw [← nI_0] at hc
      have hz2 : b2 = 0 := (nI_eq (by omega) (by omega)).mp hc
      have hnt : ¬ (inR x1 ∧ inR x2) := fun z => by have := ib2.mpr z.2; omega
      refine lv_iconst (v := nI 0) hx hb dR_derive_18 (by decide +kernel) ?_
      refine lv_istore (lv' := [(4, .int (nI 0)), (0, .ref ma), (1, .int x1), (2, .int x2), (3, .int x3)]) hx hb dR_derive_19 hl (by decide) rfl (fun ls hl => ?_)
      refine lv_aload_n hx hb dR_derive_21 rfl (lv_at hl 1 rfl) ?_
      refine lv_iload hx hb dR_derive_22 (lv_at hl 0 rfl) ?_
      refine lv_if_ne hx hb dR_derive_24 (tgt := 31) rfl (fun hc => absurd hc (by decide)) (fun hc => ?_)
      refine lv_iconst (v := nI 1) hx hb dR_derive_27 (by decide +kernel) ?_
      refine lv_goto hx hb dR_derive_28 (tgt := 32) rfl ?_
      refine lv_iload hx hb dR_derive_32 (lv_at hl 0 rfl) ?_
      refine lv_if_eq hx hb dR_derive_34 (tgt := 48) rfl (fun hc => ?_) (fun hc => absurd hc (by decide))
      refine lv_iconst (v := nI 0) hx hb dR_derive_48 (by decide +kernel) ?_
      refine ct_callV (av2 := [.int (nI 1), .int (nI 0)]) (rest := []) (b := ma) X hst (c_R_fails l D Y lo hm (a := 1) (b := 0) (by omega) (by omega)) hm.ob rfl wc_R_fails ml_R_88 wi_R_fails wl_R_fails wn_R md_R_fails (by decide) hl.1 rfl (Nat.le_of_ble_eq_true rfl) ⟨by omega, by omega⟩ (fun _ _ h => h.elim) dR_derive_49 (fun r MF H locs hp hst => ?_)
      obtain ⟨rfl, hmF, hoF⟩ := hp
      have hmF : mo Y MF ma E p rf 1 c := hmF
      refine lv_if_eq hx hb dR_derive_52 (tgt := 56) rfl (fun hc => absurd hc (by decide)) (fun hc => ?_)
      exact ct_vret X hst ⟨1, rfl, hmF, Or.inl ⟨rfl, hnt⟩, hoF⟩ (by omega) (by omega) dR_derive_55
    · skip
      rw [← nI_0] at hc
      have hz2 : ¬ b2 = 0 := fun z => hc ((nI_eq (by omega) (by omega)).mpr z)
      have htt : inR x1 ∧ inR x2 := ⟨ib1.mp (by omega), ib2.mp (by omega)⟩
      refine lv_iconst (v := nI 1) hx hb dR_derive_14 (by decide +kernel) ?_
      refine lv_goto hx hb dR_derive_15 (tgt := 19) rfl ?_
      refine lv_istore (lv' := [(4, .int (nI 1)), (0, .ref ma), (1, .int x1), (2, .int x2), (3, .int x3)]) hx hb dR_derive_19 hl (by decide) rfl (fun ls hl => ?_)
      refine lv_aload_n hx hb dR_derive_21 rfl (lv_at hl 1 rfl) ?_
      refine lv_iload hx hb dR_derive_22 (lv_at hl 0 rfl) ?_
      refine lv_if_ne hx hb dR_derive_24 (tgt := 31) rfl (fun hc => ?_) (fun hc => absurd hc (by decide))
      refine lv_iconst (v := nI 0) hx hb dR_derive_31 (by decide +kernel) ?_
      refine lv_iload hx hb dR_derive_32 (lv_at hl 0 rfl) ?_
      refine lv_if_eq hx hb dR_derive_34 (tgt := 48) rfl (fun hc => absurd hc (by decide)) (fun hc => ?_)
      have h3 : ¬ inV x3 := fun z => hno ⟨htt, z⟩
      refine lv_iload_n hx hb dR_derive_37 rfl (lv_at hl 4 rfl) ?_
      refine ct_callS (av2 := [.int x3]) (rest := [.int (nI 0), .ref ma]) X hst (e_R_isVariable l D Y lo h3) wc_R_isVariable ml_R_96 ws_R_isVariable wn_R md_R_isVariable (by decide) hl.1 rfl (Nat.le_of_ble_eq_true rfl) ⟨by omega, by omega⟩ (fun _ _ h => h.elim) dR_derive_38 (fun r M' H locs hp hst => ?_)
      obtain ⟨rfl, rfl⟩ := hp
      refine lv_if_ne hx hb dR_derive_41 (tgt := 48) rfl (fun hc => absurd hc (by decide)) (fun hc => ?_)
      refine lv_iconst (v := nI 1) hx hb dR_derive_44 (by decide +kernel) ?_
      refine lv_goto hx hb dR_derive_45 (tgt := 49) rfl ?_
      refine ct_callV (av2 := [.int (nI 0), .int (nI 1)]) (rest := []) (b := ma) X hst (c_R_fails l D Y lo hm (a := 0) (b := 1) (by omega) (by omega)) hm.ob rfl wc_R_fails ml_R_88 wi_R_fails wl_R_fails wn_R md_R_fails (by decide) hl.1 rfl (Nat.le_of_ble_eq_true rfl) ⟨by omega, by omega⟩ (fun _ _ h => h.elim) dR_derive_49 (fun r MF H locs hp hst => ?_)
      obtain ⟨rfl, hmF, hoF⟩ := hp
      have hmF : mo Y MF ma E p rf 2 c := hmF
      refine lv_if_eq hx hb dR_derive_52 (tgt := 56) rfl (fun hc => absurd hc (by decide)) (fun hc => ?_)
      exact ct_vret X hst ⟨2, rfl, hmF, Or.inr ⟨rfl, htt⟩, hoF⟩ (by omega) (by omega) dR_derive_55

set_option maxHeartbeats 4000000 in
set_option maxRecDepth 100000 in
theorem c_R_degree (l : Launch) (D : va_G) (Y : Nat → ClassId) (lo : Nat) {M : Hm} {ma p rf th : Nat} {E : Nat → Nat} {c : Nat → Nat → Nat} (hm : mo Y M ma E p rf th c) {P : Nat → Pf} (hP : rr c P) (hPp : ∀ r, r < 12 → ∀ m, P r m < p) {r v : Nat} (hr : r < 12) (hv : v < 3) : ct l D Y lo y_R_degree b_R_degree 4 (some .int) 2 [.ref ma, .int (nI r), .int (nI v)] M (fun r9 M' => ∃ c' : Nat → Nat → Nat, r9 = some (.int (nI (dgl v (tp (P r)) 0))) ∧ mo Y M' ma E p rf 0 c' ∧ rr c' (P) ∧ hp_off (fun i => i = 1000) M M') nx 0 0 := by
  refine ct_of (by decide) (Nat.le_of_ble_eq_true rfl) ?_
  intro pg eg sg mg bw mt cg ls X hst hl
  have X1 := X
  obtain ⟨hx, hb, hml, hrt, hlocks, hown, hnm, hts, hkz, hex⟩ := X1
  have hG : ∀ w ∈ GW, w.before _ sg = true := fun w h => hts w (List.mem_cons_of_mem _ h)
  have hK := hkz.1
  have hl : lv_has ls 4 [(0, .ref ma), (1, .int (nI r)), (2, .int (nI v))] := hl
  obtain ⟨hp2, hp3⟩ := hm.p2
  refine lv_iload_n hx hb dR_degree_0 rfl (lv_at hl 1 rfl) ?_
  refine ct_callS (av2 := [.int (nI r)]) (rest := []) X hst (g_R_isRegister l D Y lo hr) wc_R_isRegister ml_R_85 ws_R_isRegister wn_R md_R_isRegister (by decide) hl.1 rfl (Nat.le_of_ble_eq_true rfl) ⟨by omega, by omega⟩ (fun _ _ h => h.elim) dR_degree_1 (fun r M' H locs hp hst => ?_)
  obtain ⟨rfl, rfl⟩ := hp
  refine lv_istore_n (lv' := [(3, .int (nI 1)), (0, .ref ma), (1, .int (nI r)), (2, .int (nI v))]) hx hb dR_degree_4 rfl hl (by decide) rfl (fun ls hl => ?_)
  refine lv_aload_n hx hb dR_degree_5 rfl (lv_at hl 1 rfl) ?_
  refine lv_iload_n hx hb dR_degree_6 rfl (lv_at hl 0 rfl) ?_
  refine lv_if_ne hx hb dR_degree_7 (tgt := 14) rfl (fun hc => ?_) (fun hc => absurd hc (by decide))
  refine lv_iconst (v := nI 0) hx hb dR_degree_14 (by decide +kernel) ?_
  refine lv_iload_n hx hb dR_degree_15 rfl (lv_at hl 0 rfl) ?_
  refine lv_if_eq hx hb dR_degree_16 (tgt := 30) rfl (fun hc => absurd hc (by decide)) (fun hc => ?_)
  refine lv_iload_n hx hb dR_degree_19 rfl (lv_at hl 3 rfl) ?_
  refine ct_callS (av2 := [.int (nI v)]) (rest := [.int (nI 0), .ref ma]) X hst (g_R_isVariable l D Y lo hv) wc_R_isVariable ml_R_96 ws_R_isVariable wn_R md_R_isVariable (by decide) hl.1 rfl (Nat.le_of_ble_eq_true rfl) ⟨by omega, by omega⟩ (fun _ _ h => h.elim) dR_degree_20 (fun r M' H locs hp hst => ?_)
  obtain ⟨rfl, rfl⟩ := hp
  refine lv_if_ne hx hb dR_degree_23 (tgt := 30) rfl (fun hc => ?_) (fun hc => absurd hc (by decide))
  refine lv_iconst (v := nI 0) hx hb dR_degree_30 (by decide +kernel) ?_
  refine ct_callV (av2 := [.int (nI 0), .int (nI 0)]) (rest := []) (b := ma) X hst (c_R_fails l D Y lo hm (a := 0) (b := 0) (by omega) (by omega)) hm.ob rfl wc_R_fails ml_R_88 wi_R_fails wl_R_fails wn_R md_R_fails (by decide) hl.1 rfl (Nat.le_of_ble_eq_true rfl) ⟨by omega, by omega⟩ (fun _ _ h => h.elim) dR_degree_31 (fun r MF H locs hp hst => ?_)
  obtain ⟨rfl, hmF, hoF⟩ := hp
  have hmF : mo Y MF ma E p rf 0 c := hmF
  refine lv_if_eq hx hb dR_degree_34 (tgt := 39) rfl (fun hc => ?_) (fun hc => absurd hc (by decide))
  refine lv_aload_n hx hb dR_degree_39 rfl (lv_at hl 1 rfl) ?_
  refine lv_iload_n hx hb dR_degree_40 rfl (lv_at hl 2 rfl) ?_
  refine lv_aload_n hx hb dR_degree_41 rfl (lv_at hl 1 rfl) ?_
  refine hp_get hx hb hG in_R hown hK hst hmF.ob rfl 6 (by decide) (hG _ fl_R_21) rfl rfl dR_degree_42 ?_
  refine ct_callV (av2 := [.int (nI r), .ref (E 4)]) (rest := []) (b := ma) X hst (c_R_load l D Y lo hmF hr (j := 4) (by omega) (by omega)) hmF.ob rfl wc_R_load ml_R_99 wi_R_load wl_R_load wn_R md_R_load (by decide) hl.1 rfl (Nat.le_of_ble_eq_true rfl) ⟨by omega, by omega⟩ (fun _ _ h => h.elim) dR_degree_45 (fun r ML4 H locs hp hst => ?_)
  obtain ⟨cL4, rfl, hmL4, sL4, vL4, hoL4⟩ := hp
  have e4 : rp (cL4 4) (P r) := fun k hk => by rw [vL4 k hk]; exact hP r hr k hk
  refine lv_aload_n hx hb dR_degree_48 rfl (lv_at hl 1 rfl) ?_
  refine lv_aload_n hx hb dR_degree_49 rfl (lv_at hl 1 rfl) ?_
  refine hp_get hx hb hG in_R hown hK hst hmL4.ob rfl 6 (by decide) (hG _ fl_R_21) rfl rfl dR_degree_50 ?_
  refine lv_iload_n hx hb dR_degree_53 rfl (lv_at hl 3 rfl) ?_
  refine ct_callV (av2 := [.ref (E 4), .int (nI v)]) (rest := []) (b := ma) X hst (c_R_degreeOf l D Y lo hmL4 (j := 4) (by omega) (by omega) e4 (p31 hp3 hPp hr) (v := v) hv) hmL4.ob rfl wc_R_degreeOf ml_R_102 wi_R_degreeOf wl_R_degreeOf wn_R md_R_degreeOf (by decide) hl.1 rfl (Nat.le_of_ble_eq_true rfl) ⟨by omega, by omega⟩ (fun _ _ h => h.elim) dR_degree_54 (fun r M' H locs hp hst => ?_)
  obtain ⟨rfl, rfl⟩ := hp
  exact ct_iret X hst ⟨cL4, rfl, hmL4, fun r hr k hk => by rw [sL4 3 (by omega)]; exact hP r hr k hk, hoF.tr hoL4⟩ (by omega) (by omega) dR_degree_57

set_option maxHeartbeats 4000000 in
set_option maxRecDepth 100000 in
theorem e_R_degree (l : Launch) (D : va_G) (Y : Nat → ClassId) (lo : Nat) {M : Hm} {ma p rf th : Nat} {E : Nat → Nat} {c : Nat → Nat → Nat} (hm : mo Y M ma E p rf th c) {x1 x2 : Int32} (hno : ¬ (inR x1 ∧ inV x2)) : ct l D Y lo y_R_degree b_R_degree 4 (some .int) 2 [.ref ma, .int x1, .int x2] M (fun r9 M' => ∃ t : Nat, r9 = some (.int (nI 0)) ∧ mo Y M' ma E p rf t c ∧ (t = 1 ∧ ¬ (inR x1) ∨ t = 2 ∧ (inR x1)) ∧ hp_off (fun i => i = 1000) M M') nx 0 0 := by
  refine ct_of (by decide) (Nat.le_of_ble_eq_true rfl) ?_
  intro pg eg sg mg bw mt cg ls X hst hl
  have X1 := X
  obtain ⟨hx, hb, hml, hrt, hlocks, hown, hnm, hts, hkz, hex⟩ := X1
  have hG : ∀ w ∈ GW, w.before _ sg = true := fun w h => hts w (List.mem_cons_of_mem _ h)
  have hK := hkz.1
  have hl : lv_has ls 4 [(0, .ref ma), (1, .int x1), (2, .int x2)] := hl
  refine lv_iload_n hx hb dR_degree_0 rfl (lv_at hl 1 rfl) ?_
  refine ct_callS (av2 := [.int x1]) (rest := []) X hst (c_R_isRegister l D Y lo x1) wc_R_isRegister ml_R_85 ws_R_isRegister wn_R md_R_isRegister (by decide) hl.1 rfl (Nat.le_of_ble_eq_true rfl) ⟨by omega, by omega⟩ (fun _ _ h => h.elim) dR_degree_1 (fun r M' H locs hp hst => ?_)
  obtain ⟨b1, rfl, hb1, ib1, rfl⟩ := hp
  refine lv_istore_n (lv' := [(3, .int (nI b1)), (0, .ref ma), (1, .int x1), (2, .int x2)]) hx hb dR_degree_4 rfl hl (by decide) rfl (fun ls hl => ?_)
  refine lv_aload_n hx hb dR_degree_5 rfl (lv_at hl 1 rfl) ?_
  refine lv_iload_n hx hb dR_degree_6 rfl (lv_at hl 0 rfl) ?_
  refine lv_if_ne hx hb dR_degree_7 (tgt := 14) rfl (fun hc => ?_) (fun hc => ?_)
  · skip
    rw [← nI_0] at hc
    have hz1 : ¬ b1 = 0 := fun z => hc ((nI_eq (by omega) (by omega)).mpr z)
    have htt : inR x1 := ib1.mp (by omega)
    have h3 : ¬ inV x2 := fun z => hno ⟨htt, z⟩
    refine lv_iconst (v := nI 0) hx hb dR_degree_14 (by decide +kernel) ?_
    refine lv_iload_n hx hb dR_degree_15 rfl (lv_at hl 0 rfl) ?_
    refine lv_if_eq hx hb dR_degree_16 (tgt := 30) rfl (fun hc => ?_) (fun hc => ?_)
    · skip
      rw [← nI_0] at hc
      have hzz : b1 = 0 := (nI_eq (by omega) (by omega)).mp hc
      exact absurd hzz (by omega)
    · skip
      rw [← nI_0] at hc
      have hzz : ¬ b1 = 0 := fun z => hc ((nI_eq (by omega) (by omega)).mpr z)
      refine lv_iload_n hx hb dR_degree_19 rfl (lv_at hl 3 rfl) ?_
      refine ct_callS (av2 := [.int x2]) (rest := [.int (nI 0), .ref ma]) X hst (e_R_isVariable l D Y lo h3) wc_R_isVariable ml_R_96 ws_R_isVariable wn_R md_R_isVariable (by decide) hl.1 rfl (Nat.le_of_ble_eq_true rfl) ⟨by omega, by omega⟩ (fun _ _ h => h.elim) dR_degree_20 (fun r M' H locs hp hst => ?_)
      obtain ⟨rfl, rfl⟩ := hp
      refine lv_if_ne hx hb dR_degree_23 (tgt := 30) rfl (fun hc => absurd hc (by decide)) (fun hc => ?_)
      refine lv_iconst (v := nI 1) hx hb dR_degree_26 (by decide +kernel) ?_
      refine lv_goto hx hb dR_degree_27 (tgt := 31) rfl ?_
      refine ct_callV (av2 := [.int (nI 0), .int (nI 1)]) (rest := []) (b := ma) X hst (c_R_fails l D Y lo hm (a := 0) (b := 1) (by omega) (by omega)) hm.ob rfl wc_R_fails ml_R_88 wi_R_fails wl_R_fails wn_R md_R_fails (by decide) hl.1 rfl (Nat.le_of_ble_eq_true rfl) ⟨by omega, by omega⟩ (fun _ _ h => h.elim) dR_degree_31 (fun r MF H locs hp hst => ?_)
      obtain ⟨rfl, hmF, hoF⟩ := hp
      have hmF : mo Y MF ma E p rf 2 c := hmF
      refine lv_if_eq hx hb dR_degree_34 (tgt := 39) rfl (fun hc => absurd hc (by decide)) (fun hc => ?_)
      refine lv_iconst (v := nI 0) hx hb dR_degree_37 (by decide +kernel) ?_
      exact ct_iret X hst ⟨2, rfl, hmF, Or.inr ⟨rfl, htt⟩, hoF⟩ (by omega) (by omega) dR_degree_38
  · skip
    rw [← nI_0] at hc
    have hz1 : b1 = 0 := (nI_eq (by omega) (by omega)).mp hc
    have hnt : ¬ inR x1 := fun z => by have := ib1.mpr z; omega
    refine lv_iconst (v := nI 1) hx hb dR_degree_10 (by decide +kernel) ?_
    refine lv_goto hx hb dR_degree_11 (tgt := 15) rfl ?_
    refine lv_iload_n hx hb dR_degree_15 rfl (lv_at hl 0 rfl) ?_
    refine lv_if_eq hx hb dR_degree_16 (tgt := 30) rfl (fun hc => ?_) (fun hc => ?_)
    · skip
      rw [← nI_0] at hc
      have hzz : b1 = 0 := (nI_eq (by omega) (by omega)).mp hc
      refine lv_iconst (v := nI 0) hx hb dR_degree_30 (by decide +kernel) ?_
      refine ct_callV (av2 := [.int (nI 1), .int (nI 0)]) (rest := []) (b := ma) X hst (c_R_fails l D Y lo hm (a := 1) (b := 0) (by omega) (by omega)) hm.ob rfl wc_R_fails ml_R_88 wi_R_fails wl_R_fails wn_R md_R_fails (by decide) hl.1 rfl (Nat.le_of_ble_eq_true rfl) ⟨by omega, by omega⟩ (fun _ _ h => h.elim) dR_degree_31 (fun r MF H locs hp hst => ?_)
      obtain ⟨rfl, hmF, hoF⟩ := hp
      have hmF : mo Y MF ma E p rf 1 c := hmF
      refine lv_if_eq hx hb dR_degree_34 (tgt := 39) rfl (fun hc => absurd hc (by decide)) (fun hc => ?_)
      refine lv_iconst (v := nI 0) hx hb dR_degree_37 (by decide +kernel) ?_
      exact ct_iret X hst ⟨1, rfl, hmF, Or.inl ⟨rfl, hnt⟩, hoF⟩ (by omega) (by omega) dR_degree_38
    · skip
      rw [← nI_0] at hc
      have hzz : ¬ b1 = 0 := fun z => hc ((nI_eq (by omega) (by omega)).mpr z)
      exact absurd hz1 hzz
