/-! The reference: resultant. -/
/-- the places before x are filled -/
def fc (v : Nat) (G : Pf) (g : Nat → Nat) (x : Nat) : Prop := (∀ k, k < 9139 → bx v (pl k) → k13 v (pl k) < x → g k = G (pl k)) ∧ ∀ k, k < 9139 → ¬ (bx v (pl k) ∧ k13 v (pl k) < x) → g k = 0
theorem fc_0 {v : Nat} {G : Pf} {g : Nat → Nat} (h : ∀ k, k < 9139 → g k = 0) : fc v G g 0 := ⟨fun k _ _ z => by omega, fun k hk _ => h k hk⟩
theorem fc_y {v x : Nat} {G : Pf} {g : Nat → Nat} (hv : v < 3) (hx : x < 169) (h : fc v G g x) : fc v G (va_up g (9138 - rk (u13 v x)) (G (u13 v x))) (x + 1) := by
  obtain ⟨b1, b2⟩ := u13_bx hv hx
  have hrl := rk_lt b1.1
  have key : ∀ k, k < 9139 → k = 9138 - rk (u13 v x) → pl k = u13 v x := fun k hk e => by rw [e]; exact pl_rk b1.1
  refine ⟨fun k hk hb hlt => ?_, fun k hk hn => ?_⟩
  · by_cases he : k13 v (pl k) = x
    · have e1 : pl k = u13 v x := k13_inj hv hb b1 (by rw [b2]; exact he)
      have e2 := rk_pl hk
      rw [e1] at e2
      rw [show k = 9138 - rk (u13 v x) by omega, va_up_self, pl_rk b1.1]
    · rw [va_up_ne _ _ (fun z => he (by rw [key k hk z, b2]))]
      exact h.1 k hk hb (by omega)
  · rw [va_up_ne _ _ (fun z => hn (by rw [key k hk z, b2]; exact ⟨b1, by omega⟩))]
    exact h.2 k hk (fun z => hn ⟨z.1, by omega⟩)
theorem fc_n {v x : Nat} {G : Pf} {g : Nat → Nat} (hv : v < 3) (hx : x < 169) (hz : G (u13 v x) = 0) (h : fc v G g x) : fc v G g (x + 1) := by
  obtain ⟨b1, b2⟩ := u13_bx hv hx
  refine ⟨fun k hk hb hlt => ?_, fun k hk hn => h.2 k hk (fun z => hn ⟨z.1, by omega⟩)⟩
  by_cases he : k13 v (pl k) = x
  · have e1 : pl k = u13 v x := k13_inj hv hb b1 (by rw [b2]; exact he)
    rw [h.2 k hk (fun z => by omega), e1, hz]
  · exact h.1 k hk hb (by omega)
theorem fc_end {v : Nat} {G : Pf} {g : Nat → Nat} (hv : v < 3) (hG : ∀ q ∈ tp G, bx v q.1) (h : fc v G g 169) : rp g G := by
  intro k hk
  by_cases hb : bx v (pl k)
  · exact h.1 k hk hb (k13_lt hv hb)
  · rw [h.2 k hk (fun z => hb z.1)]
    apply Classical.byContradiction
    intro hn
    exact hb (hG (pl k, G (pl k)) (mem_td (r := 9138 - k) (by omega) (fun z => hn z.symm)))

set_option maxHeartbeats 4000000 in
set_option maxRecDepth 100000 in
theorem c_R_resultant (l : Launch) (D : va_G) (Y : Nat → ClassId) (lo : Nat) {M : Hm} {ma p rf th : Nat} {E : Nat → Nat} {c : Nat → Nat → Nat} (hm : mo Y M ma E p rf th c) {P : Nat → Pf} (hP : rr c P) (hPp : ∀ r, r < 12 → ∀ m, P r m < p) {r a b v m n : Nat} (hr : r < 12) (ha : a < 12) (hb9 : b < 12) (hv : v < 3) (hm9 : m = dgf (P a) v) (hn9 : n = dgf (P b) v) (hza : tp (P a) ≠ []) (hzb : tp (P b) ≠ []) (hmn : m + n ≤ 8) (hdg : ∀ u, u < 3 → u ≠ v → n * dgf (P a) u + m * dgf (P b) u ≤ 12) : ct l D Y lo y_R_resultant b_R_resultant 15 (some .boolean) 3 [.ref ma, .int (nI r), .int (nI a), .int (nI b), .int (nI v)] M (fun r9 M' => ∃ c' : Nat → Nat → Nat, r9 = some (.int (nI 1)) ∧ mo Y M' ma E p rf 0 c' ∧ rr c' (va_up P r (addL p 1 0 (tp (mnT p v m n (P a) (P b) (2 ^ (m + n) - 1) (2 ^ (m + n) - 1))) (fun _ => 0))) ∧ hp_off (fun i => i = 1000) M M') nx 0 0 := by
  refine ct_of (by decide) (Nat.le_of_ble_eq_true rfl) ?_
  intro pg eg sg mg bw mt cg ls X hst hl
  have X1 := X
  obtain ⟨hx, hb, hml, hrt, hlocks, hown, hnm, hts, hkz, hex⟩ := X1
  have hG : ∀ w ∈ GW, w.before _ sg = true := fun w h => hts w (List.mem_cons_of_mem _ h)
  have hK := hkz.1
  have hl : lv_has ls 15 [(0, .ref ma), (1, .int (nI r)), (2, .int (nI a)), (3, .int (nI b)), (4, .int (nI v))] := hl
  obtain ⟨hp2, hp3⟩ := hm.p2
  refine lv_iload_n hx hb dR_resultant_0 rfl (lv_at hl 1 rfl) ?_
  refine ct_callS (av2 := [.int (nI r)]) (rest := []) X hst (g_R_isRegister l D Y lo hr) wc_R_isRegister ml_R_85 ws_R_isRegister wn_R md_R_isRegister (by decide) hl.1 rfl (Nat.le_of_ble_eq_true rfl) ⟨by omega, by omega⟩ (fun _ _ h => h.elim) dR_resultant_1 (fun r M' H locs hp hst => ?_)
  obtain ⟨rfl, rfl⟩ := hp
  refine lv_if_eq hx hb dR_resultant_4 (tgt := 25) rfl (fun hc => absurd hc (by decide)) (fun hc => ?_)
  refine lv_iload_n hx hb dR_resultant_7 rfl (lv_at hl 2 rfl) ?_
  refine ct_callS (av2 := [.int (nI a)]) (rest := []) X hst (g_R_isRegister l D Y lo ha) wc_R_isRegister ml_R_85 ws_R_isRegister wn_R md_R_isRegister (by decide) hl.1 rfl (Nat.le_of_ble_eq_true rfl) ⟨by omega, by omega⟩ (fun _ _ h => h.elim) dR_resultant_8 (fun r M' H locs hp hst => ?_)
  obtain ⟨rfl, rfl⟩ := hp
  refine lv_if_eq hx hb dR_resultant_11 (tgt := 25) rfl (fun hc => absurd hc (by decide)) (fun hc => ?_)
  refine lv_iload_n hx hb dR_resultant_14 rfl (lv_at hl 3 rfl) ?_
  refine ct_callS (av2 := [.int (nI b)]) (rest := []) X hst (g_R_isRegister l D Y lo hb9) wc_R_isRegister ml_R_85 ws_R_isRegister wn_R md_R_isRegister (by decide) hl.1 rfl (Nat.le_of_ble_eq_true rfl) ⟨by omega, by omega⟩ (fun _ _ h => h.elim) dR_resultant_15 (fun r M' H locs hp hst => ?_)
  obtain ⟨rfl, rfl⟩ := hp
  refine lv_if_eq hx hb dR_resultant_18 (tgt := 25) rfl (fun hc => absurd hc (by decide)) (fun hc => ?_)
  refine lv_iconst (v := nI 1) hx hb dR_resultant_21 (by decide +kernel) ?_
  refine lv_goto hx hb dR_resultant_22 (tgt := 26) rfl ?_
  refine lv_istore (lv' := [(5, .int (nI 1)), (0, .ref ma), (1, .int (nI r)), (2, .int (nI a)), (3, .int (nI b)), (4, .int (nI v))]) hx hb dR_resultant_26 hl (by decide) rfl (fun ls hl => ?_)
  refine lv_iload hx hb dR_resultant_28 (lv_at hl 0 rfl) ?_
  refine lv_if_eq hx hb dR_resultant_30 (tgt := 45) rfl (fun hc => absurd hc (by decide)) (fun hc => ?_)
  refine lv_iload hx hb dR_resultant_33 (lv_at hl 5 rfl) ?_
  refine ct_callS (av2 := [.int (nI v)]) (rest := []) X hst (g_R_isVariable l D Y lo hv) wc_R_isVariable ml_R_96 ws_R_isVariable wn_R md_R_isVariable (by decide) hl.1 rfl (Nat.le_of_ble_eq_true rfl) ⟨by omega, by omega⟩ (fun _ _ h => h.elim) dR_resultant_35 (fun r M' H locs hp hst => ?_)
  obtain ⟨rfl, rfl⟩ := hp
  refine lv_if_eq hx hb dR_resultant_38 (tgt := 45) rfl (fun hc => absurd hc (by decide)) (fun hc => ?_)
  refine lv_iconst (v := nI 1) hx hb dR_resultant_41 (by decide +kernel) ?_
  refine lv_goto hx hb dR_resultant_42 (tgt := 46) rfl ?_
  refine lv_istore (lv' := [(6, .int (nI 1)), (5, .int (nI 1)), (0, .ref ma), (1, .int (nI r)), (2, .int (nI a)), (3, .int (nI b)), (4, .int (nI v))]) hx hb dR_resultant_46 hl (by decide) rfl (fun ls hl => ?_)
  refine lv_iconst (v := nI 0) hx hb dR_resultant_48 (by decide +kernel) ?_
  refine lv_istore (lv' := [(7, .int (nI 0)), (6, .int (nI 1)), (5, .int (nI 1)), (0, .ref ma), (1, .int (nI r)), (2, .int (nI a)), (3, .int (nI b)), (4, .int (nI v))]) hx hb dR_resultant_49 hl (by decide) rfl (fun ls hl => ?_)
  refine lv_iconst (v := nI 0) hx hb dR_resultant_51 (by decide +kernel) ?_
  refine lv_istore (lv' := [(8, .int (nI 0)), (7, .int (nI 0)), (6, .int (nI 1)), (5, .int (nI 1)), (0, .ref ma), (1, .int (nI r)), (2, .int (nI a)), (3, .int (nI b)), (4, .int (nI v))]) hx hb dR_resultant_52 hl (by decide) rfl (fun ls hl => ?_)
  refine lv_iload hx hb dR_resultant_54 (lv_at hl 2 rfl) ?_
  refine lv_if_eq hx hb dR_resultant_56 (tgt := 138) rfl (fun hc => absurd hc (by decide)) (fun hc => ?_)
  refine lv_aload_n hx hb dR_resultant_59 rfl (lv_at hl 4 rfl) ?_
  refine lv_iload_n hx hb dR_resultant_60 rfl (lv_at hl 6 rfl) ?_
  refine lv_aload_n hx hb dR_resultant_61 rfl (lv_at hl 4 rfl) ?_
  refine hp_get hx hb hG in_R hown hK hst hm.ob rfl 6 (by decide) (hG _ fl_R_21) rfl rfl dR_resultant_62 ?_
  refine ct_callV (av2 := [.int (nI a), .ref (E 4)]) (rest := []) (b := ma) X hst (c_R_load l D Y lo hm ha (j := 4) (by omega) (by omega)) hm.ob rfl wc_R_load ml_R_99 wi_R_load wl_R_load wn_R md_R_load (by decide) hl.1 rfl (Nat.le_of_ble_eq_true rfl) ⟨by omega, by omega⟩ (fun _ _ h => h.elim) dR_resultant_65 (fun r ML4 H locs hp hst => ?_)
  obtain ⟨cL4, rfl, hmL4, sL4, vL4, hoL4⟩ := hp
  refine lv_aload_n hx hb dR_resultant_68 rfl (lv_at hl 4 rfl) ?_
  refine lv_iload_n hx hb dR_resultant_69 rfl (lv_at hl 7 rfl) ?_
  refine lv_aload_n hx hb dR_resultant_70 rfl (lv_at hl 4 rfl) ?_
  refine hp_get hx hb hG in_R hown hK hst hmL4.ob rfl 7 (by decide) (hG _ fl_R_24) rfl rfl dR_resultant_71 ?_
  refine ct_callV (av2 := [.int (nI b), .ref (E 5)]) (rest := []) (b := ma) X hst (c_R_load l D Y lo hmL4 hb9 (j := 5) (by omega) (by omega)) hmL4.ob rfl wc_R_load ml_R_99 wi_R_load wl_R_load wn_R md_R_load (by decide) hl.1 rfl (Nat.le_of_ble_eq_true rfl) ⟨by omega, by omega⟩ (fun _ _ h => h.elim) dR_resultant_74 (fun r ML5 H locs hp hst => ?_)
  obtain ⟨cL5, rfl, hmL5, sL5, vL5, hoL5⟩ := hp
  have e3 : cL5 3 = c 3 := (sL5 3 (by omega)).trans (sL4 3 (by omega))
  have e4 : rp (cL5 4) (P a) := fun k hk => by rw [sL5 4 (by omega), vL4 k hk]; exact hP a ha k hk
  have e5 : rp (cL5 5) (P b) := fun k hk => by rw [vL5 k hk, sL4 3 (by omega)]; exact hP b hb9 k hk
  have dm : m < 64 := by rw [hm9]; exact dgl_lt (by omega)
  have dn : n < 64 := by rw [hn9]; exact dgl_lt (by omega)
  have hPL : rr cL5 P := fun r hr k hk => by rw [e3]; exact hP r hr k hk
  refine lv_aload_n hx hb dR_resultant_77 rfl (lv_at hl 4 rfl) ?_
  refine lv_aload_n hx hb dR_resultant_78 rfl (lv_at hl 4 rfl) ?_
  refine hp_get hx hb hG in_R hown hK hst hmL5.ob rfl 6 (by decide) (hG _ fl_R_21) rfl rfl dR_resultant_79 ?_
  refine lv_iload hx hb dR_resultant_82 (lv_at hl 8 rfl) ?_
  refine ct_callV (av2 := [.ref (E 4), .int (nI v)]) (rest := []) (b := ma) X hst (c_R_degreeOf l D Y lo hmL5 (j := 4) (by omega) (by omega) e4 (p31 hp3 hPp ha) (v := v) hv) hmL5.ob rfl wc_R_degreeOf ml_R_102 wi_R_degreeOf wl_R_degreeOf wn_R md_R_degreeOf (by decide) hl.1 rfl (Nat.le_of_ble_eq_true rfl) ⟨by omega, by omega⟩ (fun _ _ h => h.elim) dR_resultant_84 (fun r M' H locs hp hst => ?_)
  obtain ⟨rfl, rfl⟩ := hp
  refine tp_n (e2 := m) hm9.symm ?_
  refine lv_istore (lv' := [(7, .int (nI m)), (8, .int (nI 0)), (6, .int (nI 1)), (5, .int (nI 1)), (0, .ref ma), (1, .int (nI r)), (2, .int (nI a)), (3, .int (nI b)), (4, .int (nI v))]) hx hb dR_resultant_87 hl (by decide) rfl (fun ls hl => ?_)
  refine lv_aload_n hx hb dR_resultant_89 rfl (lv_at hl 4 rfl) ?_
  refine lv_aload_n hx hb dR_resultant_90 rfl (lv_at hl 4 rfl) ?_
  refine hp_get hx hb hG in_R hown hK hst hmL5.ob rfl 7 (by decide) (hG _ fl_R_24) rfl rfl dR_resultant_91 ?_
  refine lv_iload hx hb dR_resultant_94 (lv_at hl 8 rfl) ?_
  refine ct_callV (av2 := [.ref (E 5), .int (nI v)]) (rest := []) (b := ma) X hst (c_R_degreeOf l D Y lo hmL5 (j := 5) (by omega) (by omega) e5 (p31 hp3 hPp hb9) (v := v) hv) hmL5.ob rfl wc_R_degreeOf ml_R_102 wi_R_degreeOf wl_R_degreeOf wn_R md_R_degreeOf (by decide) hl.1 rfl (Nat.le_of_ble_eq_true rfl) ⟨by omega, by omega⟩ (fun _ _ h => h.elim) dR_resultant_96 (fun r M' H locs hp hst => ?_)
  obtain ⟨rfl, rfl⟩ := hp
  refine tp_n (e2 := n) hn9.symm ?_
  refine lv_istore (lv' := [(8, .int (nI n)), (7, .int (nI m)), (6, .int (nI 1)), (5, .int (nI 1)), (0, .ref ma), (1, .int (nI r)), (2, .int (nI a)), (3, .int (nI b)), (4, .int (nI v))]) hx hb dR_resultant_99 hl (by decide) rfl (fun ls hl => ?_)
  refine lv_aload_n hx hb dR_resultant_101 rfl (lv_at hl 4 rfl) ?_
  refine hp_get hx hb hG in_R hown hK hst hmL5.ob rfl 6 (by decide) (hG _ fl_R_21) rfl rfl dR_resultant_102 ?_
  refine ct_callS (av2 := [.ref (E 4)]) (rest := []) X hst (c_R_isZero l D Y lo hmL5 (j := 4) (by omega) (by omega) e4 (p31 hp3 hPp ha)) wc_R_isZero ml_R_113 ws_R_isZero wn_R md_R_isZero (by decide) hl.1 rfl (Nat.le_of_ble_eq_true rfl) ⟨by omega, by omega⟩ (fun _ _ h => h.elim) dR_resultant_105 (fun r M' H locs hp hst => ?_)
  obtain ⟨bz4, rfl, hz41, hz42, rfl⟩ := hp
  refine lv_if_ne hx hb dR_resultant_108 (tgt := 135) rfl (fun hc => ?_) (fun hc => ?_)
  · skip
    rw [← nI_0] at hc
    have hz4 : ¬ bz4 = 0 := fun z => hc ((nI_eq (by omega) (by omega)).mpr z)
    exact absurd (hz42.mp (by omega)) hza
  · skip
    rw [← nI_0] at hc
    have hz4 : bz4 = 0 := (nI_eq (by omega) (by omega)).mp hc
    refine lv_aload_n hx hb dR_resultant_111 rfl (lv_at hl 4 rfl) ?_
    refine hp_get hx hb hG in_R hown hK hst hmL5.ob rfl 7 (by decide) (hG _ fl_R_24) rfl rfl dR_resultant_112 ?_
    refine ct_callS (av2 := [.ref (E 5)]) (rest := []) X hst (c_R_isZero l D Y lo hmL5 (j := 5) (by omega) (by omega) e5 (p31 hp3 hPp hb9)) wc_R_isZero ml_R_113 ws_R_isZero wn_R md_R_isZero (by decide) hl.1 rfl (Nat.le_of_ble_eq_true rfl) ⟨by omega, by omega⟩ (fun _ _ h => h.elim) dR_resultant_115 (fun r M' H locs hp hst => ?_)
    obtain ⟨bz5, rfl, hz51, hz52, rfl⟩ := hp
    refine lv_if_ne hx hb dR_resultant_118 (tgt := 135) rfl (fun hc => ?_) (fun hc => ?_)
    · skip
      rw [← nI_0] at hc
      have hz5 : ¬ bz5 = 0 := fun z => hc ((nI_eq (by omega) (by omega)).mpr z)
      exact absurd (hz52.mp (by omega)) hzb
    · skip
      rw [← nI_0] at hc
      have hz5 : bz5 = 0 := (nI_eq (by omega) (by omega)).mp hc
      refine lv_iload hx hb dR_resultant_121 (lv_at hl 1 rfl) ?_
      refine lv_iload hx hb dR_resultant_123 (lv_at hl 0 rfl) ?_
      refine t_iadd hx hb dR_resultant_125 (v := nI (m + n)) (nI_add _ _) ?_
      refine lv_bipush (v := nI 8) hx hb dR_resultant_126 (by decide +kernel) ?_
      refine lv_icmp_gt hx hb dR_resultant_128 (tgt := 135) rfl (fun hc => ?_) (fun hc => ?_)
      · skip
        have hz8 : 8 < (m + n) := (nI_ltI (by omega) (by omega)).mp hc
        omega
      · skip
        have hz8 : ¬ 8 < (m + n) := fun z => hc ((nI_ltI (by omega) (by omega)).mpr z)
        refine lv_iconst (v := nI 1) hx hb dR_resultant_131 (by decide +kernel) ?_
        refine lv_goto hx hb dR_resultant_132 (tgt := 136) rfl ?_
        refine lv_istore (lv' := [(6, .int (nI 1)), (8, .int (nI n)), (7, .int (nI m)), (5, .int (nI 1)), (0, .ref ma), (1, .int (nI r)), (2, .int (nI a)), (3, .int (nI b)), (4, .int (nI v))]) hx hb dR_resultant_136 hl (by decide) rfl (fun ls hl => ?_)
        refine lv_aload_n hx hb dR_resultant_138 rfl (lv_at hl 4 rfl) ?_
        refine lv_iload hx hb dR_resultant_139 (lv_at hl 3 rfl) ?_
        refine lv_if_ne hx hb dR_resultant_141 (tgt := 148) rfl (fun hc => ?_) (fun hc => absurd hc (by decide))
        refine lv_iconst (v := nI 0) hx hb dR_resultant_148 (by decide +kernel) ?_
        refine lv_iload hx hb dR_resultant_149 (lv_at hl 3 rfl) ?_
        refine lv_if_eq hx hb dR_resultant_151 (tgt := 163) rfl (fun hc => absurd hc (by decide)) (fun hc => ?_)
        refine lv_iload hx hb dR_resultant_154 (lv_at hl 0 rfl) ?_
        refine lv_if_ne hx hb dR_resultant_156 (tgt := 163) rfl (fun hc => ?_) (fun hc => absurd hc (by decide))
        refine lv_iconst (v := nI 0) hx hb dR_resultant_163 (by decide +kernel) ?_
        refine ct_callV (av2 := [.int (nI 0), .int (nI 0)]) (rest := []) (b := ma) X hst (c_R_fails l D Y lo hmL5 (a := 0) (b := 0) (by omega) (by omega)) hmL5.ob rfl wc_R_fails ml_R_88 wi_R_fails wl_R_fails wn_R md_R_fails (by decide) hl.1 rfl (Nat.le_of_ble_eq_true rfl) ⟨by omega, by omega⟩ (fun _ _ h => h.elim) dR_resultant_164 (fun r MF H locs hp hst => ?_)
        obtain ⟨rfl, hmF, hoF⟩ := hp
        have hmF : mo Y MF ma E p rf 0 cL5 := hmF
        refine lv_if_eq hx hb dR_resultant_167 (tgt := 172) rfl (fun hc => ?_) (fun hc => absurd hc (by decide))
        have hoF2 := (hoL4.tr hoL5).tr hoF
        refine lv_iconst (v := nI 0) hx hb dR_resultant_172 (by decide +kernel) ?_
        refine lv_istore (lv' := [(9, .int (nI 0)), (6, .int (nI 1)), (8, .int (nI n)), (7, .int (nI m)), (5, .int (nI 1)), (0, .ref ma), (1, .int (nI r)), (2, .int (nI a)), (3, .int (nI b)), (4, .int (nI v))]) hx hb dR_resultant_173 hl (by decide) rfl (fun ls hl => ?_)
        refine lv_iconst (v := nI 0) hx hb dR_resultant_175 (by decide +kernel) ?_
        refine lv_istore (lv' := [(10, .int (nI 0)), (9, .int (nI 0)), (6, .int (nI 1)), (8, .int (nI n)), (7, .int (nI m)), (5, .int (nI 1)), (0, .ref ma), (1, .int (nI r)), (2, .int (nI a)), (3, .int (nI b)), (4, .int (nI v))]) hx hb dR_resultant_176 hl (by decide) rfl (fun ls hl => ?_)
        have LP : ∀ (kk : Nat) (z u : Nat) (H : Heap) (locs : List Loc) (ls : Array Slot), kk = 3 - u → (u ≤ 3) → (z ≤ 1) → (z = 1 ↔ ∃ y, y < u ∧ y ≠ v ∧ ¬ n * dgl y (tp (P a)) 0 + m * dgl y (tp (P b)) 0 ≤ 12) → hp_st D vC lo MF sg.heap H locs → lv_has ls 15 [(0, .ref ma), (1, .int (nI r)), (4, .int (nI v)), (7, .int (nI m)), (8, .int (nI n)), (9, .int (nI z)), (10, .int (nI u))] → cW pg l eg sg mg [.ref ma, .int (nI r), .int (nI a), .int (nI b), .int (nI v)] bw mt cg y_R_resultant b_R_resultant 15 (some .boolean) 3 D lo (fun r9 M' => ∃ c' : Nat → Nat → Nat, r9 = some (.int (nI 1)) ∧ mo Y M' ma E p rf 0 c' ∧ rr c' (va_up P r (addL p 1 0 (tp (mnT p v m n (P a) (P b) (2 ^ (m + n) - 1) (2 ^ (m + n) - 1))) (fun _ => 0))) ∧ hp_off (fun i => i = 1000) M M') nx 0 0 H locs 0 0 (F0 mg 178 ls []) := by
          intro kk
          induction kk using Nat.strongRecOn with
          | _ kk ihLP =>
          intro z u H locs ls hkk hu9 hz1 hz2 hst hl
          refine lv_iload hx hb dR_resultant_178 (lv_at hl 6 rfl) ?_
          refine lv_iconst (v := nI 3) hx hb dR_resultant_180 (by decide +kernel) ?_
          refine lv_icmp_ge hx hb dR_resultant_181 (tgt := 241) rfl (fun hc => ?_) (fun hc => ?_)
          · skip
            have hc5 : 3 ≤ u := (nI_leI (by omega) (by omega)).mp hc
            refine lv_aload_n hx hb dR_resultant_241 rfl (lv_at hl 0 rfl) ?_
            refine lv_iload hx hb dR_resultant_242 (lv_at hl 5 rfl) ?_
            refine ct_callV (av2 := [.int (nI z)]) (rest := []) (b := ma) X hst (c_R_refuses l D Y lo hmF (a := z) hz1) hmF.ob rfl wc_R_refuses ml_R_106 wi_R_refuses wl_R_refuses wn_R md_R_refuses (by decide) hl.1 rfl (Nat.le_of_ble_eq_true rfl) ⟨by omega, by omega⟩ (fun _ _ h => h.elim) dR_resultant_244 (fun r MR H locs hp hst => ?_)
            obtain ⟨rfl, hmR, hoR⟩ := hp
            have hoo := hoF2.tr hoR
            have hz0 : z = 0 := by
              have : z ≠ 1 := fun q => by
                obtain ⟨y, y1, y3, y2⟩ := hz2.mp q
                exact y2 (hdg y (by omega) y3)
              omega
            subst hz0
            have hmR : mo Y MR ma E p rf 0 cL5 := hmR
            refine lv_if_eq hx hb dR_resultant_247 (tgt := 252) rfl (fun hc => ?_) (fun hc => absurd hc (by decide))
            obtain ⟨sz, hsz⟩ : ∃ sz, m + n = sz := ⟨_, rfl⟩
            have hW : rw3 p v m n (P a) (P b) := ⟨hp2, hPp a ha, hPp b hb9, hv, hm9, hn9, hmn, hdg⟩
            have hs8 : sz ≤ 8 := by omega
            have hsq : sz * sz ≤ 64 := Nat.mul_le_mul hs8 hs8
            obtain ⟨q1, q2⟩ := p2_le hs8
            refine lv_iload hx hb dR_resultant_252 (lv_at hl 3 rfl) ?_
            refine lv_iload hx hb dR_resultant_254 (lv_at hl 4 rfl) ?_
            refine t_iadd hx hb dR_resultant_256 (v := nI (m + n)) (nI_add _ _) ?_
            refine tp_n (e2 := sz) hsz ?_
            refine lv_istore (lv' := [(10, .int (nI sz)), (0, .ref ma), (1, .int (nI r)), (4, .int (nI v)), (7, .int (nI m)), (8, .int (nI n)), (9, .int (nI 0))]) hx hb dR_resultant_257 hl (by decide) rfl (fun ls hl => ?_)
            refine lv_iconst (v := nI 0) hx hb dR_resultant_259 (by decide +kernel) ?_
            refine lv_istore (lv' := [(11, .int (nI 0)), (10, .int (nI sz)), (0, .ref ma), (1, .int (nI r)), (4, .int (nI v)), (7, .int (nI m)), (8, .int (nI n)), (9, .int (nI 0))]) hx hb dR_resultant_260 hl (by decide) rfl (fun ls hl => ?_)
            have LI : ∀ (kk : Nat) (i : Nat) (d : Nat → Nat → Nat) (M1 : Hm) (H : Heap) (locs : List Loc) (ls : Array Slot), kk = sz - i → (i ≤ sz) → (mo Y M1 ma E p rf 0 d) → (∀ x, x ≠ 10 → d x = cL5 x) → (en v m n (P a) (P b) (d 10) i 0) → (hp_off (fun i => i = 1000) M M1) → hp_st D vC lo M1 sg.heap H locs → lv_has ls 15 [(0, .ref ma), (1, .int (nI r)), (4, .int (nI v)), (7, .int (nI m)), (8, .int (nI n)), (10, .int (nI sz)), (11, .int (nI i))] → cW pg l eg sg mg [.ref ma, .int (nI r), .int (nI a), .int (nI b), .int (nI v)] bw mt cg y_R_resultant b_R_resultant 15 (some .boolean) 3 D lo (fun r9 M' => ∃ c' : Nat → Nat → Nat, r9 = some (.int (nI 1)) ∧ mo Y M' ma E p rf 0 c' ∧ rr c' (va_up P r (addL p 1 0 (tp (mnT p v m n (P a) (P b) (2 ^ (m + n) - 1) (2 ^ (m + n) - 1))) (fun _ => 0))) ∧ hp_off (fun i => i = 1000) M M') nx 0 0 H locs 0 0 (F0 mg 293 ls []) := by
              intro kk
              induction kk using Nat.strongRecOn with
              | _ kk ihLI =>
              intro i d M1 H locs ls hkk hi9 hm hsm hen ho hst hl
              refine lv_iload hx hb dR_resultant_293 (lv_at hl 6 rfl) ?_
              refine lv_iload hx hb dR_resultant_295 (lv_at hl 5 rfl) ?_
              refine lv_icmp_ge hx hb dR_resultant_297 (tgt := 393) rfl (fun hc => ?_) (fun hc => ?_)
              · skip
                have hc6 : sz ≤ i := (nI_leI (by omega) (by omega)).mp hc
                have hi : i = sz := by omega
                rw [hi] at hen
                refine lv_aload_n hx hb dR_resultant_393 rfl (lv_at hl 0 rfl) ?_
                refine lv_iload hx hb dR_resultant_394 (lv_at hl 5 rfl) ?_
                refine ct_callV (av2 := [.int (nI sz)]) (rest := []) (b := ma) X hst (c_R_determinant l D Y lo hm hW hsz (by rw [hsz]; exact hen)) hm.ob rfl wc_R_determinant ml_R_129 wi_R_determinant wl_R_determinant wn_R md_R_determinant (by decide) hl.1 rfl (Nat.le_of_ble_eq_true rfl) ⟨by omega, by omega⟩ (fun _ _ h => h.elim) dR_resultant_396 (fun r MD H locs hp hst => ?_)
                obtain ⟨cD, rfl, hmD, sD, vD, hoD⟩ := hp
                refine lv_aload_n hx hb dR_resultant_399 rfl (lv_at hl 0 rfl) ?_
                refine hp_get hx hb hG in_R hown hK hst hmD.ob rfl 6 (by decide) (hG _ fl_R_21) rfl rfl dR_resultant_400 ?_
                refine ct_callS (av2 := [.ref (E 4)]) (rest := []) X hst (c_R_clear l D Y lo hmD (j := 4) (by omega) (by omega)) wc_R_clear ml_R_70 ws_R_clear wn_R md_R_clear (by decide) hl.1 rfl (Nat.le_of_ble_eq_true rfl) ⟨by omega, by omega⟩ (fun _ _ h => h.elim) dR_resultant_403 (fun r MC H locs hp hst => ?_)
                obtain ⟨cC, rfl, hmC, sC, zC, hoC⟩ := hp
                generalize hAL : 2 ^ sz - 1 = AL at *
                have hALs : AL < 2 ^ sz := by omega
                have hGl : ∀ x, mnT p v m n (P a) (P b) AL AL x < p := (mnT_ok hp2 hv hm9 hn9 hmn hdg AL (by rw [hsz]; exact hALs) AL (Nat.le_refl _)).1
                have hGb : ∀ q ∈ tp (mnT p v m n (P a) (P b) AL AL), bx v q.1 := mnT_bx hp2 hv hm9 hn9 hmn hdg (by rw [hsz]; exact hALs) (Nat.le_refl _)
                have hos := ((ho.tr hoD).tr hoC)
                refine lv_iconst (v := nI 0) hx hb dR_resultant_406 (by decide +kernel) ?_
                refine lv_istore (lv' := [(11, .int (nI 0)), (0, .ref ma), (1, .int (nI r)), (4, .int (nI v)), (7, .int (nI m)), (8, .int (nI n)), (10, .int (nI sz))]) hx hb dR_resultant_407 hl (by decide) rfl (fun ls hl => ?_)
                have LF : ∀ (kk : Nat) (x : Nat) (d4 : Nat → Nat → Nat) (M5 : Hm) (H : Heap) (locs : List Loc) (ls : Array Slot), kk = 169 - x → (x ≤ 169) → (mo Y M5 ma E p rf 0 d4) → (∀ i, i ≠ 4 → d4 i = cC i) → (fc v (mnT p v m n (P a) (P b) AL AL) (d4 4) x) → (hp_off (fun i => i = 1000) M M5) → hp_st D vC lo M5 sg.heap H locs → lv_has ls 15 [(0, .ref ma), (1, .int (nI r)), (4, .int (nI v)), (10, .int (nI sz)), (11, .int (nI x))] → cW pg l eg sg mg [.ref ma, .int (nI r), .int (nI a), .int (nI b), .int (nI v)] bw mt cg y_R_resultant b_R_resultant 15 (some .boolean) 3 D lo (fun r9 M' => ∃ c' : Nat → Nat → Nat, r9 = some (.int (nI 1)) ∧ mo Y M' ma E p rf 0 c' ∧ rr c' (va_up P r (addL p 1 0 (tp (mnT p v m n (P a) (P b) (2 ^ (m + n) - 1) (2 ^ (m + n) - 1))) (fun _ => 0))) ∧ hp_off (fun i => i = 1000) M M') nx 0 0 H locs 0 0 (F0 mg 409 ls []) := by
                  intro kk
                  induction kk using Nat.strongRecOn with
                  | _ kk ihLF =>
                  intro x d4 M5 H locs ls hkk hx9 hm hs4 hfc ho4 hst hl
                  refine lv_iload hx hb dR_resultant_409 (lv_at hl 4 rfl) ?_
                  refine lv_sipush (v := nI 169) hx hb dR_resultant_411 (by decide +kernel) ?_
                  refine lv_icmp_ge hx hb dR_resultant_414 (tgt := 513) rfl (fun hc => ?_) (fun hc => ?_)
                  · skip
                    have hc7 : 169 ≤ x := (nI_leI (by omega) (by omega)).mp hc
                    have hx9 : x = 169 := by omega
                    rw [hx9] at hfc
                    have hPn : rr d4 P := fun r hr k hk => by rw [hs4 3 (by omega), sC 3 (by omega), sD 3 (by omega), hsm 3 (by omega)]; exact hPL r hr k hk
                    have hr9 : rp (d4 4) (addL p 1 0 (tp (mnT p v m n (P a) (P b) AL AL)) (fun _ => 0)) := fun k hk => by rw [c0_at hGl hk]; exact fc_end hv hGb hfc k hk
                    refine lv_aload_n hx hb dR_resultant_513 rfl (lv_at hl 0 rfl) ?_
                    refine lv_iload_n hx hb dR_resultant_514 rfl (lv_at hl 1 rfl) ?_
                    refine lv_aload_n hx hb dR_resultant_515 rfl (lv_at hl 0 rfl) ?_
                    refine hp_get hx hb hG in_R hown hK hst hm.ob rfl 6 (by decide) (hG _ fl_R_21) rfl rfl dR_resultant_516 ?_
                    refine ct_callV (av2 := [.int (nI r), .ref (E 4)]) (rest := []) (b := ma) X hst (c_R_keep l D Y lo hm hr (j := 4) (by omega) (by omega)) hm.ob rfl wc_R_keep ml_R_92 wi_R_keep wl_R_keep wn_R md_R_keep (by decide) hl.1 rfl (Nat.le_of_ble_eq_true rfl) ⟨by omega, by omega⟩ (fun _ _ h => h.elim) dR_resultant_519 (fun r MK H locs hp hst => ?_)
                    obtain ⟨cK, rfl, hmK, sK, vK, nK, hoK⟩ := hp
                    have hrK : rr cK (va_up P r (addL p 1 0 (tp (mnT p v m n (P a) (P b) AL AL)) (fun _ => 0))) := rr_keep hPn vK nK hr9
                    refine lv_iconst (v := nI 1) hx hb dR_resultant_522 (by decide +kernel) ?_
                    exact ct_zret X hst (by omega) ⟨cK, rfl, hmK, by rw [hsz, hAL]; exact hrK, ho4.tr hoK⟩ (by omega) (by omega) dR_resultant_523
                  · skip
                    have hc7 : ¬ 169 ≤ x := fun z => hc ((nI_leI (by omega) (by omega)).mpr z)
                    have hx9 : x < 169 := by omega
                    obtain ⟨b1, b2⟩ := u13_bx hv hx9
                    have hrk := rk_lt b1.1
                    have hgx := hGl (u13 v x)
                    have hval : d4 11 (169 * AL + x) = mnT p v m n (P a) (P b) AL AL (u13 v x) := by rw [hs4 11 (by omega), sC 11 (by omega)]; exact vD AL hALs x hx9
                    refine lv_iload hx hb dR_resultant_417 (lv_at hl 4 rfl) ?_
                    refine lv_bipush (v := nI 13) hx hb dR_resultant_419 (by decide +kernel) ?_
                    refine lv_idiv hx hb dR_resultant_421 (nI_ne0 (by omega) (by omega)) ?_
                    refine tp_i (e2 := nI (x / 13)) (pk_div (by omega) (by omega) (by omega)) ?_
                    refine lv_istore (lv' := [(12, .int (nI (x / 13))), (0, .ref ma), (1, .int (nI r)), (4, .int (nI v)), (10, .int (nI sz)), (11, .int (nI x))]) hx hb dR_resultant_422 hl (by decide) rfl (fun ls hl => ?_)
                    refine lv_iload hx hb dR_resultant_424 (lv_at hl 5 rfl) ?_
                    refine lv_bipush (v := nI 13) hx hb dR_resultant_426 (by decide +kernel) ?_
                    have hmod := Nat.mod_lt x (show 0 < 13 from (by omega))
                    refine t_irem hx hb dR_resultant_428 (nI_ne0 (by omega) (by omega)) (v := nI (x % 13)) (pk_rem (by omega) (by omega) (by omega)) ?_
                    refine lv_istore (lv' := [(13, .int (nI (x % 13))), (12, .int (nI (x / 13))), (0, .ref ma), (1, .int (nI r)), (4, .int (nI v)), (10, .int (nI sz)), (11, .int (nI x))]) hx hb dR_resultant_429 hl (by decide) rfl (fun ls hl => ?_)
                    refine lv_aload_n hx hb dR_resultant_431 rfl (lv_at hl 2 rfl) ?_
                    refine hp_get hx hb hG in_R hown hK hst hm.ob rfl 13 (by decide) (hG _ fl_R_43) rfl rfl dR_resultant_432 ?_
                    refine lv_sipush (v := nI 169) hx hb dR_resultant_435 (by decide +kernel) ?_
                    refine lv_iconst (v := nI 1) hx hb dR_resultant_438 (by decide +kernel) ?_
                    refine lv_iload hx hb dR_resultant_439 (lv_at hl 5 rfl) ?_
                    refine lv_ishl hx hb dR_resultant_441 ?_
                    refine tp_i (e2 := nI (1 * 2 ^ sz)) (sh_l (by omega) (by omega)) ?_
                    refine tp_n (e2 := 2 ^ sz) (Nat.one_mul _) ?_
                    refine lv_iconst (v := nI 1) hx hb dR_resultant_442 (by decide +kernel) ?_
                    refine t_isub hx hb dR_resultant_443 (v := nI ((2 ^ sz) - 1)) (pk_sub (by omega)) ?_
                    refine tp_n (e2 := AL) hAL ?_
                    refine t_imul hx hb dR_resultant_444 (v := nI (169 * AL)) (pk_mul _ _) ?_
                    refine lv_iload hx hb dR_resultant_445 (lv_at hl 6 rfl) ?_
                    refine t_iadd hx hb dR_resultant_447 (v := nI ((169 * AL) + x)) (nI_add _ _) ?_
                    refine hp_iald hx hb hK rfl hst hm.a11 (j := ((169 * AL) + x)) (by omega) (by omega) dR_resultant_448 ?_
                    refine tp_n (e2 := mnT p v m n (P a) (P b) AL AL (u13 v x)) hval ?_
                    refine lv_istore (lv' := [(14, .int (nI (mnT p v m n (P a) (P b) AL AL (u13 v x)))), (13, .int (nI (x % 13))), (12, .int (nI (x / 13))), (0, .ref ma), (1, .int (nI r)), (4, .int (nI v)), (10, .int (nI sz)), (11, .int (nI x))]) hx hb dR_resultant_449 hl (by decide) rfl (fun ls hl => ?_)
                    refine lv_iload hx hb dR_resultant_451 (lv_at hl 0 rfl) ?_
                    refine lv_if_eq hx hb dR_resultant_453 (tgt := 507) rfl (fun hc => ?_) (fun hc => ?_)
                    · skip
                      rw [← nI_0] at hc
                      have hcz : (mnT p v m n (P a) (P b) AL AL (u13 v x)) = 0 := (nI_eq (by omega) (by omega)).mp hc
                      refine lv_iinc (lv' := [(11, .int (nI (x + 1))), (14, .int (nI (mnT p v m n (P a) (P b) AL AL (u13 v x)))), (13, .int (nI (x % 13))), (12, .int (nI (x / 13))), (0, .ref ma), (1, .int (nI r)), (4, .int (nI v)), (10, .int (nI sz))]) hx hb dR_resultant_507 hl (k := 7) rfl (ii_p _) (by decide) rfl (fun ls hl => ?_)
                      refine lv_goto hx hb dR_resultant_510 (tgt := 409) rfl ?_
                      exact ihLF _ (by omega) (x + 1) d4 M5 _ _ _ rfl (by omega) hm hs4 (fc_n hv hx9 hcz hfc) ho4 hst (lv_sub hl [4, 5, 6, 7, 0] rfl)
                    · skip
                      rw [← nI_0] at hc
                      have hcz : ¬ (mnT p v m n (P a) (P b) AL AL (u13 v x)) = 0 := fun z => hc ((nI_eq (by omega) (by omega)).mpr z)
                      refine lv_aload_n hx hb dR_resultant_456 rfl (lv_at hl 3 rfl) ?_
                      refine hp_get hx hb hG in_R hown hK hst hm.ob rfl 6 (by decide) (hG _ fl_R_21) rfl rfl dR_resultant_457 ?_
                      refine lv_iload hx hb dR_resultant_460 (lv_at hl 5 rfl) ?_
                      refine lv_if_ne hx hb dR_resultant_462 (tgt := 477) rfl (fun hc => ?_) (fun hc => ?_)
                      · skip
                        rw [← nI_0] at hc
                        have hv0 : ¬ v = 0 := fun z => hc ((nI_eq (by omega) (by omega)).mpr z)
                        refine lv_iload hx hb dR_resultant_477 (lv_at hl 5 rfl) ?_
                        refine lv_iconst (v := nI 1) hx hb dR_resultant_479 (by decide +kernel) ?_
                        refine lv_icmp_ne hx hb dR_resultant_480 (tgt := 495) rfl (fun hc => ?_) (fun hc => ?_)
                        · skip
                          have hv1 : ¬ v = 1 := fun z => hc ((nI_eq (by omega) (by omega)).mpr z)
                          refine lv_aload_n hx hb dR_resultant_495 rfl (lv_at hl 3 rfl) ?_
                          refine lv_iload hx hb dR_resultant_496 (lv_at hl 2 rfl) ?_
                          refine lv_iload hx hb dR_resultant_498 (lv_at hl 1 rfl) ?_
                          refine lv_iconst (v := nI 0) hx hb dR_resultant_500 (by decide +kernel) ?_
                          refine ct_callV (av2 := [.int (nI (x / 13)), .int (nI (x % 13)), .int (nI 0)]) (rest := [.ref (E 4)]) (b := ma) X hst (c_R_place l D Y lo hm (a := x / 13) (b := x % 13) (d := 0) (by omega)) hm.ob rfl wc_R_place ml_R_62 wi_R_place wl_R_place wn_R md_R_place (by decide) hl.1 rfl (Nat.le_of_ble_eq_true rfl) ⟨by omega, by omega⟩ (fun _ _ h => h.elim) dR_resultant_501 (fun r M' H locs hp hst => ?_)
                          obtain ⟨rfl, rfl⟩ := hp
                          refine tp_n (e2 := 9138 - rk (u13 v x)) (by unfold u13; rw [if_neg hv0, if_neg hv1]) ?_
                          refine lv_iload hx hb dR_resultant_504 (lv_at hl 0 rfl) ?_
                          refine hp_iast hx hb hK rfl hst (hm.rw (j := 4) (by omega) (by omega)) (j := (9138 - rk (u13 v x))) (v := (mnT p v m n (P a) (P b) AL AL (u13 v x))) (by omega) (by omega) dR_resultant_506 (fun H locs hst => ?_)
                          obtain ⟨hm1, hs2⟩ := hm.sr (j := 4) (by omega) (by omega) (va_up (d4 4) (9138 - rk (u13 v x)) (mnT p v m n (P a) (P b) AL AL (u13 v x)))
                          generalize hp_up M5 (E 4) ((1000, 4), e_n Y 9139 (va_up (d4 4) (9138 - rk (u13 v x)) (mnT p v m n (P a) (P b) AL AL (u13 v x)))) = M3 at hst hm1 hs2
                          have ho4 := ho4.tr hs2
                          refine lv_iinc (lv' := [(11, .int (nI (x + 1))), (14, .int (nI (mnT p v m n (P a) (P b) AL AL (u13 v x)))), (13, .int (nI (x % 13))), (12, .int (nI (x / 13))), (0, .ref ma), (1, .int (nI r)), (4, .int (nI v)), (10, .int (nI sz))]) hx hb dR_resultant_507 hl (k := 7) rfl (ii_p _) (by decide) rfl (fun ls hl => ?_)
                          refine lv_goto hx hb dR_resultant_510 (tgt := 409) rfl ?_
                          exact ihLF _ (by omega) (x + 1) (va_up d4 4 (va_up (d4 4) (9138 - rk (u13 v x)) (mnT p v m n (P a) (P b) AL AL (u13 v x)))) M3 _ _ _ rfl (by omega) hm1 (fun i hi => by rw [va_up_ne _ _ hi]; exact hs4 i hi) (by rw [va_up_self]; exact fc_y hv hx9 hfc) ho4 hst (lv_sub hl [4, 5, 6, 7, 0] rfl)
                        · skip
                          have hv1 : v = 1 := (nI_eq (by omega) (by omega)).mp hc
                          refine lv_aload_n hx hb dR_resultant_483 rfl (lv_at hl 3 rfl) ?_
                          refine lv_iload hx hb dR_resultant_484 (lv_at hl 2 rfl) ?_
                          refine lv_iconst (v := nI 0) hx hb dR_resultant_486 (by decide +kernel) ?_
                          refine lv_iload hx hb dR_resultant_487 (lv_at hl 1 rfl) ?_
                          refine ct_callV (av2 := [.int (nI (x / 13)), .int (nI 0), .int (nI (x % 13))]) (rest := [.ref (E 4)]) (b := ma) X hst (c_R_place l D Y lo hm (a := x / 13) (b := 0) (d := x % 13) (by omega)) hm.ob rfl wc_R_place ml_R_62 wi_R_place wl_R_place wn_R md_R_place (by decide) hl.1 rfl (Nat.le_of_ble_eq_true rfl) ⟨by omega, by omega⟩ (fun _ _ h => h.elim) dR_resultant_489 (fun r M' H locs hp hst => ?_)
                          obtain ⟨rfl, rfl⟩ := hp
                          refine tp_n (e2 := 9138 - rk (u13 v x)) (by unfold u13; rw [if_neg hv0, if_pos hv1]) ?_
                          refine lv_goto hx hb dR_resultant_492 (tgt := 504) rfl ?_
                          refine lv_iload hx hb dR_resultant_504 (lv_at hl 0 rfl) ?_
                          refine hp_iast hx hb hK rfl hst (hm.rw (j := 4) (by omega) (by omega)) (j := (9138 - rk (u13 v x))) (v := (mnT p v m n (P a) (P b) AL AL (u13 v x))) (by omega) (by omega) dR_resultant_506 (fun H locs hst => ?_)
                          obtain ⟨hm1, hs2⟩ := hm.sr (j := 4) (by omega) (by omega) (va_up (d4 4) (9138 - rk (u13 v x)) (mnT p v m n (P a) (P b) AL AL (u13 v x)))
                          generalize hp_up M5 (E 4) ((1000, 4), e_n Y 9139 (va_up (d4 4) (9138 - rk (u13 v x)) (mnT p v m n (P a) (P b) AL AL (u13 v x)))) = M3 at hst hm1 hs2
                          have ho4 := ho4.tr hs2
                          refine lv_iinc (lv' := [(11, .int (nI (x + 1))), (14, .int (nI (mnT p v m n (P a) (P b) AL AL (u13 v x)))), (13, .int (nI (x % 13))), (12, .int (nI (x / 13))), (0, .ref ma), (1, .int (nI r)), (4, .int (nI v)), (10, .int (nI sz))]) hx hb dR_resultant_507 hl (k := 7) rfl (ii_p _) (by decide) rfl (fun ls hl => ?_)
                          refine lv_goto hx hb dR_resultant_510 (tgt := 409) rfl ?_
                          exact ihLF _ (by omega) (x + 1) (va_up d4 4 (va_up (d4 4) (9138 - rk (u13 v x)) (mnT p v m n (P a) (P b) AL AL (u13 v x)))) M3 _ _ _ rfl (by omega) hm1 (fun i hi => by rw [va_up_ne _ _ hi]; exact hs4 i hi) (by rw [va_up_self]; exact fc_y hv hx9 hfc) ho4 hst (lv_sub hl [4, 5, 6, 7, 0] rfl)
                      · skip
                        rw [← nI_0] at hc
                        have hv0 : v = 0 := (nI_eq (by omega) (by omega)).mp hc
                        refine lv_aload_n hx hb dR_resultant_465 rfl (lv_at hl 3 rfl) ?_
                        refine lv_iconst (v := nI 0) hx hb dR_resultant_466 (by decide +kernel) ?_
                        refine lv_iload hx hb dR_resultant_467 (lv_at hl 2 rfl) ?_
                        refine lv_iload hx hb dR_resultant_469 (lv_at hl 1 rfl) ?_
                        refine ct_callV (av2 := [.int (nI 0), .int (nI (x / 13)), .int (nI (x % 13))]) (rest := [.ref (E 4)]) (b := ma) X hst (c_R_place l D Y lo hm (a := 0) (b := x / 13) (d := x % 13) (by omega)) hm.ob rfl wc_R_place ml_R_62 wi_R_place wl_R_place wn_R md_R_place (by decide) hl.1 rfl (Nat.le_of_ble_eq_true rfl) ⟨by omega, by omega⟩ (fun _ _ h => h.elim) dR_resultant_471 (fun r M' H locs hp hst => ?_)
                        obtain ⟨rfl, rfl⟩ := hp
                        refine tp_n (e2 := 9138 - rk (u13 v x)) (by unfold u13; rw [if_pos hv0]) ?_
                        refine lv_goto hx hb dR_resultant_474 (tgt := 504) rfl ?_
                        refine lv_iload hx hb dR_resultant_504 (lv_at hl 0 rfl) ?_
                        refine hp_iast hx hb hK rfl hst (hm.rw (j := 4) (by omega) (by omega)) (j := (9138 - rk (u13 v x))) (v := (mnT p v m n (P a) (P b) AL AL (u13 v x))) (by omega) (by omega) dR_resultant_506 (fun H locs hst => ?_)
                        obtain ⟨hm1, hs2⟩ := hm.sr (j := 4) (by omega) (by omega) (va_up (d4 4) (9138 - rk (u13 v x)) (mnT p v m n (P a) (P b) AL AL (u13 v x)))
                        generalize hp_up M5 (E 4) ((1000, 4), e_n Y 9139 (va_up (d4 4) (9138 - rk (u13 v x)) (mnT p v m n (P a) (P b) AL AL (u13 v x)))) = M3 at hst hm1 hs2
                        have ho4 := ho4.tr hs2
                        refine lv_iinc (lv' := [(11, .int (nI (x + 1))), (14, .int (nI (mnT p v m n (P a) (P b) AL AL (u13 v x)))), (13, .int (nI (x % 13))), (12, .int (nI (x / 13))), (0, .ref ma), (1, .int (nI r)), (4, .int (nI v)), (10, .int (nI sz))]) hx hb dR_resultant_507 hl (k := 7) rfl (ii_p _) (by decide) rfl (fun ls hl => ?_)
                        refine lv_goto hx hb dR_resultant_510 (tgt := 409) rfl ?_
                        exact ihLF _ (by omega) (x + 1) (va_up d4 4 (va_up (d4 4) (9138 - rk (u13 v x)) (mnT p v m n (P a) (P b) AL AL (u13 v x)))) M3 _ _ _ rfl (by omega) hm1 (fun i hi => by rw [va_up_ne _ _ hi]; exact hs4 i hi) (by rw [va_up_self]; exact fc_y hv hx9 hfc) ho4 hst (lv_sub hl [4, 5, 6, 7, 0] rfl)
                exact LF _ 0 cC MC _ _ _ rfl (by omega) hmC (fun i hi => rfl) (fc_0 zC) hos hst (lv_sub hl [1, 2, 3, 6, 0] rfl)
              · skip
                have hc6 : ¬ sz ≤ i := fun z => hc ((nI_leI (by omega) (by omega)).mpr z)
                have hi : i < sz := by omega
                have hrow : sz * i + sz ≤ sz * sz := by rw [← Nat.mul_succ]; exact Nat.mul_le_mul_left _ hi
                refine lv_iload hx hb dR_resultant_300 (lv_at hl 6 rfl) ?_
                refine lv_iload hx hb dR_resultant_302 (lv_at hl 4 rfl) ?_
                refine lv_icmp_ge hx hb dR_resultant_304 (tgt := 312) rfl (fun hc => ?_) (fun hc => ?_)
                · skip
                  have hc7 : n ≤ i := (nI_leI (by omega) (by omega)).mp hc
                  have hin : ¬ i < n := by omega
                  refine lv_iload hx hb dR_resultant_312 (lv_at hl 4 rfl) ?_
                  have hdR : dR m n i = n := by unfold dR; rw [if_neg hin]
                  have hrl : rL n (P a) (P b) i = P b := by unfold rL; rw [if_neg hin]
                  refine tp_n (e2 := dR m n i) hdR.symm ?_
                  refine lv_istore (lv' := [(12, .int (nI (dR m n i))), (0, .ref ma), (1, .int (nI r)), (4, .int (nI v)), (7, .int (nI m)), (8, .int (nI n)), (10, .int (nI sz)), (11, .int (nI i))]) hx hb dR_resultant_314 hl (by decide) rfl (fun ls hl => ?_)
                  refine lv_iconst (v := nI 0) hx hb dR_resultant_316 (by decide +kernel) ?_
                  refine lv_istore (lv' := [(13, .int (nI 0)), (12, .int (nI (dR m n i))), (0, .ref ma), (1, .int (nI r)), (4, .int (nI v)), (7, .int (nI m)), (8, .int (nI n)), (10, .int (nI sz)), (11, .int (nI i))]) hx hb dR_resultant_317 hl (by decide) rfl (fun ls hl => ?_)
                  have LJ : ∀ (kk : Nat) (j : Nat) (d2 : Nat → Nat → Nat) (M2 : Hm) (H : Heap) (locs : List Loc) (ls : Array Slot), kk = dR m n i + 1 - j → (j ≤ dR m n i + 1) → (mo Y M2 ma E p rf 0 d2) → (∀ x, x ≠ 10 → d2 x = cL5 x) → (en v m n (P a) (P b) (d2 10) i j) → (hp_off (fun i => i = 1000) M M2) → hp_st D vC lo M2 sg.heap H locs → lv_has ls 15 [(0, .ref ma), (1, .int (nI r)), (4, .int (nI v)), (7, .int (nI m)), (8, .int (nI n)), (10, .int (nI sz)), (11, .int (nI i)), (12, .int (nI (dR m n i))), (13, .int (nI j))] → cW pg l eg sg mg [.ref ma, .int (nI r), .int (nI a), .int (nI b), .int (nI v)] bw mt cg y_R_resultant b_R_resultant 15 (some .boolean) 3 D lo (fun r9 M' => ∃ c' : Nat → Nat → Nat, r9 = some (.int (nI 1)) ∧ mo Y M' ma E p rf 0 c' ∧ rr c' (va_up P r (addL p 1 0 (tp (mnT p v m n (P a) (P b) (2 ^ (m + n) - 1) (2 ^ (m + n) - 1))) (fun _ => 0))) ∧ hp_off (fun i => i = 1000) M M') nx 0 0 H locs 0 0 (F0 mg 319 ls []) := by
                    intro kk
                    induction kk using Nat.strongRecOn with
                    | _ kk ihLJ =>
                    intro j d2 M2 H locs ls hkk hj9 hm hsm hen ho hst hl
                    refine lv_iload hx hb dR_resultant_319 (lv_at hl 8 rfl) ?_
                    refine lv_iload hx hb dR_resultant_321 (lv_at hl 7 rfl) ?_
                    refine lv_icmp_gt hx hb dR_resultant_323 (tgt := 387) rfl (fun hc => ?_) (fun hc => ?_)
                    · skip
                      have hc8 : (dR m n i) < j := (nI_ltI (by omega) (by omega)).mp hc
                      have hj : j = dR m n i + 1 := by omega
                      rw [hj] at hen
                      refine lv_iinc (lv' := [(11, .int (nI (i + 1))), (0, .ref ma), (1, .int (nI r)), (4, .int (nI v)), (7, .int (nI m)), (8, .int (nI n)), (10, .int (nI sz)), (12, .int (nI (dR m n i))), (13, .int (nI j))]) hx hb dR_resultant_387 hl (k := 6) rfl (ii_p _) (by decide) rfl (fun ls hl => ?_)
                      refine lv_goto hx hb dR_resultant_390 (tgt := 293) rfl ?_
                      exact ihLI _ (by omega) (i + 1) d2 M2 _ _ _ rfl (by omega) hm hsm (en_row hW hen) ho hst (lv_sub hl [1, 2, 3, 4, 5, 6, 0] rfl)
                    · skip
                      have hc8 : ¬ (dR m n i) < j := fun z => hc ((nI_ltI (by omega) (by omega)).mpr z)
                      refine lv_aload_n hx hb dR_resultant_326 rfl (lv_at hl 0 rfl) ?_
                      refine lv_iload hx hb dR_resultant_327 (lv_at hl 6 rfl) ?_
                      refine lv_iload hx hb dR_resultant_329 (lv_at hl 4 rfl) ?_
                      refine lv_icmp_ge hx hb dR_resultant_331 (tgt := 341) rfl (fun hc => ?_) (fun hc => ?_)
                      · skip
                        have hq1 : n ≤ i := (nI_leI (by omega) (by omega)).mp hc
                        refine lv_aload_n hx hb dR_resultant_341 rfl (lv_at hl 0 rfl) ?_
                        refine hp_get hx hb hG in_R hown hK hst hm.ob rfl 7 (by decide) (hG _ fl_R_24) rfl rfl dR_resultant_342 ?_
                        refine lv_iload hx hb dR_resultant_345 (lv_at hl 2 rfl) ?_
                        refine lv_iload hx hb dR_resultant_347 (lv_at hl 7 rfl) ?_
                        refine lv_iload hx hb dR_resultant_349 (lv_at hl 8 rfl) ?_
                        refine t_isub hx hb dR_resultant_351 (v := nI ((dR m n i) - j)) (pk_sub (by omega)) ?_
                        refine lv_iload hx hb dR_resultant_352 (lv_at hl 5 rfl) ?_
                        refine lv_iload hx hb dR_resultant_354 (lv_at hl 6 rfl) ?_
                        refine t_imul hx hb dR_resultant_356 (v := nI (sz * i)) (pk_mul _ _) ?_
                        refine lv_iload hx hb dR_resultant_357 (lv_at hl 6 rfl) ?_
                        refine lv_iload hx hb dR_resultant_359 (lv_at hl 4 rfl) ?_
                        refine lv_icmp_ge hx hb dR_resultant_361 (tgt := 369) rfl (fun hc => ?_) (fun hc => ?_)
                        · skip
                          have hq2 : n ≤ i := (nI_leI (by omega) (by omega)).mp hc
                          have h9 := en_step hW (i := i) (j := j) (by omega) (by omega) hen
                          rw [hrl, if_neg hin, hsz] at h9
                          refine lv_iload hx hb dR_resultant_369 (lv_at hl 6 rfl) ?_
                          refine lv_iload hx hb dR_resultant_371 (lv_at hl 4 rfl) ?_
                          refine t_isub hx hb dR_resultant_373 (v := nI (i - n)) (pk_sub (by omega)) ?_
                          refine t_iadd hx hb dR_resultant_374 (v := nI ((sz * i) + (i - n))) (nI_add _ _) ?_
                          refine lv_iload hx hb dR_resultant_375 (lv_at hl 8 rfl) ?_
                          refine t_iadd hx hb dR_resultant_377 (v := nI (((sz * i) + (i - n)) + j)) (nI_add _ _) ?_
                          refine ct_callV (av2 := [.ref (E 5), .int (nI v), .int (nI ((dR m n i) - j)), .int (nI (((sz * i) + (i - n)) + j))]) (rest := []) (b := ma) X hst (c_R_entry l D Y lo hm (j := 5) (by omega) (by omega) (h := P b) (by rw [hsm 5 (by omega)]; exact e5) (p31 hp3 hPp hb9) (v := v) (e := dR m n i - j) (t := sz * i + (i - n) + j) hv (by omega) (by omega) (fun q hq _ => hW.kl (r := i) (by omega) (by rw [hrl]; exact hq))) hm.ob rfl wc_R_entry ml_R_125 wi_R_entry wl_R_entry wn_R md_R_entry (by decide) hl.1 rfl (Nat.le_of_ble_eq_true rfl) ⟨by omega, by omega⟩ (fun _ _ h => h.elim) dR_resultant_378 (fun r M4 H locs hp hst => ?_)
                          obtain ⟨c4, rfl, hm4, s4, e10, ho4⟩ := hp
                          refine lv_iinc (lv' := [(13, .int (nI (j + 1))), (0, .ref ma), (1, .int (nI r)), (4, .int (nI v)), (7, .int (nI m)), (8, .int (nI n)), (10, .int (nI sz)), (11, .int (nI i)), (12, .int (nI (dR m n i)))]) hx hb dR_resultant_381 hl (k := 8) rfl (ii_p _) (by decide) rfl (fun ls hl => ?_)
                          refine lv_goto hx hb dR_resultant_384 (tgt := 319) rfl ?_
                          exact ihLJ _ (by omega) (j + 1) c4 M4 _ _ _ rfl (by omega) hm4 (fun x hx => (s4 x hx).trans (hsm x hx)) (by rw [e10]; exact h9) (ho.tr ho4) hst (lv_sub hl [1, 2, 3, 4, 5, 6, 7, 8, 0] rfl)
                        · skip
                          have hq2 : ¬ n ≤ i := fun z => hc ((nI_leI (by omega) (by omega)).mpr z)
                          omega
                      · skip
                        have hq1 : ¬ n ≤ i := fun z => hc ((nI_leI (by omega) (by omega)).mpr z)
                        omega
                  exact LJ _ 0 d M1 _ _ _ rfl (by omega) hm hsm hen ho hst (lv_sub hl [2, 3, 4, 5, 6, 7, 8, 1, 0] rfl)
                · skip
                  have hc7 : ¬ n ≤ i := fun z => hc ((nI_leI (by omega) (by omega)).mpr z)
                  have hin : i < n := by omega
                  refine lv_iload hx hb dR_resultant_307 (lv_at hl 3 rfl) ?_
                  refine lv_goto hx hb dR_resultant_309 (tgt := 314) rfl ?_
                  have hdR : dR m n i = m := by unfold dR; rw [if_pos hin]
                  have hrl : rL n (P a) (P b) i = P a := by unfold rL; rw [if_pos hin]
                  refine tp_n (e2 := dR m n i) hdR.symm ?_
                  refine lv_istore (lv' := [(12, .int (nI (dR m n i))), (0, .ref ma), (1, .int (nI r)), (4, .int (nI v)), (7, .int (nI m)), (8, .int (nI n)), (10, .int (nI sz)), (11, .int (nI i))]) hx hb dR_resultant_314 hl (by decide) rfl (fun ls hl => ?_)
                  refine lv_iconst (v := nI 0) hx hb dR_resultant_316 (by decide +kernel) ?_
                  refine lv_istore (lv' := [(13, .int (nI 0)), (12, .int (nI (dR m n i))), (0, .ref ma), (1, .int (nI r)), (4, .int (nI v)), (7, .int (nI m)), (8, .int (nI n)), (10, .int (nI sz)), (11, .int (nI i))]) hx hb dR_resultant_317 hl (by decide) rfl (fun ls hl => ?_)
                  have LJ : ∀ (kk : Nat) (j : Nat) (d2 : Nat → Nat → Nat) (M2 : Hm) (H : Heap) (locs : List Loc) (ls : Array Slot), kk = dR m n i + 1 - j → (j ≤ dR m n i + 1) → (mo Y M2 ma E p rf 0 d2) → (∀ x, x ≠ 10 → d2 x = cL5 x) → (en v m n (P a) (P b) (d2 10) i j) → (hp_off (fun i => i = 1000) M M2) → hp_st D vC lo M2 sg.heap H locs → lv_has ls 15 [(0, .ref ma), (1, .int (nI r)), (4, .int (nI v)), (7, .int (nI m)), (8, .int (nI n)), (10, .int (nI sz)), (11, .int (nI i)), (12, .int (nI (dR m n i))), (13, .int (nI j))] → cW pg l eg sg mg [.ref ma, .int (nI r), .int (nI a), .int (nI b), .int (nI v)] bw mt cg y_R_resultant b_R_resultant 15 (some .boolean) 3 D lo (fun r9 M' => ∃ c' : Nat → Nat → Nat, r9 = some (.int (nI 1)) ∧ mo Y M' ma E p rf 0 c' ∧ rr c' (va_up P r (addL p 1 0 (tp (mnT p v m n (P a) (P b) (2 ^ (m + n) - 1) (2 ^ (m + n) - 1))) (fun _ => 0))) ∧ hp_off (fun i => i = 1000) M M') nx 0 0 H locs 0 0 (F0 mg 319 ls []) := by
                    intro kk
                    induction kk using Nat.strongRecOn with
                    | _ kk ihLJ =>
                    intro j d2 M2 H locs ls hkk hj9 hm hsm hen ho hst hl
                    refine lv_iload hx hb dR_resultant_319 (lv_at hl 8 rfl) ?_
                    refine lv_iload hx hb dR_resultant_321 (lv_at hl 7 rfl) ?_
                    refine lv_icmp_gt hx hb dR_resultant_323 (tgt := 387) rfl (fun hc => ?_) (fun hc => ?_)
                    · skip
                      have hc8 : (dR m n i) < j := (nI_ltI (by omega) (by omega)).mp hc
                      have hj : j = dR m n i + 1 := by omega
                      rw [hj] at hen
                      refine lv_iinc (lv' := [(11, .int (nI (i + 1))), (0, .ref ma), (1, .int (nI r)), (4, .int (nI v)), (7, .int (nI m)), (8, .int (nI n)), (10, .int (nI sz)), (12, .int (nI (dR m n i))), (13, .int (nI j))]) hx hb dR_resultant_387 hl (k := 6) rfl (ii_p _) (by decide) rfl (fun ls hl => ?_)
                      refine lv_goto hx hb dR_resultant_390 (tgt := 293) rfl ?_
                      exact ihLI _ (by omega) (i + 1) d2 M2 _ _ _ rfl (by omega) hm hsm (en_row hW hen) ho hst (lv_sub hl [1, 2, 3, 4, 5, 6, 0] rfl)
                    · skip
                      have hc8 : ¬ (dR m n i) < j := fun z => hc ((nI_ltI (by omega) (by omega)).mpr z)
                      refine lv_aload_n hx hb dR_resultant_326 rfl (lv_at hl 0 rfl) ?_
                      refine lv_iload hx hb dR_resultant_327 (lv_at hl 6 rfl) ?_
                      refine lv_iload hx hb dR_resultant_329 (lv_at hl 4 rfl) ?_
                      refine lv_icmp_ge hx hb dR_resultant_331 (tgt := 341) rfl (fun hc => ?_) (fun hc => ?_)
                      · skip
                        have hq1 : n ≤ i := (nI_leI (by omega) (by omega)).mp hc
                        omega
                      · skip
                        have hq1 : ¬ n ≤ i := fun z => hc ((nI_leI (by omega) (by omega)).mpr z)
                        refine lv_aload_n hx hb dR_resultant_334 rfl (lv_at hl 0 rfl) ?_
                        refine hp_get hx hb hG in_R hown hK hst hm.ob rfl 6 (by decide) (hG _ fl_R_21) rfl rfl dR_resultant_335 ?_
                        refine lv_goto hx hb dR_resultant_338 (tgt := 345) rfl ?_
                        refine lv_iload hx hb dR_resultant_345 (lv_at hl 2 rfl) ?_
                        refine lv_iload hx hb dR_resultant_347 (lv_at hl 7 rfl) ?_
                        refine lv_iload hx hb dR_resultant_349 (lv_at hl 8 rfl) ?_
                        refine t_isub hx hb dR_resultant_351 (v := nI ((dR m n i) - j)) (pk_sub (by omega)) ?_
                        refine lv_iload hx hb dR_resultant_352 (lv_at hl 5 rfl) ?_
                        refine lv_iload hx hb dR_resultant_354 (lv_at hl 6 rfl) ?_
                        refine t_imul hx hb dR_resultant_356 (v := nI (sz * i)) (pk_mul _ _) ?_
                        refine lv_iload hx hb dR_resultant_357 (lv_at hl 6 rfl) ?_
                        refine lv_iload hx hb dR_resultant_359 (lv_at hl 4 rfl) ?_
                        refine lv_icmp_ge hx hb dR_resultant_361 (tgt := 369) rfl (fun hc => ?_) (fun hc => ?_)
                        · skip
                          have hq2 : n ≤ i := (nI_leI (by omega) (by omega)).mp hc
                          omega
                        · skip
                          have hq2 : ¬ n ≤ i := fun z => hc ((nI_leI (by omega) (by omega)).mpr z)
                          refine lv_iload hx hb dR_resultant_364 (lv_at hl 6 rfl) ?_
                          refine lv_goto hx hb dR_resultant_366 (tgt := 374) rfl ?_
                          have h9 := en_step hW (i := i) (j := j) (by omega) (by omega) hen
                          rw [hrl, if_pos hin, hsz] at h9
                          refine t_iadd hx hb dR_resultant_374 (v := nI ((sz * i) + i)) (nI_add _ _) ?_
                          refine lv_iload hx hb dR_resultant_375 (lv_at hl 8 rfl) ?_
                          refine t_iadd hx hb dR_resultant_377 (v := nI (((sz * i) + i) + j)) (nI_add _ _) ?_
                          refine ct_callV (av2 := [.ref (E 4), .int (nI v), .int (nI ((dR m n i) - j)), .int (nI (((sz * i) + i) + j))]) (rest := []) (b := ma) X hst (c_R_entry l D Y lo hm (j := 4) (by omega) (by omega) (h := P a) (by rw [hsm 4 (by omega)]; exact e4) (p31 hp3 hPp ha) (v := v) (e := dR m n i - j) (t := sz * i + i + j) hv (by omega) (by omega) (fun q hq _ => hW.kl (r := i) (by omega) (by rw [hrl]; exact hq))) hm.ob rfl wc_R_entry ml_R_125 wi_R_entry wl_R_entry wn_R md_R_entry (by decide) hl.1 rfl (Nat.le_of_ble_eq_true rfl) ⟨by omega, by omega⟩ (fun _ _ h => h.elim) dR_resultant_378 (fun r M4 H locs hp hst => ?_)
                          obtain ⟨c4, rfl, hm4, s4, e10, ho4⟩ := hp
                          refine lv_iinc (lv' := [(13, .int (nI (j + 1))), (0, .ref ma), (1, .int (nI r)), (4, .int (nI v)), (7, .int (nI m)), (8, .int (nI n)), (10, .int (nI sz)), (11, .int (nI i)), (12, .int (nI (dR m n i)))]) hx hb dR_resultant_381 hl (k := 8) rfl (ii_p _) (by decide) rfl (fun ls hl => ?_)
                          refine lv_goto hx hb dR_resultant_384 (tgt := 319) rfl ?_
                          exact ihLJ _ (by omega) (j + 1) c4 M4 _ _ _ rfl (by omega) hm4 (fun x hx => (s4 x hx).trans (hsm x hx)) (by rw [e10]; exact h9) (ho.tr ho4) hst (lv_sub hl [1, 2, 3, 4, 5, 6, 7, 8, 0] rfl)
                  exact LJ _ 0 d M1 _ _ _ rfl (by omega) hm hsm hen ho hst (lv_sub hl [2, 3, 4, 5, 6, 7, 8, 1, 0] rfl)
            have LC : ∀ (kk : Nat) (x : Nat) (d : Nat → Nat → Nat) (M1 : Hm) (H : Heap) (locs : List Loc) (ls : Array Slot), kk = sz * sz * 169 - x → (x ≤ sz * sz * 169) → (mo Y M1 ma E p rf 0 d) → (∀ x, x ≠ 10 → d x = cL5 x) → (∀ y, y < x → d 10 y = 0) → (hp_off (fun i => i = 1000) M M1) → hp_st D vC lo M1 sg.heap H locs → lv_has ls 15 [(0, .ref ma), (1, .int (nI r)), (4, .int (nI v)), (7, .int (nI m)), (8, .int (nI n)), (10, .int (nI sz)), (11, .int (nI x))] → cW pg l eg sg mg [.ref ma, .int (nI r), .int (nI a), .int (nI b), .int (nI v)] bw mt cg y_R_resultant b_R_resultant 15 (some .boolean) 3 D lo (fun r9 M' => ∃ c' : Nat → Nat → Nat, r9 = some (.int (nI 1)) ∧ mo Y M' ma E p rf 0 c' ∧ rr c' (va_up P r (addL p 1 0 (tp (mnT p v m n (P a) (P b) (2 ^ (m + n) - 1) (2 ^ (m + n) - 1))) (fun _ => 0))) ∧ hp_off (fun i => i = 1000) M M') nx 0 0 H locs 0 0 (F0 mg 262 ls []) := by
              intro kk
              induction kk using Nat.strongRecOn with
              | _ kk ihLC =>
              intro x d M1 H locs ls hkk hx9 hm hsm hcl9 ho hst hl
              refine lv_iload hx hb dR_resultant_262 (lv_at hl 6 rfl) ?_
              refine lv_iload hx hb dR_resultant_264 (lv_at hl 5 rfl) ?_
              refine lv_iload hx hb dR_resultant_266 (lv_at hl 5 rfl) ?_
              refine t_imul hx hb dR_resultant_268 (v := nI (sz * sz)) (pk_mul _ _) ?_
              refine lv_sipush (v := nI 169) hx hb dR_resultant_269 (by decide +kernel) ?_
              refine t_imul hx hb dR_resultant_272 (v := nI ((sz * sz) * 169)) (pk_mul _ _) ?_
              refine lv_icmp_ge hx hb dR_resultant_273 (tgt := 290) rfl (fun hc => ?_) (fun hc => ?_)
              · skip
                have hc6 : ((sz * sz) * 169) ≤ x := (nI_leI (by omega) (by omega)).mp hc
                refine lv_iconst (v := nI 0) hx hb dR_resultant_290 (by decide +kernel) ?_
                refine lv_istore (lv' := [(11, .int (nI 0)), (0, .ref ma), (1, .int (nI r)), (4, .int (nI v)), (7, .int (nI m)), (8, .int (nI n)), (10, .int (nI sz))]) hx hb dR_resultant_291 hl (by decide) rfl (fun ls hl => ?_)
                exact LI _ 0 d M1 _ _ _ rfl (by omega) hm hsm (en_0 (fun y hy => hcl9 y (by rw [hsz] at hy; omega))) ho hst (lv_sub hl [1, 2, 3, 4, 5, 6, 0] rfl)
              · skip
                have hc6 : ¬ ((sz * sz) * 169) ≤ x := fun z => hc ((nI_leI (by omega) (by omega)).mpr z)
                refine lv_aload_n hx hb dR_resultant_276 rfl (lv_at hl 0 rfl) ?_
                refine hp_get hx hb hG in_R hown hK hst hm.ob rfl 12 (by decide) (hG _ fl_R_39) rfl rfl dR_resultant_277 ?_
                refine lv_iload hx hb dR_resultant_280 (lv_at hl 6 rfl) ?_
                refine lv_iconst (v := nI 0) hx hb dR_resultant_282 (by decide +kernel) ?_
                refine hp_iast hx hb hK rfl hst hm.a10 (j := x) (v := 0) (by omega) (by omega) dR_resultant_283 (fun H locs hst => ?_)
                obtain ⟨hm1, hs2⟩ := hm.s10 (va_up (d 10) x 0)
                generalize hp_up M1 (E 10) ((1000, 10), e_n Y 10816 (va_up (d 10) x 0)) = M3 at hst hm1 hs2
                have ho4 := ho.tr hs2
                refine lv_iinc (lv' := [(11, .int (nI (x + 1))), (0, .ref ma), (1, .int (nI r)), (4, .int (nI v)), (7, .int (nI m)), (8, .int (nI n)), (10, .int (nI sz))]) hx hb dR_resultant_284 hl (k := 6) rfl (ii_p _) (by decide) rfl (fun ls hl => ?_)
                refine lv_goto hx hb dR_resultant_287 (tgt := 262) rfl ?_
                exact ihLC _ (by omega) (x + 1) (va_up d 10 (va_up (d 10) x 0)) M3 _ _ _ rfl (by omega) hm1 (fun i hi => by rw [va_up_ne _ _ hi]; exact hsm i hi) (fun y hy => by
                    rw [va_up_self]
                    by_cases h9 : y = x
                    · rw [h9]; exact va_up_self _ _ _
                    · rw [va_up_ne _ _ h9]; exact hcl9 y (by omega)) ho4 hst (lv_sub hl [1, 2, 3, 4, 5, 6, 0] rfl)
            exact LC _ 0 cL5 MR _ _ _ rfl (by omega) hmR (fun i hi => rfl) (fun y hy => by omega) hoo hst (lv_sub hl [2, 3, 4, 5, 6, 1, 0] rfl)
          · skip
            have hc5 : ¬ 3 ≤ u := fun z => hc ((nI_leI (by omega) (by omega)).mpr z)
            have hu : u < 3 := by omega
            have d1 := dgl_lt (v := u) (g := 0) (L := tp (P a)) (by omega)
            have d2 := dgl_lt (v := u) (g := 0) (L := tp (P b)) (by omega)
            have d3 : n * dgl u (tp (P a)) 0 ≤ 64 * 64 := Nat.mul_le_mul (by omega) (by omega)
            have d4 : m * dgl u (tp (P b)) 0 ≤ 64 * 64 := Nat.mul_le_mul (by omega) (by omega)
            refine lv_iload hx hb dR_resultant_184 (lv_at hl 5 rfl) ?_
            refine lv_if_ne hx hb dR_resultant_186 (tgt := 228) rfl (fun hc => ?_) (fun hc => ?_)
            · skip
              rw [← nI_0] at hc
              have hcz : ¬ z = 0 := fun z => hc ((nI_eq (by omega) (by omega)).mpr z)
              refine lv_iconst (v := nI 1) hx hb dR_resultant_228 (by decide +kernel) ?_
              refine lv_goto hx hb dR_resultant_229 (tgt := 233) rfl ?_
              refine lv_istore (lv' := [(9, .int (nI 1)), (0, .ref ma), (1, .int (nI r)), (4, .int (nI v)), (7, .int (nI m)), (8, .int (nI n)), (10, .int (nI u))]) hx hb dR_resultant_233 hl (by decide) rfl (fun ls hl => ?_)
              refine lv_iinc (lv' := [(10, .int (nI (u + 1))), (9, .int (nI 1)), (0, .ref ma), (1, .int (nI r)), (4, .int (nI v)), (7, .int (nI m)), (8, .int (nI n))]) hx hb dR_resultant_235 hl (k := 6) rfl (ii_p _) (by decide) rfl (fun ls hl => ?_)
              refine lv_goto hx hb dR_resultant_238 (tgt := 178) rfl ?_
              exact ihLP _ (by omega) 1 (u + 1) _ _ _ rfl (by omega) (by omega) ⟨fun _ => by obtain ⟨y, y1, y2⟩ := hz2.mp (by omega); exact ⟨y, by omega, y2⟩, fun _ => rfl⟩ hst (lv_sub hl [2, 3, 4, 5, 6, 1, 0] rfl)
            · skip
              rw [← nI_0] at hc
              have hcz : z = 0 := (nI_eq (by omega) (by omega)).mp hc
              refine lv_iload hx hb dR_resultant_189 (lv_at hl 6 rfl) ?_
              refine lv_iload hx hb dR_resultant_191 (lv_at hl 2 rfl) ?_
              refine lv_icmp_eq hx hb dR_resultant_193 (tgt := 232) rfl (fun hc => ?_) (fun hc => ?_)
              · skip
                have hcv : u = v := (nI_eq (by omega) (by omega)).mp hc
                refine lv_iconst (v := nI 0) hx hb dR_resultant_232 (by decide +kernel) ?_
                refine lv_istore (lv' := [(9, .int (nI 0)), (0, .ref ma), (1, .int (nI r)), (4, .int (nI v)), (7, .int (nI m)), (8, .int (nI n)), (10, .int (nI u))]) hx hb dR_resultant_233 hl (by decide) rfl (fun ls hl => ?_)
                refine lv_iinc (lv' := [(10, .int (nI (u + 1))), (9, .int (nI 0)), (0, .ref ma), (1, .int (nI r)), (4, .int (nI v)), (7, .int (nI m)), (8, .int (nI n))]) hx hb dR_resultant_235 hl (k := 6) rfl (ii_p _) (by decide) rfl (fun ls hl => ?_)
                refine lv_goto hx hb dR_resultant_238 (tgt := 178) rfl ?_
                exact ihLP _ (by omega) 0 (u + 1) _ _ _ rfl (by omega) (by omega) ⟨fun q => by omega, fun ⟨y, y1, y3, y2⟩ => by
                    by_cases h9 : y = u
                    · subst h9; exact absurd hcv y3
                    · exact absurd (hz2.mpr ⟨y, by omega, y3, y2⟩) (by omega)⟩ hst (lv_sub hl [2, 3, 4, 5, 6, 1, 0] rfl)
              · skip
                have hcv : ¬ u = v := fun z => hc ((nI_eq (by omega) (by omega)).mpr z)
                refine lv_iload hx hb dR_resultant_196 (lv_at hl 4 rfl) ?_
                refine lv_aload_n hx hb dR_resultant_198 rfl (lv_at hl 0 rfl) ?_
                refine lv_aload_n hx hb dR_resultant_199 rfl (lv_at hl 0 rfl) ?_
                refine hp_get hx hb hG in_R hown hK hst hmF.ob rfl 6 (by decide) (hG _ fl_R_21) rfl rfl dR_resultant_200 ?_
                refine lv_iload hx hb dR_resultant_203 (lv_at hl 6 rfl) ?_
                refine ct_callV (av2 := [.ref (E 4), .int (nI u)]) (rest := [.int (nI n)]) (b := ma) X hst (c_R_degreeOf l D Y lo hmF (j := 4) (by omega) (by omega) e4 (p31 hp3 hPp ha) (v := u) hu) hmF.ob rfl wc_R_degreeOf ml_R_102 wi_R_degreeOf wl_R_degreeOf wn_R md_R_degreeOf (by decide) hl.1 rfl (Nat.le_of_ble_eq_true rfl) ⟨by omega, by omega⟩ (fun _ _ h => h.elim) dR_resultant_205 (fun r M' H locs hp hst => ?_)
                obtain ⟨rfl, rfl⟩ := hp
                refine t_imul hx hb dR_resultant_208 (v := nI (n * (dgl u (tp (P a)) 0))) (pk_mul _ _) ?_
                refine lv_iload hx hb dR_resultant_209 (lv_at hl 3 rfl) ?_
                refine lv_aload_n hx hb dR_resultant_211 rfl (lv_at hl 0 rfl) ?_
                refine lv_aload_n hx hb dR_resultant_212 rfl (lv_at hl 0 rfl) ?_
                refine hp_get hx hb hG in_R hown hK hst hmF.ob rfl 7 (by decide) (hG _ fl_R_24) rfl rfl dR_resultant_213 ?_
                refine lv_iload hx hb dR_resultant_216 (lv_at hl 6 rfl) ?_
                refine ct_callV (av2 := [.ref (E 5), .int (nI u)]) (rest := [.int (nI m), .int (nI (n * (dgl u (tp (P a)) 0)))]) (b := ma) X hst (c_R_degreeOf l D Y lo hmF (j := 5) (by omega) (by omega) e5 (p31 hp3 hPp hb9) (v := u) hu) hmF.ob rfl wc_R_degreeOf ml_R_102 wi_R_degreeOf wl_R_degreeOf wn_R md_R_degreeOf (by decide) hl.1 rfl (Nat.le_of_ble_eq_true rfl) ⟨by omega, by omega⟩ (fun _ _ h => h.elim) dR_resultant_218 (fun r M' H locs hp hst => ?_)
                obtain ⟨rfl, rfl⟩ := hp
                refine t_imul hx hb dR_resultant_221 (v := nI (m * (dgl u (tp (P b)) 0))) (pk_mul _ _) ?_
                refine t_iadd hx hb dR_resultant_222 (v := nI ((n * (dgl u (tp (P a)) 0)) + (m * (dgl u (tp (P b)) 0)))) (nI_add _ _) ?_
                refine lv_bipush (v := nI 12) hx hb dR_resultant_223 (by decide +kernel) ?_
                refine lv_icmp_le hx hb dR_resultant_225 (tgt := 232) rfl (fun hc => ?_) (fun hc => ?_)
                · skip
                  have hcd : ((n * (dgl u (tp (P a)) 0)) + (m * (dgl u (tp (P b)) 0))) ≤ 12 := (nI_leI (by omega) (by omega)).mp hc
                  refine lv_iconst (v := nI 0) hx hb dR_resultant_232 (by decide +kernel) ?_
                  refine lv_istore (lv' := [(9, .int (nI 0)), (0, .ref ma), (1, .int (nI r)), (4, .int (nI v)), (7, .int (nI m)), (8, .int (nI n)), (10, .int (nI u))]) hx hb dR_resultant_233 hl (by decide) rfl (fun ls hl => ?_)
                  refine lv_iinc (lv' := [(10, .int (nI (u + 1))), (9, .int (nI 0)), (0, .ref ma), (1, .int (nI r)), (4, .int (nI v)), (7, .int (nI m)), (8, .int (nI n))]) hx hb dR_resultant_235 hl (k := 6) rfl (ii_p _) (by decide) rfl (fun ls hl => ?_)
                  refine lv_goto hx hb dR_resultant_238 (tgt := 178) rfl ?_
                  exact ihLP _ (by omega) 0 (u + 1) _ _ _ rfl (by omega) (by omega) ⟨fun q => by omega, fun ⟨y, y1, y3, y2⟩ => by
                      by_cases h9 : y = u
                      · subst h9; exact absurd hcd y2
                      · exact absurd (hz2.mpr ⟨y, by omega, y3, y2⟩) (by omega)⟩ hst (lv_sub hl [2, 3, 4, 5, 6, 1, 0] rfl)
                · skip
                  have hcd : ¬ ((n * (dgl u (tp (P a)) 0)) + (m * (dgl u (tp (P b)) 0))) ≤ 12 := fun z => hc ((nI_leI (by omega) (by omega)).mpr z)
                  refine lv_iconst (v := nI 1) hx hb dR_resultant_228 (by decide +kernel) ?_
                  refine lv_goto hx hb dR_resultant_229 (tgt := 233) rfl ?_
                  refine lv_istore (lv' := [(9, .int (nI 1)), (0, .ref ma), (1, .int (nI r)), (4, .int (nI v)), (7, .int (nI m)), (8, .int (nI n)), (10, .int (nI u))]) hx hb dR_resultant_233 hl (by decide) rfl (fun ls hl => ?_)
                  refine lv_iinc (lv' := [(10, .int (nI (u + 1))), (9, .int (nI 1)), (0, .ref ma), (1, .int (nI r)), (4, .int (nI v)), (7, .int (nI m)), (8, .int (nI n))]) hx hb dR_resultant_235 hl (k := 6) rfl (ii_p _) (by decide) rfl (fun ls hl => ?_)
                  refine lv_goto hx hb dR_resultant_238 (tgt := 178) rfl ?_
                  exact ihLP _ (by omega) 1 (u + 1) _ _ _ rfl (by omega) (by omega) ⟨fun _ => ⟨u, by omega, hcv, hcd⟩, fun _ => rfl⟩ hst (lv_sub hl [2, 3, 4, 5, 6, 1, 0] rfl)
        exact LP _ 0 0 _ _ _ rfl (by omega) (by omega) ⟨fun q => by omega, fun ⟨y, y1, _⟩ => by omega⟩ hst (lv_sub hl [6, 7, 10, 4, 3, 1, 0] rfl)

set_option maxHeartbeats 4000000 in
set_option maxRecDepth 100000 in
theorem n_R_resultant (l : Launch) (D : va_G) (Y : Nat → ClassId) (lo : Nat) {M : Hm} {ma p rf th : Nat} {E : Nat → Nat} {c : Nat → Nat → Nat} (hm : mo Y M ma E p rf th c) {P : Nat → Pf} (hP : rr c P) (hPp : ∀ r, r < 12 → ∀ m, P r m < p) {r a b v m n : Nat} (hr : r < 12) (ha : a < 12) (hb9 : b < 12) (hv : v < 3) (hm9 : m = dgf (P a) v) (hn9 : n = dgf (P b) v) (hza : tp (P a) ≠ []) (hzb : tp (P b) ≠ []) (hmn : m + n ≤ 8) (hdg : ¬ ∀ u, u < 3 → u ≠ v → n * dgf (P a) u + m * dgf (P b) u ≤ 12) : ct l D Y lo y_R_resultant b_R_resultant 15 (some .boolean) 3 [.ref ma, .int (nI r), .int (nI a), .int (nI b), .int (nI v)] M (fun r9 M' => ∃ c' : Nat → Nat → Nat, r9 = some (.int (nI 0)) ∧ mo Y M' ma E p (rf + 1) 0 c' ∧ rr c' (P) ∧ hp_off (fun i => i = 1000) M M') nx 0 0 := by
  refine ct_of (by decide) (Nat.le_of_ble_eq_true rfl) ?_
  intro pg eg sg mg bw mt cg ls X hst hl
  have X1 := X
  obtain ⟨hx, hb, hml, hrt, hlocks, hown, hnm, hts, hkz, hex⟩ := X1
  have hG : ∀ w ∈ GW, w.before _ sg = true := fun w h => hts w (List.mem_cons_of_mem _ h)
  have hK := hkz.1
  have hl : lv_has ls 15 [(0, .ref ma), (1, .int (nI r)), (2, .int (nI a)), (3, .int (nI b)), (4, .int (nI v))] := hl
  obtain ⟨hp2, hp3⟩ := hm.p2
  refine lv_iload_n hx hb dR_resultant_0 rfl (lv_at hl 1 rfl) ?_
  refine ct_callS (av2 := [.int (nI r)]) (rest := []) X hst (g_R_isRegister l D Y lo hr) wc_R_isRegister ml_R_85 ws_R_isRegister wn_R md_R_isRegister (by decide) hl.1 rfl (Nat.le_of_ble_eq_true rfl) ⟨by omega, by omega⟩ (fun _ _ h => h.elim) dR_resultant_1 (fun r M' H locs hp hst => ?_)
  obtain ⟨rfl, rfl⟩ := hp
  refine lv_if_eq hx hb dR_resultant_4 (tgt := 25) rfl (fun hc => absurd hc (by decide)) (fun hc => ?_)
  refine lv_iload_n hx hb dR_resultant_7 rfl (lv_at hl 2 rfl) ?_
  refine ct_callS (av2 := [.int (nI a)]) (rest := []) X hst (g_R_isRegister l D Y lo ha) wc_R_isRegister ml_R_85 ws_R_isRegister wn_R md_R_isRegister (by decide) hl.1 rfl (Nat.le_of_ble_eq_true rfl) ⟨by omega, by omega⟩ (fun _ _ h => h.elim) dR_resultant_8 (fun r M' H locs hp hst => ?_)
  obtain ⟨rfl, rfl⟩ := hp
  refine lv_if_eq hx hb dR_resultant_11 (tgt := 25) rfl (fun hc => absurd hc (by decide)) (fun hc => ?_)
  refine lv_iload_n hx hb dR_resultant_14 rfl (lv_at hl 3 rfl) ?_
  refine ct_callS (av2 := [.int (nI b)]) (rest := []) X hst (g_R_isRegister l D Y lo hb9) wc_R_isRegister ml_R_85 ws_R_isRegister wn_R md_R_isRegister (by decide) hl.1 rfl (Nat.le_of_ble_eq_true rfl) ⟨by omega, by omega⟩ (fun _ _ h => h.elim) dR_resultant_15 (fun r M' H locs hp hst => ?_)
  obtain ⟨rfl, rfl⟩ := hp
  refine lv_if_eq hx hb dR_resultant_18 (tgt := 25) rfl (fun hc => absurd hc (by decide)) (fun hc => ?_)
  refine lv_iconst (v := nI 1) hx hb dR_resultant_21 (by decide +kernel) ?_
  refine lv_goto hx hb dR_resultant_22 (tgt := 26) rfl ?_
  refine lv_istore (lv' := [(5, .int (nI 1)), (0, .ref ma), (1, .int (nI r)), (2, .int (nI a)), (3, .int (nI b)), (4, .int (nI v))]) hx hb dR_resultant_26 hl (by decide) rfl (fun ls hl => ?_)
  refine lv_iload hx hb dR_resultant_28 (lv_at hl 0 rfl) ?_
  refine lv_if_eq hx hb dR_resultant_30 (tgt := 45) rfl (fun hc => absurd hc (by decide)) (fun hc => ?_)
  refine lv_iload hx hb dR_resultant_33 (lv_at hl 5 rfl) ?_
  refine ct_callS (av2 := [.int (nI v)]) (rest := []) X hst (g_R_isVariable l D Y lo hv) wc_R_isVariable ml_R_96 ws_R_isVariable wn_R md_R_isVariable (by decide) hl.1 rfl (Nat.le_of_ble_eq_true rfl) ⟨by omega, by omega⟩ (fun _ _ h => h.elim) dR_resultant_35 (fun r M' H locs hp hst => ?_)
  obtain ⟨rfl, rfl⟩ := hp
  refine lv_if_eq hx hb dR_resultant_38 (tgt := 45) rfl (fun hc => absurd hc (by decide)) (fun hc => ?_)
  refine lv_iconst (v := nI 1) hx hb dR_resultant_41 (by decide +kernel) ?_
  refine lv_goto hx hb dR_resultant_42 (tgt := 46) rfl ?_
  refine lv_istore (lv' := [(6, .int (nI 1)), (5, .int (nI 1)), (0, .ref ma), (1, .int (nI r)), (2, .int (nI a)), (3, .int (nI b)), (4, .int (nI v))]) hx hb dR_resultant_46 hl (by decide) rfl (fun ls hl => ?_)
  refine lv_iconst (v := nI 0) hx hb dR_resultant_48 (by decide +kernel) ?_
  refine lv_istore (lv' := [(7, .int (nI 0)), (6, .int (nI 1)), (5, .int (nI 1)), (0, .ref ma), (1, .int (nI r)), (2, .int (nI a)), (3, .int (nI b)), (4, .int (nI v))]) hx hb dR_resultant_49 hl (by decide) rfl (fun ls hl => ?_)
  refine lv_iconst (v := nI 0) hx hb dR_resultant_51 (by decide +kernel) ?_
  refine lv_istore (lv' := [(8, .int (nI 0)), (7, .int (nI 0)), (6, .int (nI 1)), (5, .int (nI 1)), (0, .ref ma), (1, .int (nI r)), (2, .int (nI a)), (3, .int (nI b)), (4, .int (nI v))]) hx hb dR_resultant_52 hl (by decide) rfl (fun ls hl => ?_)
  refine lv_iload hx hb dR_resultant_54 (lv_at hl 2 rfl) ?_
  refine lv_if_eq hx hb dR_resultant_56 (tgt := 138) rfl (fun hc => absurd hc (by decide)) (fun hc => ?_)
  refine lv_aload_n hx hb dR_resultant_59 rfl (lv_at hl 4 rfl) ?_
  refine lv_iload_n hx hb dR_resultant_60 rfl (lv_at hl 6 rfl) ?_
  refine lv_aload_n hx hb dR_resultant_61 rfl (lv_at hl 4 rfl) ?_
  refine hp_get hx hb hG in_R hown hK hst hm.ob rfl 6 (by decide) (hG _ fl_R_21) rfl rfl dR_resultant_62 ?_
  refine ct_callV (av2 := [.int (nI a), .ref (E 4)]) (rest := []) (b := ma) X hst (c_R_load l D Y lo hm ha (j := 4) (by omega) (by omega)) hm.ob rfl wc_R_load ml_R_99 wi_R_load wl_R_load wn_R md_R_load (by decide) hl.1 rfl (Nat.le_of_ble_eq_true rfl) ⟨by omega, by omega⟩ (fun _ _ h => h.elim) dR_resultant_65 (fun r ML4 H locs hp hst => ?_)
  obtain ⟨cL4, rfl, hmL4, sL4, vL4, hoL4⟩ := hp
  refine lv_aload_n hx hb dR_resultant_68 rfl (lv_at hl 4 rfl) ?_
  refine lv_iload_n hx hb dR_resultant_69 rfl (lv_at hl 7 rfl) ?_
  refine lv_aload_n hx hb dR_resultant_70 rfl (lv_at hl 4 rfl) ?_
  refine hp_get hx hb hG in_R hown hK hst hmL4.ob rfl 7 (by decide) (hG _ fl_R_24) rfl rfl dR_resultant_71 ?_
  refine ct_callV (av2 := [.int (nI b), .ref (E 5)]) (rest := []) (b := ma) X hst (c_R_load l D Y lo hmL4 hb9 (j := 5) (by omega) (by omega)) hmL4.ob rfl wc_R_load ml_R_99 wi_R_load wl_R_load wn_R md_R_load (by decide) hl.1 rfl (Nat.le_of_ble_eq_true rfl) ⟨by omega, by omega⟩ (fun _ _ h => h.elim) dR_resultant_74 (fun r ML5 H locs hp hst => ?_)
  obtain ⟨cL5, rfl, hmL5, sL5, vL5, hoL5⟩ := hp
  have e3 : cL5 3 = c 3 := (sL5 3 (by omega)).trans (sL4 3 (by omega))
  have e4 : rp (cL5 4) (P a) := fun k hk => by rw [sL5 4 (by omega), vL4 k hk]; exact hP a ha k hk
  have e5 : rp (cL5 5) (P b) := fun k hk => by rw [vL5 k hk, sL4 3 (by omega)]; exact hP b hb9 k hk
  have dm : m < 64 := by rw [hm9]; exact dgl_lt (by omega)
  have dn : n < 64 := by rw [hn9]; exact dgl_lt (by omega)
  have hPL : rr cL5 P := fun r hr k hk => by rw [e3]; exact hP r hr k hk
  refine lv_aload_n hx hb dR_resultant_77 rfl (lv_at hl 4 rfl) ?_
  refine lv_aload_n hx hb dR_resultant_78 rfl (lv_at hl 4 rfl) ?_
  refine hp_get hx hb hG in_R hown hK hst hmL5.ob rfl 6 (by decide) (hG _ fl_R_21) rfl rfl dR_resultant_79 ?_
  refine lv_iload hx hb dR_resultant_82 (lv_at hl 8 rfl) ?_
  refine ct_callV (av2 := [.ref (E 4), .int (nI v)]) (rest := []) (b := ma) X hst (c_R_degreeOf l D Y lo hmL5 (j := 4) (by omega) (by omega) e4 (p31 hp3 hPp ha) (v := v) hv) hmL5.ob rfl wc_R_degreeOf ml_R_102 wi_R_degreeOf wl_R_degreeOf wn_R md_R_degreeOf (by decide) hl.1 rfl (Nat.le_of_ble_eq_true rfl) ⟨by omega, by omega⟩ (fun _ _ h => h.elim) dR_resultant_84 (fun r M' H locs hp hst => ?_)
  obtain ⟨rfl, rfl⟩ := hp
  refine tp_n (e2 := m) hm9.symm ?_
  refine lv_istore (lv' := [(7, .int (nI m)), (8, .int (nI 0)), (6, .int (nI 1)), (5, .int (nI 1)), (0, .ref ma), (1, .int (nI r)), (2, .int (nI a)), (3, .int (nI b)), (4, .int (nI v))]) hx hb dR_resultant_87 hl (by decide) rfl (fun ls hl => ?_)
  refine lv_aload_n hx hb dR_resultant_89 rfl (lv_at hl 4 rfl) ?_
  refine lv_aload_n hx hb dR_resultant_90 rfl (lv_at hl 4 rfl) ?_
  refine hp_get hx hb hG in_R hown hK hst hmL5.ob rfl 7 (by decide) (hG _ fl_R_24) rfl rfl dR_resultant_91 ?_
  refine lv_iload hx hb dR_resultant_94 (lv_at hl 8 rfl) ?_
  refine ct_callV (av2 := [.ref (E 5), .int (nI v)]) (rest := []) (b := ma) X hst (c_R_degreeOf l D Y lo hmL5 (j := 5) (by omega) (by omega) e5 (p31 hp3 hPp hb9) (v := v) hv) hmL5.ob rfl wc_R_degreeOf ml_R_102 wi_R_degreeOf wl_R_degreeOf wn_R md_R_degreeOf (by decide) hl.1 rfl (Nat.le_of_ble_eq_true rfl) ⟨by omega, by omega⟩ (fun _ _ h => h.elim) dR_resultant_96 (fun r M' H locs hp hst => ?_)
  obtain ⟨rfl, rfl⟩ := hp
  refine tp_n (e2 := n) hn9.symm ?_
  refine lv_istore (lv' := [(8, .int (nI n)), (7, .int (nI m)), (6, .int (nI 1)), (5, .int (nI 1)), (0, .ref ma), (1, .int (nI r)), (2, .int (nI a)), (3, .int (nI b)), (4, .int (nI v))]) hx hb dR_resultant_99 hl (by decide) rfl (fun ls hl => ?_)
  refine lv_aload_n hx hb dR_resultant_101 rfl (lv_at hl 4 rfl) ?_
  refine hp_get hx hb hG in_R hown hK hst hmL5.ob rfl 6 (by decide) (hG _ fl_R_21) rfl rfl dR_resultant_102 ?_
  refine ct_callS (av2 := [.ref (E 4)]) (rest := []) X hst (c_R_isZero l D Y lo hmL5 (j := 4) (by omega) (by omega) e4 (p31 hp3 hPp ha)) wc_R_isZero ml_R_113 ws_R_isZero wn_R md_R_isZero (by decide) hl.1 rfl (Nat.le_of_ble_eq_true rfl) ⟨by omega, by omega⟩ (fun _ _ h => h.elim) dR_resultant_105 (fun r M' H locs hp hst => ?_)
  obtain ⟨bz4, rfl, hz41, hz42, rfl⟩ := hp
  refine lv_if_ne hx hb dR_resultant_108 (tgt := 135) rfl (fun hc => ?_) (fun hc => ?_)
  · skip
    rw [← nI_0] at hc
    have hz4 : ¬ bz4 = 0 := fun z => hc ((nI_eq (by omega) (by omega)).mpr z)
    exact absurd (hz42.mp (by omega)) hza
  · skip
    rw [← nI_0] at hc
    have hz4 : bz4 = 0 := (nI_eq (by omega) (by omega)).mp hc
    refine lv_aload_n hx hb dR_resultant_111 rfl (lv_at hl 4 rfl) ?_
    refine hp_get hx hb hG in_R hown hK hst hmL5.ob rfl 7 (by decide) (hG _ fl_R_24) rfl rfl dR_resultant_112 ?_
    refine ct_callS (av2 := [.ref (E 5)]) (rest := []) X hst (c_R_isZero l D Y lo hmL5 (j := 5) (by omega) (by omega) e5 (p31 hp3 hPp hb9)) wc_R_isZero ml_R_113 ws_R_isZero wn_R md_R_isZero (by decide) hl.1 rfl (Nat.le_of_ble_eq_true rfl) ⟨by omega, by omega⟩ (fun _ _ h => h.elim) dR_resultant_115 (fun r M' H locs hp hst => ?_)
    obtain ⟨bz5, rfl, hz51, hz52, rfl⟩ := hp
    refine lv_if_ne hx hb dR_resultant_118 (tgt := 135) rfl (fun hc => ?_) (fun hc => ?_)
    · skip
      rw [← nI_0] at hc
      have hz5 : ¬ bz5 = 0 := fun z => hc ((nI_eq (by omega) (by omega)).mpr z)
      exact absurd (hz52.mp (by omega)) hzb
    · skip
      rw [← nI_0] at hc
      have hz5 : bz5 = 0 := (nI_eq (by omega) (by omega)).mp hc
      refine lv_iload hx hb dR_resultant_121 (lv_at hl 1 rfl) ?_
      refine lv_iload hx hb dR_resultant_123 (lv_at hl 0 rfl) ?_
      refine t_iadd hx hb dR_resultant_125 (v := nI (m + n)) (nI_add _ _) ?_
      refine lv_bipush (v := nI 8) hx hb dR_resultant_126 (by decide +kernel) ?_
      refine lv_icmp_gt hx hb dR_resultant_128 (tgt := 135) rfl (fun hc => ?_) (fun hc => ?_)
      · skip
        have hz8 : 8 < (m + n) := (nI_ltI (by omega) (by omega)).mp hc
        omega
      · skip
        have hz8 : ¬ 8 < (m + n) := fun z => hc ((nI_ltI (by omega) (by omega)).mpr z)
        refine lv_iconst (v := nI 1) hx hb dR_resultant_131 (by decide +kernel) ?_
        refine lv_goto hx hb dR_resultant_132 (tgt := 136) rfl ?_
        refine lv_istore (lv' := [(6, .int (nI 1)), (8, .int (nI n)), (7, .int (nI m)), (5, .int (nI 1)), (0, .ref ma), (1, .int (nI r)), (2, .int (nI a)), (3, .int (nI b)), (4, .int (nI v))]) hx hb dR_resultant_136 hl (by decide) rfl (fun ls hl => ?_)
        refine lv_aload_n hx hb dR_resultant_138 rfl (lv_at hl 4 rfl) ?_
        refine lv_iload hx hb dR_resultant_139 (lv_at hl 3 rfl) ?_
        refine lv_if_ne hx hb dR_resultant_141 (tgt := 148) rfl (fun hc => ?_) (fun hc => absurd hc (by decide))
        refine lv_iconst (v := nI 0) hx hb dR_resultant_148 (by decide +kernel) ?_
        refine lv_iload hx hb dR_resultant_149 (lv_at hl 3 rfl) ?_
        refine lv_if_eq hx hb dR_resultant_151 (tgt := 163) rfl (fun hc => absurd hc (by decide)) (fun hc => ?_)
        refine lv_iload hx hb dR_resultant_154 (lv_at hl 0 rfl) ?_
        refine lv_if_ne hx hb dR_resultant_156 (tgt := 163) rfl (fun hc => ?_) (fun hc => absurd hc (by decide))
        refine lv_iconst (v := nI 0) hx hb dR_resultant_163 (by decide +kernel) ?_
        refine ct_callV (av2 := [.int (nI 0), .int (nI 0)]) (rest := []) (b := ma) X hst (c_R_fails l D Y lo hmL5 (a := 0) (b := 0) (by omega) (by omega)) hmL5.ob rfl wc_R_fails ml_R_88 wi_R_fails wl_R_fails wn_R md_R_fails (by decide) hl.1 rfl (Nat.le_of_ble_eq_true rfl) ⟨by omega, by omega⟩ (fun _ _ h => h.elim) dR_resultant_164 (fun r MF H locs hp hst => ?_)
        obtain ⟨rfl, hmF, hoF⟩ := hp
        have hmF : mo Y MF ma E p rf 0 cL5 := hmF
        refine lv_if_eq hx hb dR_resultant_167 (tgt := 172) rfl (fun hc => ?_) (fun hc => absurd hc (by decide))
        have hoF2 := (hoL4.tr hoL5).tr hoF
        refine lv_iconst (v := nI 0) hx hb dR_resultant_172 (by decide +kernel) ?_
        refine lv_istore (lv' := [(9, .int (nI 0)), (6, .int (nI 1)), (8, .int (nI n)), (7, .int (nI m)), (5, .int (nI 1)), (0, .ref ma), (1, .int (nI r)), (2, .int (nI a)), (3, .int (nI b)), (4, .int (nI v))]) hx hb dR_resultant_173 hl (by decide) rfl (fun ls hl => ?_)
        refine lv_iconst (v := nI 0) hx hb dR_resultant_175 (by decide +kernel) ?_
        refine lv_istore (lv' := [(10, .int (nI 0)), (9, .int (nI 0)), (6, .int (nI 1)), (8, .int (nI n)), (7, .int (nI m)), (5, .int (nI 1)), (0, .ref ma), (1, .int (nI r)), (2, .int (nI a)), (3, .int (nI b)), (4, .int (nI v))]) hx hb dR_resultant_176 hl (by decide) rfl (fun ls hl => ?_)
        have LP : ∀ (kk : Nat) (z u : Nat) (H : Heap) (locs : List Loc) (ls : Array Slot), kk = 3 - u → (u ≤ 3) → (z ≤ 1) → (z = 1 ↔ ∃ y, y < u ∧ y ≠ v ∧ ¬ n * dgl y (tp (P a)) 0 + m * dgl y (tp (P b)) 0 ≤ 12) → hp_st D vC lo MF sg.heap H locs → lv_has ls 15 [(0, .ref ma), (1, .int (nI r)), (4, .int (nI v)), (7, .int (nI m)), (8, .int (nI n)), (9, .int (nI z)), (10, .int (nI u))] → cW pg l eg sg mg [.ref ma, .int (nI r), .int (nI a), .int (nI b), .int (nI v)] bw mt cg y_R_resultant b_R_resultant 15 (some .boolean) 3 D lo (fun r9 M' => ∃ c' : Nat → Nat → Nat, r9 = some (.int (nI 0)) ∧ mo Y M' ma E p (rf + 1) 0 c' ∧ rr c' (P) ∧ hp_off (fun i => i = 1000) M M') nx 0 0 H locs 0 0 (F0 mg 178 ls []) := by
          intro kk
          induction kk using Nat.strongRecOn with
          | _ kk ihLP =>
          intro z u H locs ls hkk hu9 hz1 hz2 hst hl
          refine lv_iload hx hb dR_resultant_178 (lv_at hl 6 rfl) ?_
          refine lv_iconst (v := nI 3) hx hb dR_resultant_180 (by decide +kernel) ?_
          refine lv_icmp_ge hx hb dR_resultant_181 (tgt := 241) rfl (fun hc => ?_) (fun hc => ?_)
          · skip
            have hc5 : 3 ≤ u := (nI_leI (by omega) (by omega)).mp hc
            refine lv_aload_n hx hb dR_resultant_241 rfl (lv_at hl 0 rfl) ?_
            refine lv_iload hx hb dR_resultant_242 (lv_at hl 5 rfl) ?_
            refine ct_callV (av2 := [.int (nI z)]) (rest := []) (b := ma) X hst (c_R_refuses l D Y lo hmF (a := z) hz1) hmF.ob rfl wc_R_refuses ml_R_106 wi_R_refuses wl_R_refuses wn_R md_R_refuses (by decide) hl.1 rfl (Nat.le_of_ble_eq_true rfl) ⟨by omega, by omega⟩ (fun _ _ h => h.elim) dR_resultant_244 (fun r MR H locs hp hst => ?_)
            obtain ⟨rfl, hmR, hoR⟩ := hp
            have hoo := hoF2.tr hoR
            have hz0 : z = 1 := hz2.mpr (by
              apply Classical.byContradiction
              intro q
              exact hdg (fun u hu huv => Classical.byContradiction (fun y => q ⟨u, by omega, huv, y⟩)))
            subst hz0
            refine lv_if_eq hx hb dR_resultant_247 (tgt := 252) rfl (fun hc => absurd hc (by decide)) (fun hc => ?_)
            refine lv_iconst (v := nI 0) hx hb dR_resultant_250 (by decide +kernel) ?_
            exact ct_zret X hst (by omega) ⟨cL5, rfl, hmR, hPL, hoo⟩ (by omega) (by omega) dR_resultant_251
          · skip
            have hc5 : ¬ 3 ≤ u := fun z => hc ((nI_leI (by omega) (by omega)).mpr z)
            have hu : u < 3 := by omega
            have d1 := dgl_lt (v := u) (g := 0) (L := tp (P a)) (by omega)
            have d2 := dgl_lt (v := u) (g := 0) (L := tp (P b)) (by omega)
            have d3 : n * dgl u (tp (P a)) 0 ≤ 64 * 64 := Nat.mul_le_mul (by omega) (by omega)
            have d4 : m * dgl u (tp (P b)) 0 ≤ 64 * 64 := Nat.mul_le_mul (by omega) (by omega)
            refine lv_iload hx hb dR_resultant_184 (lv_at hl 5 rfl) ?_
            refine lv_if_ne hx hb dR_resultant_186 (tgt := 228) rfl (fun hc => ?_) (fun hc => ?_)
            · skip
              rw [← nI_0] at hc
              have hcz : ¬ z = 0 := fun z => hc ((nI_eq (by omega) (by omega)).mpr z)
              refine lv_iconst (v := nI 1) hx hb dR_resultant_228 (by decide +kernel) ?_
              refine lv_goto hx hb dR_resultant_229 (tgt := 233) rfl ?_
              refine lv_istore (lv' := [(9, .int (nI 1)), (0, .ref ma), (1, .int (nI r)), (4, .int (nI v)), (7, .int (nI m)), (8, .int (nI n)), (10, .int (nI u))]) hx hb dR_resultant_233 hl (by decide) rfl (fun ls hl => ?_)
              refine lv_iinc (lv' := [(10, .int (nI (u + 1))), (9, .int (nI 1)), (0, .ref ma), (1, .int (nI r)), (4, .int (nI v)), (7, .int (nI m)), (8, .int (nI n))]) hx hb dR_resultant_235 hl (k := 6) rfl (ii_p _) (by decide) rfl (fun ls hl => ?_)
              refine lv_goto hx hb dR_resultant_238 (tgt := 178) rfl ?_
              exact ihLP _ (by omega) 1 (u + 1) _ _ _ rfl (by omega) (by omega) ⟨fun _ => by obtain ⟨y, y1, y2⟩ := hz2.mp (by omega); exact ⟨y, by omega, y2⟩, fun _ => rfl⟩ hst (lv_sub hl [2, 3, 4, 5, 6, 1, 0] rfl)
            · skip
              rw [← nI_0] at hc
              have hcz : z = 0 := (nI_eq (by omega) (by omega)).mp hc
              refine lv_iload hx hb dR_resultant_189 (lv_at hl 6 rfl) ?_
              refine lv_iload hx hb dR_resultant_191 (lv_at hl 2 rfl) ?_
              refine lv_icmp_eq hx hb dR_resultant_193 (tgt := 232) rfl (fun hc => ?_) (fun hc => ?_)
              · skip
                have hcv : u = v := (nI_eq (by omega) (by omega)).mp hc
                refine lv_iconst (v := nI 0) hx hb dR_resultant_232 (by decide +kernel) ?_
                refine lv_istore (lv' := [(9, .int (nI 0)), (0, .ref ma), (1, .int (nI r)), (4, .int (nI v)), (7, .int (nI m)), (8, .int (nI n)), (10, .int (nI u))]) hx hb dR_resultant_233 hl (by decide) rfl (fun ls hl => ?_)
                refine lv_iinc (lv' := [(10, .int (nI (u + 1))), (9, .int (nI 0)), (0, .ref ma), (1, .int (nI r)), (4, .int (nI v)), (7, .int (nI m)), (8, .int (nI n))]) hx hb dR_resultant_235 hl (k := 6) rfl (ii_p _) (by decide) rfl (fun ls hl => ?_)
                refine lv_goto hx hb dR_resultant_238 (tgt := 178) rfl ?_
                exact ihLP _ (by omega) 0 (u + 1) _ _ _ rfl (by omega) (by omega) ⟨fun q => by omega, fun ⟨y, y1, y3, y2⟩ => by
                    by_cases h9 : y = u
                    · subst h9; exact absurd hcv y3
                    · exact absurd (hz2.mpr ⟨y, by omega, y3, y2⟩) (by omega)⟩ hst (lv_sub hl [2, 3, 4, 5, 6, 1, 0] rfl)
              · skip
                have hcv : ¬ u = v := fun z => hc ((nI_eq (by omega) (by omega)).mpr z)
                refine lv_iload hx hb dR_resultant_196 (lv_at hl 4 rfl) ?_
                refine lv_aload_n hx hb dR_resultant_198 rfl (lv_at hl 0 rfl) ?_
                refine lv_aload_n hx hb dR_resultant_199 rfl (lv_at hl 0 rfl) ?_
                refine hp_get hx hb hG in_R hown hK hst hmF.ob rfl 6 (by decide) (hG _ fl_R_21) rfl rfl dR_resultant_200 ?_
                refine lv_iload hx hb dR_resultant_203 (lv_at hl 6 rfl) ?_
                refine ct_callV (av2 := [.ref (E 4), .int (nI u)]) (rest := [.int (nI n)]) (b := ma) X hst (c_R_degreeOf l D Y lo hmF (j := 4) (by omega) (by omega) e4 (p31 hp3 hPp ha) (v := u) hu) hmF.ob rfl wc_R_degreeOf ml_R_102 wi_R_degreeOf wl_R_degreeOf wn_R md_R_degreeOf (by decide) hl.1 rfl (Nat.le_of_ble_eq_true rfl) ⟨by omega, by omega⟩ (fun _ _ h => h.elim) dR_resultant_205 (fun r M' H locs hp hst => ?_)
                obtain ⟨rfl, rfl⟩ := hp
                refine t_imul hx hb dR_resultant_208 (v := nI (n * (dgl u (tp (P a)) 0))) (pk_mul _ _) ?_
                refine lv_iload hx hb dR_resultant_209 (lv_at hl 3 rfl) ?_
                refine lv_aload_n hx hb dR_resultant_211 rfl (lv_at hl 0 rfl) ?_
                refine lv_aload_n hx hb dR_resultant_212 rfl (lv_at hl 0 rfl) ?_
                refine hp_get hx hb hG in_R hown hK hst hmF.ob rfl 7 (by decide) (hG _ fl_R_24) rfl rfl dR_resultant_213 ?_
                refine lv_iload hx hb dR_resultant_216 (lv_at hl 6 rfl) ?_
                refine ct_callV (av2 := [.ref (E 5), .int (nI u)]) (rest := [.int (nI m), .int (nI (n * (dgl u (tp (P a)) 0)))]) (b := ma) X hst (c_R_degreeOf l D Y lo hmF (j := 5) (by omega) (by omega) e5 (p31 hp3 hPp hb9) (v := u) hu) hmF.ob rfl wc_R_degreeOf ml_R_102 wi_R_degreeOf wl_R_degreeOf wn_R md_R_degreeOf (by decide) hl.1 rfl (Nat.le_of_ble_eq_true rfl) ⟨by omega, by omega⟩ (fun _ _ h => h.elim) dR_resultant_218 (fun r M' H locs hp hst => ?_)
                obtain ⟨rfl, rfl⟩ := hp
                refine t_imul hx hb dR_resultant_221 (v := nI (m * (dgl u (tp (P b)) 0))) (pk_mul _ _) ?_
                refine t_iadd hx hb dR_resultant_222 (v := nI ((n * (dgl u (tp (P a)) 0)) + (m * (dgl u (tp (P b)) 0)))) (nI_add _ _) ?_
                refine lv_bipush (v := nI 12) hx hb dR_resultant_223 (by decide +kernel) ?_
                refine lv_icmp_le hx hb dR_resultant_225 (tgt := 232) rfl (fun hc => ?_) (fun hc => ?_)
                · skip
                  have hcd : ((n * (dgl u (tp (P a)) 0)) + (m * (dgl u (tp (P b)) 0))) ≤ 12 := (nI_leI (by omega) (by omega)).mp hc
                  refine lv_iconst (v := nI 0) hx hb dR_resultant_232 (by decide +kernel) ?_
                  refine lv_istore (lv' := [(9, .int (nI 0)), (0, .ref ma), (1, .int (nI r)), (4, .int (nI v)), (7, .int (nI m)), (8, .int (nI n)), (10, .int (nI u))]) hx hb dR_resultant_233 hl (by decide) rfl (fun ls hl => ?_)
                  refine lv_iinc (lv' := [(10, .int (nI (u + 1))), (9, .int (nI 0)), (0, .ref ma), (1, .int (nI r)), (4, .int (nI v)), (7, .int (nI m)), (8, .int (nI n))]) hx hb dR_resultant_235 hl (k := 6) rfl (ii_p _) (by decide) rfl (fun ls hl => ?_)
                  refine lv_goto hx hb dR_resultant_238 (tgt := 178) rfl ?_
                  exact ihLP _ (by omega) 0 (u + 1) _ _ _ rfl (by omega) (by omega) ⟨fun q => by omega, fun ⟨y, y1, y3, y2⟩ => by
                      by_cases h9 : y = u
                      · subst h9; exact absurd hcd y2
                      · exact absurd (hz2.mpr ⟨y, by omega, y3, y2⟩) (by omega)⟩ hst (lv_sub hl [2, 3, 4, 5, 6, 1, 0] rfl)
                · skip
                  have hcd : ¬ ((n * (dgl u (tp (P a)) 0)) + (m * (dgl u (tp (P b)) 0))) ≤ 12 := fun z => hc ((nI_leI (by omega) (by omega)).mpr z)
                  refine lv_iconst (v := nI 1) hx hb dR_resultant_228 (by decide +kernel) ?_
                  refine lv_goto hx hb dR_resultant_229 (tgt := 233) rfl ?_
                  refine lv_istore (lv' := [(9, .int (nI 1)), (0, .ref ma), (1, .int (nI r)), (4, .int (nI v)), (7, .int (nI m)), (8, .int (nI n)), (10, .int (nI u))]) hx hb dR_resultant_233 hl (by decide) rfl (fun ls hl => ?_)
                  refine lv_iinc (lv' := [(10, .int (nI (u + 1))), (9, .int (nI 1)), (0, .ref ma), (1, .int (nI r)), (4, .int (nI v)), (7, .int (nI m)), (8, .int (nI n))]) hx hb dR_resultant_235 hl (k := 6) rfl (ii_p _) (by decide) rfl (fun ls hl => ?_)
                  refine lv_goto hx hb dR_resultant_238 (tgt := 178) rfl ?_
                  exact ihLP _ (by omega) 1 (u + 1) _ _ _ rfl (by omega) (by omega) ⟨fun _ => ⟨u, by omega, hcv, hcd⟩, fun _ => rfl⟩ hst (lv_sub hl [2, 3, 4, 5, 6, 1, 0] rfl)
        exact LP _ 0 0 _ _ _ rfl (by omega) (by omega) ⟨fun q => by omega, fun ⟨y, y1, _⟩ => by omega⟩ hst (lv_sub hl [6, 7, 10, 4, 3, 1, 0] rfl)

set_option maxHeartbeats 4000000 in
set_option maxRecDepth 100000 in
theorem e_R_resultant_z (l : Launch) (D : va_G) (Y : Nat → ClassId) (lo : Nat) {M : Hm} {ma p rf th : Nat} {E : Nat → Nat} {c : Nat → Nat → Nat} (hm : mo Y M ma E p rf th c) {P : Nat → Pf} (hP : rr c P) (hPp : ∀ r, r < 12 → ∀ m, P r m < p) {r a b v m n : Nat} (hr : r < 12) (ha : a < 12) (hb9 : b < 12) (hv : v < 3) (hm9 : m = dgf (P a) v) (hn9 : n = dgf (P b) v) (hno : tp (P a) = [] ∨ tp (P b) = [] ∨ ¬ m + n ≤ 8) : ct l D Y lo y_R_resultant b_R_resultant 15 (some .boolean) 3 [.ref ma, .int (nI r), .int (nI a), .int (nI b), .int (nI v)] M (fun r9 M' => ∃ c' : Nat → Nat → Nat, r9 = some (.int (nI 0)) ∧ mo Y M' ma E p rf 2 c' ∧ rr c' (P) ∧ hp_off (fun i => i = 1000) M M') nx 0 0 := by
  refine ct_of (by decide) (Nat.le_of_ble_eq_true rfl) ?_
  intro pg eg sg mg bw mt cg ls X hst hl
  have X1 := X
  obtain ⟨hx, hb, hml, hrt, hlocks, hown, hnm, hts, hkz, hex⟩ := X1
  have hG : ∀ w ∈ GW, w.before _ sg = true := fun w h => hts w (List.mem_cons_of_mem _ h)
  have hK := hkz.1
  have hl : lv_has ls 15 [(0, .ref ma), (1, .int (nI r)), (2, .int (nI a)), (3, .int (nI b)), (4, .int (nI v))] := hl
  obtain ⟨hp2, hp3⟩ := hm.p2
  refine lv_iload_n hx hb dR_resultant_0 rfl (lv_at hl 1 rfl) ?_
  refine ct_callS (av2 := [.int (nI r)]) (rest := []) X hst (g_R_isRegister l D Y lo hr) wc_R_isRegister ml_R_85 ws_R_isRegister wn_R md_R_isRegister (by decide) hl.1 rfl (Nat.le_of_ble_eq_true rfl) ⟨by omega, by omega⟩ (fun _ _ h => h.elim) dR_resultant_1 (fun r M' H locs hp hst => ?_)
  obtain ⟨rfl, rfl⟩ := hp
  refine lv_if_eq hx hb dR_resultant_4 (tgt := 25) rfl (fun hc => absurd hc (by decide)) (fun hc => ?_)
  refine lv_iload_n hx hb dR_resultant_7 rfl (lv_at hl 2 rfl) ?_
  refine ct_callS (av2 := [.int (nI a)]) (rest := []) X hst (g_R_isRegister l D Y lo ha) wc_R_isRegister ml_R_85 ws_R_isRegister wn_R md_R_isRegister (by decide) hl.1 rfl (Nat.le_of_ble_eq_true rfl) ⟨by omega, by omega⟩ (fun _ _ h => h.elim) dR_resultant_8 (fun r M' H locs hp hst => ?_)
  obtain ⟨rfl, rfl⟩ := hp
  refine lv_if_eq hx hb dR_resultant_11 (tgt := 25) rfl (fun hc => absurd hc (by decide)) (fun hc => ?_)
  refine lv_iload_n hx hb dR_resultant_14 rfl (lv_at hl 3 rfl) ?_
  refine ct_callS (av2 := [.int (nI b)]) (rest := []) X hst (g_R_isRegister l D Y lo hb9) wc_R_isRegister ml_R_85 ws_R_isRegister wn_R md_R_isRegister (by decide) hl.1 rfl (Nat.le_of_ble_eq_true rfl) ⟨by omega, by omega⟩ (fun _ _ h => h.elim) dR_resultant_15 (fun r M' H locs hp hst => ?_)
  obtain ⟨rfl, rfl⟩ := hp
  refine lv_if_eq hx hb dR_resultant_18 (tgt := 25) rfl (fun hc => absurd hc (by decide)) (fun hc => ?_)
  refine lv_iconst (v := nI 1) hx hb dR_resultant_21 (by decide +kernel) ?_
  refine lv_goto hx hb dR_resultant_22 (tgt := 26) rfl ?_
  refine lv_istore (lv' := [(5, .int (nI 1)), (0, .ref ma), (1, .int (nI r)), (2, .int (nI a)), (3, .int (nI b)), (4, .int (nI v))]) hx hb dR_resultant_26 hl (by decide) rfl (fun ls hl => ?_)
  refine lv_iload hx hb dR_resultant_28 (lv_at hl 0 rfl) ?_
  refine lv_if_eq hx hb dR_resultant_30 (tgt := 45) rfl (fun hc => absurd hc (by decide)) (fun hc => ?_)
  refine lv_iload hx hb dR_resultant_33 (lv_at hl 5 rfl) ?_
  refine ct_callS (av2 := [.int (nI v)]) (rest := []) X hst (g_R_isVariable l D Y lo hv) wc_R_isVariable ml_R_96 ws_R_isVariable wn_R md_R_isVariable (by decide) hl.1 rfl (Nat.le_of_ble_eq_true rfl) ⟨by omega, by omega⟩ (fun _ _ h => h.elim) dR_resultant_35 (fun r M' H locs hp hst => ?_)
  obtain ⟨rfl, rfl⟩ := hp
  refine lv_if_eq hx hb dR_resultant_38 (tgt := 45) rfl (fun hc => absurd hc (by decide)) (fun hc => ?_)
  refine lv_iconst (v := nI 1) hx hb dR_resultant_41 (by decide +kernel) ?_
  refine lv_goto hx hb dR_resultant_42 (tgt := 46) rfl ?_
  refine lv_istore (lv' := [(6, .int (nI 1)), (5, .int (nI 1)), (0, .ref ma), (1, .int (nI r)), (2, .int (nI a)), (3, .int (nI b)), (4, .int (nI v))]) hx hb dR_resultant_46 hl (by decide) rfl (fun ls hl => ?_)
  refine lv_iconst (v := nI 0) hx hb dR_resultant_48 (by decide +kernel) ?_
  refine lv_istore (lv' := [(7, .int (nI 0)), (6, .int (nI 1)), (5, .int (nI 1)), (0, .ref ma), (1, .int (nI r)), (2, .int (nI a)), (3, .int (nI b)), (4, .int (nI v))]) hx hb dR_resultant_49 hl (by decide) rfl (fun ls hl => ?_)
  refine lv_iconst (v := nI 0) hx hb dR_resultant_51 (by decide +kernel) ?_
  refine lv_istore (lv' := [(8, .int (nI 0)), (7, .int (nI 0)), (6, .int (nI 1)), (5, .int (nI 1)), (0, .ref ma), (1, .int (nI r)), (2, .int (nI a)), (3, .int (nI b)), (4, .int (nI v))]) hx hb dR_resultant_52 hl (by decide) rfl (fun ls hl => ?_)
  refine lv_iload hx hb dR_resultant_54 (lv_at hl 2 rfl) ?_
  refine lv_if_eq hx hb dR_resultant_56 (tgt := 138) rfl (fun hc => absurd hc (by decide)) (fun hc => ?_)
  refine lv_aload_n hx hb dR_resultant_59 rfl (lv_at hl 4 rfl) ?_
  refine lv_iload_n hx hb dR_resultant_60 rfl (lv_at hl 6 rfl) ?_
  refine lv_aload_n hx hb dR_resultant_61 rfl (lv_at hl 4 rfl) ?_
  refine hp_get hx hb hG in_R hown hK hst hm.ob rfl 6 (by decide) (hG _ fl_R_21) rfl rfl dR_resultant_62 ?_
  refine ct_callV (av2 := [.int (nI a), .ref (E 4)]) (rest := []) (b := ma) X hst (c_R_load l D Y lo hm ha (j := 4) (by omega) (by omega)) hm.ob rfl wc_R_load ml_R_99 wi_R_load wl_R_load wn_R md_R_load (by decide) hl.1 rfl (Nat.le_of_ble_eq_true rfl) ⟨by omega, by omega⟩ (fun _ _ h => h.elim) dR_resultant_65 (fun r ML4 H locs hp hst => ?_)
  obtain ⟨cL4, rfl, hmL4, sL4, vL4, hoL4⟩ := hp
  refine lv_aload_n hx hb dR_resultant_68 rfl (lv_at hl 4 rfl) ?_
  refine lv_iload_n hx hb dR_resultant_69 rfl (lv_at hl 7 rfl) ?_
  refine lv_aload_n hx hb dR_resultant_70 rfl (lv_at hl 4 rfl) ?_
  refine hp_get hx hb hG in_R hown hK hst hmL4.ob rfl 7 (by decide) (hG _ fl_R_24) rfl rfl dR_resultant_71 ?_
  refine ct_callV (av2 := [.int (nI b), .ref (E 5)]) (rest := []) (b := ma) X hst (c_R_load l D Y lo hmL4 hb9 (j := 5) (by omega) (by omega)) hmL4.ob rfl wc_R_load ml_R_99 wi_R_load wl_R_load wn_R md_R_load (by decide) hl.1 rfl (Nat.le_of_ble_eq_true rfl) ⟨by omega, by omega⟩ (fun _ _ h => h.elim) dR_resultant_74 (fun r ML5 H locs hp hst => ?_)
  obtain ⟨cL5, rfl, hmL5, sL5, vL5, hoL5⟩ := hp
  have e3 : cL5 3 = c 3 := (sL5 3 (by omega)).trans (sL4 3 (by omega))
  have e4 : rp (cL5 4) (P a) := fun k hk => by rw [sL5 4 (by omega), vL4 k hk]; exact hP a ha k hk
  have e5 : rp (cL5 5) (P b) := fun k hk => by rw [vL5 k hk, sL4 3 (by omega)]; exact hP b hb9 k hk
  have dm : m < 64 := by rw [hm9]; exact dgl_lt (by omega)
  have dn : n < 64 := by rw [hn9]; exact dgl_lt (by omega)
  have hPL : rr cL5 P := fun r hr k hk => by rw [e3]; exact hP r hr k hk
  refine lv_aload_n hx hb dR_resultant_77 rfl (lv_at hl 4 rfl) ?_
  refine lv_aload_n hx hb dR_resultant_78 rfl (lv_at hl 4 rfl) ?_
  refine hp_get hx hb hG in_R hown hK hst hmL5.ob rfl 6 (by decide) (hG _ fl_R_21) rfl rfl dR_resultant_79 ?_
  refine lv_iload hx hb dR_resultant_82 (lv_at hl 8 rfl) ?_
  refine ct_callV (av2 := [.ref (E 4), .int (nI v)]) (rest := []) (b := ma) X hst (c_R_degreeOf l D Y lo hmL5 (j := 4) (by omega) (by omega) e4 (p31 hp3 hPp ha) (v := v) hv) hmL5.ob rfl wc_R_degreeOf ml_R_102 wi_R_degreeOf wl_R_degreeOf wn_R md_R_degreeOf (by decide) hl.1 rfl (Nat.le_of_ble_eq_true rfl) ⟨by omega, by omega⟩ (fun _ _ h => h.elim) dR_resultant_84 (fun r M' H locs hp hst => ?_)
  obtain ⟨rfl, rfl⟩ := hp
  refine tp_n (e2 := m) hm9.symm ?_
  refine lv_istore (lv' := [(7, .int (nI m)), (8, .int (nI 0)), (6, .int (nI 1)), (5, .int (nI 1)), (0, .ref ma), (1, .int (nI r)), (2, .int (nI a)), (3, .int (nI b)), (4, .int (nI v))]) hx hb dR_resultant_87 hl (by decide) rfl (fun ls hl => ?_)
  refine lv_aload_n hx hb dR_resultant_89 rfl (lv_at hl 4 rfl) ?_
  refine lv_aload_n hx hb dR_resultant_90 rfl (lv_at hl 4 rfl) ?_
  refine hp_get hx hb hG in_R hown hK hst hmL5.ob rfl 7 (by decide) (hG _ fl_R_24) rfl rfl dR_resultant_91 ?_
  refine lv_iload hx hb dR_resultant_94 (lv_at hl 8 rfl) ?_
  refine ct_callV (av2 := [.ref (E 5), .int (nI v)]) (rest := []) (b := ma) X hst (c_R_degreeOf l D Y lo hmL5 (j := 5) (by omega) (by omega) e5 (p31 hp3 hPp hb9) (v := v) hv) hmL5.ob rfl wc_R_degreeOf ml_R_102 wi_R_degreeOf wl_R_degreeOf wn_R md_R_degreeOf (by decide) hl.1 rfl (Nat.le_of_ble_eq_true rfl) ⟨by omega, by omega⟩ (fun _ _ h => h.elim) dR_resultant_96 (fun r M' H locs hp hst => ?_)
  obtain ⟨rfl, rfl⟩ := hp
  refine tp_n (e2 := n) hn9.symm ?_
  refine lv_istore (lv' := [(8, .int (nI n)), (7, .int (nI m)), (6, .int (nI 1)), (5, .int (nI 1)), (0, .ref ma), (1, .int (nI r)), (2, .int (nI a)), (3, .int (nI b)), (4, .int (nI v))]) hx hb dR_resultant_99 hl (by decide) rfl (fun ls hl => ?_)
  refine lv_aload_n hx hb dR_resultant_101 rfl (lv_at hl 4 rfl) ?_
  refine hp_get hx hb hG in_R hown hK hst hmL5.ob rfl 6 (by decide) (hG _ fl_R_21) rfl rfl dR_resultant_102 ?_
  refine ct_callS (av2 := [.ref (E 4)]) (rest := []) X hst (c_R_isZero l D Y lo hmL5 (j := 4) (by omega) (by omega) e4 (p31 hp3 hPp ha)) wc_R_isZero ml_R_113 ws_R_isZero wn_R md_R_isZero (by decide) hl.1 rfl (Nat.le_of_ble_eq_true rfl) ⟨by omega, by omega⟩ (fun _ _ h => h.elim) dR_resultant_105 (fun r M' H locs hp hst => ?_)
  obtain ⟨bz4, rfl, hz41, hz42, rfl⟩ := hp
  refine lv_if_ne hx hb dR_resultant_108 (tgt := 135) rfl (fun hc => ?_) (fun hc => ?_)
  · skip
    rw [← nI_0] at hc
    have hz4 : ¬ bz4 = 0 := fun z => hc ((nI_eq (by omega) (by omega)).mpr z)
    refine lv_iconst (v := nI 0) hx hb dR_resultant_135 (by decide +kernel) ?_
    refine lv_istore (lv' := [(6, .int (nI 0)), (8, .int (nI n)), (7, .int (nI m)), (5, .int (nI 1)), (0, .ref ma), (1, .int (nI r)), (2, .int (nI a)), (3, .int (nI b)), (4, .int (nI v))]) hx hb dR_resultant_136 hl (by decide) rfl (fun ls hl => ?_)
    refine lv_aload_n hx hb dR_resultant_138 rfl (lv_at hl 4 rfl) ?_
    refine lv_iload hx hb dR_resultant_139 (lv_at hl 3 rfl) ?_
    refine lv_if_ne hx hb dR_resultant_141 (tgt := 148) rfl (fun hc => ?_) (fun hc => absurd hc (by decide))
    refine lv_iconst (v := nI 0) hx hb dR_resultant_148 (by decide +kernel) ?_
    refine lv_iload hx hb dR_resultant_149 (lv_at hl 3 rfl) ?_
    refine lv_if_eq hx hb dR_resultant_151 (tgt := 163) rfl (fun hc => absurd hc (by decide)) (fun hc => ?_)
    refine lv_iload hx hb dR_resultant_154 (lv_at hl 0 rfl) ?_
    refine lv_if_ne hx hb dR_resultant_156 (tgt := 163) rfl (fun hc => absurd hc (by decide)) (fun hc => ?_)
    refine lv_iconst (v := nI 1) hx hb dR_resultant_159 (by decide +kernel) ?_
    refine lv_goto hx hb dR_resultant_160 (tgt := 164) rfl ?_
    refine ct_callV (av2 := [.int (nI 0), .int (nI 1)]) (rest := []) (b := ma) X hst (c_R_fails l D Y lo hmL5 (a := 0) (b := 1) (by omega) (by omega)) hmL5.ob rfl wc_R_fails ml_R_88 wi_R_fails wl_R_fails wn_R md_R_fails (by decide) hl.1 rfl (Nat.le_of_ble_eq_true rfl) ⟨by omega, by omega⟩ (fun _ _ h => h.elim) dR_resultant_164 (fun r MF H locs hp hst => ?_)
    obtain ⟨rfl, hmF, hoF⟩ := hp
    have hmF : mo Y MF ma E p rf 2 cL5 := hmF
    refine lv_if_eq hx hb dR_resultant_167 (tgt := 172) rfl (fun hc => absurd hc (by decide)) (fun hc => ?_)
    refine lv_iconst (v := nI 0) hx hb dR_resultant_170 (by decide +kernel) ?_
    exact ct_zret X hst (by omega) ⟨cL5, rfl, hmF, hPL, (hoL4.tr hoL5).tr hoF⟩ (by omega) (by omega) dR_resultant_171
  · skip
    rw [← nI_0] at hc
    have hz4 : bz4 = 0 := (nI_eq (by omega) (by omega)).mp hc
    refine lv_aload_n hx hb dR_resultant_111 rfl (lv_at hl 4 rfl) ?_
    refine hp_get hx hb hG in_R hown hK hst hmL5.ob rfl 7 (by decide) (hG _ fl_R_24) rfl rfl dR_resultant_112 ?_
    refine ct_callS (av2 := [.ref (E 5)]) (rest := []) X hst (c_R_isZero l D Y lo hmL5 (j := 5) (by omega) (by omega) e5 (p31 hp3 hPp hb9)) wc_R_isZero ml_R_113 ws_R_isZero wn_R md_R_isZero (by decide) hl.1 rfl (Nat.le_of_ble_eq_true rfl) ⟨by omega, by omega⟩ (fun _ _ h => h.elim) dR_resultant_115 (fun r M' H locs hp hst => ?_)
    obtain ⟨bz5, rfl, hz51, hz52, rfl⟩ := hp
    refine lv_if_ne hx hb dR_resultant_118 (tgt := 135) rfl (fun hc => ?_) (fun hc => ?_)
    · skip
      rw [← nI_0] at hc
      have hz5 : ¬ bz5 = 0 := fun z => hc ((nI_eq (by omega) (by omega)).mpr z)
      refine lv_iconst (v := nI 0) hx hb dR_resultant_135 (by decide +kernel) ?_
      refine lv_istore (lv' := [(6, .int (nI 0)), (8, .int (nI n)), (7, .int (nI m)), (5, .int (nI 1)), (0, .ref ma), (1, .int (nI r)), (2, .int (nI a)), (3, .int (nI b)), (4, .int (nI v))]) hx hb dR_resultant_136 hl (by decide) rfl (fun ls hl => ?_)
      refine lv_aload_n hx hb dR_resultant_138 rfl (lv_at hl 4 rfl) ?_
      refine lv_iload hx hb dR_resultant_139 (lv_at hl 3 rfl) ?_
      refine lv_if_ne hx hb dR_resultant_141 (tgt := 148) rfl (fun hc => ?_) (fun hc => absurd hc (by decide))
      refine lv_iconst (v := nI 0) hx hb dR_resultant_148 (by decide +kernel) ?_
      refine lv_iload hx hb dR_resultant_149 (lv_at hl 3 rfl) ?_
      refine lv_if_eq hx hb dR_resultant_151 (tgt := 163) rfl (fun hc => absurd hc (by decide)) (fun hc => ?_)
      refine lv_iload hx hb dR_resultant_154 (lv_at hl 0 rfl) ?_
      refine lv_if_ne hx hb dR_resultant_156 (tgt := 163) rfl (fun hc => absurd hc (by decide)) (fun hc => ?_)
      refine lv_iconst (v := nI 1) hx hb dR_resultant_159 (by decide +kernel) ?_
      refine lv_goto hx hb dR_resultant_160 (tgt := 164) rfl ?_
      refine ct_callV (av2 := [.int (nI 0), .int (nI 1)]) (rest := []) (b := ma) X hst (c_R_fails l D Y lo hmL5 (a := 0) (b := 1) (by omega) (by omega)) hmL5.ob rfl wc_R_fails ml_R_88 wi_R_fails wl_R_fails wn_R md_R_fails (by decide) hl.1 rfl (Nat.le_of_ble_eq_true rfl) ⟨by omega, by omega⟩ (fun _ _ h => h.elim) dR_resultant_164 (fun r MF H locs hp hst => ?_)
      obtain ⟨rfl, hmF, hoF⟩ := hp
      have hmF : mo Y MF ma E p rf 2 cL5 := hmF
      refine lv_if_eq hx hb dR_resultant_167 (tgt := 172) rfl (fun hc => absurd hc (by decide)) (fun hc => ?_)
      refine lv_iconst (v := nI 0) hx hb dR_resultant_170 (by decide +kernel) ?_
      exact ct_zret X hst (by omega) ⟨cL5, rfl, hmF, hPL, (hoL4.tr hoL5).tr hoF⟩ (by omega) (by omega) dR_resultant_171
    · skip
      rw [← nI_0] at hc
      have hz5 : bz5 = 0 := (nI_eq (by omega) (by omega)).mp hc
      refine lv_iload hx hb dR_resultant_121 (lv_at hl 1 rfl) ?_
      refine lv_iload hx hb dR_resultant_123 (lv_at hl 0 rfl) ?_
      refine t_iadd hx hb dR_resultant_125 (v := nI (m + n)) (nI_add _ _) ?_
      refine lv_bipush (v := nI 8) hx hb dR_resultant_126 (by decide +kernel) ?_
      refine lv_icmp_gt hx hb dR_resultant_128 (tgt := 135) rfl (fun hc => ?_) (fun hc => ?_)
      · skip
        have hz8 : 8 < (m + n) := (nI_ltI (by omega) (by omega)).mp hc
        refine lv_iconst (v := nI 0) hx hb dR_resultant_135 (by decide +kernel) ?_
        refine lv_istore (lv' := [(6, .int (nI 0)), (8, .int (nI n)), (7, .int (nI m)), (5, .int (nI 1)), (0, .ref ma), (1, .int (nI r)), (2, .int (nI a)), (3, .int (nI b)), (4, .int (nI v))]) hx hb dR_resultant_136 hl (by decide) rfl (fun ls hl => ?_)
        refine lv_aload_n hx hb dR_resultant_138 rfl (lv_at hl 4 rfl) ?_
        refine lv_iload hx hb dR_resultant_139 (lv_at hl 3 rfl) ?_
        refine lv_if_ne hx hb dR_resultant_141 (tgt := 148) rfl (fun hc => ?_) (fun hc => absurd hc (by decide))
        refine lv_iconst (v := nI 0) hx hb dR_resultant_148 (by decide +kernel) ?_
        refine lv_iload hx hb dR_resultant_149 (lv_at hl 3 rfl) ?_
        refine lv_if_eq hx hb dR_resultant_151 (tgt := 163) rfl (fun hc => absurd hc (by decide)) (fun hc => ?_)
        refine lv_iload hx hb dR_resultant_154 (lv_at hl 0 rfl) ?_
        refine lv_if_ne hx hb dR_resultant_156 (tgt := 163) rfl (fun hc => absurd hc (by decide)) (fun hc => ?_)
        refine lv_iconst (v := nI 1) hx hb dR_resultant_159 (by decide +kernel) ?_
        refine lv_goto hx hb dR_resultant_160 (tgt := 164) rfl ?_
        refine ct_callV (av2 := [.int (nI 0), .int (nI 1)]) (rest := []) (b := ma) X hst (c_R_fails l D Y lo hmL5 (a := 0) (b := 1) (by omega) (by omega)) hmL5.ob rfl wc_R_fails ml_R_88 wi_R_fails wl_R_fails wn_R md_R_fails (by decide) hl.1 rfl (Nat.le_of_ble_eq_true rfl) ⟨by omega, by omega⟩ (fun _ _ h => h.elim) dR_resultant_164 (fun r MF H locs hp hst => ?_)
        obtain ⟨rfl, hmF, hoF⟩ := hp
        have hmF : mo Y MF ma E p rf 2 cL5 := hmF
        refine lv_if_eq hx hb dR_resultant_167 (tgt := 172) rfl (fun hc => absurd hc (by decide)) (fun hc => ?_)
        refine lv_iconst (v := nI 0) hx hb dR_resultant_170 (by decide +kernel) ?_
        exact ct_zret X hst (by omega) ⟨cL5, rfl, hmF, hPL, (hoL4.tr hoL5).tr hoF⟩ (by omega) (by omega) dR_resultant_171
      · skip
        have hz8 : ¬ 8 < (m + n) := fun z => hc ((nI_ltI (by omega) (by omega)).mpr z)
        rcases hno with h9 | h9 | h9
        · exact absurd (hz42.mpr h9) (by omega)
        · exact absurd (hz52.mpr h9) (by omega)
        · omega

set_option maxHeartbeats 4000000 in
set_option maxRecDepth 100000 in
theorem e_R_resultant (l : Launch) (D : va_G) (Y : Nat → ClassId) (lo : Nat) {M : Hm} {ma p rf th : Nat} {E : Nat → Nat} {c : Nat → Nat → Nat} (hm : mo Y M ma E p rf th c) {x1 x2 x3 x4 : Int32} (hno : ¬ ((inR x1 ∧ inR x2 ∧ inR x3) ∧ inV x4)) : ct l D Y lo y_R_resultant b_R_resultant 15 (some .boolean) 3 [.ref ma, .int x1, .int x2, .int x3, .int x4] M (fun r9 M' => ∃ t : Nat, r9 = some (.int (nI 0)) ∧ mo Y M' ma E p rf t c ∧ (t = 1 ∧ ¬ (inR x1 ∧ inR x2 ∧ inR x3) ∨ t = 2 ∧ (inR x1 ∧ inR x2 ∧ inR x3)) ∧ hp_off (fun i => i = 1000) M M') nx 0 0 := by
  refine ct_of (by decide) (Nat.le_of_ble_eq_true rfl) ?_
  intro pg eg sg mg bw mt cg ls X hst hl
  have X1 := X
  obtain ⟨hx, hb, hml, hrt, hlocks, hown, hnm, hts, hkz, hex⟩ := X1
  have hG : ∀ w ∈ GW, w.before _ sg = true := fun w h => hts w (List.mem_cons_of_mem _ h)
  have hK := hkz.1
  have hl : lv_has ls 15 [(0, .ref ma), (1, .int x1), (2, .int x2), (3, .int x3), (4, .int x4)] := hl
  by_cases hRR : inR x1 ∧ inR x2 ∧ inR x3
  · skip
    have hnv : ¬ inV x4 := fun z => hno ⟨hRR, z⟩
    have hR2 := hRR
    obtain ⟨⟨r, hr, rfl⟩, ⟨a, ha, rfl⟩, ⟨b, hb9, rfl⟩⟩ := hRR
    refine lv_iload_n hx hb dR_resultant_0 rfl (lv_at hl 1 rfl) ?_
    refine ct_callS (av2 := [.int (nI r)]) (rest := []) X hst (g_R_isRegister l D Y lo hr) wc_R_isRegister ml_R_85 ws_R_isRegister wn_R md_R_isRegister (by decide) hl.1 rfl (Nat.le_of_ble_eq_true rfl) ⟨by omega, by omega⟩ (fun _ _ h => h.elim) dR_resultant_1 (fun r M' H locs hp hst => ?_)
    obtain ⟨rfl, rfl⟩ := hp
    refine lv_if_eq hx hb dR_resultant_4 (tgt := 25) rfl (fun hc => absurd hc (by decide)) (fun hc => ?_)
    refine lv_iload_n hx hb dR_resultant_7 rfl (lv_at hl 2 rfl) ?_
    refine ct_callS (av2 := [.int (nI a)]) (rest := []) X hst (g_R_isRegister l D Y lo ha) wc_R_isRegister ml_R_85 ws_R_isRegister wn_R md_R_isRegister (by decide) hl.1 rfl (Nat.le_of_ble_eq_true rfl) ⟨by omega, by omega⟩ (fun _ _ h => h.elim) dR_resultant_8 (fun r M' H locs hp hst => ?_)
    obtain ⟨rfl, rfl⟩ := hp
    refine lv_if_eq hx hb dR_resultant_11 (tgt := 25) rfl (fun hc => absurd hc (by decide)) (fun hc => ?_)
    refine lv_iload_n hx hb dR_resultant_14 rfl (lv_at hl 3 rfl) ?_
    refine ct_callS (av2 := [.int (nI b)]) (rest := []) X hst (g_R_isRegister l D Y lo hb9) wc_R_isRegister ml_R_85 ws_R_isRegister wn_R md_R_isRegister (by decide) hl.1 rfl (Nat.le_of_ble_eq_true rfl) ⟨by omega, by omega⟩ (fun _ _ h => h.elim) dR_resultant_15 (fun r M' H locs hp hst => ?_)
    obtain ⟨rfl, rfl⟩ := hp
    refine lv_if_eq hx hb dR_resultant_18 (tgt := 25) rfl (fun hc => absurd hc (by decide)) (fun hc => ?_)
    refine lv_iconst (v := nI 1) hx hb dR_resultant_21 (by decide +kernel) ?_
    refine lv_goto hx hb dR_resultant_22 (tgt := 26) rfl ?_
    refine lv_istore (lv' := [(5, .int (nI 1)), (0, .ref ma), (1, .int (nI r)), (2, .int (nI a)), (3, .int (nI b)), (4, .int x4)]) hx hb dR_resultant_26 hl (by decide) rfl (fun ls hl => ?_)
    refine lv_iload hx hb dR_resultant_28 (lv_at hl 0 rfl) ?_
    refine lv_if_eq hx hb dR_resultant_30 (tgt := 45) rfl (fun hc => absurd hc (by decide)) (fun hc => ?_)
    refine lv_iload hx hb dR_resultant_33 (lv_at hl 5 rfl) ?_
    refine ct_callS (av2 := [.int x4]) (rest := []) X hst (e_R_isVariable l D Y lo hnv) wc_R_isVariable ml_R_96 ws_R_isVariable wn_R md_R_isVariable (by decide) hl.1 rfl (Nat.le_of_ble_eq_true rfl) ⟨by omega, by omega⟩ (fun _ _ h => h.elim) dR_resultant_35 (fun r M' H locs hp hst => ?_)
    obtain ⟨rfl, rfl⟩ := hp
    refine lv_if_eq hx hb dR_resultant_38 (tgt := 45) rfl (fun hc => ?_) (fun hc => absurd hc (by decide))
    refine lv_iconst (v := nI 0) hx hb dR_resultant_45 (by decide +kernel) ?_
    refine lv_istore (lv' := [(6, .int (nI 0)), (5, .int (nI 1)), (0, .ref ma), (1, .int (nI r)), (2, .int (nI a)), (3, .int (nI b)), (4, .int x4)]) hx hb dR_resultant_46 hl (by decide) rfl (fun ls hl => ?_)
    refine lv_iconst (v := nI 0) hx hb dR_resultant_48 (by decide +kernel) ?_
    refine lv_istore (lv' := [(7, .int (nI 0)), (6, .int (nI 0)), (5, .int (nI 1)), (0, .ref ma), (1, .int (nI r)), (2, .int (nI a)), (3, .int (nI b)), (4, .int x4)]) hx hb dR_resultant_49 hl (by decide) rfl (fun ls hl => ?_)
    refine lv_iconst (v := nI 0) hx hb dR_resultant_51 (by decide +kernel) ?_
    refine lv_istore (lv' := [(8, .int (nI 0)), (7, .int (nI 0)), (6, .int (nI 0)), (5, .int (nI 1)), (0, .ref ma), (1, .int (nI r)), (2, .int (nI a)), (3, .int (nI b)), (4, .int x4)]) hx hb dR_resultant_52 hl (by decide) rfl (fun ls hl => ?_)
    refine lv_iload hx hb dR_resultant_54 (lv_at hl 2 rfl) ?_
    refine lv_if_eq hx hb dR_resultant_56 (tgt := 138) rfl (fun hc => ?_) (fun hc => absurd hc (by decide))
    refine lv_aload_n hx hb dR_resultant_138 rfl (lv_at hl 4 rfl) ?_
    refine lv_iload hx hb dR_resultant_139 (lv_at hl 3 rfl) ?_
    refine lv_if_ne hx hb dR_resultant_141 (tgt := 148) rfl (fun hc => ?_) (fun hc => absurd hc (by decide))
    refine lv_iconst (v := nI 0) hx hb dR_resultant_148 (by decide +kernel) ?_
    refine lv_iload hx hb dR_resultant_149 (lv_at hl 3 rfl) ?_
    refine lv_if_eq hx hb dR_resultant_151 (tgt := 163) rfl (fun hc => absurd hc (by decide)) (fun hc => ?_)
    refine lv_iload hx hb dR_resultant_154 (lv_at hl 2 rfl) ?_
    refine lv_if_ne hx hb dR_resultant_156 (tgt := 163) rfl (fun hc => absurd hc (by decide)) (fun hc => ?_)
    refine lv_iconst (v := nI 1) hx hb dR_resultant_159 (by decide +kernel) ?_
    refine lv_goto hx hb dR_resultant_160 (tgt := 164) rfl ?_
    refine ct_callV (av2 := [.int (nI 0), .int (nI 1)]) (rest := []) (b := ma) X hst (c_R_fails l D Y lo hm (a := 0) (b := 1) (by omega) (by omega)) hm.ob rfl wc_R_fails ml_R_88 wi_R_fails wl_R_fails wn_R md_R_fails (by decide) hl.1 rfl (Nat.le_of_ble_eq_true rfl) ⟨by omega, by omega⟩ (fun _ _ h => h.elim) dR_resultant_164 (fun r MF H locs hp hst => ?_)
    obtain ⟨rfl, hmF, hoF⟩ := hp
    have hmF : mo Y MF ma E p rf 2 c := hmF
    refine lv_if_eq hx hb dR_resultant_167 (tgt := 172) rfl (fun hc => absurd hc (by decide)) (fun hc => ?_)
    refine lv_iconst (v := nI 0) hx hb dR_resultant_170 (by decide +kernel) ?_
    exact ct_zret X hst (by omega) ⟨2, rfl, hmF, Or.inr ⟨rfl, hR2⟩, hoF⟩ (by omega) (by omega) dR_resultant_171
  · skip
    refine lv_iload_n hx hb dR_resultant_0 rfl (lv_at hl 1 rfl) ?_
    refine ct_callS (av2 := [.int x1]) (rest := []) X hst (c_R_isRegister l D Y lo x1) wc_R_isRegister ml_R_85 ws_R_isRegister wn_R md_R_isRegister (by decide) hl.1 rfl (Nat.le_of_ble_eq_true rfl) ⟨by omega, by omega⟩ (fun _ _ h => h.elim) dR_resultant_1 (fun r M' H locs hp hst => ?_)
    obtain ⟨b1, rfl, hb1, ib1, rfl⟩ := hp
    refine lv_if_eq hx hb dR_resultant_4 (tgt := 25) rfl (fun hc => ?_) (fun hc => ?_)
    · skip
      rw [← nI_0] at hc
      have hz1 : b1 = 0 := (nI_eq (by omega) (by omega)).mp hc
      refine lv_iconst (v := nI 0) hx hb dR_resultant_25 (by decide +kernel) ?_
      refine lv_istore (lv' := [(5, .int (nI 0)), (0, .ref ma), (1, .int x1), (2, .int x2), (3, .int x3), (4, .int x4)]) hx hb dR_resultant_26 hl (by decide) rfl (fun ls hl => ?_)
      refine lv_iload hx hb dR_resultant_28 (lv_at hl 0 rfl) ?_
      refine lv_if_eq hx hb dR_resultant_30 (tgt := 45) rfl (fun hc => ?_) (fun hc => absurd hc (by decide))
      refine lv_iconst (v := nI 0) hx hb dR_resultant_45 (by decide +kernel) ?_
      refine lv_istore (lv' := [(6, .int (nI 0)), (5, .int (nI 0)), (0, .ref ma), (1, .int x1), (2, .int x2), (3, .int x3), (4, .int x4)]) hx hb dR_resultant_46 hl (by decide) rfl (fun ls hl => ?_)
      refine lv_iconst (v := nI 0) hx hb dR_resultant_48 (by decide +kernel) ?_
      refine lv_istore (lv' := [(7, .int (nI 0)), (6, .int (nI 0)), (5, .int (nI 0)), (0, .ref ma), (1, .int x1), (2, .int x2), (3, .int x3), (4, .int x4)]) hx hb dR_resultant_49 hl (by decide) rfl (fun ls hl => ?_)
      refine lv_iconst (v := nI 0) hx hb dR_resultant_51 (by decide +kernel) ?_
      refine lv_istore (lv' := [(8, .int (nI 0)), (7, .int (nI 0)), (6, .int (nI 0)), (5, .int (nI 0)), (0, .ref ma), (1, .int x1), (2, .int x2), (3, .int x3), (4, .int x4)]) hx hb dR_resultant_52 hl (by decide) rfl (fun ls hl => ?_)
      refine lv_iload hx hb dR_resultant_54 (lv_at hl 2 rfl) ?_
      refine lv_if_eq hx hb dR_resultant_56 (tgt := 138) rfl (fun hc => ?_) (fun hc => absurd hc (by decide))
      refine lv_aload_n hx hb dR_resultant_138 rfl (lv_at hl 4 rfl) ?_
      refine lv_iload hx hb dR_resultant_139 (lv_at hl 3 rfl) ?_
      refine lv_if_ne hx hb dR_resultant_141 (tgt := 148) rfl (fun hc => absurd hc (by decide)) (fun hc => ?_)
      refine lv_iconst (v := nI 1) hx hb dR_resultant_144 (by decide +kernel) ?_
      refine lv_goto hx hb dR_resultant_145 (tgt := 149) rfl ?_
      refine lv_iload hx hb dR_resultant_149 (lv_at hl 3 rfl) ?_
      refine lv_if_eq hx hb dR_resultant_151 (tgt := 163) rfl (fun hc => ?_) (fun hc => absurd hc (by decide))
      refine lv_iconst (v := nI 0) hx hb dR_resultant_163 (by decide +kernel) ?_
      refine ct_callV (av2 := [.int (nI 1), .int (nI 0)]) (rest := []) (b := ma) X hst (c_R_fails l D Y lo hm (a := 1) (b := 0) (by omega) (by omega)) hm.ob rfl wc_R_fails ml_R_88 wi_R_fails wl_R_fails wn_R md_R_fails (by decide) hl.1 rfl (Nat.le_of_ble_eq_true rfl) ⟨by omega, by omega⟩ (fun _ _ h => h.elim) dR_resultant_164 (fun r MF H locs hp hst => ?_)
      obtain ⟨rfl, hmF, hoF⟩ := hp
      have hmF : mo Y MF ma E p rf 1 c := hmF
      refine lv_if_eq hx hb dR_resultant_167 (tgt := 172) rfl (fun hc => absurd hc (by decide)) (fun hc => ?_)
      refine lv_iconst (v := nI 0) hx hb dR_resultant_170 (by decide +kernel) ?_
      exact ct_zret X hst (by omega) ⟨1, rfl, hmF, Or.inl ⟨rfl, hRR⟩, hoF⟩ (by omega) (by omega) dR_resultant_171
    · skip
      rw [← nI_0] at hc
      have hz1 : ¬ b1 = 0 := fun z => hc ((nI_eq (by omega) (by omega)).mpr z)
      refine lv_iload_n hx hb dR_resultant_7 rfl (lv_at hl 2 rfl) ?_
      refine ct_callS (av2 := [.int x2]) (rest := []) X hst (c_R_isRegister l D Y lo x2) wc_R_isRegister ml_R_85 ws_R_isRegister wn_R md_R_isRegister (by decide) hl.1 rfl (Nat.le_of_ble_eq_true rfl) ⟨by omega, by omega⟩ (fun _ _ h => h.elim) dR_resultant_8 (fun r M' H locs hp hst => ?_)
      obtain ⟨b2, rfl, hb2, ib2, rfl⟩ := hp
      refine lv_if_eq hx hb dR_resultant_11 (tgt := 25) rfl (fun hc => ?_) (fun hc => ?_)
      · skip
        rw [← nI_0] at hc
        have hz2 : b2 = 0 := (nI_eq (by omega) (by omega)).mp hc
        refine lv_iconst (v := nI 0) hx hb dR_resultant_25 (by decide +kernel) ?_
        refine lv_istore (lv' := [(5, .int (nI 0)), (0, .ref ma), (1, .int x1), (2, .int x2), (3, .int x3), (4, .int x4)]) hx hb dR_resultant_26 hl (by decide) rfl (fun ls hl => ?_)
        refine lv_iload hx hb dR_resultant_28 (lv_at hl 0 rfl) ?_
        refine lv_if_eq hx hb dR_resultant_30 (tgt := 45) rfl (fun hc => ?_) (fun hc => absurd hc (by decide))
        refine lv_iconst (v := nI 0) hx hb dR_resultant_45 (by decide +kernel) ?_
        refine lv_istore (lv' := [(6, .int (nI 0)), (5, .int (nI 0)), (0, .ref ma), (1, .int x1), (2, .int x2), (3, .int x3), (4, .int x4)]) hx hb dR_resultant_46 hl (by decide) rfl (fun ls hl => ?_)
        refine lv_iconst (v := nI 0) hx hb dR_resultant_48 (by decide +kernel) ?_
        refine lv_istore (lv' := [(7, .int (nI 0)), (6, .int (nI 0)), (5, .int (nI 0)), (0, .ref ma), (1, .int x1), (2, .int x2), (3, .int x3), (4, .int x4)]) hx hb dR_resultant_49 hl (by decide) rfl (fun ls hl => ?_)
        refine lv_iconst (v := nI 0) hx hb dR_resultant_51 (by decide +kernel) ?_
        refine lv_istore (lv' := [(8, .int (nI 0)), (7, .int (nI 0)), (6, .int (nI 0)), (5, .int (nI 0)), (0, .ref ma), (1, .int x1), (2, .int x2), (3, .int x3), (4, .int x4)]) hx hb dR_resultant_52 hl (by decide) rfl (fun ls hl => ?_)
        refine lv_iload hx hb dR_resultant_54 (lv_at hl 2 rfl) ?_
        refine lv_if_eq hx hb dR_resultant_56 (tgt := 138) rfl (fun hc => ?_) (fun hc => absurd hc (by decide))
        refine lv_aload_n hx hb dR_resultant_138 rfl (lv_at hl 4 rfl) ?_
        refine lv_iload hx hb dR_resultant_139 (lv_at hl 3 rfl) ?_
        refine lv_if_ne hx hb dR_resultant_141 (tgt := 148) rfl (fun hc => absurd hc (by decide)) (fun hc => ?_)
        refine lv_iconst (v := nI 1) hx hb dR_resultant_144 (by decide +kernel) ?_
        refine lv_goto hx hb dR_resultant_145 (tgt := 149) rfl ?_
        refine lv_iload hx hb dR_resultant_149 (lv_at hl 3 rfl) ?_
        refine lv_if_eq hx hb dR_resultant_151 (tgt := 163) rfl (fun hc => ?_) (fun hc => absurd hc (by decide))
        refine lv_iconst (v := nI 0) hx hb dR_resultant_163 (by decide +kernel) ?_
        refine ct_callV (av2 := [.int (nI 1), .int (nI 0)]) (rest := []) (b := ma) X hst (c_R_fails l D Y lo hm (a := 1) (b := 0) (by omega) (by omega)) hm.ob rfl wc_R_fails ml_R_88 wi_R_fails wl_R_fails wn_R md_R_fails (by decide) hl.1 rfl (Nat.le_of_ble_eq_true rfl) ⟨by omega, by omega⟩ (fun _ _ h => h.elim) dR_resultant_164 (fun r MF H locs hp hst => ?_)
        obtain ⟨rfl, hmF, hoF⟩ := hp
        have hmF : mo Y MF ma E p rf 1 c := hmF
        refine lv_if_eq hx hb dR_resultant_167 (tgt := 172) rfl (fun hc => absurd hc (by decide)) (fun hc => ?_)
        refine lv_iconst (v := nI 0) hx hb dR_resultant_170 (by decide +kernel) ?_
        exact ct_zret X hst (by omega) ⟨1, rfl, hmF, Or.inl ⟨rfl, hRR⟩, hoF⟩ (by omega) (by omega) dR_resultant_171
      · skip
        rw [← nI_0] at hc
        have hz2 : ¬ b2 = 0 := fun z => hc ((nI_eq (by omega) (by omega)).mpr z)
        refine lv_iload_n hx hb dR_resultant_14 rfl (lv_at hl 3 rfl) ?_
        refine ct_callS (av2 := [.int x3]) (rest := []) X hst (c_R_isRegister l D Y lo x3) wc_R_isRegister ml_R_85 ws_R_isRegister wn_R md_R_isRegister (by decide) hl.1 rfl (Nat.le_of_ble_eq_true rfl) ⟨by omega, by omega⟩ (fun _ _ h => h.elim) dR_resultant_15 (fun r M' H locs hp hst => ?_)
        obtain ⟨b3, rfl, hb3, ib3, rfl⟩ := hp
        refine lv_if_eq hx hb dR_resultant_18 (tgt := 25) rfl (fun hc => ?_) (fun hc => ?_)
        · skip
          rw [← nI_0] at hc
          have hz3 : b3 = 0 := (nI_eq (by omega) (by omega)).mp hc
          refine lv_iconst (v := nI 0) hx hb dR_resultant_25 (by decide +kernel) ?_
          refine lv_istore (lv' := [(5, .int (nI 0)), (0, .ref ma), (1, .int x1), (2, .int x2), (3, .int x3), (4, .int x4)]) hx hb dR_resultant_26 hl (by decide) rfl (fun ls hl => ?_)
          refine lv_iload hx hb dR_resultant_28 (lv_at hl 0 rfl) ?_
          refine lv_if_eq hx hb dR_resultant_30 (tgt := 45) rfl (fun hc => ?_) (fun hc => absurd hc (by decide))
          refine lv_iconst (v := nI 0) hx hb dR_resultant_45 (by decide +kernel) ?_
          refine lv_istore (lv' := [(6, .int (nI 0)), (5, .int (nI 0)), (0, .ref ma), (1, .int x1), (2, .int x2), (3, .int x3), (4, .int x4)]) hx hb dR_resultant_46 hl (by decide) rfl (fun ls hl => ?_)
          refine lv_iconst (v := nI 0) hx hb dR_resultant_48 (by decide +kernel) ?_
          refine lv_istore (lv' := [(7, .int (nI 0)), (6, .int (nI 0)), (5, .int (nI 0)), (0, .ref ma), (1, .int x1), (2, .int x2), (3, .int x3), (4, .int x4)]) hx hb dR_resultant_49 hl (by decide) rfl (fun ls hl => ?_)
          refine lv_iconst (v := nI 0) hx hb dR_resultant_51 (by decide +kernel) ?_
          refine lv_istore (lv' := [(8, .int (nI 0)), (7, .int (nI 0)), (6, .int (nI 0)), (5, .int (nI 0)), (0, .ref ma), (1, .int x1), (2, .int x2), (3, .int x3), (4, .int x4)]) hx hb dR_resultant_52 hl (by decide) rfl (fun ls hl => ?_)
          refine lv_iload hx hb dR_resultant_54 (lv_at hl 2 rfl) ?_
          refine lv_if_eq hx hb dR_resultant_56 (tgt := 138) rfl (fun hc => ?_) (fun hc => absurd hc (by decide))
          refine lv_aload_n hx hb dR_resultant_138 rfl (lv_at hl 4 rfl) ?_
          refine lv_iload hx hb dR_resultant_139 (lv_at hl 3 rfl) ?_
          refine lv_if_ne hx hb dR_resultant_141 (tgt := 148) rfl (fun hc => absurd hc (by decide)) (fun hc => ?_)
          refine lv_iconst (v := nI 1) hx hb dR_resultant_144 (by decide +kernel) ?_
          refine lv_goto hx hb dR_resultant_145 (tgt := 149) rfl ?_
          refine lv_iload hx hb dR_resultant_149 (lv_at hl 3 rfl) ?_
          refine lv_if_eq hx hb dR_resultant_151 (tgt := 163) rfl (fun hc => ?_) (fun hc => absurd hc (by decide))
          refine lv_iconst (v := nI 0) hx hb dR_resultant_163 (by decide +kernel) ?_
          refine ct_callV (av2 := [.int (nI 1), .int (nI 0)]) (rest := []) (b := ma) X hst (c_R_fails l D Y lo hm (a := 1) (b := 0) (by omega) (by omega)) hm.ob rfl wc_R_fails ml_R_88 wi_R_fails wl_R_fails wn_R md_R_fails (by decide) hl.1 rfl (Nat.le_of_ble_eq_true rfl) ⟨by omega, by omega⟩ (fun _ _ h => h.elim) dR_resultant_164 (fun r MF H locs hp hst => ?_)
          obtain ⟨rfl, hmF, hoF⟩ := hp
          have hmF : mo Y MF ma E p rf 1 c := hmF
          refine lv_if_eq hx hb dR_resultant_167 (tgt := 172) rfl (fun hc => absurd hc (by decide)) (fun hc => ?_)
          refine lv_iconst (v := nI 0) hx hb dR_resultant_170 (by decide +kernel) ?_
          exact ct_zret X hst (by omega) ⟨1, rfl, hmF, Or.inl ⟨rfl, hRR⟩, hoF⟩ (by omega) (by omega) dR_resultant_171
        · skip
          rw [← nI_0] at hc
          have hz3 : ¬ b3 = 0 := fun z => hc ((nI_eq (by omega) (by omega)).mpr z)
          exact absurd ⟨ib1.mp (by omega), ib2.mp (by omega), ib3.mp (by omega)⟩ hRR
