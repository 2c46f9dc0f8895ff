/-! The reference: its short methods. -/
set_option maxHeartbeats 4000000 in
set_option maxRecDepth 100000 in
theorem c_R_thrown (l : Launch) (D : va_G) (Y : Nat → ClassId) (lo : Nat) {M : Hm} {ma p rf th : Nat} {E : Nat → Nat} {c : Nat → Nat → Nat} (hm : mo Y M ma E p rf th c) : ct l D Y lo y_R_thrown b_R_thrown 1 (some .int) 0 [.ref ma] M (fun r M' => r = some (.int (nI th)) ∧ M = M') nx 0 0 := by
  refine ct_of (by decide) (Nat.le_of_ble_eq_true rfl) ?_
  intro pg eg sg mg bw mt cg ls X hst hl
  have X1 := X
  obtain ⟨hx, hb, hml, hrt, hlocks, hown, hnm, hts, hkz, hex⟩ := X1
  have hG : ∀ w ∈ GW, w.before _ sg = true := fun w h => hts w (List.mem_cons_of_mem _ h)
  have hK := hkz.1
  have hl : lv_has ls 1 [(0, .ref ma)] := hl
  refine lv_aload_n hx hb dR_thrown_0 rfl (lv_at hl 0 rfl) ?_
  refine hp_get hx hb hG in_R hown hK hst hm.ob rfl 0 (by decide) (hG _ fl_R_55) rfl rfl dR_thrown_1 ?_
  exact ct_iret X hst ⟨rfl, rfl⟩ (by omega) (by omega) dR_thrown_4

set_option maxHeartbeats 4000000 in
set_option maxRecDepth 100000 in
theorem c_R_isRegister (l : Launch) (D : va_G) (Y : Nat → ClassId) (lo : Nat) {M : Hm} (x : Int32) : ct l D Y lo y_R_isRegister b_R_isRegister 1 (some .boolean) 0 [.int x] M (fun r M' => ∃ b : Nat, r = some (.int (nI b)) ∧ b ≤ 1 ∧ (b = 1 ↔ inR x) ∧ M = M') nx 0 0 := by
  refine ct_of (by decide) (Nat.le_of_ble_eq_true rfl) ?_
  intro pg eg sg mg bw mt cg ls X hst hl
  have X1 := X
  obtain ⟨hx, hb, hml, hrt, hlocks, hown, hnm, hts, hkz, hex⟩ := X1
  have hG : ∀ w ∈ GW, w.before _ sg = true := fun w h => hts w (List.mem_cons_of_mem _ h)
  have hK := hkz.1
  have hl : lv_has ls 1 [(0, .int x)] := hl
  refine lv_iload_n hx hb dR_isRegister_0 rfl (lv_at hl 0 rfl) ?_
  refine lv_if_lt hx hb dR_isRegister_1 (tgt := 14) rfl (fun hc => ?_) (fun hc => ?_)
  · skip
    have hn : ¬ inR x := fun ⟨j, hj, e⟩ => nI_pos (n := j) (by omega) (e ▸ hc)
    refine lv_iconst (v := nI 0) hx hb dR_isRegister_14 (by decide +kernel) ?_
    exact ct_zret X hst (by omega) ⟨0, rfl, by omega, ⟨fun z => by omega, fun z => absurd z (hn)⟩, rfl⟩ (by omega) (by omega) dR_isRegister_15
  · skip
    have n1 := hc
    refine lv_iload_n hx hb dR_isRegister_4 rfl (lv_at hl 0 rfl) ?_
    refine lv_bipush (v := nI 12) hx hb dR_isRegister_5 (by decide +kernel) ?_
    refine lv_icmp_ge hx hb dR_isRegister_7 (tgt := 14) rfl (fun hc => ?_) (fun hc => ?_)
    · skip
      have hn : ¬ inR x := fun ⟨j, hj, e⟩ => by
        rw [e] at hc
        have := (nI_leI (by omega) (by omega)).mp hc
        omega
      refine lv_iconst (v := nI 0) hx hb dR_isRegister_14 (by decide +kernel) ?_
      exact ct_zret X hst (by omega) ⟨0, rfl, by omega, ⟨fun z => by omega, fun z => absurd z (hn)⟩, rfl⟩ (by omega) (by omega) dR_isRegister_15
    · skip
      have hy : inR x := by
        obtain ⟨j, hj, rfl⟩ := nI_of n1
        refine ⟨j, ?_, rfl⟩
        apply Classical.byContradiction
        intro z
        exact hc ((nI_leI (by omega) hj).mpr (by omega))
      refine lv_iconst (v := nI 1) hx hb dR_isRegister_10 (by decide +kernel) ?_
      refine lv_goto hx hb dR_isRegister_11 (tgt := 15) rfl ?_
      exact ct_zret X hst (by omega) ⟨1, rfl, by omega, ⟨fun _ => hy, fun _ => rfl⟩, rfl⟩ (by omega) (by omega) dR_isRegister_15

set_option maxHeartbeats 4000000 in
set_option maxRecDepth 100000 in
theorem c_R_isVariable (l : Launch) (D : va_G) (Y : Nat → ClassId) (lo : Nat) {M : Hm} (x : Int32) : ct l D Y lo y_R_isVariable b_R_isVariable 1 (some .boolean) 0 [.int x] M (fun r M' => ∃ b : Nat, r = some (.int (nI b)) ∧ b ≤ 1 ∧ (b = 1 ↔ inV x) ∧ M = M') nx 0 0 := by
  refine ct_of (by decide) (Nat.le_of_ble_eq_true rfl) ?_
  intro pg eg sg mg bw mt cg ls X hst hl
  have X1 := X
  obtain ⟨hx, hb, hml, hrt, hlocks, hown, hnm, hts, hkz, hex⟩ := X1
  have hG : ∀ w ∈ GW, w.before _ sg = true := fun w h => hts w (List.mem_cons_of_mem _ h)
  have hK := hkz.1
  have hl : lv_has ls 1 [(0, .int x)] := hl
  refine lv_iload_n hx hb dR_isVariable_0 rfl (lv_at hl 0 rfl) ?_
  refine lv_if_lt hx hb dR_isVariable_1 (tgt := 13) rfl (fun hc => ?_) (fun hc => ?_)
  · skip
    have hn : ¬ inV x := fun ⟨j, hj, e⟩ => nI_pos (n := j) (by omega) (e ▸ hc)
    refine lv_iconst (v := nI 0) hx hb dR_isVariable_13 (by decide +kernel) ?_
    exact ct_zret X hst (by omega) ⟨0, rfl, by omega, ⟨fun z => by omega, fun z => absurd z (hn)⟩, rfl⟩ (by omega) (by omega) dR_isVariable_14
  · skip
    have n1 := hc
    refine lv_iload_n hx hb dR_isVariable_4 rfl (lv_at hl 0 rfl) ?_
    refine lv_iconst (v := nI 3) hx hb dR_isVariable_5 (by decide +kernel) ?_
    refine lv_icmp_ge hx hb dR_isVariable_6 (tgt := 13) rfl (fun hc => ?_) (fun hc => ?_)
    · skip
      have hn : ¬ inV x := fun ⟨j, hj, e⟩ => by
        rw [e] at hc
        have := (nI_leI (by omega) (by omega)).mp hc
        omega
      refine lv_iconst (v := nI 0) hx hb dR_isVariable_13 (by decide +kernel) ?_
      exact ct_zret X hst (by omega) ⟨0, rfl, by omega, ⟨fun z => by omega, fun z => absurd z (hn)⟩, rfl⟩ (by omega) (by omega) dR_isVariable_14
    · skip
      have hy : inV x := by
        obtain ⟨j, hj, rfl⟩ := nI_of n1
        refine ⟨j, ?_, rfl⟩
        apply Classical.byContradiction
        intro z
        exact hc ((nI_leI (by omega) hj).mpr (by omega))
      refine lv_iconst (v := nI 1) hx hb dR_isVariable_9 (by decide +kernel) ?_
      refine lv_goto hx hb dR_isVariable_10 (tgt := 14) rfl ?_
      exact ct_zret X hst (by omega) ⟨1, rfl, by omega, ⟨fun _ => hy, fun _ => rfl⟩, rfl⟩ (by omega) (by omega) dR_isVariable_14

def flg (a b : Nat) : Nat := if a = 1 then 1 else if b = 1 then 2 else 0
def pos1 (a : Nat) : Nat := if a = 0 then 0 else 1

set_option maxHeartbeats 4000000 in
set_option maxRecDepth 100000 in
theorem c_R_fails (l : Launch) (D : va_G) (Y : Nat → ClassId) (lo : Nat) {M : Hm} {ma p rf th : Nat} {E : Nat → Nat} {c : Nat → Nat → Nat} (hm : mo Y M ma E p rf th c) {a b : Nat} (ha : a ≤ 1) (hb9 : b ≤ 1) : ct l D Y lo y_R_fails b_R_fails 3 (some .boolean) 0 [.ref ma, .int (nI a), .int (nI b)] M (fun r M' => r = some (.int (nI (pos1 (flg a b)))) ∧ mo Y M' ma E p rf (flg a b) c ∧ hp_off (fun i => i = 1000) M M') nx 0 0 := by
  refine ct_of (by decide) (Nat.le_of_ble_eq_true rfl) ?_
  intro pg eg sg mg bw mt cg ls X hst hl
  have X1 := X
  obtain ⟨hx, hb, hml, hrt, hlocks, hown, hnm, hts, hkz, hex⟩ := X1
  have hG : ∀ w ∈ GW, w.before _ sg = true := fun w h => hts w (List.mem_cons_of_mem _ h)
  have hK := hkz.1
  have hl : lv_has ls 3 [(0, .ref ma), (1, .int (nI a)), (2, .int (nI b))] := hl
  refine lv_aload_n hx hb dR_fails_0 rfl (lv_at hl 0 rfl) ?_
  refine lv_iload_n hx hb dR_fails_1 rfl (lv_at hl 1 rfl) ?_
  refine lv_if_eq hx hb dR_fails_2 (tgt := 9) rfl (fun hc => ?_) (fun hc => ?_)
  · skip
    rw [← nI_0] at hc
    have hca : a = 0 := (nI_eq (by omega) (by omega)).mp hc
    refine lv_iload_n hx hb dR_fails_9 rfl (lv_at hl 2 rfl) ?_
    refine lv_if_eq hx hb dR_fails_10 (tgt := 17) rfl (fun hc => ?_) (fun hc => ?_)
    · skip
      rw [← nI_0] at hc
      have hcb : b = 0 := (nI_eq (by omega) (by omega)).mp hc
      have hF : flg a b = 0 := by unfold flg; rw [if_neg (by omega), if_neg (by omega)]
      refine lv_iconst (v := nI 0) hx hb dR_fails_17 (by decide +kernel) ?_
      refine hp_put hx hb hG in_R ty_R tyok_R nm_R hown hK hst hm.ob rfl 0 (by decide) (hG _ fl_R_55) rfl rfl rfl rfl (Nat.le_of_ble_eq_true rfl) dR_fails_18 (fs' := [.int (nI 0), .int (nI p), .int (nI rf), .ref (E 1), .ref (E 2), .ref (E 3), .ref (E 4), .ref (E 5), .ref (E 6), .ref (E 7), .ref (E 8), .ref (E 9), .ref (E 10), .ref (E 11)]) rfl (fun H locs hst => ?_)
      obtain ⟨hm1, hs2⟩ := hm.nw 0 rf
      generalize hp_up M ma ((1000, 0), .inr (5, [.int (nI 0), .int (nI p), .int (nI rf), .ref (E 1), .ref (E 2), .ref (E 3), .ref (E 4), .ref (E 5), .ref (E 6), .ref (E 7), .ref (E 8), .ref (E 9), .ref (E 10), .ref (E 11)])) = M3 at hst hm1 hs2
      refine lv_aload_n hx hb dR_fails_21 rfl (lv_at hl 0 rfl) ?_
      refine hp_get hx hb hG in_R hown hK hst hm1.ob rfl 0 (by decide) (hG _ fl_R_55) rfl rfl dR_fails_22 ?_
      refine lv_if_le hx hb dR_fails_25 (tgt := 32) rfl (fun hc => ?_) (fun hc => ?_)
      · skip
        rw [← nI_0] at hc
        have hcz : 0 ≤ 0 := (nI_leI (by omega) (by omega)).mp hc
        refine lv_iconst (v := nI 0) hx hb dR_fails_32 (by decide +kernel) ?_
        exact ct_zret X hst (by omega) ⟨by rw [hF]; rfl, by rw [hF]; exact hm1, hs2⟩ (by omega) (by omega) dR_fails_33
      · skip
        rw [← nI_0] at hc
        have hcz : ¬ 0 ≤ 0 := fun z => hc ((nI_leI (by omega) (by omega)).mpr z)
        exact absurd hcz (by omega)
    · skip
      rw [← nI_0] at hc
      have hcb : ¬ b = 0 := fun z => hc ((nI_eq (by omega) (by omega)).mpr z)
      have hF : flg a b = 2 := by unfold flg; rw [if_neg (by omega), if_pos (by omega)]
      refine lv_iconst (v := nI 2) hx hb dR_fails_13 (by decide +kernel) ?_
      refine lv_goto hx hb dR_fails_14 (tgt := 18) rfl ?_
      refine hp_put hx hb hG in_R ty_R tyok_R nm_R hown hK hst hm.ob rfl 0 (by decide) (hG _ fl_R_55) rfl rfl rfl rfl (Nat.le_of_ble_eq_true rfl) dR_fails_18 (fs' := [.int (nI 2), .int (nI p), .int (nI rf), .ref (E 1), .ref (E 2), .ref (E 3), .ref (E 4), .ref (E 5), .ref (E 6), .ref (E 7), .ref (E 8), .ref (E 9), .ref (E 10), .ref (E 11)]) rfl (fun H locs hst => ?_)
      obtain ⟨hm1, hs2⟩ := hm.nw 2 rf
      generalize hp_up M ma ((1000, 0), .inr (5, [.int (nI 2), .int (nI p), .int (nI rf), .ref (E 1), .ref (E 2), .ref (E 3), .ref (E 4), .ref (E 5), .ref (E 6), .ref (E 7), .ref (E 8), .ref (E 9), .ref (E 10), .ref (E 11)])) = M3 at hst hm1 hs2
      refine lv_aload_n hx hb dR_fails_21 rfl (lv_at hl 0 rfl) ?_
      refine hp_get hx hb hG in_R hown hK hst hm1.ob rfl 0 (by decide) (hG _ fl_R_55) rfl rfl dR_fails_22 ?_
      refine lv_if_le hx hb dR_fails_25 (tgt := 32) rfl (fun hc => ?_) (fun hc => ?_)
      · skip
        rw [← nI_0] at hc
        have hcz : 2 ≤ 0 := (nI_leI (by omega) (by omega)).mp hc
        refine lv_iconst (v := nI 0) hx hb dR_fails_32 (by decide +kernel) ?_
        exact absurd hcz (by omega)
      · skip
        rw [← nI_0] at hc
        have hcz : ¬ 2 ≤ 0 := fun z => hc ((nI_leI (by omega) (by omega)).mpr z)
        refine lv_iconst (v := nI 1) hx hb dR_fails_28 (by decide +kernel) ?_
        refine lv_goto hx hb dR_fails_29 (tgt := 33) rfl ?_
        exact ct_zret X hst (by omega) ⟨by rw [hF]; rfl, by rw [hF]; exact hm1, hs2⟩ (by omega) (by omega) dR_fails_33
  · skip
    rw [← nI_0] at hc
    have hca : ¬ a = 0 := fun z => hc ((nI_eq (by omega) (by omega)).mpr z)
    have hF : flg a b = 1 := by unfold flg; rw [if_pos (by omega)]
    refine lv_iconst (v := nI 1) hx hb dR_fails_5 (by decide +kernel) ?_
    refine lv_goto hx hb dR_fails_6 (tgt := 18) rfl ?_
    refine hp_put hx hb hG in_R ty_R tyok_R nm_R hown hK hst hm.ob rfl 0 (by decide) (hG _ fl_R_55) rfl rfl rfl rfl (Nat.le_of_ble_eq_true rfl) dR_fails_18 (fs' := [.int (nI 1), .int (nI p), .int (nI rf), .ref (E 1), .ref (E 2), .ref (E 3), .ref (E 4), .ref (E 5), .ref (E 6), .ref (E 7), .ref (E 8), .ref (E 9), .ref (E 10), .ref (E 11)]) rfl (fun H locs hst => ?_)
    obtain ⟨hm1, hs2⟩ := hm.nw 1 rf
    generalize hp_up M ma ((1000, 0), .inr (5, [.int (nI 1), .int (nI p), .int (nI rf), .ref (E 1), .ref (E 2), .ref (E 3), .ref (E 4), .ref (E 5), .ref (E 6), .ref (E 7), .ref (E 8), .ref (E 9), .ref (E 10), .ref (E 11)])) = M3 at hst hm1 hs2
    refine lv_aload_n hx hb dR_fails_21 rfl (lv_at hl 0 rfl) ?_
    refine hp_get hx hb hG in_R hown hK hst hm1.ob rfl 0 (by decide) (hG _ fl_R_55) rfl rfl dR_fails_22 ?_
    refine lv_if_le hx hb dR_fails_25 (tgt := 32) rfl (fun hc => ?_) (fun hc => ?_)
    · skip
      rw [← nI_0] at hc
      have hcz : 1 ≤ 0 := (nI_leI (by omega) (by omega)).mp hc
      refine lv_iconst (v := nI 0) hx hb dR_fails_32 (by decide +kernel) ?_
      exact absurd hcz (by omega)
    · skip
      rw [← nI_0] at hc
      have hcz : ¬ 1 ≤ 0 := fun z => hc ((nI_leI (by omega) (by omega)).mpr z)
      refine lv_iconst (v := nI 1) hx hb dR_fails_28 (by decide +kernel) ?_
      refine lv_goto hx hb dR_fails_29 (tgt := 33) rfl ?_
      exact ct_zret X hst (by omega) ⟨by rw [hF]; rfl, by rw [hF]; exact hm1, hs2⟩ (by omega) (by omega) dR_fails_33

set_option maxHeartbeats 4000000 in
set_option maxRecDepth 100000 in
theorem c_R_refuses (l : Launch) (D : va_G) (Y : Nat → ClassId) (lo : Nat) {M : Hm} {ma p rf th : Nat} {E : Nat → Nat} {c : Nat → Nat → Nat} (hm : mo Y M ma E p rf th c) {a : Nat} (ha : a ≤ 1) : ct l D Y lo y_R_refuses b_R_refuses 2 (some .boolean) 0 [.ref ma, .int (nI a)] M (fun r M' => r = some (.int (nI a)) ∧ mo Y M' ma E p (rf + a) th c ∧ hp_off (fun i => i = 1000) M M') nx 0 0 := by
  refine ct_of (by decide) (Nat.le_of_ble_eq_true rfl) ?_
  intro pg eg sg mg bw mt cg ls X hst hl
  have X1 := X
  obtain ⟨hx, hb, hml, hrt, hlocks, hown, hnm, hts, hkz, hex⟩ := X1
  have hG : ∀ w ∈ GW, w.before _ sg = true := fun w h => hts w (List.mem_cons_of_mem _ h)
  have hK := hkz.1
  have hl : lv_has ls 2 [(0, .ref ma), (1, .int (nI a))] := hl
  refine lv_aload_n hx hb dR_refuses_0 rfl (lv_at hl 0 rfl) ?_
  refine lv_iload_n hx hb dR_refuses_1 rfl (lv_at hl 1 rfl) ?_
  refine lv_if_eq hx hb dR_refuses_2 (tgt := 14) rfl (fun hc => ?_) (fun hc => ?_)
  · skip
    rw [← nI_0] at hc
    have hca : a = 0 := (nI_eq (by omega) (by omega)).mp hc
    refine lv_aload_n hx hb dR_refuses_14 rfl (lv_at hl 0 rfl) ?_
    refine hp_get hx hb hG in_R hown hK hst hm.ob rfl 2 (by decide) (hG _ fl_R_82) rfl rfl dR_refuses_15 ?_
    refine hp_put hx hb hG in_R ty_R tyok_R nm_R hown hK hst hm.ob rfl 2 (by decide) (hG _ fl_R_82) rfl rfl rfl rfl (Nat.le_of_ble_eq_true rfl) dR_refuses_18 (fs' := [.int (nI th), .int (nI p), .int (nI rf), .ref (E 1), .ref (E 2), .ref (E 3), .ref (E 4), .ref (E 5), .ref (E 6), .ref (E 7), .ref (E 8), .ref (E 9), .ref (E 10), .ref (E 11)]) rfl (fun H locs hst => ?_)
    obtain ⟨hm1, hs2⟩ := hm.nw th rf
    generalize hp_up M ma ((1000, 0), .inr (5, [.int (nI th), .int (nI p), .int (nI rf), .ref (E 1), .ref (E 2), .ref (E 3), .ref (E 4), .ref (E 5), .ref (E 6), .ref (E 7), .ref (E 8), .ref (E 9), .ref (E 10), .ref (E 11)])) = M3 at hst hm1 hs2
    refine lv_iload_n hx hb dR_refuses_21 rfl (lv_at hl 1 rfl) ?_
    exact ct_zret X hst (by omega) ⟨rfl, by rw [show a = 0 by omega]; exact hm1, hs2⟩ (by omega) (by omega) dR_refuses_22
  · skip
    rw [← nI_0] at hc
    have hca : ¬ a = 0 := fun z => hc ((nI_eq (by omega) (by omega)).mpr z)
    refine lv_aload_n hx hb dR_refuses_5 rfl (lv_at hl 0 rfl) ?_
    refine hp_get hx hb hG in_R hown hK hst hm.ob rfl 2 (by decide) (hG _ fl_R_82) rfl rfl dR_refuses_6 ?_
    refine lv_iconst (v := nI 1) hx hb dR_refuses_9 (by decide +kernel) ?_
    refine t_iadd hx hb dR_refuses_10 (v := nI (rf + 1)) (nI_add _ _) ?_
    refine lv_goto hx hb dR_refuses_11 (tgt := 18) rfl ?_
    refine hp_put hx hb hG in_R ty_R tyok_R nm_R hown hK hst hm.ob rfl 2 (by decide) (hG _ fl_R_82) rfl rfl rfl rfl (Nat.le_of_ble_eq_true rfl) dR_refuses_18 (fs' := [.int (nI th), .int (nI p), .int (nI (rf + 1)), .ref (E 1), .ref (E 2), .ref (E 3), .ref (E 4), .ref (E 5), .ref (E 6), .ref (E 7), .ref (E 8), .ref (E 9), .ref (E 10), .ref (E 11)]) rfl (fun H locs hst => ?_)
    obtain ⟨hm1, hs2⟩ := hm.nw th (rf + 1)
    generalize hp_up M ma ((1000, 0), .inr (5, [.int (nI th), .int (nI p), .int (nI (rf + 1)), .ref (E 1), .ref (E 2), .ref (E 3), .ref (E 4), .ref (E 5), .ref (E 6), .ref (E 7), .ref (E 8), .ref (E 9), .ref (E 10), .ref (E 11)])) = M3 at hst hm1 hs2
    refine lv_iload_n hx hb dR_refuses_21 rfl (lv_at hl 1 rfl) ?_
    exact ct_zret X hst (by omega) ⟨rfl, by rw [show a = 1 by omega]; exact hm1, hs2⟩ (by omega) (by omega) dR_refuses_22

theorem rdL {p : Nat} (x : Int64) (h0 : 0 < p) (h : p < 2 ^ 31) {y : Int64} (hy : y.toInt = x.toInt.tmod p) : (¬ 0 ≤ y.toInt → y + lN p = lN (rd p x.toInt)) ∧ (0 ≤ y.toInt → y = lN (rd p x.toInt)) := by
  obtain ⟨r1, r2⟩ := rd_tm h0 x.toInt
  obtain ⟨t1, t2, t3, t4⟩ := tm_abs h0 x.toInt
  have hl := rd_lt h0 x.toInt
  refine ⟨fun hn => ?_, fun hp => ?_⟩
  · apply Int64.toInt_inj.mp
    rw [lN_big (by omega), Int64.toInt_add, lN_toInt h, hy, r2 ⟨by omega, by omega⟩]
    exact Int.bmod_eq_of_le (by omega) (by omega)
  · apply Int64.toInt_inj.mp
    rw [lN_big (by omega), hy]
    by_cases hz : 0 ≤ x.toInt
    · exact r1 (Or.inl hz)
    · exact r1 (Or.inr (by have := t4 (by omega); omega))

set_option maxHeartbeats 4000000 in
set_option maxRecDepth 100000 in
theorem c_R_reduced (l : Launch) (D : va_G) (Y : Nat → ClassId) (lo : Nat) {M : Hm} {ma p rf th : Nat} {E : Nat → Nat} {c : Nat → Nat → Nat} (hm : mo Y M ma E p rf th c) (x : Int64) : ct l D Y lo y_R_reduced b_R_reduced 5 (some .int) 0 [.ref ma, .long x] M (fun r M' => r = some (.int (nI (rd p x.toInt))) ∧ M = M') nx 0 0 := by
  refine ct_of (by decide) (Nat.le_of_ble_eq_true rfl) ?_
  intro pg eg sg mg bw mt cg ls X hst hl
  have X1 := X
  obtain ⟨hx, hb, hml, hrt, hlocks, hown, hnm, hts, hkz, hex⟩ := X1
  have hG : ∀ w ∈ GW, w.before _ sg = true := fun w h => hts w (List.mem_cons_of_mem _ h)
  have hK := hkz.1
  have hl : lv_has ls 5 [(0, .ref ma), (1, .long x)] := hl
  obtain ⟨hp2, hp3⟩ := hm.p2
  refine lv_lload_n hx hb dR_reduced_0 rfl (lv_at hl 1 rfl) ?_
  refine lv_aload_n hx hb dR_reduced_1 rfl (lv_at hl 0 rfl) ?_
  refine hp_get hx hb hG in_R hown hK hst hm.ob rfl 1 (by decide) (hG _ fl_R_51) rfl rfl dR_reduced_2 ?_
  refine lv_i2l (v := lN p) hx hb dR_reduced_5 (nI_l (by omega)) ?_
  refine lv_lrem hx hb dR_reduced_6 (lN_ne0 (by omega) (by omega)) ?_
  refine lv_topl (fun y hy => ?_)
  have hyI : y.toInt = x.toInt.tmod p := by rw [hy]; exact rem64 x (by omega) (by omega)
  obtain ⟨q1, q2⟩ := rdL x (by omega) (by omega) hyI
  have hz0 : (lN 0).toInt = 0 := lN_big (by omega)
  refine lv_lstore_n (lv' := [(3, .long y), (0, .ref ma), (1, .long x)]) hx hb dR_reduced_7 rfl hl (by decide) rfl (fun ls hl => ?_)
  refine lv_lload_n hx hb dR_reduced_8 rfl (lv_at hl 0 rfl) ?_
  refine lv_lconst (v := lN 0) hx hb dR_reduced_9 (by decide +kernel) ?_
  refine lv_lcmp hx hb dR_reduced_10 ?_
  refine lv_if_ge hx hb dR_reduced_11 (tgt := 24) rfl (fun hc => ?_) (fun hc => ?_)
  · skip
    have hy2 := q2 (by have := lcm3_ge.mp hc; omega)
    refine lv_lload_n hx hb dR_reduced_24 rfl (lv_at hl 0 rfl) ?_
    refine lv_l2i (v := nI (rd p x.toInt)) hx hb dR_reduced_25 (by rw [hy2]; exact lN_i _) ?_
    exact ct_iret X hst ⟨rfl, rfl⟩ (by omega) (by omega) dR_reduced_26
  · skip
    have hy2 := q1 (fun z => hc (lcm3_ge.mpr (by omega)))
    refine lv_lload_n hx hb dR_reduced_14 rfl (lv_at hl 0 rfl) ?_
    refine lv_aload_n hx hb dR_reduced_15 rfl (lv_at hl 1 rfl) ?_
    refine hp_get hx hb hG in_R hown hK hst hm.ob rfl 1 (by decide) (hG _ fl_R_51) rfl rfl dR_reduced_16 ?_
    refine lv_i2l (v := lN p) hx hb dR_reduced_19 (nI_l (by omega)) ?_
    refine lv_ladd hx hb dR_reduced_20 ?_
    refine tp_l (e2 := lN (rd p x.toInt)) hy2 ?_
    refine lv_goto hx hb dR_reduced_21 (tgt := 25) rfl ?_
    refine lv_l2i (v := nI (rd p x.toInt)) hx hb dR_reduced_25 (lN_i _) ?_
    exact ct_iret X hst ⟨rfl, rfl⟩ (by omega) (by omega) dR_reduced_26

set_option maxHeartbeats 4000000 in
set_option maxRecDepth 100000 in
theorem c_R_place (l : Launch) (D : va_G) (Y : Nat → ClassId) (lo : Nat) {M : Hm} {ma p rf th : Nat} {E : Nat → Nat} {c : Nat → Nat → Nat} (hm : mo Y M ma E p rf th c) {a b d : Nat} (h36 : a + b + d ≤ 36) : ct l D Y lo y_R_place b_R_place 4 (some .int) 0 [.ref ma, .int (nI a), .int (nI b), .int (nI d)] M (fun r M' => r = some (.int (nI (9138 - rk (mp a b d)))) ∧ M = M') nx 0 0 := by
  refine ct_of (by decide) (Nat.le_of_ble_eq_true rfl) ?_
  intro pg eg sg mg bw mt cg ls X hst hl
  have X1 := X
  obtain ⟨hx, hb, hml, hrt, hlocks, hown, hnm, hts, hkz, hex⟩ := X1
  have hG : ∀ w ∈ GW, w.before _ sg = true := fun w h => hts w (List.mem_cons_of_mem _ h)
  have hK := hkz.1
  have hl : lv_has ls 4 [(0, .ref ma), (1, .int (nI a)), (2, .int (nI b)), (3, .int (nI d))] := hl
  have hk := hm.pc h36
  have hb9 : (37 * a + b) * 37 + d < 50653 := by omega
  refine lv_aload_n hx hb dR_place_0 rfl (lv_at hl 0 rfl) ?_
  refine hp_get hx hb hG in_R hown hK hst hm.ob rfl 4 (by decide) (hG _ fl_R_14) rfl rfl dR_place_1 ?_
  refine lv_bipush (v := nI 37) hx hb dR_place_4 (by decide +kernel) ?_
  refine lv_iload_n hx hb dR_place_6 rfl (lv_at hl 1 rfl) ?_
  refine t_imul hx hb dR_place_7 (v := nI (37 * a)) (pk_mul _ _) ?_
  refine lv_iload_n hx hb dR_place_8 rfl (lv_at hl 2 rfl) ?_
  refine t_iadd hx hb dR_place_9 (v := nI ((37 * a) + b)) (nI_add _ _) ?_
  refine lv_bipush (v := nI 37) hx hb dR_place_10 (by decide +kernel) ?_
  refine t_imul hx hb dR_place_12 (v := nI (((37 * a) + b) * 37)) (pk_mul _ _) ?_
  refine lv_iload_n hx hb dR_place_13 rfl (lv_at hl 3 rfl) ?_
  refine t_iadd hx hb dR_place_14 (v := nI ((((37 * a) + b) * 37) + d)) (nI_add _ _) ?_
  refine hp_iald hx hb hK rfl hst hm.a2 (j := ((((37 * a) + b) * 37) + d)) (by omega) (by omega) dR_place_15 ?_
  refine tp_n (e2 := 9138 - rk (mp a b d)) hk ?_
  exact ct_iret X hst ⟨rfl, rfl⟩ (by omega) (by omega) dR_place_16

set_option maxHeartbeats 4000000 in
set_option maxRecDepth 100000 in
theorem c_R_exponent (l : Launch) (D : va_G) (Y : Nat → ClassId) (lo : Nat) {M : Hm} {ma p rf th : Nat} {E : Nat → Nat} {c : Nat → Nat → Nat} (hm : mo Y M ma E p rf th c) {k v : Nat} (hk : k < 9139) (hv : v < 3) : ct l D Y lo y_R_exponent b_R_exponent 3 (some .int) 0 [.ref ma, .int (nI k), .int (nI v)] M (fun r M' => r = some (.int (nI (xe (pl k) v))) ∧ M = M') nx 0 0 := by
  refine ct_of (by decide) (Nat.le_of_ble_eq_true rfl) ?_
  intro pg eg sg mg bw mt cg ls X hst hl
  have X1 := X
  obtain ⟨hx, hb, hml, hrt, hlocks, hown, hnm, hts, hkz, hex⟩ := X1
  have hG : ∀ w ∈ GW, w.before _ sg = true := fun w h => hts w (List.mem_cons_of_mem _ h)
  have hK := hkz.1
  have hl : lv_has ls 3 [(0, .ref ma), (1, .int (nI k)), (2, .int (nI v))] := hl
  have hk9 := hm.ex hk hv
  refine lv_aload_n hx hb dR_exponent_0 rfl (lv_at hl 0 rfl) ?_
  refine hp_get hx hb hG in_R hown hK hst hm.ob rfl 3 (by decide) (hG _ fl_R_7) rfl rfl dR_exponent_1 ?_
  refine lv_iconst (v := nI 3) hx hb dR_exponent_4 (by decide +kernel) ?_
  refine lv_iload_n hx hb dR_exponent_5 rfl (lv_at hl 1 rfl) ?_
  refine t_imul hx hb dR_exponent_6 (v := nI (3 * k)) (pk_mul _ _) ?_
  refine lv_iload_n hx hb dR_exponent_7 rfl (lv_at hl 2 rfl) ?_
  refine t_iadd hx hb dR_exponent_8 (v := nI ((3 * k) + v)) (nI_add _ _) ?_
  refine hp_iald hx hb hK rfl hst hm.a1 (j := ((3 * k) + v)) (by omega) (by omega) dR_exponent_9 ?_
  refine tp_n (e2 := xe (pl k) v) hk9 ?_
  exact ct_iret X hst ⟨rfl, rfl⟩ (by omega) (by omega) dR_exponent_10

set_option maxHeartbeats 4000000 in
set_option maxRecDepth 100000 in
theorem c_R_load (l : Launch) (D : va_G) (Y : Nat → ClassId) (lo : Nat) {M : Hm} {ma p rf th : Nat} {E : Nat → Nat} {c : Nat → Nat → Nat} (hm : mo Y M ma E p rf th c) {r : Nat} (hr : r < 12) {j : Nat} (hj1 : 4 ≤ j) (hj2 : j ≤ 9) : ct l D Y lo y_R_load b_R_load 4 none 0 [.ref ma, .int (nI r), .ref (E j)] M (fun r9 M' => ∃ c' : Nat → Nat → Nat, r9 = none ∧ mo Y M' ma E p rf th c' ∧ (∀ i, i ≠ j → c' i = c i) ∧ (∀ k, k < 9139 → c' j k = c 3 (9139 * r + k)) ∧ hp_off (fun i => i = 1000) M M') nx 0 0 := by
  refine ct_of (by decide) (Nat.le_of_ble_eq_true rfl) ?_
  intro pg eg sg mg bw mt cg ls X hst hl
  have X1 := X
  obtain ⟨hx, hb, hml, hrt, hlocks, hown, hnm, hts, hkz, hex⟩ := X1
  have hG : ∀ w ∈ GW, w.before _ sg = true := fun w h => hts w (List.mem_cons_of_mem _ h)
  have hK := hkz.1
  have hl : lv_has ls 4 [(0, .ref ma), (1, .int (nI r)), (2, .ref (E j))] := hl
  refine lv_iconst (v := nI 0) hx hb dR_load_0 (by decide +kernel) ?_
  refine lv_istore_n (lv' := [(3, .int (nI 0)), (0, .ref ma), (1, .int (nI r)), (2, .ref (E j))]) hx hb dR_load_1 rfl hl (by decide) rfl (fun ls hl => ?_)
  have LP : ∀ (kk : Nat) (k : Nat) (c1 : Nat → Nat → Nat) (M1 : Hm) (H : Heap) (locs : List Loc) (ls : Array Slot), kk = 9139 - k → (k ≤ 9139) → (mo Y M1 ma E p rf th c1) → (∀ i, i ≠ j → c1 i = c i) → (∀ i, i < k → c1 j i = c 3 (9139 * r + i)) → (hp_off (fun i => i = 1000) M M1) → hp_st D vC lo M1 sg.heap H locs → lv_has ls 4 [(0, .ref ma), (1, .int (nI r)), (2, .ref (E j)), (3, .int (nI k))] → cW pg l eg sg mg [.ref ma, .int (nI r), .ref (E j)] bw mt cg y_R_load b_R_load 4 none 0 D lo (fun r9 M' => ∃ c' : Nat → Nat → Nat, r9 = none ∧ mo Y M' ma E p rf th c' ∧ (∀ i, i ≠ j → c' i = c i) ∧ (∀ k, k < 9139 → c' j k = c 3 (9139 * r + k)) ∧ hp_off (fun i => i = 1000) M M') nx 0 0 H locs 0 0 (F0 mg 2 ls []) := by
    intro kk
    induction kk using Nat.strongRecOn with
    | _ kk ihLP =>
    intro k c1 M1 H locs ls hkk hk9 hm hsm hv ho hst hl
    have h3 : c1 3 = c 3 := hsm 3 (by omega)
    refine lv_iload_n hx hb dR_load_2 rfl (lv_at hl 3 rfl) ?_
    refine lv_sipush (v := nI 9139) hx hb dR_load_3 (by decide +kernel) ?_
    refine lv_icmp_ge hx hb dR_load_6 (tgt := 30) rfl (fun hc => ?_) (fun hc => ?_)
    · skip
      have hc5 : 9139 ≤ k := (nI_leI (by omega) (by omega)).mp hc
      exact ct_vret X hst ⟨c1, rfl, hm, hsm, fun k hk => hv k (by omega), ho⟩ (by omega) (by omega) dR_load_30
    · skip
      have hc5 : ¬ 9139 ≤ k := fun z => hc ((nI_leI (by omega) (by omega)).mpr z)
      refine lv_aload_n hx hb dR_load_9 rfl (lv_at hl 2 rfl) ?_
      refine lv_iload_n hx hb dR_load_10 rfl (lv_at hl 3 rfl) ?_
      refine lv_aload_n hx hb dR_load_11 rfl (lv_at hl 0 rfl) ?_
      refine hp_get hx hb hG in_R hown hK hst hm.ob rfl 5 (by decide) (hG _ fl_R_18) rfl rfl dR_load_12 ?_
      refine lv_sipush (v := nI 9139) hx hb dR_load_15 (by decide +kernel) ?_
      refine lv_iload_n hx hb dR_load_18 rfl (lv_at hl 1 rfl) ?_
      refine t_imul hx hb dR_load_19 (v := nI (9139 * r)) (pk_mul _ _) ?_
      refine lv_iload_n hx hb dR_load_20 rfl (lv_at hl 3 rfl) ?_
      refine t_iadd hx hb dR_load_21 (v := nI ((9139 * r) + k)) (nI_add _ _) ?_
      refine hp_iald hx hb hK rfl hst hm.a3 (j := ((9139 * r) + k)) (by omega) (by omega) dR_load_22 ?_
      refine tp_n (e2 := c 3 (9139 * r + k)) (by rw [h3]) ?_
      refine hp_iast hx hb hK rfl hst (hm.rw hj1 hj2) (j := k) (v := (c 3 (9139 * r + k))) (by omega) (by omega) dR_load_23 (fun H locs hst => ?_)
      obtain ⟨hm1, hs2⟩ := hm.sr (j := j) hj1 hj2 (va_up (c1 j) k (c 3 (9139 * r + k)))
      generalize hp_up M1 (E j) ((1000, j), e_n Y 9139 (va_up (c1 j) k (c 3 (9139 * r + k)))) = M3 at hst hm1 hs2
      have ho4 := ho.tr hs2
      refine lv_iinc (lv' := [(3, .int (nI (k + 1))), (0, .ref ma), (1, .int (nI r)), (2, .ref (E j))]) hx hb dR_load_24 hl (k := 3) rfl (ii_p _) (by decide) rfl (fun ls hl => ?_)
      refine lv_goto hx hb dR_load_27 (tgt := 2) rfl ?_
      exact ihLP _ (by omega) (k + 1) (va_up c1 j (va_up (c1 j) k (c 3 (9139 * r + k)))) M3 _ _ _ rfl (by omega) hm1 (fun i hi => by rw [va_up_ne _ _ hi]; exact hsm i hi) (fun i hi => by
          rw [va_up_self]
          by_cases h9 : i = k
          · subst h9; exact va_up_self _ _ _
          · rw [va_up_ne _ _ h9]; exact hv i (by omega)) ho4 hst (lv_sub hl [1, 2, 3, 0] rfl)
  exact LP _ 0 c M _ _ _ rfl (by omega) hm (fun i hi => rfl) (fun i hi => by omega) hp_off.rf hst (lv_sub hl [1, 2, 3, 0] rfl)

set_option maxHeartbeats 4000000 in
set_option maxRecDepth 100000 in
theorem c_R_keep (l : Launch) (D : va_G) (Y : Nat → ClassId) (lo : Nat) {M : Hm} {ma p rf th : Nat} {E : Nat → Nat} {c : Nat → Nat → Nat} (hm : mo Y M ma E p rf th c) {r : Nat} (hr : r < 12) {j : Nat} (hj1 : 4 ≤ j) (hj2 : j ≤ 9) : ct l D Y lo y_R_keep b_R_keep 4 none 0 [.ref ma, .int (nI r), .ref (E j)] M (fun r9 M' => ∃ c' : Nat → Nat → Nat, r9 = none ∧ mo Y M' ma E p rf th c' ∧ (∀ i, i ≠ 3 → c' i = c i) ∧ (∀ k, k < 9139 → c' 3 (9139 * r + k) = c j k) ∧ (∀ i, (i < 9139 * r ∨ 9139 * r + 9139 ≤ i) → c' 3 i = c 3 i) ∧ hp_off (fun i => i = 1000) M M') nx 0 0 := by
  refine ct_of (by decide) (Nat.le_of_ble_eq_true rfl) ?_
  intro pg eg sg mg bw mt cg ls X hst hl
  have X1 := X
  obtain ⟨hx, hb, hml, hrt, hlocks, hown, hnm, hts, hkz, hex⟩ := X1
  have hG : ∀ w ∈ GW, w.before _ sg = true := fun w h => hts w (List.mem_cons_of_mem _ h)
  have hK := hkz.1
  have hl : lv_has ls 4 [(0, .ref ma), (1, .int (nI r)), (2, .ref (E j))] := hl
  refine lv_iconst (v := nI 0) hx hb dR_keep_0 (by decide +kernel) ?_
  refine lv_istore_n (lv' := [(3, .int (nI 0)), (0, .ref ma), (1, .int (nI r)), (2, .ref (E j))]) hx hb dR_keep_1 rfl hl (by decide) rfl (fun ls hl => ?_)
  have LP : ∀ (kk : Nat) (k : Nat) (c1 : Nat → Nat → Nat) (M1 : Hm) (H : Heap) (locs : List Loc) (ls : Array Slot), kk = 9139 - k → (k ≤ 9139) → (mo Y M1 ma E p rf th c1) → (∀ i, i ≠ 3 → c1 i = c i) → (∀ i, i < k → c1 3 (9139 * r + i) = c j i) → (∀ i, (i < 9139 * r ∨ 9139 * r + 9139 ≤ i) → c1 3 i = c 3 i) → (hp_off (fun i => i = 1000) M M1) → hp_st D vC lo M1 sg.heap H locs → lv_has ls 4 [(0, .ref ma), (1, .int (nI r)), (2, .ref (E j)), (3, .int (nI k))] → cW pg l eg sg mg [.ref ma, .int (nI r), .ref (E j)] bw mt cg y_R_keep b_R_keep 4 none 0 D lo (fun r9 M' => ∃ c' : Nat → Nat → Nat, r9 = none ∧ mo Y M' ma E p rf th c' ∧ (∀ i, i ≠ 3 → c' i = c i) ∧ (∀ k, k < 9139 → c' 3 (9139 * r + k) = c j k) ∧ (∀ i, (i < 9139 * r ∨ 9139 * r + 9139 ≤ i) → c' 3 i = c 3 i) ∧ hp_off (fun i => i = 1000) M M') nx 0 0 H locs 0 0 (F0 mg 2 ls []) := by
    intro kk
    induction kk using Nat.strongRecOn with
    | _ kk ihLP =>
    intro k c1 M1 H locs ls hkk hk9 hm hsm hv hn ho hst hl
    have h3 : c1 j = c j := hsm j (by omega)
    refine lv_iload_n hx hb dR_keep_2 rfl (lv_at hl 3 rfl) ?_
    refine lv_sipush (v := nI 9139) hx hb dR_keep_3 (by decide +kernel) ?_
    refine lv_icmp_ge hx hb dR_keep_6 (tgt := 30) rfl (fun hc => ?_) (fun hc => ?_)
    · skip
      have hc5 : 9139 ≤ k := (nI_leI (by omega) (by omega)).mp hc
      exact ct_vret X hst ⟨c1, rfl, hm, hsm, fun k hk => hv k (by omega), hn, ho⟩ (by omega) (by omega) dR_keep_30
    · skip
      have hc5 : ¬ 9139 ≤ k := fun z => hc ((nI_leI (by omega) (by omega)).mpr z)
      refine lv_aload_n hx hb dR_keep_9 rfl (lv_at hl 0 rfl) ?_
      refine hp_get hx hb hG in_R hown hK hst hm.ob rfl 5 (by decide) (hG _ fl_R_18) rfl rfl dR_keep_10 ?_
      refine lv_sipush (v := nI 9139) hx hb dR_keep_13 (by decide +kernel) ?_
      refine lv_iload_n hx hb dR_keep_16 rfl (lv_at hl 1 rfl) ?_
      refine t_imul hx hb dR_keep_17 (v := nI (9139 * r)) (pk_mul _ _) ?_
      refine lv_iload_n hx hb dR_keep_18 rfl (lv_at hl 3 rfl) ?_
      refine t_iadd hx hb dR_keep_19 (v := nI ((9139 * r) + k)) (nI_add _ _) ?_
      refine lv_aload_n hx hb dR_keep_20 rfl (lv_at hl 2 rfl) ?_
      refine lv_iload_n hx hb dR_keep_21 rfl (lv_at hl 3 rfl) ?_
      refine hp_iald hx hb hK rfl hst (hm.rw hj1 hj2) (j := k) (by omega) (by omega) dR_keep_22 ?_
      refine tp_n (e2 := c j k) (by rw [h3]) ?_
      refine hp_iast hx hb hK rfl hst hm.a3 (j := ((9139 * r) + k)) (v := (c j k)) (by omega) (by omega) dR_keep_23 (fun H locs hst => ?_)
      obtain ⟨hm1, hs2⟩ := hm.s3 (va_up (c1 3) ((9139 * r) + k) (c j k))
      generalize hp_up M1 (E 3) ((1000, 3), e_n Y 109668 (va_up (c1 3) ((9139 * r) + k) (c j k))) = M3 at hst hm1 hs2
      have ho4 := ho.tr hs2
      refine lv_iinc (lv' := [(3, .int (nI (k + 1))), (0, .ref ma), (1, .int (nI r)), (2, .ref (E j))]) hx hb dR_keep_24 hl (k := 3) rfl (ii_p _) (by decide) rfl (fun ls hl => ?_)
      refine lv_goto hx hb dR_keep_27 (tgt := 2) rfl ?_
      exact ihLP _ (by omega) (k + 1) (va_up c1 3 (va_up (c1 3) ((9139 * r) + k) (c j k))) M3 _ _ _ rfl (by omega) hm1 (fun i hi => by rw [va_up_ne _ _ hi]; exact hsm i hi) (fun i hi => by
          rw [va_up_self]
          by_cases h9 : i = k
          · subst h9; exact va_up_self _ _ _
          · rw [va_up_ne _ _ (by omega)]; exact hv i (by omega)) (fun i hi => by
          rw [va_up_self, va_up_ne _ _ (by omega)]
          exact hn i hi) ho4 hst (lv_sub hl [1, 2, 3, 0] rfl)
  exact LP _ 0 c M _ _ _ rfl (by omega) hm (fun i hi => rfl) (fun i hi => by omega) (fun i hi => rfl) hp_off.rf hst (lv_sub hl [1, 2, 3, 0] rfl)

set_option maxHeartbeats 4000000 in
set_option maxRecDepth 100000 in
theorem c_R_clear (l : Launch) (D : va_G) (Y : Nat → ClassId) (lo : Nat) {M : Hm} {ma p rf th : Nat} {E : Nat → Nat} {c : Nat → Nat → Nat} (hm : mo Y M ma E p rf th c) {j : Nat} (hj1 : 4 ≤ j) (hj2 : j ≤ 9) : ct l D Y lo y_R_clear b_R_clear 2 none 0 [.ref (E j)] M (fun r9 M' => ∃ c' : Nat → Nat → Nat, r9 = none ∧ mo Y M' ma E p rf th c' ∧ (∀ i, i ≠ j → c' i = c i) ∧ (∀ k, k < 9139 → c' j k = 0) ∧ hp_off (fun i => i = 1000) M M') nx 0 0 := by
  refine ct_of (by decide) (Nat.le_of_ble_eq_true rfl) ?_
  intro pg eg sg mg bw mt cg ls X hst hl
  have X1 := X
  obtain ⟨hx, hb, hml, hrt, hlocks, hown, hnm, hts, hkz, hex⟩ := X1
  have hG : ∀ w ∈ GW, w.before _ sg = true := fun w h => hts w (List.mem_cons_of_mem _ h)
  have hK := hkz.1
  have hl : lv_has ls 2 [(0, .ref (E j))] := hl
  refine lv_iconst (v := nI 0) hx hb dR_clear_0 (by decide +kernel) ?_
  refine lv_istore_n (lv' := [(1, .int (nI 0)), (0, .ref (E j))]) hx hb dR_clear_1 rfl hl (by decide) rfl (fun ls hl => ?_)
  have LP : ∀ (kk : Nat) (k : Nat) (c1 : Nat → Nat → Nat) (M1 : Hm) (H : Heap) (locs : List Loc) (ls : Array Slot), kk = 9139 - k → (k ≤ 9139) → (mo Y M1 ma E p rf th c1) → (∀ i, i ≠ j → c1 i = c i) → (∀ i, i < k → c1 j i = 0) → (hp_off (fun i => i = 1000) M M1) → hp_st D vC lo M1 sg.heap H locs → lv_has ls 2 [(0, .ref (E j)), (1, .int (nI k))] → cW pg l eg sg mg [.ref (E j)] bw mt cg y_R_clear b_R_clear 2 none 0 D lo (fun r9 M' => ∃ c' : Nat → Nat → Nat, r9 = none ∧ mo Y M' ma E p rf th c' ∧ (∀ i, i ≠ j → c' i = c i) ∧ (∀ k, k < 9139 → c' j k = 0) ∧ hp_off (fun i => i = 1000) M M') nx 0 0 H locs 0 0 (F0 mg 2 ls []) := by
    intro kk
    induction kk using Nat.strongRecOn with
    | _ kk ihLP =>
    intro k c1 M1 H locs ls hkk hk9 hm hsm hv ho hst hl
    refine lv_iload_n hx hb dR_clear_2 rfl (lv_at hl 1 rfl) ?_
    refine lv_aload_n hx hb dR_clear_3 rfl (lv_at hl 0 rfl) ?_
    refine hp_alen hx hb hK rfl hst (hm.rw hj1 hj2) dR_clear_4 ?_
    refine lv_icmp_ge hx hb dR_clear_5 (tgt := 18) rfl (fun hc => ?_) (fun hc => ?_)
    · skip
      have hc5 : 9139 ≤ k := (nI_leI (by omega) (by omega)).mp hc
      exact ct_vret X hst ⟨c1, rfl, hm, hsm, fun k hk => hv k (by omega), ho⟩ (by omega) (by omega) dR_clear_18
    · skip
      have hc5 : ¬ 9139 ≤ k := fun z => hc ((nI_leI (by omega) (by omega)).mpr z)
      refine lv_aload_n hx hb dR_clear_8 rfl (lv_at hl 0 rfl) ?_
      refine lv_iload_n hx hb dR_clear_9 rfl (lv_at hl 1 rfl) ?_
      refine lv_iconst (v := nI 0) hx hb dR_clear_10 (by decide +kernel) ?_
      refine hp_iast hx hb hK rfl hst (hm.rw hj1 hj2) (j := k) (v := 0) (by omega) (by omega) dR_clear_11 (fun H locs hst => ?_)
      obtain ⟨hm1, hs2⟩ := hm.sr (j := j) hj1 hj2 (va_up (c1 j) k 0)
      generalize hp_up M1 (E j) ((1000, j), e_n Y 9139 (va_up (c1 j) k 0)) = M3 at hst hm1 hs2
      have ho4 := ho.tr hs2
      refine lv_iinc (lv' := [(1, .int (nI (k + 1))), (0, .ref (E j))]) hx hb dR_clear_12 hl (k := 1) rfl (ii_p _) (by decide) rfl (fun ls hl => ?_)
      refine lv_goto hx hb dR_clear_15 (tgt := 2) rfl ?_
      exact ihLP _ (by omega) (k + 1) (va_up c1 j (va_up (c1 j) k 0)) M3 _ _ _ rfl (by omega) hm1 (fun i hi => by rw [va_up_ne _ _ hi]; exact hsm i hi) (fun i hi => by
          rw [va_up_self]
          by_cases h9 : i = k
          · subst h9; exact va_up_self _ _ _
          · rw [va_up_ne _ _ h9]; exact hv i (by omega)) ho4 hst (lv_sub hl [1, 0] rfl)
  exact LP _ 0 c M _ _ _ rfl (by omega) hm (fun i hi => rfl) (fun i hi => by omega) hp_off.rf hst (lv_sub hl [1, 0] rfl)

set_option maxHeartbeats 4000000 in
set_option maxRecDepth 100000 in
theorem c_R_copy (l : Launch) (D : va_G) (Y : Nat → ClassId) (lo : Nat) {M : Hm} {ma p rf th : Nat} {E : Nat → Nat} {c : Nat → Nat → Nat} (hm : mo Y M ma E p rf th c) {j : Nat} (hj1 : 4 ≤ j) (hj2 : j ≤ 9) {i : Nat} (hi1 : 4 ≤ i) (hi2 : i ≤ 9) (hij : i ≠ j) : ct l D Y lo y_R_copy b_R_copy 3 none 0 [.ref (E i), .ref (E j)] M (fun r9 M' => ∃ c' : Nat → Nat → Nat, r9 = none ∧ mo Y M' ma E p rf th c' ∧ (∀ i, i ≠ j → c' i = c i) ∧ (∀ k, k < 9139 → c' j k = c i k) ∧ hp_off (fun i => i = 1000) M M') nx 0 0 := by
  refine ct_of (by decide) (Nat.le_of_ble_eq_true rfl) ?_
  intro pg eg sg mg bw mt cg ls X hst hl
  have X1 := X
  obtain ⟨hx, hb, hml, hrt, hlocks, hown, hnm, hts, hkz, hex⟩ := X1
  have hG : ∀ w ∈ GW, w.before _ sg = true := fun w h => hts w (List.mem_cons_of_mem _ h)
  have hK := hkz.1
  have hl : lv_has ls 3 [(0, .ref (E i)), (1, .ref (E j))] := hl
  refine lv_iconst (v := nI 0) hx hb dR_copy_0 (by decide +kernel) ?_
  refine lv_istore_n (lv' := [(2, .int (nI 0)), (0, .ref (E i)), (1, .ref (E j))]) hx hb dR_copy_1 rfl hl (by decide) rfl (fun ls hl => ?_)
  have LP : ∀ (kk : Nat) (k : Nat) (c1 : Nat → Nat → Nat) (M1 : Hm) (H : Heap) (locs : List Loc) (ls : Array Slot), kk = 9139 - k → (k ≤ 9139) → (mo Y M1 ma E p rf th c1) → (∀ i, i ≠ j → c1 i = c i) → (∀ z, z < k → c1 j z = c i z) → (hp_off (fun i => i = 1000) M M1) → hp_st D vC lo M1 sg.heap H locs → lv_has ls 3 [(0, .ref (E i)), (1, .ref (E j)), (2, .int (nI k))] → cW pg l eg sg mg [.ref (E i), .ref (E j)] bw mt cg y_R_copy b_R_copy 3 none 0 D lo (fun r9 M' => ∃ c' : Nat → Nat → Nat, r9 = none ∧ mo Y M' ma E p rf th c' ∧ (∀ i, i ≠ j → c' i = c i) ∧ (∀ k, k < 9139 → c' j k = c i k) ∧ hp_off (fun i => i = 1000) M M') nx 0 0 H locs 0 0 (F0 mg 2 ls []) := by
    intro kk
    induction kk using Nat.strongRecOn with
    | _ kk ihLP =>
    intro k c1 M1 H locs ls hkk hk9 hm hsm hv ho hst hl
    have h3 : c1 i = c i := hsm i hij
    refine lv_iload_n hx hb dR_copy_2 rfl (lv_at hl 2 rfl) ?_
    refine lv_aload_n hx hb dR_copy_3 rfl (lv_at hl 0 rfl) ?_
    refine hp_alen hx hb hK rfl hst (hm.rw hi1 hi2) dR_copy_4 ?_
    refine lv_icmp_ge hx hb dR_copy_5 (tgt := 20) rfl (fun hc => ?_) (fun hc => ?_)
    · skip
      have hc5 : 9139 ≤ k := (nI_leI (by omega) (by omega)).mp hc
      exact ct_vret X hst ⟨c1, rfl, hm, hsm, fun k hk => hv k (by omega), ho⟩ (by omega) (by omega) dR_copy_20
    · skip
      have hc5 : ¬ 9139 ≤ k := fun z => hc ((nI_leI (by omega) (by omega)).mpr z)
      refine lv_aload_n hx hb dR_copy_8 rfl (lv_at hl 1 rfl) ?_
      refine lv_iload_n hx hb dR_copy_9 rfl (lv_at hl 2 rfl) ?_
      refine lv_aload_n hx hb dR_copy_10 rfl (lv_at hl 0 rfl) ?_
      refine lv_iload_n hx hb dR_copy_11 rfl (lv_at hl 2 rfl) ?_
      refine hp_iald hx hb hK rfl hst (hm.rw hi1 hi2) (j := k) (by omega) (by omega) dR_copy_12 ?_
      refine tp_n (e2 := c i k) (by rw [h3]) ?_
      refine hp_iast hx hb hK rfl hst (hm.rw hj1 hj2) (j := k) (v := (c i k)) (by omega) (by omega) dR_copy_13 (fun H locs hst => ?_)
      obtain ⟨hm1, hs2⟩ := hm.sr (j := j) hj1 hj2 (va_up (c1 j) k (c i k))
      generalize hp_up M1 (E j) ((1000, j), e_n Y 9139 (va_up (c1 j) k (c i k))) = M3 at hst hm1 hs2
      have ho4 := ho.tr hs2
      refine lv_iinc (lv' := [(2, .int (nI (k + 1))), (0, .ref (E i)), (1, .ref (E j))]) hx hb dR_copy_14 hl (k := 2) rfl (ii_p _) (by decide) rfl (fun ls hl => ?_)
      refine lv_goto hx hb dR_copy_17 (tgt := 2) rfl ?_
      exact ihLP _ (by omega) (k + 1) (va_up c1 j (va_up (c1 j) k (c i k))) M3 _ _ _ rfl (by omega) hm1 (fun i hi => by rw [va_up_ne _ _ hi]; exact hsm i hi) (fun z hz => by
          rw [va_up_self]
          by_cases h9 : z = k
          · subst h9; exact va_up_self _ _ _
          · rw [va_up_ne _ _ h9]; exact hv z (by omega)) ho4 hst (lv_sub hl [1, 2, 0] rfl)
  exact LP _ 0 c M _ _ _ rfl (by omega) hm (fun i hi => rfl) (fun i hi => by omega) hp_off.rf hst (lv_sub hl [1, 2, 0] rfl)

abbrev rp (g : Nat → Nat) (h : Pf) : Prop := ∀ k, k < 9139 → g k = h (pl k)
theorem mxn {a b : Nat} : (if b < a then a else b) = max b a := by
  by_cases h : b < a
  · rw [if_pos h, Nat.max_eq_right (by omega)]
  · rw [if_neg h, Nat.max_eq_left (by omega)]

set_option maxHeartbeats 4000000 in
set_option maxRecDepth 100000 in
theorem c_R_degreeOf (l : Launch) (D : va_G) (Y : Nat → ClassId) (lo : Nat) {M : Hm} {ma p rf th : Nat} {E : Nat → Nat} {c : Nat → Nat → Nat} (hm : mo Y M ma E p rf th c) {j : Nat} (hj1 : 4 ≤ j) (hj2 : j ≤ 9) {h : Pf} (hrp : rp (c j) h) (hh : ∀ m, h m < 2 ^ 31) {v : Nat} (hv : v < 3) : ct l D Y lo y_R_degreeOf b_R_degreeOf 5 (some .int) 1 [.ref ma, .ref (E j), .int (nI v)] M (fun r9 M' => r9 = some (.int (nI (dgl v (tp h) 0))) ∧ M = M') nx 0 0 := by
  refine ct_of (by decide) (Nat.le_of_ble_eq_true rfl) ?_
  intro pg eg sg mg bw mt cg ls X hst hl
  have X1 := X
  obtain ⟨hx, hb, hml, hrt, hlocks, hown, hnm, hts, hkz, hex⟩ := X1
  have hG : ∀ w ∈ GW, w.before _ sg = true := fun w h => hts w (List.mem_cons_of_mem _ h)
  have hK := hkz.1
  have hl : lv_has ls 5 [(0, .ref ma), (1, .ref (E j)), (2, .int (nI v))] := hl
  refine lv_iconst (v := nI 0) hx hb dR_degreeOf_0 (by decide +kernel) ?_
  refine lv_istore_n (lv' := [(3, .int (nI 0)), (0, .ref ma), (1, .ref (E j)), (2, .int (nI v))]) hx hb dR_degreeOf_1 rfl hl (by decide) rfl (fun ls hl => ?_)
  refine lv_iconst (v := nI 0) hx hb dR_degreeOf_2 (by decide +kernel) ?_
  refine lv_istore (lv' := [(4, .int (nI 0)), (3, .int (nI 0)), (0, .ref ma), (1, .ref (E j)), (2, .int (nI v))]) hx hb dR_degreeOf_3 hl (by decide) rfl (fun ls hl => ?_)
  have LP : ∀ (kk : Nat) (g k : Nat) (H : Heap) (locs : List Loc) (ls : Array Slot), kk = 9139 - k → (k ≤ 9139) → (g < 64) → (dgl v (td h (9139 - k)) g = dgl v (tp h) 0) → hp_st D vC lo M sg.heap H locs → lv_has ls 5 [(0, .ref ma), (1, .ref (E j)), (2, .int (nI v)), (3, .int (nI g)), (4, .int (nI k))] → cW pg l eg sg mg [.ref ma, .ref (E j), .int (nI v)] bw mt cg y_R_degreeOf b_R_degreeOf 5 (some .int) 1 D lo (fun r9 M' => r9 = some (.int (nI (dgl v (tp h) 0))) ∧ M = M') nx 0 0 H locs 0 0 (F0 mg 5 ls []) := by
    intro kk
    induction kk using Nat.strongRecOn with
    | _ kk ihLP =>
    intro g k H locs ls hkk hk9 hg hinv hst hl
    have hgl := dgl_lt (v := v) (g := g) (L := td h (9139 - k)) hg
    refine lv_iload hx hb dR_degreeOf_5 (lv_at hl 4 rfl) ?_
    refine lv_sipush (v := nI 9139) hx hb dR_degreeOf_7 (by decide +kernel) ?_
    refine lv_icmp_ge hx hb dR_degreeOf_10 (tgt := 49) rfl (fun hc => ?_) (fun hc => ?_)
    · skip
      have hc5 : 9139 ≤ k := (nI_leI (by omega) (by omega)).mp hc
      have hk : k = 9139 := by omega
      rw [hk] at hinv
      refine lv_iload_n hx hb dR_degreeOf_49 rfl (lv_at hl 3 rfl) ?_
      exact ct_iret X hst ⟨by rw [← hinv]; rfl, rfl⟩ (by omega) (by omega) dR_degreeOf_50
    · skip
      have hc5 : ¬ 9139 ≤ k := fun z => hc ((nI_leI (by omega) (by omega)).mpr z)
      have hxl := xe_lt (pl k) v
      have hrk := hrp k (by omega)
      have hhk := hh (pl k)
      refine lv_aload_n hx hb dR_degreeOf_13 rfl (lv_at hl 1 rfl) ?_
      refine lv_iload hx hb dR_degreeOf_14 (lv_at hl 4 rfl) ?_
      refine hp_iald hx hb hK rfl hst (hm.rw hj1 hj2) (j := k) (by omega) (by omega) dR_degreeOf_16 ?_
      refine tp_n (e2 := h (pl k)) hrk ?_
      refine lv_if_eq hx hb dR_degreeOf_17 (tgt := 41) rfl (fun hc => ?_) (fun hc => ?_)
      · skip
        rw [← nI_0] at hc
        have hcz : (h (pl k)) = 0 := (nI_eq (by omega) (by omega)).mp hc
        refine lv_iload_n hx hb dR_degreeOf_41 rfl (lv_at hl 3 rfl) ?_
        refine lv_istore_n (lv' := [(3, .int (nI g)), (0, .ref ma), (1, .ref (E j)), (2, .int (nI v)), (4, .int (nI k))]) hx hb dR_degreeOf_42 rfl hl (by decide) rfl (fun ls hl => ?_)
        refine lv_iinc (lv' := [(4, .int (nI (k + 1))), (3, .int (nI g)), (0, .ref ma), (1, .ref (E j)), (2, .int (nI v))]) hx hb dR_degreeOf_43 hl (k := 4) rfl (ii_p _) (by decide) rfl (fun ls hl => ?_)
        refine lv_goto hx hb dR_degreeOf_46 (tgt := 5) rfl ?_
        exact ihLP _ (by omega) g (k + 1) _ _ _ rfl (by omega) hg (by rw [td_pl_n (by omega) hcz] at hinv; exact hinv) hst (lv_sub hl [2, 3, 4, 1, 0] rfl)
      · skip
        rw [← nI_0] at hc
        have hcz : ¬ (h (pl k)) = 0 := fun z => hc ((nI_eq (by omega) (by omega)).mpr z)
        rw [td_pl_y (by omega) hcz] at hinv
        have hinv : dgl v (td h (9139 - (k + 1))) (max g (xe (pl k) v)) = dgl v (tp h) 0 := hinv
        refine lv_aload_n hx hb dR_degreeOf_20 rfl (lv_at hl 0 rfl) ?_
        refine lv_iload hx hb dR_degreeOf_21 (lv_at hl 4 rfl) ?_
        refine lv_iload_n hx hb dR_degreeOf_23 rfl (lv_at hl 2 rfl) ?_
        refine ct_callV (av2 := [.int (nI k), .int (nI v)]) (rest := []) (b := ma) X hst (c_R_exponent l D Y lo hm (k := k) (v := v) (by omega) hv) hm.ob rfl wc_R_exponent ml_R_58 wi_R_exponent wl_R_exponent wn_R md_R_exponent (by decide) hl.1 rfl (Nat.le_of_ble_eq_true rfl) ⟨by omega, by omega⟩ (fun _ _ h => h.elim) dR_degreeOf_24 (fun r M' H locs hp hst => ?_)
        obtain ⟨rfl, rfl⟩ := hp
        refine lv_iload_n hx hb dR_degreeOf_27 rfl (lv_at hl 3 rfl) ?_
        refine lv_icmp_le hx hb dR_degreeOf_28 (tgt := 41) rfl (fun hc => ?_) (fun hc => ?_)
        · skip
          have hcm : (xe (pl k) v) ≤ g := (nI_leI (by omega) (by omega)).mp hc
          refine lv_iload_n hx hb dR_degreeOf_41 rfl (lv_at hl 3 rfl) ?_
          refine lv_istore_n (lv' := [(3, .int (nI g)), (0, .ref ma), (1, .ref (E j)), (2, .int (nI v)), (4, .int (nI k))]) hx hb dR_degreeOf_42 rfl hl (by decide) rfl (fun ls hl => ?_)
          refine lv_iinc (lv' := [(4, .int (nI (k + 1))), (3, .int (nI g)), (0, .ref ma), (1, .ref (E j)), (2, .int (nI v))]) hx hb dR_degreeOf_43 hl (k := 4) rfl (ii_p _) (by decide) rfl (fun ls hl => ?_)
          refine lv_goto hx hb dR_degreeOf_46 (tgt := 5) rfl ?_
          exact ihLP _ (by omega) g (k + 1) _ _ _ rfl (by omega) hg (by rw [Nat.max_eq_left (by omega)] at hinv; exact hinv) hst (lv_sub hl [2, 3, 4, 1, 0] rfl)
        · skip
          have hcm : ¬ (xe (pl k) v) ≤ g := fun z => hc ((nI_leI (by omega) (by omega)).mpr z)
          refine lv_aload_n hx hb dR_degreeOf_31 rfl (lv_at hl 0 rfl) ?_
          refine lv_iload hx hb dR_degreeOf_32 (lv_at hl 4 rfl) ?_
          refine lv_iload_n hx hb dR_degreeOf_34 rfl (lv_at hl 2 rfl) ?_
          refine ct_callV (av2 := [.int (nI k), .int (nI v)]) (rest := []) (b := ma) X hst (c_R_exponent l D Y lo hm (k := k) (v := v) (by omega) hv) hm.ob rfl wc_R_exponent ml_R_58 wi_R_exponent wl_R_exponent wn_R md_R_exponent (by decide) hl.1 rfl (Nat.le_of_ble_eq_true rfl) ⟨by omega, by omega⟩ (fun _ _ h => h.elim) dR_degreeOf_35 (fun r M' H locs hp hst => ?_)
          obtain ⟨rfl, rfl⟩ := hp
          refine lv_goto hx hb dR_degreeOf_38 (tgt := 42) rfl ?_
          refine lv_istore_n (lv' := [(3, .int (nI (xe (pl k) v))), (0, .ref ma), (1, .ref (E j)), (2, .int (nI v)), (4, .int (nI k))]) hx hb dR_degreeOf_42 rfl hl (by decide) rfl (fun ls hl => ?_)
          refine lv_iinc (lv' := [(4, .int (nI (k + 1))), (3, .int (nI (xe (pl k) v))), (0, .ref ma), (1, .ref (E j)), (2, .int (nI v))]) hx hb dR_degreeOf_43 hl (k := 4) rfl (ii_p _) (by decide) rfl (fun ls hl => ?_)
          refine lv_goto hx hb dR_degreeOf_46 (tgt := 5) rfl ?_
          exact ihLP _ (by omega) (xe (pl k) v) (k + 1) _ _ _ rfl (by omega) (by omega) (by rw [Nat.max_eq_right (by omega)] at hinv; exact hinv) hst (lv_sub hl [2, 3, 4, 1, 0] rfl)
  exact LP _ 0 0 _ _ _ rfl (by omega) (by omega) rfl hst (lv_sub hl [2, 3, 4, 1, 0] rfl)

set_option maxHeartbeats 4000000 in
set_option maxRecDepth 100000 in
theorem c_R_isZero (l : Launch) (D : va_G) (Y : Nat → ClassId) (lo : Nat) {M : Hm} {ma p rf th : Nat} {E : Nat → Nat} {c : Nat → Nat → Nat} (hm : mo Y M ma E p rf th c) {j : Nat} (hj1 : 4 ≤ j) (hj2 : j ≤ 9) {h : Pf} (hrp : rp (c j) h) (hh : ∀ m, h m < 2 ^ 31) : ct l D Y lo y_R_isZero b_R_isZero 3 (some .boolean) 0 [.ref (E j)] M (fun r9 M' => ∃ b : Nat, r9 = some (.int (nI b)) ∧ b ≤ 1 ∧ (b = 1 ↔ tp h = []) ∧ M = M') nx 0 0 := by
  refine ct_of (by decide) (Nat.le_of_ble_eq_true rfl) ?_
  intro pg eg sg mg bw mt cg ls X hst hl
  have X1 := X
  obtain ⟨hx, hb, hml, hrt, hlocks, hown, hnm, hts, hkz, hex⟩ := X1
  have hG : ∀ w ∈ GW, w.before _ sg = true := fun w h => hts w (List.mem_cons_of_mem _ h)
  have hK := hkz.1
  have hl : lv_has ls 3 [(0, .ref (E j))] := hl
  refine lv_iconst (v := nI 1) hx hb dR_isZero_0 (by decide +kernel) ?_
  refine lv_istore_n (lv' := [(1, .int (nI 1)), (0, .ref (E j))]) hx hb dR_isZero_1 rfl hl (by decide) rfl (fun ls hl => ?_)
  refine lv_iconst (v := nI 0) hx hb dR_isZero_2 (by decide +kernel) ?_
  refine lv_istore_n (lv' := [(2, .int (nI 0)), (1, .int (nI 1)), (0, .ref (E j))]) hx hb dR_isZero_3 rfl hl (by decide) rfl (fun ls hl => ?_)
  have LP : ∀ (kk : Nat) (b k : Nat) (H : Heap) (locs : List Loc) (ls : Array Slot), kk = 9139 - k → (k ≤ 9139) → (b ≤ 1) → ((b = 1 ∧ td h (9139 - k) = []) ↔ tp h = []) → hp_st D vC lo M sg.heap H locs → lv_has ls 3 [(0, .ref (E j)), (1, .int (nI b)), (2, .int (nI k))] → cW pg l eg sg mg [.ref (E j)] bw mt cg y_R_isZero b_R_isZero 3 (some .boolean) 0 D lo (fun r9 M' => ∃ b : Nat, r9 = some (.int (nI b)) ∧ b ≤ 1 ∧ (b = 1 ↔ tp h = []) ∧ M = M') nx 0 0 H locs 0 0 (F0 mg 4 ls []) := by
    intro kk
    induction kk using Nat.strongRecOn with
    | _ kk ihLP =>
    intro b k H locs ls hkk hk9 hb1 hinv hst hl
    refine lv_iload_n hx hb dR_isZero_4 rfl (lv_at hl 2 rfl) ?_
    refine lv_aload_n hx hb dR_isZero_5 rfl (lv_at hl 0 rfl) ?_
    refine hp_alen hx hb hK rfl hst (hm.rw hj1 hj2) dR_isZero_6 ?_
    refine lv_icmp_ge hx hb dR_isZero_7 (tgt := 32) rfl (fun hc => ?_) (fun hc => ?_)
    · skip
      have hc5 : 9139 ≤ k := (nI_leI (by omega) (by omega)).mp hc
      have hk : k = 9139 := by omega
      rw [hk] at hinv
      refine lv_iload_n hx hb dR_isZero_32 rfl (lv_at hl 1 rfl) ?_
      exact ct_zret X hst (by omega) ⟨b, rfl, hb1, ⟨fun z => hinv.mp ⟨z, rfl⟩, fun z => (hinv.mpr z).1⟩, rfl⟩ (by omega) (by omega) dR_isZero_33
    · skip
      have hc5 : ¬ 9139 ≤ k := fun z => hc ((nI_leI (by omega) (by omega)).mpr z)
      have hrk := hrp k (by omega)
      have hhk := hh (pl k)
      refine lv_iload_n hx hb dR_isZero_10 rfl (lv_at hl 1 rfl) ?_
      refine lv_if_eq hx hb dR_isZero_11 (tgt := 24) rfl (fun hc => ?_) (fun hc => ?_)
      · skip
        rw [← nI_0] at hc
        have hcb : b = 0 := (nI_eq (by omega) (by omega)).mp hc
        refine lv_iconst (v := nI 0) hx hb dR_isZero_24 (by decide +kernel) ?_
        refine lv_istore_n (lv' := [(1, .int (nI 0)), (0, .ref (E j)), (2, .int (nI k))]) hx hb dR_isZero_25 rfl hl (by decide) rfl (fun ls hl => ?_)
        refine lv_iinc (lv' := [(2, .int (nI (k + 1))), (1, .int (nI 0)), (0, .ref (E j))]) hx hb dR_isZero_26 hl (k := 2) rfl (ii_p _) (by decide) rfl (fun ls hl => ?_)
        refine lv_goto hx hb dR_isZero_29 (tgt := 4) rfl ?_
        exact ihLP _ (by omega) 0 (k + 1) _ _ _ rfl (by omega) (by omega) ⟨fun z => absurd z.1 (by omega), fun z => absurd (hinv.mpr z).1 (by omega)⟩ hst (lv_sub hl [2, 1, 0] rfl)
      · skip
        rw [← nI_0] at hc
        have hcb : ¬ b = 0 := fun z => hc ((nI_eq (by omega) (by omega)).mpr z)
        refine lv_aload_n hx hb dR_isZero_14 rfl (lv_at hl 0 rfl) ?_
        refine lv_iload_n hx hb dR_isZero_15 rfl (lv_at hl 2 rfl) ?_
        refine hp_iald hx hb hK rfl hst (hm.rw hj1 hj2) (j := k) (by omega) (by omega) dR_isZero_16 ?_
        refine tp_n (e2 := h (pl k)) hrk ?_
        refine lv_if_ne hx hb dR_isZero_17 (tgt := 24) rfl (fun hc => ?_) (fun hc => ?_)
        · skip
          rw [← nI_0] at hc
          have hcn : ¬ (h (pl k)) = 0 := fun z => hc ((nI_eq (by omega) (by omega)).mpr z)
          refine lv_iconst (v := nI 0) hx hb dR_isZero_24 (by decide +kernel) ?_
          refine lv_istore_n (lv' := [(1, .int (nI 0)), (0, .ref (E j)), (2, .int (nI k))]) hx hb dR_isZero_25 rfl hl (by decide) rfl (fun ls hl => ?_)
          refine lv_iinc (lv' := [(2, .int (nI (k + 1))), (1, .int (nI 0)), (0, .ref (E j))]) hx hb dR_isZero_26 hl (k := 2) rfl (ii_p _) (by decide) rfl (fun ls hl => ?_)
          refine lv_goto hx hb dR_isZero_29 (tgt := 4) rfl ?_
          exact ihLP _ (by omega) 0 (k + 1) _ _ _ rfl (by omega) (by omega) ⟨fun z => absurd z.1 (by omega), fun z => by
              have := (hinv.mpr z).2
              rw [td_pl_y (by omega) hcn] at this
              cases this⟩ hst (lv_sub hl [2, 1, 0] rfl)
        · skip
          rw [← nI_0] at hc
          have hcn : (h (pl k)) = 0 := (nI_eq (by omega) (by omega)).mp hc
          refine lv_iconst (v := nI 1) hx hb dR_isZero_20 (by decide +kernel) ?_
          refine lv_goto hx hb dR_isZero_21 (tgt := 25) rfl ?_
          refine lv_istore_n (lv' := [(1, .int (nI 1)), (0, .ref (E j)), (2, .int (nI k))]) hx hb dR_isZero_25 rfl hl (by decide) rfl (fun ls hl => ?_)
          refine lv_iinc (lv' := [(2, .int (nI (k + 1))), (1, .int (nI 1)), (0, .ref (E j))]) hx hb dR_isZero_26 hl (k := 2) rfl (ii_p _) (by decide) rfl (fun ls hl => ?_)
          refine lv_goto hx hb dR_isZero_29 (tgt := 4) rfl ?_
          exact ihLP _ (by omega) 1 (k + 1) _ _ _ rfl (by omega) (by omega) ⟨fun z => hinv.mp ⟨by omega, by rw [td_pl_n (by omega) hcn]; exact z.2⟩, fun z => ⟨rfl, by rw [← td_pl_n (by omega) hcn]; exact (hinv.mpr z).2⟩⟩ hst (lv_sub hl [2, 1, 0] rfl)
  exact LP _ 1 0 _ _ _ rfl (by omega) (by omega) ⟨fun z => z.2, fun z => ⟨rfl, z⟩⟩ hst (lv_sub hl [2, 1, 0] rfl)

set_option maxHeartbeats 4000000 in
set_option maxRecDepth 100000 in
theorem c_R_counted (l : Launch) (D : va_G) (Y : Nat → ClassId) (lo : Nat) {M : Hm} {ma p rf th : Nat} {E : Nat → Nat} {c : Nat → Nat → Nat} (hm : mo Y M ma E p rf th c) {r : Nat} (hr : r < 12) {h : Pf} (hrp : ∀ k, k < 9139 → c 3 (9139 * r + k) = h (pl k)) (hh : ∀ m, h m < 2 ^ 31) : ct l D Y lo y_R_counted b_R_counted 4 (some .int) 0 [.ref ma, .int (nI r)] M (fun r9 M' => r9 = some (.int (nI (tp h).length)) ∧ M = M') nx 0 0 := by
  refine ct_of (by decide) (Nat.le_of_ble_eq_true rfl) ?_
  intro pg eg sg mg bw mt cg ls X hst hl
  have X1 := X
  obtain ⟨hx, hb, hml, hrt, hlocks, hown, hnm, hts, hkz, hex⟩ := X1
  have hG : ∀ w ∈ GW, w.before _ sg = true := fun w h => hts w (List.mem_cons_of_mem _ h)
  have hK := hkz.1
  have hl : lv_has ls 4 [(0, .ref ma), (1, .int (nI r))] := hl
  refine lv_iconst (v := nI 0) hx hb dR_counted_0 (by decide +kernel) ?_
  refine lv_istore_n (lv' := [(2, .int (nI 0)), (0, .ref ma), (1, .int (nI r))]) hx hb dR_counted_1 rfl hl (by decide) rfl (fun ls hl => ?_)
  refine lv_iconst (v := nI 0) hx hb dR_counted_2 (by decide +kernel) ?_
  refine lv_istore_n (lv' := [(3, .int (nI 0)), (2, .int (nI 0)), (0, .ref ma), (1, .int (nI r))]) hx hb dR_counted_3 rfl hl (by decide) rfl (fun ls hl => ?_)
  have LP : ∀ (kk : Nat) (n k : Nat) (H : Heap) (locs : List Loc) (ls : Array Slot), kk = 9139 - k → (k ≤ 9139) → (n + (td h (9139 - k)).length = (tp h).length) → hp_st D vC lo M sg.heap H locs → lv_has ls 4 [(0, .ref ma), (1, .int (nI r)), (2, .int (nI n)), (3, .int (nI k))] → cW pg l eg sg mg [.ref ma, .int (nI r)] bw mt cg y_R_counted b_R_counted 4 (some .int) 0 D lo (fun r9 M' => r9 = some (.int (nI (tp h).length)) ∧ M = M') nx 0 0 H locs 0 0 (F0 mg 4 ls []) := by
    intro kk
    induction kk using Nat.strongRecOn with
    | _ kk ihLP =>
    intro n k H locs ls hkk hk9 hinv hst hl
    have hln := td_len h (9139 - k)
    refine lv_iload_n hx hb dR_counted_4 rfl (lv_at hl 3 rfl) ?_
    refine lv_sipush (v := nI 9139) hx hb dR_counted_5 (by decide +kernel) ?_
    refine lv_icmp_ge hx hb dR_counted_8 (tgt := 40) rfl (fun hc => ?_) (fun hc => ?_)
    · skip
      have hc5 : 9139 ≤ k := (nI_leI (by omega) (by omega)).mp hc
      have hk : k = 9139 := by omega
      rw [hk] at hinv
      have hinv : n + 0 = (tp h).length := hinv
      refine lv_iload_n hx hb dR_counted_40 rfl (lv_at hl 2 rfl) ?_
      exact ct_iret X hst ⟨by rw [← hinv]; rfl, rfl⟩ (by omega) (by omega) dR_counted_41
    · skip
      have hc5 : ¬ 9139 ≤ k := fun z => hc ((nI_leI (by omega) (by omega)).mpr z)
      have hrk := hrp k (by omega)
      have hhk := hh (pl k)
      refine lv_iload_n hx hb dR_counted_11 rfl (lv_at hl 2 rfl) ?_
      refine lv_aload_n hx hb dR_counted_12 rfl (lv_at hl 0 rfl) ?_
      refine hp_get hx hb hG in_R hown hK hst hm.ob rfl 5 (by decide) (hG _ fl_R_18) rfl rfl dR_counted_13 ?_
      refine lv_sipush (v := nI 9139) hx hb dR_counted_16 (by decide +kernel) ?_
      refine lv_iload_n hx hb dR_counted_19 rfl (lv_at hl 1 rfl) ?_
      refine t_imul hx hb dR_counted_20 (v := nI (9139 * r)) (pk_mul _ _) ?_
      refine lv_iload_n hx hb dR_counted_21 rfl (lv_at hl 3 rfl) ?_
      refine t_iadd hx hb dR_counted_22 (v := nI ((9139 * r) + k)) (nI_add _ _) ?_
      refine hp_iald hx hb hK rfl hst hm.a3 (j := ((9139 * r) + k)) (by omega) (by omega) dR_counted_23 ?_
      refine tp_n (e2 := h (pl k)) hrk ?_
      refine lv_if_eq hx hb dR_counted_24 (tgt := 31) rfl (fun hc => ?_) (fun hc => ?_)
      · skip
        rw [← nI_0] at hc
        have hcz : (h (pl k)) = 0 := (nI_eq (by omega) (by omega)).mp hc
        refine lv_iconst (v := nI 0) hx hb dR_counted_31 (by decide +kernel) ?_
        refine t_iadd hx hb dR_counted_32 (v := nI (n + 0)) (nI_add _ _) ?_
        refine lv_istore_n (lv' := [(2, .int (nI (n + 0))), (0, .ref ma), (1, .int (nI r)), (3, .int (nI k))]) hx hb dR_counted_33 rfl hl (by decide) rfl (fun ls hl => ?_)
        refine lv_iinc (lv' := [(3, .int (nI (k + 1))), (2, .int (nI (n + 0))), (0, .ref ma), (1, .int (nI r))]) hx hb dR_counted_34 hl (k := 3) rfl (ii_p _) (by decide) rfl (fun ls hl => ?_)
        refine lv_goto hx hb dR_counted_37 (tgt := 4) rfl ?_
        exact ihLP _ (by omega) (n + 0) (k + 1) _ _ _ rfl (by omega) (by rw [td_pl_n (by omega) hcz] at hinv; exact hinv) hst (lv_sub hl [2, 3, 1, 0] rfl)
      · skip
        rw [← nI_0] at hc
        have hcz : ¬ (h (pl k)) = 0 := fun z => hc ((nI_eq (by omega) (by omega)).mpr z)
        refine lv_iconst (v := nI 1) hx hb dR_counted_27 (by decide +kernel) ?_
        refine lv_goto hx hb dR_counted_28 (tgt := 32) rfl ?_
        refine t_iadd hx hb dR_counted_32 (v := nI (n + 1)) (nI_add _ _) ?_
        refine lv_istore_n (lv' := [(2, .int (nI (n + 1))), (0, .ref ma), (1, .int (nI r)), (3, .int (nI k))]) hx hb dR_counted_33 rfl hl (by decide) rfl (fun ls hl => ?_)
        refine lv_iinc (lv' := [(3, .int (nI (k + 1))), (2, .int (nI (n + 1))), (0, .ref ma), (1, .int (nI r))]) hx hb dR_counted_34 hl (k := 3) rfl (ii_p _) (by decide) rfl (fun ls hl => ?_)
        refine lv_goto hx hb dR_counted_37 (tgt := 4) rfl ?_
        exact ihLP _ (by omega) (n + 1) (k + 1) _ _ _ rfl (by omega) (by rw [td_pl_y (by omega) hcz, List.length_cons] at hinv; omega) hst (lv_sub hl [2, 3, 1, 0] rfl)
  exact LP _ 0 0 _ _ _ rfl (by omega) (Nat.zero_add _) hst (lv_sub hl [2, 3, 1, 0] rfl)

set_option maxHeartbeats 4000000 in
set_option maxRecDepth 100000 in
theorem c_R_inverse (l : Launch) (D : va_G) (Y : Nat → ClassId) (lo : Nat) {M : Hm} {ma p rf th : Nat} {E : Nat → Nat} {c : Nat → Nat → Nat} (hm : mo Y M ma E p rf th c) {x : Nat} (hxp : x < p) : ct l D Y lo y_R_inverse b_R_inverse 5 (some .int) 0 [.ref ma, .int (nI x)] M (fun r9 M' => r9 = some (.int (nI (x ^ (p - 2) % p))) ∧ M = M') nx 0 0 := by
  refine ct_of (by decide) (Nat.le_of_ble_eq_true rfl) ?_
  intro pg eg sg mg bw mt cg ls X hst hl
  have X1 := X
  obtain ⟨hx, hb, hml, hrt, hlocks, hown, hnm, hts, hkz, hex⟩ := X1
  have hG : ∀ w ∈ GW, w.before _ sg = true := fun w h => hts w (List.mem_cons_of_mem _ h)
  have hK := hkz.1
  have hl : lv_has ls 5 [(0, .ref ma), (1, .int (nI x))] := hl
  obtain ⟨hp2, hp3⟩ := hm.p2
  refine lv_lconst (v := lN 1) hx hb dR_inverse_0 (by decide +kernel) ?_
  refine lv_lstore_n (lv' := [(2, .long (lN 1)), (0, .ref ma), (1, .int (nI x))]) hx hb dR_inverse_1 rfl hl (by decide) rfl (fun ls hl => ?_)
  refine lv_iconst (v := nI 0) hx hb dR_inverse_2 (by decide +kernel) ?_
  refine lv_istore (lv' := [(4, .int (nI 0)), (2, .long (lN 1)), (0, .ref ma), (1, .int (nI x))]) hx hb dR_inverse_3 hl (by decide) rfl (fun ls hl => ?_)
  have LP : ∀ (kk : Nat) (k : Nat) (H : Heap) (locs : List Loc) (ls : Array Slot), kk = p - k → (k ≤ p - 2) → hp_st D vC lo M sg.heap H locs → lv_has ls 5 [(0, .ref ma), (1, .int (nI x)), (2, .long (lN (x ^ k % p))), (4, .int (nI k))] → cW pg l eg sg mg [.ref ma, .int (nI x)] bw mt cg y_R_inverse b_R_inverse 5 (some .int) 0 D lo (fun r9 M' => r9 = some (.int (nI (x ^ (p - 2) % p))) ∧ M = M') nx 0 0 H locs 0 0 (F0 mg 5 ls []) := by
    intro kk
    induction kk using Nat.strongRecOn with
    | _ kk ihLP =>
    intro k H locs ls hkk hk9 hst hl
    have hmd := Nat.mod_lt (x ^ k) (show 0 < p by omega)
    refine lv_iload hx hb dR_inverse_5 (lv_at hl 3 rfl) ?_
    refine lv_aload_n hx hb dR_inverse_7 rfl (lv_at hl 0 rfl) ?_
    refine hp_get hx hb hG in_R hown hK hst hm.ob rfl 1 (by decide) (hG _ fl_R_51) rfl rfl dR_inverse_8 ?_
    refine lv_iconst (v := nI 2) hx hb dR_inverse_11 (by decide +kernel) ?_
    refine t_isub hx hb dR_inverse_12 (v := nI (p - 2)) (pk_sub (by omega)) ?_
    refine lv_icmp_ge hx hb dR_inverse_13 (tgt := 33) rfl (fun hc => ?_) (fun hc => ?_)
    · skip
      have hc5 : (p - 2) ≤ k := (nI_leI (by omega) (by omega)).mp hc
      have hk : k = p - 2 := by omega
      refine lv_lload_n hx hb dR_inverse_33 rfl (lv_at hl 2 rfl) ?_
      refine lv_l2i (v := nI (x ^ k % p)) hx hb dR_inverse_34 (lN_i _) ?_
      exact ct_iret X hst ⟨by rw [hk], rfl⟩ (by omega) (by omega) dR_inverse_35
    · skip
      have hc5 : ¬ (p - 2) ≤ k := fun z => hc ((nI_leI (by omega) (by omega)).mpr z)
      have hm9 : x ^ k % p * x ≤ 46337 * 46337 := Nat.mul_le_mul (by omega) (by omega)
      refine lv_lload_n hx hb dR_inverse_16 rfl (lv_at hl 2 rfl) ?_
      refine lv_iload_n hx hb dR_inverse_17 rfl (lv_at hl 1 rfl) ?_
      refine lv_i2l (v := lN x) hx hb dR_inverse_18 (nI_l (by omega)) ?_
      refine lv_lmul hx hb dR_inverse_19 ?_
      refine tp_l (e2 := lN ((x ^ k % p) * x)) (lN_mul _ _) ?_
      refine lv_aload_n hx hb dR_inverse_20 rfl (lv_at hl 0 rfl) ?_
      refine hp_get hx hb hG in_R hown hK hst hm.ob rfl 1 (by decide) (hG _ fl_R_51) rfl rfl dR_inverse_21 ?_
      refine lv_i2l (v := lN p) hx hb dR_inverse_24 (nI_l (by omega)) ?_
      have hmod := Nat.mod_lt ((x ^ k % p) * x) (show 0 < p by omega)
      refine lv_lrem hx hb dR_inverse_25 (lN_ne0 (by omega) (by omega)) ?_
      refine tp_l (e2 := lN (((x ^ k % p) * x) % p)) (lN_rem (by omega) (by omega) (by omega)) ?_
      refine tp_l (e2 := lN (x ^ (k + 1) % p)) (by rw [Nat.pow_succ, Nat.mod_mul_mod]) ?_
      refine lv_lstore_n (lv' := [(2, .long (lN (x ^ (k + 1) % p))), (0, .ref ma), (1, .int (nI x)), (4, .int (nI k))]) hx hb dR_inverse_26 rfl hl (by decide) rfl (fun ls hl => ?_)
      refine lv_iinc (lv' := [(4, .int (nI (k + 1))), (2, .long (lN (x ^ (k + 1) % p))), (0, .ref ma), (1, .int (nI x))]) hx hb dR_inverse_27 hl (k := 3) rfl (ii_p _) (by decide) rfl (fun ls hl => ?_)
      refine lv_goto hx hb dR_inverse_30 (tgt := 5) rfl ?_
      exact ihLP _ (by omega) (k + 1) _ _ _ rfl (by omega) hst (lv_sub hl [2, 3, 1, 0] rfl)
  have e1 : x ^ 0 % p = 1 := by rw [Nat.pow_zero]; exact Nat.mod_eq_of_lt (by omega)
  have hl : lv_has ls 5 [(4, .int (nI 0)), (2, .long (lN (x ^ 0 % p))), (0, .ref ma), (1, .int (nI x))] := by rw [e1]; exact hl
  exact LP _ 0 _ _ _ rfl (by omega) hst (lv_sub hl [2, 3, 1, 0] rfl)
