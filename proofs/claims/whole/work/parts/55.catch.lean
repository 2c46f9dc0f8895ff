/-! The methods of the law that catch what the class throws; cell. -/
set_option maxRecDepth 100000 in
theorem wh_L_isSame : Cond.codeWith y_L_isSame b_L_isSame 5 (some .int) [(0, 17, 20, 13)] ∈ GW := gw_in 531 rfl (by decide +kernel)
set_option maxRecDepth 100000 in
theorem wh_L_degree : Cond.codeWith y_L_degree b_L_degree 5 (some .int) [(0, 10, 13, 13), (0, 10, 17, 18)] ∈ GW := gw_in 524 rfl (by decide +kernel)
set_option maxRecDepth 100000 in
theorem wh_L_coefficient : Cond.codeWith y_L_coefficient b_L_coefficient 7 (some .int) [(0, 14, 17, 13), (0, 14, 21, 18)] ∈ GW := gw_in 509 rfl (by decide +kernel)
set_option maxRecDepth 100000 in
theorem wh_L_term : Cond.codeWith y_L_term b_L_term 6 (some .int) [(0, 12, 15, 13), (0, 12, 19, 18)] ∈ GW := gw_in 502 rfl (by decide +kernel)
set_option maxRecDepth 100000 in
theorem wh_L_terms : Cond.codeWith y_L_terms b_L_terms 4 (some .int) [(0, 9, 12, 13)] ∈ GW := gw_in 495 rfl (by decide +kernel)
set_option maxRecDepth 100000 in
theorem wh_L_value : Cond.codeWith y_L_value b_L_value 7 (some .int) [(0, 14, 17, 13)] ∈ GW := gw_in 477 rfl (by decide +kernel)
set_option maxRecDepth 100000 in
theorem wh_L_resultant : Cond.codeWith y_L_resultant b_L_resultant 7 (some .int) [(0, 21, 24, 13), (0, 21, 28, 18)] ∈ GW := gw_in 458 rfl (by decide +kernel)
set_option maxRecDepth 100000 in
theorem wh_L_put : Cond.codeWith y_L_put b_L_put 7 (some .int) [(0, 21, 24, 13), (0, 21, 28, 18)] ∈ GW := gw_in 443 rfl (by decide +kernel)
set_option maxRecDepth 100000 in
theorem wh_L_derive : Cond.codeWith y_L_derive b_L_derive 5 (some .int) [(0, 7, 10, 13), (0, 7, 14, 18)] ∈ GW := gw_in 434 rfl (by decide +kernel)
set_option maxRecDepth 100000 in
theorem wh_L_divide : Cond.codeWith y_L_divide b_L_divide 6 (some .int) [(0, 9, 12, 13), (0, 9, 16, 18)] ∈ GW := gw_in 405 rfl (by decide +kernel)
set_option maxRecDepth 100000 in
theorem wh_L_power : Cond.codeWith y_L_power b_L_power 6 (some .int) [(0, 19, 22, 13), (0, 19, 26, 18)] ∈ GW := gw_in 394 rfl (by decide +kernel)
set_option maxRecDepth 100000 in
theorem wh_L_multiply : Cond.codeWith y_L_multiply b_L_multiply 6 (some .int) [(0, 19, 22, 13)] ∈ GW := gw_in 378 rfl (by decide +kernel)
set_option maxRecDepth 100000 in
theorem wh_L_add : Cond.codeWith y_L_add b_L_add 6 (some .int) [(0, 9, 12, 13)] ∈ GW := gw_in 331 rfl (by decide +kernel)
set_option maxRecDepth 100000 in
theorem wh_L_variable : Cond.codeWith y_L_variable b_L_variable 4 (some .int) [(0, 6, 9, 13), (0, 6, 12, 18)] ∈ GW := gw_in 299 rfl (by decide +kernel)
set_option maxRecDepth 100000 in
theorem wh_L_constant : Cond.codeWith y_L_constant b_L_constant 4 (some .int) [(0, 6, 9, 13)] ∈ GW := gw_in 191 rfl (by decide +kernel)
set_option maxHeartbeats 4000000 in
set_option maxRecDepth 100000 in
theorem w_constant (l : Launch) (D : va_G) (Y : Nat → ClassId) (lo : Nat) {b L : Nat} {xs : Nat → Int32} {M : Hm} {xa p rf k rf' mc : Nat} {A cap si cap' si' : Nat → Nat} {P P' : Nat → Pf} {v : Int32} (hcs : cs Y M xa A p P cap si rf) {x1 x2 : Int32} (hct : ct l D Y lo y_H_constant b_H_constant 3 none 8 (.ref xa :: [.int x1, .int x2]) M (fun r9 M' => k = 0 ∧ r9 = rvl none v ∧ cs Y M' xa A p P' cap' si' rf' ∧ hp_off (fun i => i < 300) M M') (fun E9 M' => M = M' ∧ (E9 = EI ∧ k = 1 ∨ E9 = EA ∧ k = 2) ∧ P' = P ∧ rf' = rf ∧ cap' = cap ∧ si' = si) mc (6 * mc)) (hk2 : k ≠ 2) : cth l D Y lo b L xs y_L_constant (.codeWith y_L_constant b_L_constant 4 (some .int) [(0, 6, 9, 13)]) 9 [.ref xa, .int x1, .int x2] M (fun r9 M' => r9 = some (.int (nI k)) ∧ cs Y M' xa A p P' cap' si' rf' ∧ hp_off (fun i => i < 300) M M') mc (6 * mc) := by
  refine cth_of (by decide) (Nat.le_of_ble_eq_true rfl) ?_
  intro pg eg sg mg bw mt cg ls X hst hl
  have X1 := X
  obtain ⟨hx, hb, hml, hrt, hlocks, hown, hts, hbl, hkx, htb⟩ := X1
  have hG : ∀ w ∈ GW, w.before _ sg = true := fun w h => hts w (List.mem_cons_of_mem _ h)
  have hK := hkx.1.1
  have hl : lv_has ls 4 [(0, .ref xa), (1, .int x1), (2, .int x2)] := hl
  have hxa := hcs.1
  refine lv_aload_n hx hb dL_constant_0 rfl (lv_at hl 0 rfl) ?_
  refine lv_iload_n hx hb dL_constant_1 rfl (lv_at hl 1 rfl) ?_
  refine lv_iload_n hx hb dL_constant_2 rfl (lv_at hl 2 rfl) ?_
  refine ch_callV (a0 := 0) (b0 := 6) (h1 := 9) (tl := []) (av2 := [.int x1, .int x2]) (rest := []) (x := xa) X rfl hst hct hxa rfl wc_H_constant ml_L_7 wi_H_constant wl_H_constant wn_H md_H_constant (by decide) hl.1 rfl (Nat.le_of_ble_eq_true rfl) ⟨by omega, by omega⟩ dL_constant_3 (by decide) (fun r M' H locs hp hst => ?_) (fun E9 M' q9 H locs hp hst => ?_)
  · skip
    obtain ⟨hk, hr, hcs1, ho1⟩ := hp
    have hr : r = none := hr
    subst hr
    refine lv_goto hx hb dL_constant_6 (tgt := 12) rfl ?_
    refine lv_iconst (v := nI 0) hx hb dL_constant_12 (by decide +kernel) ?_
    exact ch_iret X hst ⟨by rw [hk], hcs1, ho1⟩ (by omega) (by omega) dL_constant_13
  · skip
    obtain ⟨rfl, hE, rfl, rfl, rfl, rfl⟩ := hp
    rcases hE with ⟨hE, hk⟩ | ⟨hE, hk⟩
    · skip
      refine Or.inl ⟨hE, ?_⟩
      refine lv_astore_n (lv' := [(3, .ref q9), (0, .ref xa), (1, .int x1), (2, .int x2)]) hx hb dL_constant_9 rfl hl (by decide) rfl (fun ls hl => ?_)
      refine lv_iconst (v := nI 1) hx hb dL_constant_10 (by decide +kernel) ?_
      exact ch_iret X hst ⟨by rw [hk], hcs, hp_off.rf⟩ (by omega) (by omega) dL_constant_11
    · exact absurd hk hk2

set_option maxHeartbeats 4000000 in
set_option maxRecDepth 100000 in
theorem w_variable (l : Launch) (D : va_G) (Y : Nat → ClassId) (lo : Nat) {b L : Nat} {xs : Nat → Int32} {M : Hm} {xa p rf k rf' mc : Nat} {A cap si cap' si' : Nat → Nat} {P P' : Nat → Pf} {v : Int32} (hcs : cs Y M xa A p P cap si rf) {x1 x2 : Int32} (hct : ct l D Y lo y_H_variable b_H_variable 3 none 8 (.ref xa :: [.int x1, .int x2]) M (fun r9 M' => k = 0 ∧ r9 = rvl none v ∧ cs Y M' xa A p P' cap' si' rf' ∧ hp_off (fun i => i < 300) M M') (fun E9 M' => M = M' ∧ (E9 = EI ∧ k = 1 ∨ E9 = EA ∧ k = 2) ∧ P' = P ∧ rf' = rf ∧ cap' = cap ∧ si' = si) mc (6 * mc)) : cth l D Y lo b L xs y_L_variable (.codeWith y_L_variable b_L_variable 4 (some .int) [(0, 6, 9, 13), (0, 6, 12, 18)]) 9 [.ref xa, .int x1, .int x2] M (fun r9 M' => r9 = some (.int (nI k)) ∧ cs Y M' xa A p P' cap' si' rf' ∧ hp_off (fun i => i < 300) M M') mc (6 * mc) := by
  refine cth_of (by decide) (Nat.le_of_ble_eq_true rfl) ?_
  intro pg eg sg mg bw mt cg ls X hst hl
  have X1 := X
  obtain ⟨hx, hb, hml, hrt, hlocks, hown, hts, hbl, hkx, htb⟩ := X1
  have hG : ∀ w ∈ GW, w.before _ sg = true := fun w h => hts w (List.mem_cons_of_mem _ h)
  have hK := hkx.1.1
  have hl : lv_has ls 4 [(0, .ref xa), (1, .int x1), (2, .int x2)] := hl
  have hxa := hcs.1
  refine lv_aload_n hx hb dL_variable_0 rfl (lv_at hl 0 rfl) ?_
  refine lv_iload_n hx hb dL_variable_1 rfl (lv_at hl 1 rfl) ?_
  refine lv_iload_n hx hb dL_variable_2 rfl (lv_at hl 2 rfl) ?_
  refine ch_callV (a0 := 0) (b0 := 6) (h1 := 9) (tl := [(0, 6, 12, 18)]) (av2 := [.int x1, .int x2]) (rest := []) (x := xa) X rfl hst hct hxa rfl wc_H_variable ml_L_15 wi_H_variable wl_H_variable wn_H md_H_variable (by decide) hl.1 rfl (Nat.le_of_ble_eq_true rfl) ⟨by omega, by omega⟩ dL_variable_3 (by decide) (fun r M' H locs hp hst => ?_) (fun E9 M' q9 H locs hp hst => ?_)
  · skip
    obtain ⟨hk, hr, hcs1, ho1⟩ := hp
    have hr : r = none := hr
    subst hr
    refine lv_goto hx hb dL_variable_6 (tgt := 15) rfl ?_
    refine lv_iconst (v := nI 0) hx hb dL_variable_15 (by decide +kernel) ?_
    exact ch_iret X hst ⟨by rw [hk], hcs1, ho1⟩ (by omega) (by omega) dL_variable_16
  · skip
    obtain ⟨rfl, hE, rfl, rfl, rfl, rfl⟩ := hp
    rcases hE with ⟨hE, hk⟩ | ⟨hE, hk⟩
    · skip
      refine Or.inl ⟨hE, ?_⟩
      refine lv_astore_n (lv' := [(3, .ref q9), (0, .ref xa), (1, .int x1), (2, .int x2)]) hx hb dL_variable_9 rfl hl (by decide) rfl (fun ls hl => ?_)
      refine lv_iconst (v := nI 1) hx hb dL_variable_10 (by decide +kernel) ?_
      exact ch_iret X hst ⟨by rw [hk], hcs, hp_off.rf⟩ (by omega) (by omega) dL_variable_11
    · skip
      refine Or.inr ⟨hE, 12, rfl, ?_⟩
      refine lv_astore_n (lv' := [(3, .ref q9), (0, .ref xa), (1, .int x1), (2, .int x2)]) hx hb dL_variable_12 rfl hl (by decide) rfl (fun ls hl => ?_)
      refine lv_iconst (v := nI 2) hx hb dL_variable_13 (by decide +kernel) ?_
      exact ch_iret X hst ⟨by rw [hk], hcs, hp_off.rf⟩ (by omega) (by omega) dL_variable_14

set_option maxHeartbeats 4000000 in
set_option maxRecDepth 100000 in
theorem w_add (l : Launch) (D : va_G) (Y : Nat → ClassId) (lo : Nat) {b L : Nat} {xs : Nat → Int32} {M : Hm} {xa p rf k rf' mc : Nat} {A cap si cap' si' : Nat → Nat} {P P' : Nat → Pf} {v : Int32} (hcs : cs Y M xa A p P cap si rf) {x1 x2 x3 x4 : Int32} (hct : ct l D Y lo y_H_add b_H_add 5 none 8 (.ref xa :: [.int x1, .int x2, .int x3, .int x4]) M (fun r9 M' => k = 0 ∧ r9 = rvl none v ∧ cs Y M' xa A p P' cap' si' rf' ∧ hp_off (fun i => i < 300) M M') (fun E9 M' => M = M' ∧ (E9 = EI ∧ k = 1 ∨ E9 = EA ∧ k = 2) ∧ P' = P ∧ rf' = rf ∧ cap' = cap ∧ si' = si) mc (6 * mc)) (hk2 : k ≠ 2) : cth l D Y lo b L xs y_L_add (.codeWith y_L_add b_L_add 6 (some .int) [(0, 9, 12, 13)]) 9 [.ref xa, .int x1, .int x2, .int x3, .int x4] M (fun r9 M' => r9 = some (.int (nI k)) ∧ cs Y M' xa A p P' cap' si' rf' ∧ hp_off (fun i => i < 300) M M') mc (6 * mc) := by
  refine cth_of (by decide) (Nat.le_of_ble_eq_true rfl) ?_
  intro pg eg sg mg bw mt cg ls X hst hl
  have X1 := X
  obtain ⟨hx, hb, hml, hrt, hlocks, hown, hts, hbl, hkx, htb⟩ := X1
  have hG : ∀ w ∈ GW, w.before _ sg = true := fun w h => hts w (List.mem_cons_of_mem _ h)
  have hK := hkx.1.1
  have hl : lv_has ls 6 [(0, .ref xa), (1, .int x1), (2, .int x2), (3, .int x3), (4, .int x4)] := hl
  have hxa := hcs.1
  refine lv_aload_n hx hb dL_add_0 rfl (lv_at hl 0 rfl) ?_
  refine lv_iload_n hx hb dL_add_1 rfl (lv_at hl 1 rfl) ?_
  refine lv_iload_n hx hb dL_add_2 rfl (lv_at hl 2 rfl) ?_
  refine lv_iload_n hx hb dL_add_3 rfl (lv_at hl 3 rfl) ?_
  refine lv_iload hx hb dL_add_4 (lv_at hl 4 rfl) ?_
  refine ch_callV (a0 := 0) (b0 := 9) (h1 := 12) (tl := []) (av2 := [.int x1, .int x2, .int x3, .int x4]) (rest := []) (x := xa) X rfl hst hct hxa rfl wc_H_add ml_L_20 wi_H_add wl_H_add wn_H md_H_add (by decide) hl.1 rfl (Nat.le_of_ble_eq_true rfl) ⟨by omega, by omega⟩ dL_add_6 (by decide) (fun r M' H locs hp hst => ?_) (fun E9 M' q9 H locs hp hst => ?_)
  · skip
    obtain ⟨hk, hr, hcs1, ho1⟩ := hp
    have hr : r = none := hr
    subst hr
    refine lv_goto hx hb dL_add_9 (tgt := 16) rfl ?_
    refine lv_iconst (v := nI 0) hx hb dL_add_16 (by decide +kernel) ?_
    exact ch_iret X hst ⟨by rw [hk], hcs1, ho1⟩ (by omega) (by omega) dL_add_17
  · skip
    obtain ⟨rfl, hE, rfl, rfl, rfl, rfl⟩ := hp
    rcases hE with ⟨hE, hk⟩ | ⟨hE, hk⟩
    · skip
      refine Or.inl ⟨hE, ?_⟩
      refine lv_astore (lv' := [(5, .ref q9), (0, .ref xa), (1, .int x1), (2, .int x2), (3, .int x3), (4, .int x4)]) hx hb dL_add_12 hl (by decide) rfl (fun ls hl => ?_)
      refine lv_iconst (v := nI 1) hx hb dL_add_14 (by decide +kernel) ?_
      exact ch_iret X hst ⟨by rw [hk], hcs, hp_off.rf⟩ (by omega) (by omega) dL_add_15
    · exact absurd hk hk2

set_option maxHeartbeats 4000000 in
set_option maxRecDepth 100000 in
theorem w_multiply (l : Launch) (D : va_G) (Y : Nat → ClassId) (lo : Nat) {b L : Nat} {xs : Nat → Int32} {M : Hm} {xa p rf k rf' mc : Nat} {A cap si cap' si' : Nat → Nat} {P P' : Nat → Pf} {v : Int32} (hcs : cs Y M xa A p P cap si rf) {x1 x2 x3 : Int32} (hct : ct l D Y lo y_H_multiply b_H_multiply 7 (some .boolean) 8 (.ref xa :: [.int x1, .int x2, .int x3]) M (fun r9 M' => k = 0 ∧ r9 = rvl (some .boolean) v ∧ cs Y M' xa A p P' cap' si' rf' ∧ hp_off (fun i => i < 300) M M') (fun E9 M' => M = M' ∧ (E9 = EI ∧ k = 1 ∨ E9 = EA ∧ k = 2) ∧ P' = P ∧ rf' = rf ∧ cap' = cap ∧ si' = si) mc (6 * mc)) (hk2 : k ≠ 2) {oa : Nat} {f : Nat → Int64} (hoa : M oa = some ((2000, 0), e_l Y 1 f)) (hvb : ∃ z : Nat, z ≤ 1 ∧ v = nI z) : cth l D Y lo b L xs y_L_multiply (.codeWith y_L_multiply b_L_multiply 6 (some .int) [(0, 19, 22, 13)]) 9 [.ref xa, .int x1, .int x2, .int x3, .ref oa] M (fun r9 M' => r9 = some (.int (nI k)) ∧ cs Y M' xa A p P' cap' si' rf' ∧ hp_off (fun i => i < 300 ∨ i = 2000) M M' ∧ ∃ f' : Nat → Int64, M' oa = some ((2000, 0), e_l Y 1 f') ∧ (k = 0 → f' 0 = v.toInt64)) mc (6 * mc) := by
  refine cth_of (by decide) (Nat.le_of_ble_eq_true rfl) ?_
  intro pg eg sg mg bw mt cg ls X hst hl
  have X1 := X
  obtain ⟨hx, hb, hml, hrt, hlocks, hown, hts, hbl, hkx, htb⟩ := X1
  have hG : ∀ w ∈ GW, w.before _ sg = true := fun w h => hts w (List.mem_cons_of_mem _ h)
  have hK := hkx.1.1
  have hl : lv_has ls 6 [(0, .ref xa), (1, .int x1), (2, .int x2), (3, .int x3), (4, .ref oa)] := hl
  obtain ⟨z, hz, rfl⟩ := hvb
  have hxa := hcs.1
  refine lv_aload hx hb dL_multiply_0 (lv_at hl 4 rfl) ?_
  refine lv_iconst (v := nI 0) hx hb dL_multiply_2 (by decide +kernel) ?_
  refine lv_aload_n hx hb dL_multiply_3 rfl (lv_at hl 0 rfl) ?_
  refine lv_iload_n hx hb dL_multiply_4 rfl (lv_at hl 1 rfl) ?_
  refine lv_iload_n hx hb dL_multiply_5 rfl (lv_at hl 2 rfl) ?_
  refine lv_iload_n hx hb dL_multiply_6 rfl (lv_at hl 3 rfl) ?_
  refine ch_callV (a0 := 0) (b0 := 19) (h1 := 22) (tl := []) (av2 := [.int x1, .int x2, .int x3]) (rest := [.int (nI 0), .ref oa]) (x := xa) X rfl hst hct hxa rfl wc_H_multiply ml_L_24 wi_H_multiply wl_H_multiply wn_H md_H_multiply (by decide) hl.1 rfl (Nat.le_of_ble_eq_true rfl) ⟨by omega, by omega⟩ dL_multiply_7 (by decide) (fun r M' H locs hp hst => ?_) (fun E9 M' q9 H locs hp hst => ?_)
  · skip
    obtain ⟨hk, hr, hcs1, ho1⟩ := hp
    have hr : r = some (.int (nI z)) := hr
    subst hr
    refine lv_if_eq hx hb dL_multiply_10 (tgt := 17) rfl (fun hc => ?_) (fun hc => ?_)
    · skip
      rw [← nI_0] at hc
      have hcz : z = 0 := (nI_eq (by omega) (by omega)).mp hc
      refine lv_lconst (v := lN 0) hx hb dL_multiply_17 (by decide +kernel) ?_
      have hoa1 := ho1.of hoa (by show ¬ _ < 300; omega)
      refine hp_last hx hb hK rfl hst hoa1 (j := 0) (by omega) (by omega) dL_multiply_18 (fun H locs f2 hf2 hst => ?_)
      have hcs2 := hcs1.off (hp_off.up (S := fun i => i = 2000) (e' := e_l Y 1 f2) hoa1 rfl) (by omega)
      have ho2 := (ho1.wk (fun i hi => Or.inl hi)).tr (hp_off.up (S := fun i => i < 300 ∨ i = 2000) (e' := e_l Y 1 f2) hoa1 (Or.inr rfl))
      refine lv_goto hx hb dL_multiply_19 (tgt := 26) rfl ?_
      refine lv_iconst (v := nI 0) hx hb dL_multiply_26 (by decide +kernel) ?_
      exact ch_iret X hst ⟨by rw [hk], hcs2, ho2, f2, hp_up_self _ _ _, fun _ => by rw [hf2, show z = 0 by omega]; exact (nI_l (by omega)).symm⟩ (by omega) (by omega) dL_multiply_27
    · skip
      rw [← nI_0] at hc
      have hcz : ¬ z = 0 := fun z => hc ((nI_eq (by omega) (by omega)).mpr z)
      refine lv_lconst (v := lN 1) hx hb dL_multiply_13 (by decide +kernel) ?_
      refine lv_goto hx hb dL_multiply_14 (tgt := 18) rfl ?_
      have hoa1 := ho1.of hoa (by show ¬ _ < 300; omega)
      refine hp_last hx hb hK rfl hst hoa1 (j := 0) (by omega) (by omega) dL_multiply_18 (fun H locs f2 hf2 hst => ?_)
      have hcs2 := hcs1.off (hp_off.up (S := fun i => i = 2000) (e' := e_l Y 1 f2) hoa1 rfl) (by omega)
      have ho2 := (ho1.wk (fun i hi => Or.inl hi)).tr (hp_off.up (S := fun i => i < 300 ∨ i = 2000) (e' := e_l Y 1 f2) hoa1 (Or.inr rfl))
      refine lv_goto hx hb dL_multiply_19 (tgt := 26) rfl ?_
      refine lv_iconst (v := nI 0) hx hb dL_multiply_26 (by decide +kernel) ?_
      exact ch_iret X hst ⟨by rw [hk], hcs2, ho2, f2, hp_up_self _ _ _, fun _ => by rw [hf2, show z = 1 by omega]; exact (nI_l (by omega)).symm⟩ (by omega) (by omega) dL_multiply_27
  · skip
    obtain ⟨rfl, hE, rfl, rfl, rfl, rfl⟩ := hp
    rcases hE with ⟨hE, hk⟩ | ⟨hE, hk⟩
    · skip
      refine Or.inl ⟨hE, ?_⟩
      refine lv_astore (lv' := [(5, .ref q9), (0, .ref xa), (1, .int x1), (2, .int x2), (3, .int x3), (4, .ref oa)]) hx hb dL_multiply_22 hl (by decide) rfl (fun ls hl => ?_)
      refine lv_iconst (v := nI 1) hx hb dL_multiply_24 (by decide +kernel) ?_
      exact ch_iret X hst ⟨by rw [hk], hcs, hp_off.rf, f, hoa, fun z9 => by omega⟩ (by omega) (by omega) dL_multiply_25
    · exact absurd hk hk2

set_option maxHeartbeats 4000000 in
set_option maxRecDepth 100000 in
theorem w_power (l : Launch) (D : va_G) (Y : Nat → ClassId) (lo : Nat) {b L : Nat} {xs : Nat → Int32} {M : Hm} {xa p rf k rf' mc : Nat} {A cap si cap' si' : Nat → Nat} {P P' : Nat → Pf} {v : Int32} (hcs : cs Y M xa A p P cap si rf) {x1 x2 x3 : Int32} (hct : ct l D Y lo y_H_power b_H_power 6 (some .boolean) 8 (.ref xa :: [.int x1, .int x2, .int x3]) M (fun r9 M' => k = 0 ∧ r9 = rvl (some .boolean) v ∧ cs Y M' xa A p P' cap' si' rf' ∧ hp_off (fun i => i < 300) M M') (fun E9 M' => M = M' ∧ (E9 = EI ∧ k = 1 ∨ E9 = EA ∧ k = 2) ∧ P' = P ∧ rf' = rf ∧ cap' = cap ∧ si' = si) mc (6 * mc)) {oa : Nat} {f : Nat → Int64} (hoa : M oa = some ((2000, 0), e_l Y 1 f)) (hvb : ∃ z : Nat, z ≤ 1 ∧ v = nI z) : cth l D Y lo b L xs y_L_power (.codeWith y_L_power b_L_power 6 (some .int) [(0, 19, 22, 13), (0, 19, 26, 18)]) 9 [.ref xa, .int x1, .int x2, .int x3, .ref oa] M (fun r9 M' => r9 = some (.int (nI k)) ∧ cs Y M' xa A p P' cap' si' rf' ∧ hp_off (fun i => i < 300 ∨ i = 2000) M M' ∧ ∃ f' : Nat → Int64, M' oa = some ((2000, 0), e_l Y 1 f') ∧ (k = 0 → f' 0 = v.toInt64)) mc (6 * mc) := by
  refine cth_of (by decide) (Nat.le_of_ble_eq_true rfl) ?_
  intro pg eg sg mg bw mt cg ls X hst hl
  have X1 := X
  obtain ⟨hx, hb, hml, hrt, hlocks, hown, hts, hbl, hkx, htb⟩ := X1
  have hG : ∀ w ∈ GW, w.before _ sg = true := fun w h => hts w (List.mem_cons_of_mem _ h)
  have hK := hkx.1.1
  have hl : lv_has ls 6 [(0, .ref xa), (1, .int x1), (2, .int x2), (3, .int x3), (4, .ref oa)] := hl
  obtain ⟨z, hz, rfl⟩ := hvb
  have hxa := hcs.1
  refine lv_aload hx hb dL_power_0 (lv_at hl 4 rfl) ?_
  refine lv_iconst (v := nI 0) hx hb dL_power_2 (by decide +kernel) ?_
  refine lv_aload_n hx hb dL_power_3 rfl (lv_at hl 0 rfl) ?_
  refine lv_iload_n hx hb dL_power_4 rfl (lv_at hl 1 rfl) ?_
  refine lv_iload_n hx hb dL_power_5 rfl (lv_at hl 2 rfl) ?_
  refine lv_iload_n hx hb dL_power_6 rfl (lv_at hl 3 rfl) ?_
  refine ch_callV (a0 := 0) (b0 := 19) (h1 := 22) (tl := [(0, 19, 26, 18)]) (av2 := [.int x1, .int x2, .int x3]) (rest := [.int (nI 0), .ref oa]) (x := xa) X rfl hst hct hxa rfl wc_H_power ml_L_28 wi_H_power wl_H_power wn_H md_H_power (by decide) hl.1 rfl (Nat.le_of_ble_eq_true rfl) ⟨by omega, by omega⟩ dL_power_7 (by decide) (fun r M' H locs hp hst => ?_) (fun E9 M' q9 H locs hp hst => ?_)
  · skip
    obtain ⟨hk, hr, hcs1, ho1⟩ := hp
    have hr : r = some (.int (nI z)) := hr
    subst hr
    refine lv_if_eq hx hb dL_power_10 (tgt := 17) rfl (fun hc => ?_) (fun hc => ?_)
    · skip
      rw [← nI_0] at hc
      have hcz : z = 0 := (nI_eq (by omega) (by omega)).mp hc
      refine lv_lconst (v := lN 0) hx hb dL_power_17 (by decide +kernel) ?_
      have hoa1 := ho1.of hoa (by show ¬ _ < 300; omega)
      refine hp_last hx hb hK rfl hst hoa1 (j := 0) (by omega) (by omega) dL_power_18 (fun H locs f2 hf2 hst => ?_)
      have hcs2 := hcs1.off (hp_off.up (S := fun i => i = 2000) (e' := e_l Y 1 f2) hoa1 rfl) (by omega)
      have ho2 := (ho1.wk (fun i hi => Or.inl hi)).tr (hp_off.up (S := fun i => i < 300 ∨ i = 2000) (e' := e_l Y 1 f2) hoa1 (Or.inr rfl))
      refine lv_goto hx hb dL_power_19 (tgt := 30) rfl ?_
      refine lv_iconst (v := nI 0) hx hb dL_power_30 (by decide +kernel) ?_
      exact ch_iret X hst ⟨by rw [hk], hcs2, ho2, f2, hp_up_self _ _ _, fun _ => by rw [hf2, show z = 0 by omega]; exact (nI_l (by omega)).symm⟩ (by omega) (by omega) dL_power_31
    · skip
      rw [← nI_0] at hc
      have hcz : ¬ z = 0 := fun z => hc ((nI_eq (by omega) (by omega)).mpr z)
      refine lv_lconst (v := lN 1) hx hb dL_power_13 (by decide +kernel) ?_
      refine lv_goto hx hb dL_power_14 (tgt := 18) rfl ?_
      have hoa1 := ho1.of hoa (by show ¬ _ < 300; omega)
      refine hp_last hx hb hK rfl hst hoa1 (j := 0) (by omega) (by omega) dL_power_18 (fun H locs f2 hf2 hst => ?_)
      have hcs2 := hcs1.off (hp_off.up (S := fun i => i = 2000) (e' := e_l Y 1 f2) hoa1 rfl) (by omega)
      have ho2 := (ho1.wk (fun i hi => Or.inl hi)).tr (hp_off.up (S := fun i => i < 300 ∨ i = 2000) (e' := e_l Y 1 f2) hoa1 (Or.inr rfl))
      refine lv_goto hx hb dL_power_19 (tgt := 30) rfl ?_
      refine lv_iconst (v := nI 0) hx hb dL_power_30 (by decide +kernel) ?_
      exact ch_iret X hst ⟨by rw [hk], hcs2, ho2, f2, hp_up_self _ _ _, fun _ => by rw [hf2, show z = 1 by omega]; exact (nI_l (by omega)).symm⟩ (by omega) (by omega) dL_power_31
  · skip
    obtain ⟨rfl, hE, rfl, rfl, rfl, rfl⟩ := hp
    rcases hE with ⟨hE, hk⟩ | ⟨hE, hk⟩
    · skip
      refine Or.inl ⟨hE, ?_⟩
      refine lv_astore (lv' := [(5, .ref q9), (0, .ref xa), (1, .int x1), (2, .int x2), (3, .int x3), (4, .ref oa)]) hx hb dL_power_22 hl (by decide) rfl (fun ls hl => ?_)
      refine lv_iconst (v := nI 1) hx hb dL_power_24 (by decide +kernel) ?_
      exact ch_iret X hst ⟨by rw [hk], hcs, hp_off.rf, f, hoa, fun z9 => by omega⟩ (by omega) (by omega) dL_power_25
    · skip
      refine Or.inr ⟨hE, 26, rfl, ?_⟩
      refine lv_astore (lv' := [(5, .ref q9), (0, .ref xa), (1, .int x1), (2, .int x2), (3, .int x3), (4, .ref oa)]) hx hb dL_power_26 hl (by decide) rfl (fun ls hl => ?_)
      refine lv_iconst (v := nI 2) hx hb dL_power_28 (by decide +kernel) ?_
      exact ch_iret X hst ⟨by rw [hk], hcs, hp_off.rf, f, hoa, fun z9 => by omega⟩ (by omega) (by omega) dL_power_29

set_option maxHeartbeats 4000000 in
set_option maxRecDepth 100000 in
theorem w_divide (l : Launch) (D : va_G) (Y : Nat → ClassId) (lo : Nat) {b L : Nat} {xs : Nat → Int32} {M : Hm} {xa p rf k rf' mc : Nat} {A cap si cap' si' : Nat → Nat} {P P' : Nat → Pf} {v : Int32} (hcs : cs Y M xa A p P cap si rf) {x1 x2 x3 : Int32} {z4 : Nat} (hct : ct l D Y lo y_H_divide b_H_divide 6 none 8 (.ref xa :: [.int x1, .int x2, .int x3, .int (nI z4)]) M (fun r9 M' => k = 0 ∧ r9 = rvl none v ∧ cs Y M' xa A p P' cap' si' rf' ∧ hp_off (fun i => i < 300) M M') (fun E9 M' => M = M' ∧ (E9 = EI ∧ k = 1 ∨ E9 = EA ∧ k = 2) ∧ P' = P ∧ rf' = rf ∧ cap' = cap ∧ si' = si) mc (6 * mc)) : cth l D Y lo b L xs y_L_divide (.codeWith y_L_divide b_L_divide 6 (some .int) [(0, 9, 12, 13), (0, 9, 16, 18)]) 9 [.ref xa, .int x1, .int x2, .int x3, .int (nI z4)] M (fun r9 M' => r9 = some (.int (nI k)) ∧ cs Y M' xa A p P' cap' si' rf' ∧ hp_off (fun i => i < 300) M M') mc (6 * mc) := by
  refine cth_of (by decide) (Nat.le_of_ble_eq_true rfl) ?_
  intro pg eg sg mg bw mt cg ls X hst hl
  have X1 := X
  obtain ⟨hx, hb, hml, hrt, hlocks, hown, hts, hbl, hkx, htb⟩ := X1
  have hG : ∀ w ∈ GW, w.before _ sg = true := fun w h => hts w (List.mem_cons_of_mem _ h)
  have hK := hkx.1.1
  have hl : lv_has ls 6 [(0, .ref xa), (1, .int x1), (2, .int x2), (3, .int x3), (4, .int (nI z4))] := hl
  have hxa := hcs.1
  refine lv_aload_n hx hb dL_divide_0 rfl (lv_at hl 0 rfl) ?_
  refine lv_iload_n hx hb dL_divide_1 rfl (lv_at hl 1 rfl) ?_
  refine lv_iload_n hx hb dL_divide_2 rfl (lv_at hl 2 rfl) ?_
  refine lv_iload_n hx hb dL_divide_3 rfl (lv_at hl 3 rfl) ?_
  refine lv_iload hx hb dL_divide_4 (lv_at hl 4 rfl) ?_
  refine ch_callV (a0 := 0) (b0 := 9) (h1 := 12) (tl := [(0, 9, 16, 18)]) (av2 := [.int x1, .int x2, .int x3, .int (nI z4)]) (rest := []) (x := xa) X rfl hst hct hxa rfl wc_H_divide ml_L_31 wi_H_divide wl_H_divide wn_H md_H_divide (by decide) hl.1 rfl (Nat.le_of_ble_eq_true rfl) ⟨by omega, by omega⟩ dL_divide_6 (by decide) (fun r M' H locs hp hst => ?_) (fun E9 M' q9 H locs hp hst => ?_)
  · skip
    obtain ⟨hk, hr, hcs1, ho1⟩ := hp
    have hr : r = none := hr
    subst hr
    refine lv_goto hx hb dL_divide_9 (tgt := 20) rfl ?_
    refine lv_iconst (v := nI 0) hx hb dL_divide_20 (by decide +kernel) ?_
    exact ch_iret X hst ⟨by rw [hk], hcs1, ho1⟩ (by omega) (by omega) dL_divide_21
  · skip
    obtain ⟨rfl, hE, rfl, rfl, rfl, rfl⟩ := hp
    rcases hE with ⟨hE, hk⟩ | ⟨hE, hk⟩
    · skip
      refine Or.inl ⟨hE, ?_⟩
      refine lv_astore (lv' := [(5, .ref q9), (0, .ref xa), (1, .int x1), (2, .int x2), (3, .int x3), (4, .int (nI z4))]) hx hb dL_divide_12 hl (by decide) rfl (fun ls hl => ?_)
      refine lv_iconst (v := nI 1) hx hb dL_divide_14 (by decide +kernel) ?_
      exact ch_iret X hst ⟨by rw [hk], hcs, hp_off.rf⟩ (by omega) (by omega) dL_divide_15
    · skip
      refine Or.inr ⟨hE, 16, rfl, ?_⟩
      refine lv_astore (lv' := [(5, .ref q9), (0, .ref xa), (1, .int x1), (2, .int x2), (3, .int x3), (4, .int (nI z4))]) hx hb dL_divide_16 hl (by decide) rfl (fun ls hl => ?_)
      refine lv_iconst (v := nI 2) hx hb dL_divide_18 (by decide +kernel) ?_
      exact ch_iret X hst ⟨by rw [hk], hcs, hp_off.rf⟩ (by omega) (by omega) dL_divide_19

set_option maxHeartbeats 4000000 in
set_option maxRecDepth 100000 in
theorem w_derive (l : Launch) (D : va_G) (Y : Nat → ClassId) (lo : Nat) {b L : Nat} {xs : Nat → Int32} {M : Hm} {xa p rf k rf' mc : Nat} {A cap si cap' si' : Nat → Nat} {P P' : Nat → Pf} {v : Int32} (hcs : cs Y M xa A p P cap si rf) {x1 x2 x3 : Int32} (hct : ct l D Y lo y_H_derive b_H_derive 8 none 8 (.ref xa :: [.int x1, .int x2, .int x3]) M (fun r9 M' => k = 0 ∧ r9 = rvl none v ∧ cs Y M' xa A p P' cap' si' rf' ∧ hp_off (fun i => i < 300) M M') (fun E9 M' => M = M' ∧ (E9 = EI ∧ k = 1 ∨ E9 = EA ∧ k = 2) ∧ P' = P ∧ rf' = rf ∧ cap' = cap ∧ si' = si) mc (6 * mc)) : cth l D Y lo b L xs y_L_derive (.codeWith y_L_derive b_L_derive 5 (some .int) [(0, 7, 10, 13), (0, 7, 14, 18)]) 9 [.ref xa, .int x1, .int x2, .int x3] M (fun r9 M' => r9 = some (.int (nI k)) ∧ cs Y M' xa A p P' cap' si' rf' ∧ hp_off (fun i => i < 300) M M') mc (6 * mc) := by
  refine cth_of (by decide) (Nat.le_of_ble_eq_true rfl) ?_
  intro pg eg sg mg bw mt cg ls X hst hl
  have X1 := X
  obtain ⟨hx, hb, hml, hrt, hlocks, hown, hts, hbl, hkx, htb⟩ := X1
  have hG : ∀ w ∈ GW, w.before _ sg = true := fun w h => hts w (List.mem_cons_of_mem _ h)
  have hK := hkx.1.1
  have hl : lv_has ls 5 [(0, .ref xa), (1, .int x1), (2, .int x2), (3, .int x3)] := hl
  have hxa := hcs.1
  refine lv_aload_n hx hb dL_derive_0 rfl (lv_at hl 0 rfl) ?_
  refine lv_iload_n hx hb dL_derive_1 rfl (lv_at hl 1 rfl) ?_
  refine lv_iload_n hx hb dL_derive_2 rfl (lv_at hl 2 rfl) ?_
  refine lv_iload_n hx hb dL_derive_3 rfl (lv_at hl 3 rfl) ?_
  refine ch_callV (a0 := 0) (b0 := 7) (h1 := 10) (tl := [(0, 7, 14, 18)]) (av2 := [.int x1, .int x2, .int x3]) (rest := []) (x := xa) X rfl hst hct hxa rfl wc_H_derive ml_L_35 wi_H_derive wl_H_derive wn_H md_H_derive (by decide) hl.1 rfl (Nat.le_of_ble_eq_true rfl) ⟨by omega, by omega⟩ dL_derive_4 (by decide) (fun r M' H locs hp hst => ?_) (fun E9 M' q9 H locs hp hst => ?_)
  · skip
    obtain ⟨hk, hr, hcs1, ho1⟩ := hp
    have hr : r = none := hr
    subst hr
    refine lv_goto hx hb dL_derive_7 (tgt := 18) rfl ?_
    refine lv_iconst (v := nI 0) hx hb dL_derive_18 (by decide +kernel) ?_
    exact ch_iret X hst ⟨by rw [hk], hcs1, ho1⟩ (by omega) (by omega) dL_derive_19
  · skip
    obtain ⟨rfl, hE, rfl, rfl, rfl, rfl⟩ := hp
    rcases hE with ⟨hE, hk⟩ | ⟨hE, hk⟩
    · skip
      refine Or.inl ⟨hE, ?_⟩
      refine lv_astore (lv' := [(4, .ref q9), (0, .ref xa), (1, .int x1), (2, .int x2), (3, .int x3)]) hx hb dL_derive_10 hl (by decide) rfl (fun ls hl => ?_)
      refine lv_iconst (v := nI 1) hx hb dL_derive_12 (by decide +kernel) ?_
      exact ch_iret X hst ⟨by rw [hk], hcs, hp_off.rf⟩ (by omega) (by omega) dL_derive_13
    · skip
      refine Or.inr ⟨hE, 14, rfl, ?_⟩
      refine lv_astore (lv' := [(4, .ref q9), (0, .ref xa), (1, .int x1), (2, .int x2), (3, .int x3)]) hx hb dL_derive_14 hl (by decide) rfl (fun ls hl => ?_)
      refine lv_iconst (v := nI 2) hx hb dL_derive_16 (by decide +kernel) ?_
      exact ch_iret X hst ⟨by rw [hk], hcs, hp_off.rf⟩ (by omega) (by omega) dL_derive_17

set_option maxHeartbeats 4000000 in
set_option maxRecDepth 100000 in
theorem w_put (l : Launch) (D : va_G) (Y : Nat → ClassId) (lo : Nat) {b L : Nat} {xs : Nat → Int32} {M : Hm} {xa p rf k rf' mc : Nat} {A cap si cap' si' : Nat → Nat} {P P' : Nat → Pf} {v : Int32} (hcs : cs Y M xa A p P cap si rf) {x1 x2 x3 x4 : Int32} (hct : ct l D Y lo y_H_put b_H_put 10 (some .boolean) 8 (.ref xa :: [.int x1, .int x2, .int x3, .int x4]) M (fun r9 M' => k = 0 ∧ r9 = rvl (some .boolean) v ∧ cs Y M' xa A p P' cap' si' rf' ∧ hp_off (fun i => i < 300) M M') (fun E9 M' => M = M' ∧ (E9 = EI ∧ k = 1 ∨ E9 = EA ∧ k = 2) ∧ P' = P ∧ rf' = rf ∧ cap' = cap ∧ si' = si) mc (6 * mc)) {oa : Nat} {f : Nat → Int64} (hoa : M oa = some ((2000, 0), e_l Y 1 f)) (hvb : ∃ z : Nat, z ≤ 1 ∧ v = nI z) : cth l D Y lo b L xs y_L_put (.codeWith y_L_put b_L_put 7 (some .int) [(0, 21, 24, 13), (0, 21, 28, 18)]) 9 [.ref xa, .int x1, .int x2, .int x3, .int x4, .ref oa] M (fun r9 M' => r9 = some (.int (nI k)) ∧ cs Y M' xa A p P' cap' si' rf' ∧ hp_off (fun i => i < 300 ∨ i = 2000) M M' ∧ ∃ f' : Nat → Int64, M' oa = some ((2000, 0), e_l Y 1 f') ∧ (k = 0 → f' 0 = v.toInt64)) mc (6 * mc) := by
  refine cth_of (by decide) (Nat.le_of_ble_eq_true rfl) ?_
  intro pg eg sg mg bw mt cg ls X hst hl
  have X1 := X
  obtain ⟨hx, hb, hml, hrt, hlocks, hown, hts, hbl, hkx, htb⟩ := X1
  have hG : ∀ w ∈ GW, w.before _ sg = true := fun w h => hts w (List.mem_cons_of_mem _ h)
  have hK := hkx.1.1
  have hl : lv_has ls 7 [(0, .ref xa), (1, .int x1), (2, .int x2), (3, .int x3), (4, .int x4), (5, .ref oa)] := hl
  obtain ⟨z, hz, rfl⟩ := hvb
  have hxa := hcs.1
  refine lv_aload hx hb dL_put_0 (lv_at hl 5 rfl) ?_
  refine lv_iconst (v := nI 0) hx hb dL_put_2 (by decide +kernel) ?_
  refine lv_aload_n hx hb dL_put_3 rfl (lv_at hl 0 rfl) ?_
  refine lv_iload_n hx hb dL_put_4 rfl (lv_at hl 1 rfl) ?_
  refine lv_iload_n hx hb dL_put_5 rfl (lv_at hl 2 rfl) ?_
  refine lv_iload_n hx hb dL_put_6 rfl (lv_at hl 3 rfl) ?_
  refine lv_iload hx hb dL_put_7 (lv_at hl 4 rfl) ?_
  refine ch_callV (a0 := 0) (b0 := 21) (h1 := 24) (tl := [(0, 21, 28, 18)]) (av2 := [.int x1, .int x2, .int x3, .int x4]) (rest := [.int (nI 0), .ref oa]) (x := xa) X rfl hst hct hxa rfl wc_H_put ml_L_39 wi_H_put wl_H_put wn_H md_H_put (by decide) hl.1 rfl (Nat.le_of_ble_eq_true rfl) ⟨by omega, by omega⟩ dL_put_9 (by decide) (fun r M' H locs hp hst => ?_) (fun E9 M' q9 H locs hp hst => ?_)
  · skip
    obtain ⟨hk, hr, hcs1, ho1⟩ := hp
    have hr : r = some (.int (nI z)) := hr
    subst hr
    refine lv_if_eq hx hb dL_put_12 (tgt := 19) rfl (fun hc => ?_) (fun hc => ?_)
    · skip
      rw [← nI_0] at hc
      have hcz : z = 0 := (nI_eq (by omega) (by omega)).mp hc
      refine lv_lconst (v := lN 0) hx hb dL_put_19 (by decide +kernel) ?_
      have hoa1 := ho1.of hoa (by show ¬ _ < 300; omega)
      refine hp_last hx hb hK rfl hst hoa1 (j := 0) (by omega) (by omega) dL_put_20 (fun H locs f2 hf2 hst => ?_)
      have hcs2 := hcs1.off (hp_off.up (S := fun i => i = 2000) (e' := e_l Y 1 f2) hoa1 rfl) (by omega)
      have ho2 := (ho1.wk (fun i hi => Or.inl hi)).tr (hp_off.up (S := fun i => i < 300 ∨ i = 2000) (e' := e_l Y 1 f2) hoa1 (Or.inr rfl))
      refine lv_goto hx hb dL_put_21 (tgt := 32) rfl ?_
      refine lv_iconst (v := nI 0) hx hb dL_put_32 (by decide +kernel) ?_
      exact ch_iret X hst ⟨by rw [hk], hcs2, ho2, f2, hp_up_self _ _ _, fun _ => by rw [hf2, show z = 0 by omega]; exact (nI_l (by omega)).symm⟩ (by omega) (by omega) dL_put_33
    · skip
      rw [← nI_0] at hc
      have hcz : ¬ z = 0 := fun z => hc ((nI_eq (by omega) (by omega)).mpr z)
      refine lv_lconst (v := lN 1) hx hb dL_put_15 (by decide +kernel) ?_
      refine lv_goto hx hb dL_put_16 (tgt := 20) rfl ?_
      have hoa1 := ho1.of hoa (by show ¬ _ < 300; omega)
      refine hp_last hx hb hK rfl hst hoa1 (j := 0) (by omega) (by omega) dL_put_20 (fun H locs f2 hf2 hst => ?_)
      have hcs2 := hcs1.off (hp_off.up (S := fun i => i = 2000) (e' := e_l Y 1 f2) hoa1 rfl) (by omega)
      have ho2 := (ho1.wk (fun i hi => Or.inl hi)).tr (hp_off.up (S := fun i => i < 300 ∨ i = 2000) (e' := e_l Y 1 f2) hoa1 (Or.inr rfl))
      refine lv_goto hx hb dL_put_21 (tgt := 32) rfl ?_
      refine lv_iconst (v := nI 0) hx hb dL_put_32 (by decide +kernel) ?_
      exact ch_iret X hst ⟨by rw [hk], hcs2, ho2, f2, hp_up_self _ _ _, fun _ => by rw [hf2, show z = 1 by omega]; exact (nI_l (by omega)).symm⟩ (by omega) (by omega) dL_put_33
  · skip
    obtain ⟨rfl, hE, rfl, rfl, rfl, rfl⟩ := hp
    rcases hE with ⟨hE, hk⟩ | ⟨hE, hk⟩
    · skip
      refine Or.inl ⟨hE, ?_⟩
      refine lv_astore (lv' := [(6, .ref q9), (0, .ref xa), (1, .int x1), (2, .int x2), (3, .int x3), (4, .int x4), (5, .ref oa)]) hx hb dL_put_24 hl (by decide) rfl (fun ls hl => ?_)
      refine lv_iconst (v := nI 1) hx hb dL_put_26 (by decide +kernel) ?_
      exact ch_iret X hst ⟨by rw [hk], hcs, hp_off.rf, f, hoa, fun z9 => by omega⟩ (by omega) (by omega) dL_put_27
    · skip
      refine Or.inr ⟨hE, 28, rfl, ?_⟩
      refine lv_astore (lv' := [(6, .ref q9), (0, .ref xa), (1, .int x1), (2, .int x2), (3, .int x3), (4, .int x4), (5, .ref oa)]) hx hb dL_put_28 hl (by decide) rfl (fun ls hl => ?_)
      refine lv_iconst (v := nI 2) hx hb dL_put_30 (by decide +kernel) ?_
      exact ch_iret X hst ⟨by rw [hk], hcs, hp_off.rf, f, hoa, fun z9 => by omega⟩ (by omega) (by omega) dL_put_31

set_option maxHeartbeats 4000000 in
set_option maxRecDepth 100000 in
theorem w_resultant (l : Launch) (D : va_G) (Y : Nat → ClassId) (lo : Nat) {b L : Nat} {xs : Nat → Int32} {M : Hm} {xa p rf k rf' mc : Nat} {A cap si cap' si' : Nat → Nat} {P P' : Nat → Pf} {v : Int32} (hcs : cs Y M xa A p P cap si rf) {x1 x2 x3 x4 : Int32} (hct : ct l D Y lo y_H_resultant b_H_resultant 12 (some .boolean) 8 (.ref xa :: [.int x1, .int x2, .int x3, .int x4]) M (fun r9 M' => k = 0 ∧ r9 = rvl (some .boolean) v ∧ cs Y M' xa A p P' cap' si' rf' ∧ hp_off (fun i => i < 300) M M') (fun E9 M' => M = M' ∧ (E9 = EI ∧ k = 1 ∨ E9 = EA ∧ k = 2) ∧ P' = P ∧ rf' = rf ∧ cap' = cap ∧ si' = si) mc (6 * mc)) {oa : Nat} {f : Nat → Int64} (hoa : M oa = some ((2000, 0), e_l Y 1 f)) (hvb : ∃ z : Nat, z ≤ 1 ∧ v = nI z) : cth l D Y lo b L xs y_L_resultant (.codeWith y_L_resultant b_L_resultant 7 (some .int) [(0, 21, 24, 13), (0, 21, 28, 18)]) 9 [.ref xa, .int x1, .int x2, .int x3, .int x4, .ref oa] M (fun r9 M' => r9 = some (.int (nI k)) ∧ cs Y M' xa A p P' cap' si' rf' ∧ hp_off (fun i => i < 300 ∨ i = 2000) M M' ∧ ∃ f' : Nat → Int64, M' oa = some ((2000, 0), e_l Y 1 f') ∧ (k = 0 → f' 0 = v.toInt64)) mc (6 * mc) := by
  refine cth_of (by decide) (Nat.le_of_ble_eq_true rfl) ?_
  intro pg eg sg mg bw mt cg ls X hst hl
  have X1 := X
  obtain ⟨hx, hb, hml, hrt, hlocks, hown, hts, hbl, hkx, htb⟩ := X1
  have hG : ∀ w ∈ GW, w.before _ sg = true := fun w h => hts w (List.mem_cons_of_mem _ h)
  have hK := hkx.1.1
  have hl : lv_has ls 7 [(0, .ref xa), (1, .int x1), (2, .int x2), (3, .int x3), (4, .int x4), (5, .ref oa)] := hl
  obtain ⟨z, hz, rfl⟩ := hvb
  have hxa := hcs.1
  refine lv_aload hx hb dL_resultant_0 (lv_at hl 5 rfl) ?_
  refine lv_iconst (v := nI 0) hx hb dL_resultant_2 (by decide +kernel) ?_
  refine lv_aload_n hx hb dL_resultant_3 rfl (lv_at hl 0 rfl) ?_
  refine lv_iload_n hx hb dL_resultant_4 rfl (lv_at hl 1 rfl) ?_
  refine lv_iload_n hx hb dL_resultant_5 rfl (lv_at hl 2 rfl) ?_
  refine lv_iload_n hx hb dL_resultant_6 rfl (lv_at hl 3 rfl) ?_
  refine lv_iload hx hb dL_resultant_7 (lv_at hl 4 rfl) ?_
  refine ch_callV (a0 := 0) (b0 := 21) (h1 := 24) (tl := [(0, 21, 28, 18)]) (av2 := [.int x1, .int x2, .int x3, .int x4]) (rest := [.int (nI 0), .ref oa]) (x := xa) X rfl hst hct hxa rfl wc_H_resultant ml_L_43 wi_H_resultant wl_H_resultant wn_H md_H_resultant (by decide) hl.1 rfl (Nat.le_of_ble_eq_true rfl) ⟨by omega, by omega⟩ dL_resultant_9 (by decide) (fun r M' H locs hp hst => ?_) (fun E9 M' q9 H locs hp hst => ?_)
  · skip
    obtain ⟨hk, hr, hcs1, ho1⟩ := hp
    have hr : r = some (.int (nI z)) := hr
    subst hr
    refine lv_if_eq hx hb dL_resultant_12 (tgt := 19) rfl (fun hc => ?_) (fun hc => ?_)
    · skip
      rw [← nI_0] at hc
      have hcz : z = 0 := (nI_eq (by omega) (by omega)).mp hc
      refine lv_lconst (v := lN 0) hx hb dL_resultant_19 (by decide +kernel) ?_
      have hoa1 := ho1.of hoa (by show ¬ _ < 300; omega)
      refine hp_last hx hb hK rfl hst hoa1 (j := 0) (by omega) (by omega) dL_resultant_20 (fun H locs f2 hf2 hst => ?_)
      have hcs2 := hcs1.off (hp_off.up (S := fun i => i = 2000) (e' := e_l Y 1 f2) hoa1 rfl) (by omega)
      have ho2 := (ho1.wk (fun i hi => Or.inl hi)).tr (hp_off.up (S := fun i => i < 300 ∨ i = 2000) (e' := e_l Y 1 f2) hoa1 (Or.inr rfl))
      refine lv_goto hx hb dL_resultant_21 (tgt := 32) rfl ?_
      refine lv_iconst (v := nI 0) hx hb dL_resultant_32 (by decide +kernel) ?_
      exact ch_iret X hst ⟨by rw [hk], hcs2, ho2, f2, hp_up_self _ _ _, fun _ => by rw [hf2, show z = 0 by omega]; exact (nI_l (by omega)).symm⟩ (by omega) (by omega) dL_resultant_33
    · skip
      rw [← nI_0] at hc
      have hcz : ¬ z = 0 := fun z => hc ((nI_eq (by omega) (by omega)).mpr z)
      refine lv_lconst (v := lN 1) hx hb dL_resultant_15 (by decide +kernel) ?_
      refine lv_goto hx hb dL_resultant_16 (tgt := 20) rfl ?_
      have hoa1 := ho1.of hoa (by show ¬ _ < 300; omega)
      refine hp_last hx hb hK rfl hst hoa1 (j := 0) (by omega) (by omega) dL_resultant_20 (fun H locs f2 hf2 hst => ?_)
      have hcs2 := hcs1.off (hp_off.up (S := fun i => i = 2000) (e' := e_l Y 1 f2) hoa1 rfl) (by omega)
      have ho2 := (ho1.wk (fun i hi => Or.inl hi)).tr (hp_off.up (S := fun i => i < 300 ∨ i = 2000) (e' := e_l Y 1 f2) hoa1 (Or.inr rfl))
      refine lv_goto hx hb dL_resultant_21 (tgt := 32) rfl ?_
      refine lv_iconst (v := nI 0) hx hb dL_resultant_32 (by decide +kernel) ?_
      exact ch_iret X hst ⟨by rw [hk], hcs2, ho2, f2, hp_up_self _ _ _, fun _ => by rw [hf2, show z = 1 by omega]; exact (nI_l (by omega)).symm⟩ (by omega) (by omega) dL_resultant_33
  · skip
    obtain ⟨rfl, hE, rfl, rfl, rfl, rfl⟩ := hp
    rcases hE with ⟨hE, hk⟩ | ⟨hE, hk⟩
    · skip
      refine Or.inl ⟨hE, ?_⟩
      refine lv_astore (lv' := [(6, .ref q9), (0, .ref xa), (1, .int x1), (2, .int x2), (3, .int x3), (4, .int x4), (5, .ref oa)]) hx hb dL_resultant_24 hl (by decide) rfl (fun ls hl => ?_)
      refine lv_iconst (v := nI 1) hx hb dL_resultant_26 (by decide +kernel) ?_
      exact ch_iret X hst ⟨by rw [hk], hcs, hp_off.rf, f, hoa, fun z9 => by omega⟩ (by omega) (by omega) dL_resultant_27
    · skip
      refine Or.inr ⟨hE, 28, rfl, ?_⟩
      refine lv_astore (lv' := [(6, .ref q9), (0, .ref xa), (1, .int x1), (2, .int x2), (3, .int x3), (4, .int x4), (5, .ref oa)]) hx hb dL_resultant_28 hl (by decide) rfl (fun ls hl => ?_)
      refine lv_iconst (v := nI 2) hx hb dL_resultant_30 (by decide +kernel) ?_
      exact ch_iret X hst ⟨by rw [hk], hcs, hp_off.rf, f, hoa, fun z9 => by omega⟩ (by omega) (by omega) dL_resultant_31

set_option maxHeartbeats 4000000 in
set_option maxRecDepth 100000 in
theorem w_value (l : Launch) (D : va_G) (Y : Nat → ClassId) (lo : Nat) {b L : Nat} {xs : Nat → Int32} {M : Hm} {xa p rf k rf' mc : Nat} {A cap si cap' si' : Nat → Nat} {P P' : Nat → Pf} {v : Int32} (hcs : cs Y M xa A p P cap si rf) {x1 x2 x3 x4 : Int32} (hct : ct l D Y lo y_H_value b_H_value 8 (some .int) 8 (.ref xa :: [.int x1, .int x2, .int x3, .int x4]) M (fun r9 M' => k = 0 ∧ r9 = rvl (some .int) v ∧ cs Y M' xa A p P' cap' si' rf' ∧ hp_off (fun i => i < 300) M M') (fun E9 M' => M = M' ∧ (E9 = EI ∧ k = 1 ∨ E9 = EA ∧ k = 2) ∧ P' = P ∧ rf' = rf ∧ cap' = cap ∧ si' = si) mc (6 * mc)) (hk2 : k ≠ 2) {oa : Nat} {f : Nat → Int64} (hoa : M oa = some ((2000, 0), e_l Y 1 f)) : cth l D Y lo b L xs y_L_value (.codeWith y_L_value b_L_value 7 (some .int) [(0, 14, 17, 13)]) 9 [.ref xa, .int x1, .int x2, .int x3, .int x4, .ref oa] M (fun r9 M' => r9 = some (.int (nI k)) ∧ cs Y M' xa A p P' cap' si' rf' ∧ hp_off (fun i => i < 300 ∨ i = 2000) M M' ∧ ∃ f' : Nat → Int64, M' oa = some ((2000, 0), e_l Y 1 f') ∧ (k = 0 → f' 0 = v.toInt64)) mc (6 * mc) := by
  refine cth_of (by decide) (Nat.le_of_ble_eq_true rfl) ?_
  intro pg eg sg mg bw mt cg ls X hst hl
  have X1 := X
  obtain ⟨hx, hb, hml, hrt, hlocks, hown, hts, hbl, hkx, htb⟩ := X1
  have hG : ∀ w ∈ GW, w.before _ sg = true := fun w h => hts w (List.mem_cons_of_mem _ h)
  have hK := hkx.1.1
  have hl : lv_has ls 7 [(0, .ref xa), (1, .int x1), (2, .int x2), (3, .int x3), (4, .int x4), (5, .ref oa)] := hl
  have hxa := hcs.1
  refine lv_aload hx hb dL_value_0 (lv_at hl 5 rfl) ?_
  refine lv_iconst (v := nI 0) hx hb dL_value_2 (by decide +kernel) ?_
  refine lv_aload_n hx hb dL_value_3 rfl (lv_at hl 0 rfl) ?_
  refine lv_iload_n hx hb dL_value_4 rfl (lv_at hl 1 rfl) ?_
  refine lv_iload_n hx hb dL_value_5 rfl (lv_at hl 2 rfl) ?_
  refine lv_iload_n hx hb dL_value_6 rfl (lv_at hl 3 rfl) ?_
  refine lv_iload hx hb dL_value_7 (lv_at hl 4 rfl) ?_
  refine ch_callV (a0 := 0) (b0 := 14) (h1 := 17) (tl := []) (av2 := [.int x1, .int x2, .int x3, .int x4]) (rest := [.int (nI 0), .ref oa]) (x := xa) X rfl hst hct hxa rfl wc_H_value ml_L_46 wi_H_value wl_H_value wn_H md_H_value (by decide) hl.1 rfl (Nat.le_of_ble_eq_true rfl) ⟨by omega, by omega⟩ dL_value_9 (by decide) (fun r M' H locs hp hst => ?_) (fun E9 M' q9 H locs hp hst => ?_)
  · skip
    obtain ⟨hk, hr, hcs1, ho1⟩ := hp
    have hr : r = some (.int v) := hr
    subst hr
    refine lv_i2l (v := v.toInt64) hx hb dL_value_12 rfl ?_
    have hoa1 := ho1.of hoa (by show ¬ _ < 300; omega)
    refine hp_last hx hb hK rfl hst hoa1 (j := 0) (by omega) (by omega) dL_value_13 (fun H locs f2 hf2 hst => ?_)
    have hcs2 := hcs1.off (hp_off.up (S := fun i => i = 2000) (e' := e_l Y 1 f2) hoa1 rfl) (by omega)
    have ho2 := (ho1.wk (fun i hi => Or.inl hi)).tr (hp_off.up (S := fun i => i < 300 ∨ i = 2000) (e' := e_l Y 1 f2) hoa1 (Or.inr rfl))
    refine lv_goto hx hb dL_value_14 (tgt := 21) rfl ?_
    refine lv_iconst (v := nI 0) hx hb dL_value_21 (by decide +kernel) ?_
    exact ch_iret X hst ⟨by rw [hk], hcs2, ho2, f2, hp_up_self _ _ _, fun _ => hf2⟩ (by omega) (by omega) dL_value_22
  · skip
    obtain ⟨rfl, hE, rfl, rfl, rfl, rfl⟩ := hp
    rcases hE with ⟨hE, hk⟩ | ⟨hE, hk⟩
    · skip
      refine Or.inl ⟨hE, ?_⟩
      refine lv_astore (lv' := [(6, .ref q9), (0, .ref xa), (1, .int x1), (2, .int x2), (3, .int x3), (4, .int x4), (5, .ref oa)]) hx hb dL_value_17 hl (by decide) rfl (fun ls hl => ?_)
      refine lv_iconst (v := nI 1) hx hb dL_value_19 (by decide +kernel) ?_
      exact ch_iret X hst ⟨by rw [hk], hcs, hp_off.rf, f, hoa, fun z9 => by omega⟩ (by omega) (by omega) dL_value_20
    · exact absurd hk hk2

set_option maxHeartbeats 4000000 in
set_option maxRecDepth 100000 in
theorem w_terms (l : Launch) (D : va_G) (Y : Nat → ClassId) (lo : Nat) {b L : Nat} {xs : Nat → Int32} {M : Hm} {xa p rf k rf' mc : Nat} {A cap si cap' si' : Nat → Nat} {P P' : Nat → Pf} {v : Int32} (hcs : cs Y M xa A p P cap si rf) {x1 : Int32} (hct : ct l D Y lo y_H_terms b_H_terms 2 (some .int) 8 (.ref xa :: [.int x1]) M (fun r9 M' => k = 0 ∧ r9 = rvl (some .int) v ∧ cs Y M' xa A p P' cap' si' rf' ∧ hp_off (fun i => i < 300) M M') (fun E9 M' => M = M' ∧ (E9 = EI ∧ k = 1 ∨ E9 = EA ∧ k = 2) ∧ P' = P ∧ rf' = rf ∧ cap' = cap ∧ si' = si) mc (6 * mc)) (hk2 : k ≠ 2) {oa : Nat} {f : Nat → Int64} (hoa : M oa = some ((2000, 0), e_l Y 1 f)) : cth l D Y lo b L xs y_L_terms (.codeWith y_L_terms b_L_terms 4 (some .int) [(0, 9, 12, 13)]) 9 [.ref xa, .int x1, .ref oa] M (fun r9 M' => r9 = some (.int (nI k)) ∧ cs Y M' xa A p P' cap' si' rf' ∧ hp_off (fun i => i < 300 ∨ i = 2000) M M' ∧ ∃ f' : Nat → Int64, M' oa = some ((2000, 0), e_l Y 1 f') ∧ (k = 0 → f' 0 = v.toInt64)) mc (6 * mc) := by
  refine cth_of (by decide) (Nat.le_of_ble_eq_true rfl) ?_
  intro pg eg sg mg bw mt cg ls X hst hl
  have X1 := X
  obtain ⟨hx, hb, hml, hrt, hlocks, hown, hts, hbl, hkx, htb⟩ := X1
  have hG : ∀ w ∈ GW, w.before _ sg = true := fun w h => hts w (List.mem_cons_of_mem _ h)
  have hK := hkx.1.1
  have hl : lv_has ls 4 [(0, .ref xa), (1, .int x1), (2, .ref oa)] := hl
  have hxa := hcs.1
  refine lv_aload_n hx hb dL_terms_0 rfl (lv_at hl 2 rfl) ?_
  refine lv_iconst (v := nI 0) hx hb dL_terms_1 (by decide +kernel) ?_
  refine lv_aload_n hx hb dL_terms_2 rfl (lv_at hl 0 rfl) ?_
  refine lv_iload_n hx hb dL_terms_3 rfl (lv_at hl 1 rfl) ?_
  refine ch_callV (a0 := 0) (b0 := 9) (h1 := 12) (tl := []) (av2 := [.int x1]) (rest := [.int (nI 0), .ref oa]) (x := xa) X rfl hst hct hxa rfl wc_H_terms ml_L_50 wi_H_terms wl_H_terms wn_H md_H_terms (by decide) hl.1 rfl (Nat.le_of_ble_eq_true rfl) ⟨by omega, by omega⟩ dL_terms_4 (by decide) (fun r M' H locs hp hst => ?_) (fun E9 M' q9 H locs hp hst => ?_)
  · skip
    obtain ⟨hk, hr, hcs1, ho1⟩ := hp
    have hr : r = some (.int v) := hr
    subst hr
    refine lv_i2l (v := v.toInt64) hx hb dL_terms_7 rfl ?_
    have hoa1 := ho1.of hoa (by show ¬ _ < 300; omega)
    refine hp_last hx hb hK rfl hst hoa1 (j := 0) (by omega) (by omega) dL_terms_8 (fun H locs f2 hf2 hst => ?_)
    have hcs2 := hcs1.off (hp_off.up (S := fun i => i = 2000) (e' := e_l Y 1 f2) hoa1 rfl) (by omega)
    have ho2 := (ho1.wk (fun i hi => Or.inl hi)).tr (hp_off.up (S := fun i => i < 300 ∨ i = 2000) (e' := e_l Y 1 f2) hoa1 (Or.inr rfl))
    refine lv_goto hx hb dL_terms_9 (tgt := 15) rfl ?_
    refine lv_iconst (v := nI 0) hx hb dL_terms_15 (by decide +kernel) ?_
    exact ch_iret X hst ⟨by rw [hk], hcs2, ho2, f2, hp_up_self _ _ _, fun _ => hf2⟩ (by omega) (by omega) dL_terms_16
  · skip
    obtain ⟨rfl, hE, rfl, rfl, rfl, rfl⟩ := hp
    rcases hE with ⟨hE, hk⟩ | ⟨hE, hk⟩
    · skip
      refine Or.inl ⟨hE, ?_⟩
      refine lv_astore_n (lv' := [(3, .ref q9), (0, .ref xa), (1, .int x1), (2, .ref oa)]) hx hb dL_terms_12 rfl hl (by decide) rfl (fun ls hl => ?_)
      refine lv_iconst (v := nI 1) hx hb dL_terms_13 (by decide +kernel) ?_
      exact ch_iret X hst ⟨by rw [hk], hcs, hp_off.rf, f, hoa, fun z9 => by omega⟩ (by omega) (by omega) dL_terms_14
    · exact absurd hk hk2

set_option maxHeartbeats 4000000 in
set_option maxRecDepth 100000 in
theorem w_term (l : Launch) (D : va_G) (Y : Nat → ClassId) (lo : Nat) {b L : Nat} {xs : Nat → Int32} {M : Hm} {xa p rf k rf' mc : Nat} {A cap si cap' si' : Nat → Nat} {P P' : Nat → Pf} {v : Int32} (hcs : cs Y M xa A p P cap si rf) {x1 x2 x3 : Int32} (hct : ct l D Y lo y_H_term b_H_term 5 (some .int) 8 (.ref xa :: [.int x1, .int x2, .int x3]) M (fun r9 M' => k = 0 ∧ r9 = rvl (some .int) v ∧ cs Y M' xa A p P' cap' si' rf' ∧ hp_off (fun i => i < 300) M M') (fun E9 M' => M = M' ∧ (E9 = EI ∧ k = 1 ∨ E9 = EA ∧ k = 2) ∧ P' = P ∧ rf' = rf ∧ cap' = cap ∧ si' = si) mc (6 * mc)) {oa : Nat} {f : Nat → Int64} (hoa : M oa = some ((2000, 0), e_l Y 1 f)) : cth l D Y lo b L xs y_L_term (.codeWith y_L_term b_L_term 6 (some .int) [(0, 12, 15, 13), (0, 12, 19, 18)]) 9 [.ref xa, .int x1, .int x2, .int x3, .ref oa] M (fun r9 M' => r9 = some (.int (nI k)) ∧ cs Y M' xa A p P' cap' si' rf' ∧ hp_off (fun i => i < 300 ∨ i = 2000) M M' ∧ ∃ f' : Nat → Int64, M' oa = some ((2000, 0), e_l Y 1 f') ∧ (k = 0 → f' 0 = v.toInt64)) mc (6 * mc) := by
  refine cth_of (by decide) (Nat.le_of_ble_eq_true rfl) ?_
  intro pg eg sg mg bw mt cg ls X hst hl
  have X1 := X
  obtain ⟨hx, hb, hml, hrt, hlocks, hown, hts, hbl, hkx, htb⟩ := X1
  have hG : ∀ w ∈ GW, w.before _ sg = true := fun w h => hts w (List.mem_cons_of_mem _ h)
  have hK := hkx.1.1
  have hl : lv_has ls 6 [(0, .ref xa), (1, .int x1), (2, .int x2), (3, .int x3), (4, .ref oa)] := hl
  have hxa := hcs.1
  refine lv_aload hx hb dL_term_0 (lv_at hl 4 rfl) ?_
  refine lv_iconst (v := nI 0) hx hb dL_term_2 (by decide +kernel) ?_
  refine lv_aload_n hx hb dL_term_3 rfl (lv_at hl 0 rfl) ?_
  refine lv_iload_n hx hb dL_term_4 rfl (lv_at hl 1 rfl) ?_
  refine lv_iload_n hx hb dL_term_5 rfl (lv_at hl 2 rfl) ?_
  refine lv_iload_n hx hb dL_term_6 rfl (lv_at hl 3 rfl) ?_
  refine ch_callV (a0 := 0) (b0 := 12) (h1 := 15) (tl := [(0, 12, 19, 18)]) (av2 := [.int x1, .int x2, .int x3]) (rest := [.int (nI 0), .ref oa]) (x := xa) X rfl hst hct hxa rfl wc_H_term ml_L_54 wi_H_term wl_H_term wn_H md_H_term (by decide) hl.1 rfl (Nat.le_of_ble_eq_true rfl) ⟨by omega, by omega⟩ dL_term_7 (by decide) (fun r M' H locs hp hst => ?_) (fun E9 M' q9 H locs hp hst => ?_)
  · skip
    obtain ⟨hk, hr, hcs1, ho1⟩ := hp
    have hr : r = some (.int v) := hr
    subst hr
    refine lv_i2l (v := v.toInt64) hx hb dL_term_10 rfl ?_
    have hoa1 := ho1.of hoa (by show ¬ _ < 300; omega)
    refine hp_last hx hb hK rfl hst hoa1 (j := 0) (by omega) (by omega) dL_term_11 (fun H locs f2 hf2 hst => ?_)
    have hcs2 := hcs1.off (hp_off.up (S := fun i => i = 2000) (e' := e_l Y 1 f2) hoa1 rfl) (by omega)
    have ho2 := (ho1.wk (fun i hi => Or.inl hi)).tr (hp_off.up (S := fun i => i < 300 ∨ i = 2000) (e' := e_l Y 1 f2) hoa1 (Or.inr rfl))
    refine lv_goto hx hb dL_term_12 (tgt := 23) rfl ?_
    refine lv_iconst (v := nI 0) hx hb dL_term_23 (by decide +kernel) ?_
    exact ch_iret X hst ⟨by rw [hk], hcs2, ho2, f2, hp_up_self _ _ _, fun _ => hf2⟩ (by omega) (by omega) dL_term_24
  · skip
    obtain ⟨rfl, hE, rfl, rfl, rfl, rfl⟩ := hp
    rcases hE with ⟨hE, hk⟩ | ⟨hE, hk⟩
    · skip
      refine Or.inl ⟨hE, ?_⟩
      refine lv_astore (lv' := [(5, .ref q9), (0, .ref xa), (1, .int x1), (2, .int x2), (3, .int x3), (4, .ref oa)]) hx hb dL_term_15 hl (by decide) rfl (fun ls hl => ?_)
      refine lv_iconst (v := nI 1) hx hb dL_term_17 (by decide +kernel) ?_
      exact ch_iret X hst ⟨by rw [hk], hcs, hp_off.rf, f, hoa, fun z9 => by omega⟩ (by omega) (by omega) dL_term_18
    · skip
      refine Or.inr ⟨hE, 19, rfl, ?_⟩
      refine lv_astore (lv' := [(5, .ref q9), (0, .ref xa), (1, .int x1), (2, .int x2), (3, .int x3), (4, .ref oa)]) hx hb dL_term_19 hl (by decide) rfl (fun ls hl => ?_)
      refine lv_iconst (v := nI 2) hx hb dL_term_21 (by decide +kernel) ?_
      exact ch_iret X hst ⟨by rw [hk], hcs, hp_off.rf, f, hoa, fun z9 => by omega⟩ (by omega) (by omega) dL_term_22

set_option maxHeartbeats 4000000 in
set_option maxRecDepth 100000 in
theorem w_coefficient (l : Launch) (D : va_G) (Y : Nat → ClassId) (lo : Nat) {b L : Nat} {xs : Nat → Int32} {M : Hm} {xa p rf k rf' mc : Nat} {A cap si cap' si' : Nat → Nat} {P P' : Nat → Pf} {v : Int32} (hcs : cs Y M xa A p P cap si rf) {x1 x2 x3 x4 : Int32} (hct : ct l D Y lo y_H_coefficient b_H_coefficient 5 (some .int) 8 (.ref xa :: [.int x1, .int x2, .int x3, .int x4]) M (fun r9 M' => k = 0 ∧ r9 = rvl (some .int) v ∧ cs Y M' xa A p P' cap' si' rf' ∧ hp_off (fun i => i < 300) M M') (fun E9 M' => M = M' ∧ (E9 = EI ∧ k = 1 ∨ E9 = EA ∧ k = 2) ∧ P' = P ∧ rf' = rf ∧ cap' = cap ∧ si' = si) mc (6 * mc)) {oa : Nat} {f : Nat → Int64} (hoa : M oa = some ((2000, 0), e_l Y 1 f)) : cth l D Y lo b L xs y_L_coefficient (.codeWith y_L_coefficient b_L_coefficient 7 (some .int) [(0, 14, 17, 13), (0, 14, 21, 18)]) 9 [.ref xa, .int x1, .int x2, .int x3, .int x4, .ref oa] M (fun r9 M' => r9 = some (.int (nI k)) ∧ cs Y M' xa A p P' cap' si' rf' ∧ hp_off (fun i => i < 300 ∨ i = 2000) M M' ∧ ∃ f' : Nat → Int64, M' oa = some ((2000, 0), e_l Y 1 f') ∧ (k = 0 → f' 0 = v.toInt64)) mc (6 * mc) := by
  refine cth_of (by decide) (Nat.le_of_ble_eq_true rfl) ?_
  intro pg eg sg mg bw mt cg ls X hst hl
  have X1 := X
  obtain ⟨hx, hb, hml, hrt, hlocks, hown, hts, hbl, hkx, htb⟩ := X1
  have hG : ∀ w ∈ GW, w.before _ sg = true := fun w h => hts w (List.mem_cons_of_mem _ h)
  have hK := hkx.1.1
  have hl : lv_has ls 7 [(0, .ref xa), (1, .int x1), (2, .int x2), (3, .int x3), (4, .int x4), (5, .ref oa)] := hl
  have hxa := hcs.1
  refine lv_aload hx hb dL_coefficient_0 (lv_at hl 5 rfl) ?_
  refine lv_iconst (v := nI 0) hx hb dL_coefficient_2 (by decide +kernel) ?_
  refine lv_aload_n hx hb dL_coefficient_3 rfl (lv_at hl 0 rfl) ?_
  refine lv_iload_n hx hb dL_coefficient_4 rfl (lv_at hl 1 rfl) ?_
  refine lv_iload_n hx hb dL_coefficient_5 rfl (lv_at hl 2 rfl) ?_
  refine lv_iload_n hx hb dL_coefficient_6 rfl (lv_at hl 3 rfl) ?_
  refine lv_iload hx hb dL_coefficient_7 (lv_at hl 4 rfl) ?_
  refine ch_callV (a0 := 0) (b0 := 14) (h1 := 17) (tl := [(0, 14, 21, 18)]) (av2 := [.int x1, .int x2, .int x3, .int x4]) (rest := [.int (nI 0), .ref oa]) (x := xa) X rfl hst hct hxa rfl wc_H_coefficient ml_L_58 wi_H_coefficient wl_H_coefficient wn_H md_H_coefficient (by decide) hl.1 rfl (Nat.le_of_ble_eq_true rfl) ⟨by omega, by omega⟩ dL_coefficient_9 (by decide) (fun r M' H locs hp hst => ?_) (fun E9 M' q9 H locs hp hst => ?_)
  · skip
    obtain ⟨hk, hr, hcs1, ho1⟩ := hp
    have hr : r = some (.int v) := hr
    subst hr
    refine lv_i2l (v := v.toInt64) hx hb dL_coefficient_12 rfl ?_
    have hoa1 := ho1.of hoa (by show ¬ _ < 300; omega)
    refine hp_last hx hb hK rfl hst hoa1 (j := 0) (by omega) (by omega) dL_coefficient_13 (fun H locs f2 hf2 hst => ?_)
    have hcs2 := hcs1.off (hp_off.up (S := fun i => i = 2000) (e' := e_l Y 1 f2) hoa1 rfl) (by omega)
    have ho2 := (ho1.wk (fun i hi => Or.inl hi)).tr (hp_off.up (S := fun i => i < 300 ∨ i = 2000) (e' := e_l Y 1 f2) hoa1 (Or.inr rfl))
    refine lv_goto hx hb dL_coefficient_14 (tgt := 25) rfl ?_
    refine lv_iconst (v := nI 0) hx hb dL_coefficient_25 (by decide +kernel) ?_
    exact ch_iret X hst ⟨by rw [hk], hcs2, ho2, f2, hp_up_self _ _ _, fun _ => hf2⟩ (by omega) (by omega) dL_coefficient_26
  · skip
    obtain ⟨rfl, hE, rfl, rfl, rfl, rfl⟩ := hp
    rcases hE with ⟨hE, hk⟩ | ⟨hE, hk⟩
    · skip
      refine Or.inl ⟨hE, ?_⟩
      refine lv_astore (lv' := [(6, .ref q9), (0, .ref xa), (1, .int x1), (2, .int x2), (3, .int x3), (4, .int x4), (5, .ref oa)]) hx hb dL_coefficient_17 hl (by decide) rfl (fun ls hl => ?_)
      refine lv_iconst (v := nI 1) hx hb dL_coefficient_19 (by decide +kernel) ?_
      exact ch_iret X hst ⟨by rw [hk], hcs, hp_off.rf, f, hoa, fun z9 => by omega⟩ (by omega) (by omega) dL_coefficient_20
    · skip
      refine Or.inr ⟨hE, 21, rfl, ?_⟩
      refine lv_astore (lv' := [(6, .ref q9), (0, .ref xa), (1, .int x1), (2, .int x2), (3, .int x3), (4, .int x4), (5, .ref oa)]) hx hb dL_coefficient_21 hl (by decide) rfl (fun ls hl => ?_)
      refine lv_iconst (v := nI 2) hx hb dL_coefficient_23 (by decide +kernel) ?_
      exact ch_iret X hst ⟨by rw [hk], hcs, hp_off.rf, f, hoa, fun z9 => by omega⟩ (by omega) (by omega) dL_coefficient_24

set_option maxHeartbeats 4000000 in
set_option maxRecDepth 100000 in
theorem w_degree (l : Launch) (D : va_G) (Y : Nat → ClassId) (lo : Nat) {b L : Nat} {xs : Nat → Int32} {M : Hm} {xa p rf k rf' mc : Nat} {A cap si cap' si' : Nat → Nat} {P P' : Nat → Pf} {v : Int32} (hcs : cs Y M xa A p P cap si rf) {x1 x2 : Int32} (hct : ct l D Y lo y_H_degree b_H_degree 3 (some .int) 8 (.ref xa :: [.int x1, .int x2]) M (fun r9 M' => k = 0 ∧ r9 = rvl (some .int) v ∧ cs Y M' xa A p P' cap' si' rf' ∧ hp_off (fun i => i < 300) M M') (fun E9 M' => M = M' ∧ (E9 = EI ∧ k = 1 ∨ E9 = EA ∧ k = 2) ∧ P' = P ∧ rf' = rf ∧ cap' = cap ∧ si' = si) mc (6 * mc)) {oa : Nat} {f : Nat → Int64} (hoa : M oa = some ((2000, 0), e_l Y 1 f)) : cth l D Y lo b L xs y_L_degree (.codeWith y_L_degree b_L_degree 5 (some .int) [(0, 10, 13, 13), (0, 10, 17, 18)]) 9 [.ref xa, .int x1, .int x2, .ref oa] M (fun r9 M' => r9 = some (.int (nI k)) ∧ cs Y M' xa A p P' cap' si' rf' ∧ hp_off (fun i => i < 300 ∨ i = 2000) M M' ∧ ∃ f' : Nat → Int64, M' oa = some ((2000, 0), e_l Y 1 f') ∧ (k = 0 → f' 0 = v.toInt64)) mc (6 * mc) := by
  refine cth_of (by decide) (Nat.le_of_ble_eq_true rfl) ?_
  intro pg eg sg mg bw mt cg ls X hst hl
  have X1 := X
  obtain ⟨hx, hb, hml, hrt, hlocks, hown, hts, hbl, hkx, htb⟩ := X1
  have hG : ∀ w ∈ GW, w.before _ sg = true := fun w h => hts w (List.mem_cons_of_mem _ h)
  have hK := hkx.1.1
  have hl : lv_has ls 5 [(0, .ref xa), (1, .int x1), (2, .int x2), (3, .ref oa)] := hl
  have hxa := hcs.1
  refine lv_aload_n hx hb dL_degree_0 rfl (lv_at hl 3 rfl) ?_
  refine lv_iconst (v := nI 0) hx hb dL_degree_1 (by decide +kernel) ?_
  refine lv_aload_n hx hb dL_degree_2 rfl (lv_at hl 0 rfl) ?_
  refine lv_iload_n hx hb dL_degree_3 rfl (lv_at hl 1 rfl) ?_
  refine lv_iload_n hx hb dL_degree_4 rfl (lv_at hl 2 rfl) ?_
  refine ch_callV (a0 := 0) (b0 := 10) (h1 := 13) (tl := [(0, 10, 17, 18)]) (av2 := [.int x1, .int x2]) (rest := [.int (nI 0), .ref oa]) (x := xa) X rfl hst hct hxa rfl wc_H_degree ml_L_61 wi_H_degree wl_H_degree wn_H md_H_degree (by decide) hl.1 rfl (Nat.le_of_ble_eq_true rfl) ⟨by omega, by omega⟩ dL_degree_5 (by decide) (fun r M' H locs hp hst => ?_) (fun E9 M' q9 H locs hp hst => ?_)
  · skip
    obtain ⟨hk, hr, hcs1, ho1⟩ := hp
    have hr : r = some (.int v) := hr
    subst hr
    refine lv_i2l (v := v.toInt64) hx hb dL_degree_8 rfl ?_
    have hoa1 := ho1.of hoa (by show ¬ _ < 300; omega)
    refine hp_last hx hb hK rfl hst hoa1 (j := 0) (by omega) (by omega) dL_degree_9 (fun H locs f2 hf2 hst => ?_)
    have hcs2 := hcs1.off (hp_off.up (S := fun i => i = 2000) (e' := e_l Y 1 f2) hoa1 rfl) (by omega)
    have ho2 := (ho1.wk (fun i hi => Or.inl hi)).tr (hp_off.up (S := fun i => i < 300 ∨ i = 2000) (e' := e_l Y 1 f2) hoa1 (Or.inr rfl))
    refine lv_goto hx hb dL_degree_10 (tgt := 21) rfl ?_
    refine lv_iconst (v := nI 0) hx hb dL_degree_21 (by decide +kernel) ?_
    exact ch_iret X hst ⟨by rw [hk], hcs2, ho2, f2, hp_up_self _ _ _, fun _ => hf2⟩ (by omega) (by omega) dL_degree_22
  · skip
    obtain ⟨rfl, hE, rfl, rfl, rfl, rfl⟩ := hp
    rcases hE with ⟨hE, hk⟩ | ⟨hE, hk⟩
    · skip
      refine Or.inl ⟨hE, ?_⟩
      refine lv_astore (lv' := [(4, .ref q9), (0, .ref xa), (1, .int x1), (2, .int x2), (3, .ref oa)]) hx hb dL_degree_13 hl (by decide) rfl (fun ls hl => ?_)
      refine lv_iconst (v := nI 1) hx hb dL_degree_15 (by decide +kernel) ?_
      exact ch_iret X hst ⟨by rw [hk], hcs, hp_off.rf, f, hoa, fun z9 => by omega⟩ (by omega) (by omega) dL_degree_16
    · skip
      refine Or.inr ⟨hE, 17, rfl, ?_⟩
      refine lv_astore (lv' := [(4, .ref q9), (0, .ref xa), (1, .int x1), (2, .int x2), (3, .ref oa)]) hx hb dL_degree_17 hl (by decide) rfl (fun ls hl => ?_)
      refine lv_iconst (v := nI 2) hx hb dL_degree_19 (by decide +kernel) ?_
      exact ch_iret X hst ⟨by rw [hk], hcs, hp_off.rf, f, hoa, fun z9 => by omega⟩ (by omega) (by omega) dL_degree_20

set_option maxHeartbeats 4000000 in
set_option maxRecDepth 100000 in
theorem w_isSame (l : Launch) (D : va_G) (Y : Nat → ClassId) (lo : Nat) {b L : Nat} {xs : Nat → Int32} {M : Hm} {xa p rf k rf' mc : Nat} {A cap si cap' si' : Nat → Nat} {P P' : Nat → Pf} {v : Int32} (hcs : cs Y M xa A p P cap si rf) {x1 x2 : Int32} (hct : ct l D Y lo y_H_isSame b_H_isSame 3 (some .boolean) 8 (.ref xa :: [.int x1, .int x2]) M (fun r9 M' => k = 0 ∧ r9 = rvl (some .boolean) v ∧ cs Y M' xa A p P' cap' si' rf' ∧ hp_off (fun i => i < 300) M M') (fun E9 M' => M = M' ∧ (E9 = EI ∧ k = 1 ∨ E9 = EA ∧ k = 2) ∧ P' = P ∧ rf' = rf ∧ cap' = cap ∧ si' = si) mc (6 * mc)) (hk2 : k ≠ 2) {oa : Nat} {f : Nat → Int64} (hoa : M oa = some ((2000, 0), e_l Y 1 f)) (hvb : ∃ z : Nat, z ≤ 1 ∧ v = nI z) : cth l D Y lo b L xs y_L_isSame (.codeWith y_L_isSame b_L_isSame 5 (some .int) [(0, 17, 20, 13)]) 9 [.ref xa, .int x1, .int x2, .ref oa] M (fun r9 M' => r9 = some (.int (nI k)) ∧ cs Y M' xa A p P' cap' si' rf' ∧ hp_off (fun i => i < 300 ∨ i = 2000) M M' ∧ ∃ f' : Nat → Int64, M' oa = some ((2000, 0), e_l Y 1 f') ∧ (k = 0 → f' 0 = v.toInt64)) mc (6 * mc) := by
  refine cth_of (by decide) (Nat.le_of_ble_eq_true rfl) ?_
  intro pg eg sg mg bw mt cg ls X hst hl
  have X1 := X
  obtain ⟨hx, hb, hml, hrt, hlocks, hown, hts, hbl, hkx, htb⟩ := X1
  have hG : ∀ w ∈ GW, w.before _ sg = true := fun w h => hts w (List.mem_cons_of_mem _ h)
  have hK := hkx.1.1
  have hl : lv_has ls 5 [(0, .ref xa), (1, .int x1), (2, .int x2), (3, .ref oa)] := hl
  obtain ⟨z, hz, rfl⟩ := hvb
  have hxa := hcs.1
  refine lv_aload_n hx hb dL_isSame_0 rfl (lv_at hl 3 rfl) ?_
  refine lv_iconst (v := nI 0) hx hb dL_isSame_1 (by decide +kernel) ?_
  refine lv_aload_n hx hb dL_isSame_2 rfl (lv_at hl 0 rfl) ?_
  refine lv_iload_n hx hb dL_isSame_3 rfl (lv_at hl 1 rfl) ?_
  refine lv_iload_n hx hb dL_isSame_4 rfl (lv_at hl 2 rfl) ?_
  refine ch_callV (a0 := 0) (b0 := 17) (h1 := 20) (tl := []) (av2 := [.int x1, .int x2]) (rest := [.int (nI 0), .ref oa]) (x := xa) X rfl hst hct hxa rfl wc_H_isSame ml_L_65 wi_H_isSame wl_H_isSame wn_H md_H_isSame (by decide) hl.1 rfl (Nat.le_of_ble_eq_true rfl) ⟨by omega, by omega⟩ dL_isSame_5 (by decide) (fun r M' H locs hp hst => ?_) (fun E9 M' q9 H locs hp hst => ?_)
  · skip
    obtain ⟨hk, hr, hcs1, ho1⟩ := hp
    have hr : r = some (.int (nI z)) := hr
    subst hr
    refine lv_if_eq hx hb dL_isSame_8 (tgt := 15) rfl (fun hc => ?_) (fun hc => ?_)
    · skip
      rw [← nI_0] at hc
      have hcz : z = 0 := (nI_eq (by omega) (by omega)).mp hc
      refine lv_lconst (v := lN 0) hx hb dL_isSame_15 (by decide +kernel) ?_
      have hoa1 := ho1.of hoa (by show ¬ _ < 300; omega)
      refine hp_last hx hb hK rfl hst hoa1 (j := 0) (by omega) (by omega) dL_isSame_16 (fun H locs f2 hf2 hst => ?_)
      have hcs2 := hcs1.off (hp_off.up (S := fun i => i = 2000) (e' := e_l Y 1 f2) hoa1 rfl) (by omega)
      have ho2 := (ho1.wk (fun i hi => Or.inl hi)).tr (hp_off.up (S := fun i => i < 300 ∨ i = 2000) (e' := e_l Y 1 f2) hoa1 (Or.inr rfl))
      refine lv_goto hx hb dL_isSame_17 (tgt := 24) rfl ?_
      refine lv_iconst (v := nI 0) hx hb dL_isSame_24 (by decide +kernel) ?_
      exact ch_iret X hst ⟨by rw [hk], hcs2, ho2, f2, hp_up_self _ _ _, fun _ => by rw [hf2, show z = 0 by omega]; exact (nI_l (by omega)).symm⟩ (by omega) (by omega) dL_isSame_25
    · skip
      rw [← nI_0] at hc
      have hcz : ¬ z = 0 := fun z => hc ((nI_eq (by omega) (by omega)).mpr z)
      refine lv_lconst (v := lN 1) hx hb dL_isSame_11 (by decide +kernel) ?_
      refine lv_goto hx hb dL_isSame_12 (tgt := 16) rfl ?_
      have hoa1 := ho1.of hoa (by show ¬ _ < 300; omega)
      refine hp_last hx hb hK rfl hst hoa1 (j := 0) (by omega) (by omega) dL_isSame_16 (fun H locs f2 hf2 hst => ?_)
      have hcs2 := hcs1.off (hp_off.up (S := fun i => i = 2000) (e' := e_l Y 1 f2) hoa1 rfl) (by omega)
      have ho2 := (ho1.wk (fun i hi => Or.inl hi)).tr (hp_off.up (S := fun i => i < 300 ∨ i = 2000) (e' := e_l Y 1 f2) hoa1 (Or.inr rfl))
      refine lv_goto hx hb dL_isSame_17 (tgt := 24) rfl ?_
      refine lv_iconst (v := nI 0) hx hb dL_isSame_24 (by decide +kernel) ?_
      exact ch_iret X hst ⟨by rw [hk], hcs2, ho2, f2, hp_up_self _ _ _, fun _ => by rw [hf2, show z = 1 by omega]; exact (nI_l (by omega)).symm⟩ (by omega) (by omega) dL_isSame_25
  · skip
    obtain ⟨rfl, hE, rfl, rfl, rfl, rfl⟩ := hp
    rcases hE with ⟨hE, hk⟩ | ⟨hE, hk⟩
    · skip
      refine Or.inl ⟨hE, ?_⟩
      refine lv_astore (lv' := [(4, .ref q9), (0, .ref xa), (1, .int x1), (2, .int x2), (3, .ref oa)]) hx hb dL_isSame_20 hl (by decide) rfl (fun ls hl => ?_)
      refine lv_iconst (v := nI 1) hx hb dL_isSame_22 (by decide +kernel) ?_
      exact ch_iret X hst ⟨by rw [hk], hcs, hp_off.rf, f, hoa, fun z9 => by omega⟩ (by omega) (by omega) dL_isSame_23
    · exact absurd hk hk2

set_option maxHeartbeats 4000000 in
set_option maxRecDepth 100000 in
theorem w_cell (l : Launch) (D : va_G) (Y : Nat → ClassId) (lo : Nat) {b L : Nat} {xs : Nat → Int32} {M : Hm} (hL : L ≤ 2561) : cth l D Y lo b L xs y_L_cell (.code y_L_cell b_L_cell 2 (some .int)) 0 [.ref b, .int (nI 0)] M (fun r9 M' => r9 = some (.int (if 0 < L then xs 0 else 0)) ∧ M = M') 0 0 := by
  refine cth_ofC (by decide) (Nat.le_of_ble_eq_true rfl) ?_
  intro pg eg sg mg bw mt cg ls X hst hl
  have X1 := X
  obtain ⟨hx, hb, hml, hrt, hlocks, hown, hts, hbl, hkx, htb⟩ := X1
  have hG : ∀ w ∈ GW, w.before _ sg = true := fun w h => hts w (List.mem_cons_of_mem _ h)
  have hK := hkx.1.1
  have hl : lv_has ls 2 [(0, .ref b), (1, .int (nI 0))] := hl
  have hX := hkx.2.2
  have hbs : b < sg.heap.size := Nat.lt_of_lt_of_le hbl hst.1.1
  refine lv_iload_n hx hb dL_cell_0 rfl (lv_at hl 1 rfl) ?_
  refine lv_aload_n hx hb dL_cell_1 rfl (lv_at hl 0 rfl) ?_
  refine va_slen (A := fun q => lo ≤ q) hx hb hX hbs (by show ¬ lo ≤ b; omega) hst.2.1 dL_cell_2 ?_
  refine lv_icmp_ge hx hb dL_cell_3 (tgt := 12) rfl (fun hc => ?_) (fun hc => ?_)
  · skip
    have hc5 : L ≤ 0 := (nI_leI (by omega) (by omega)).mp hc
    refine lv_iconst (v := nI 0) hx hb dL_cell_12 (by decide +kernel) ?_
    exact ch_iret X hst ⟨by rw [if_neg (by omega)]; rfl, rfl⟩ (by omega) (by omega) dL_cell_13
  · skip
    have hc5 : ¬ L ≤ 0 := fun z => hc ((nI_leI (by omega) (by omega)).mpr z)
    refine lv_aload_n hx hb dL_cell_6 rfl (lv_at hl 0 rfl) ?_
    refine lv_iload_n hx hb dL_cell_7 rfl (lv_at hl 1 rfl) ?_
    refine va_sld (A := fun q => lo ≤ q) hx hb hX hbs (by show ¬ lo ≤ b; omega) hst.2.1 (i := nI 0) (vp_in_nI (by omega) (by omega)) dL_cell_8 ?_
    refine lv_goto hx hb dL_cell_9 (tgt := 13) rfl ?_
    exact ch_iret X hst ⟨by rw [if_pos (by omega)]; rfl, rfl⟩ (by omega) (by omega) dL_cell_13

