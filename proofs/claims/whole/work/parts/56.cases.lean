/-! The law: one call of the script after another. -/
def linv (Y : Nat → ClassId) (xa ma oa p : Nat) (A E : Nat → Nat) (M : Hm) (P : Nat → Pf) (cap si : Nat → Nat) (rf th : Nat) (c : Nat → Nat → Nat) (f : Nat → Int64) : Prop :=
  cs Y M xa A p P cap si rf ∧ mo Y M ma E p rf th c ∧ rr c P ∧ M oa = some ((2000, 0), e_l Y 1 f) ∧ cb cap
/-- at the loop's head, with i the next cell -/
def LG (pg : Program) (l : Launch) (eg : Env) (sg : State) (mg : MethodId) (bw : List Frame) (mt : Method) (cg : Code) (D : va_G) (Y : Nat → ClassId) (lo b L : Nat) (xs : Nat → Int32) (xa ma oa p : Nat) (A E : Nat → Nat) (i : Nat) : Prop :=
  ∀ (M : Hm) (P : Nat → Pf) (cap si : Nat → Nat) (rf th : Nat) (c : Nat → Nat → Nat) (f : Nat → Int64) (H : Heap) (locs : List Loc) (ls : Array Slot), linv Y xa ma oa p A E M P cap si rf th c f → hp_st D vC lo M sg.heap H locs → lv_has ls 7 [(0, .ref b), (1, .ref xa), (2, .ref ma), (3, .ref oa), (4, .int (nI i))] →
    W pg l eg room_1 sg mg #[Value.ref b] bw mt cg H locs (sm cap 300 + i) (327125 + 6 * sm cap 300 + 6 * i) (lw_Z bw #[Value.ref b] sg) (F0 mg 33 ls [])
theorem ii_5 (a : Nat) : nI a + Int32.ofInt 5 = nI (a + 5) := by
  rw [show Int32.ofInt 5 = nI 5 by decide +kernel]
  exact nI_add a 5
theorem and15 (x : Int32) : ∃ k : Nat, k < 16 ∧ x &&& nI 15 = nI k := by
  refine ⟨(x &&& nI 15).toInt.toNat, ?_⟩
  have h0 : (x &&& nI 15).toBitVec.toNat < 16 := by
    rw [Int32.toBitVec_and, BitVec.toNat_and]
    have h1 : (nI 15).toBitVec.toNat = 15 := by decide +kernel
    rw [h1]
    exact Nat.lt_succ_of_le Nat.and_le_right
  have h2 : (x &&& nI 15).toInt = ((x &&& nI 15).toBitVec.toNat : Int) := by
    show (x &&& nI 15).toBitVec.toInt = _
    rw [BitVec.toInt_eq_toNat_of_lt (by omega)]
  refine ⟨by omega, i32_of ?_⟩
  omega
theorem lw_cmp {L i : Nat} (hL : L ≤ 2561) (hi : i ≤ 3000) : nI L - nI 5 < nI i ↔ L < i + 5 := by
  rw [Int32.lt_iff_toInt_lt, Int32.toInt_sub, nI_toInt (by omega), nI_toInt (by omega), nI_toInt (by omega), Int.bmod_eq_of_le (by omega) (by omega)]
  omega

set_option maxHeartbeats 4000000 in
set_option maxRecDepth 100000 in
theorem lc_constant {pg : Program} {l : Launch} {eg : Env} {sg : State} {mg : MethodId} {bw : List Frame} {mt : Method} {cg : Code} {D : va_G} {Y : Nat → ClassId} {lo b L : Nat} {xs : Nat → Int32} {xa ma oa p : Nat} {A E : Nat → Nat} {i : Nat} (hlt : l.stackTraces = false) (hL : L ≤ 2561) (X : lwx pg sg mg #[Value.ref b] cg D Y lo b L xs) (hi : i + 4 < L) (hnext : LG pg l eg sg mg bw mt cg D Y lo b L xs xa ma oa p A E (i + 5)) {M : Hm} {P : Nat → Pf} {cap si : Nat → Nat} {rf th : Nat} {c : Nat → Nat → Nat} {f : Nat → Int64} {H : Heap} {locs : List Loc} {ls : Array Slot} (hinv : linv Y xa ma oa p A E M P cap si rf th c f) (hst : hp_st D vC lo M sg.heap H locs) (hl : lv_has ls 7 [(0, .ref b), (1, .ref xa), (2, .ref ma), (3, .ref oa), (4, .int (nI i))]) : W pg l eg room_1 sg mg #[Value.ref b] bw mt cg H locs (sm cap 300 + i) (327125 + 6 * sm cap 300 + 6 * i) (lw_Z bw #[Value.ref b] sg) (F0 mg 128 ls []) := by
  have X1 := X
  obtain ⟨hx, hb, hml, hown, hG, hbl, hlo, hkx⟩ := X1
  have hK := hkx.1.1
  have hXs := hkx.2.2
  have hbs : b < sg.heap.size := Nat.lt_of_lt_of_le hbl hlo
  have hbA : ¬ lo ≤ b := by omega
  obtain ⟨hcs, hmo, hrr, hoa, hcb⟩ := hinv
  have hsm := cb_sm hcb
  refine lv_aload_n hx hb dL_law_128 rfl (lv_at hl 1 rfl) ?_
  refine lv_aload_n hx hb dL_law_129 rfl (lv_at hl 0 rfl) ?_
  refine lv_iload hx hb dL_law_130 (lv_at hl 4 rfl) ?_
  refine lv_iconst (v := nI 1) hx hb dL_law_132 (by decide +kernel) ?_
  refine t_iadd hx hb dL_law_133 (v := nI (i + 1)) (nI_add _ _) ?_
  refine va_sld (A := fun q => lo ≤ q) hx hb hXs hbs hbA hst.2.1 (i := nI (i + 1)) (vp_in_nI (by omega) (by omega)) dL_law_134 ?_
  refine tp_i (e2 := xs (i + 1)) (by rw [nI_clamp (by omega)]) ?_
  refine lv_aload_n hx hb dL_law_135 rfl (lv_at hl 0 rfl) ?_
  refine lv_iload hx hb dL_law_136 (lv_at hl 4 rfl) ?_
  refine lv_iconst (v := nI 2) hx hb dL_law_138 (by decide +kernel) ?_
  refine t_iadd hx hb dL_law_139 (v := nI (i + 2)) (nI_add _ _) ?_
  refine va_sld (A := fun q => lo ≤ q) hx hb hXs hbs hbA hst.2.1 (i := nI (i + 2)) (vp_in_nI (by omega) (by omega)) dL_law_140 ?_
  refine tp_i (e2 := xs (i + 2)) (by rw [nI_clamp (by omega)]) ?_
  obtain ⟨k, P', rf', v, cap', si', mc, hk, hk2, hmc, hcm, hcp, hvb, hct, hR⟩ := u_constant l D Y lo hlt hcs ma E (xs (i + 1)) (xs (i + 2))
  have hcb2 := hcp hcb
  have hsm2 := cb_sm hcb2
  refine lw_callH (av2 := [.ref xa, .int (xs (i + 1)), .int (xs (i + 2))]) (rest := []) X hst (w_constant l D Y lo hcs hct (hk2 rfl)) wh_L_constant ml_L_81 ws_L_constant wn_L md_L_constant (by decide) hl.1 rfl (Nat.le_of_ble_eq_true rfl) ⟨by omega, by omega⟩ dL_law_141 (fun r M1 H locs hp hst => ?_)
  obtain ⟨rfl, hcs1, ho1⟩ := hp
  have hmo1 := hmo.off ho1 (by omega)
  refine lv_istore (lv' := [(5, .int (nI k)), (0, .ref b), (1, .ref xa), (2, .ref ma), (3, .ref oa), (4, .int (nI i))]) hx hb dL_law_144 hl (by decide) rfl (fun ls hl => ?_)
  refine lv_aload_n hx hb dL_law_146 rfl (lv_at hl 3 rfl) ?_
  refine lv_aload_n hx hb dL_law_147 rfl (lv_at hl 1 rfl) ?_
  refine lv_iload hx hb dL_law_148 (lv_at hl 5 rfl) ?_
  refine lv_iconst (v := nI 1) hx hb dL_law_150 (by decide +kernel) ?_
  refine t_iadd hx hb dL_law_151 (v := nI (i + 1)) (nI_add _ _) ?_
  refine va_sld (A := fun q => lo ≤ q) hx hb hXs hbs hbA hst.2.1 (i := nI (i + 1)) (vp_in_nI (by omega) (by omega)) dL_law_152 ?_
  refine tp_i (e2 := xs (i + 1)) (by rw [nI_clamp (by omega)]) ?_
  refine lv_aload_n hx hb dL_law_153 rfl (lv_at hl 1 rfl) ?_
  refine lv_iload hx hb dL_law_154 (lv_at hl 5 rfl) ?_
  refine lv_iconst (v := nI 2) hx hb dL_law_156 (by decide +kernel) ?_
  refine t_iadd hx hb dL_law_157 (v := nI (i + 2)) (nI_add _ _) ?_
  refine va_sld (A := fun q => lo ≤ q) hx hb hXs hbs hbA hst.2.1 (i := nI (i + 2)) (vp_in_nI (by omega) (by omega)) dL_law_158 ?_
  refine tp_i (e2 := xs (i + 2)) (by rw [nI_clamp (by omega)]) ?_
  refine lw_callV (av2 := [.int (xs (i + 1)), .int (xs (i + 2))]) (rest := []) (x := ma) X hst (hR M1 th c hmo1 hrr) hmo1.ob rfl wc_R_constant ml_L_84 wi_R_constant wl_R_constant wn_R md_R_constant (by decide) hl.1 rfl (Nat.le_of_ble_eq_true rfl) ⟨by omega, by omega⟩ dL_law_159 (fun r M2 H locs hp hst => ?_)
  obtain ⟨c2, w2, hr, hwb, hwv, hmo2, hrr2, ho2⟩ := hp
  have hr : r = none := hr
  subst hr
  have hcs2 := hcs1.off ho2 (by omega)
  have hoa1 := ho1.of hoa (by show ¬ _ < 300; omega)
  have hoa2 := ho2.of hoa1 (by decide)
  refine lv_aload_n hx hb dL_law_162 rfl (lv_at hl 3 rfl) ?_
  refine lw_callV (av2 := []) (rest := []) (x := ma) X hst (c_R_thrown l D Y lo hmo2) hmo2.ob rfl wc_R_thrown ml_L_85 wi_R_thrown wl_R_thrown wn_R md_R_thrown (by decide) hl.1 rfl (Nat.le_of_ble_eq_true rfl) ⟨by omega, by omega⟩ dL_law_163 (fun r M3 H locs hp hst => ?_)
  obtain ⟨rfl, rfl⟩ := hp
  refine lv_iload hx hb dL_law_166 (lv_at hl 0 rfl) ?_
  refine lv_icmp_eq hx hb dL_law_168 (tgt := 173) rfl (fun hc => ?_) (fun hc => ?_)
  · skip
    have hck : k = k := (nI_eq (by omega) (by omega)).mp hc
    refine lv_goto hx hb dL_law_173 (tgt := 1304) rfl ?_
    refine lv_iinc (lv' := [(4, .int (nI (i + 5))), (5, .int (nI k)), (0, .ref b), (1, .ref xa), (2, .ref ma), (3, .ref oa)]) hx hb dL_law_1304 hl (k := 5) rfl (ii_5 _) (by decide) rfl (fun ls hl => ?_)
    refine lv_goto hx hb dL_law_1307 (tgt := 33) rfl ?_
    refine W.widen (k := sm cap' 300 + (i + 5)) (n := 327125 + 6 * sm cap' 300 + 6 * (i + 5)) (by omega) (by omega) ?_
    exact hnext _ _ _ _ _ _ _ _ _ _ _ ⟨hcs2, hmo2, hrr2, hoa2, hcb2⟩ hst (lv_sub hl [2, 3, 4, 5, 0] rfl)
  · skip
    have hck : ¬ k = k := fun z => hc ((nI_eq (by omega) (by omega)).mpr z)
    exact absurd rfl hck

set_option maxHeartbeats 4000000 in
set_option maxRecDepth 100000 in
theorem lc_variable {pg : Program} {l : Launch} {eg : Env} {sg : State} {mg : MethodId} {bw : List Frame} {mt : Method} {cg : Code} {D : va_G} {Y : Nat → ClassId} {lo b L : Nat} {xs : Nat → Int32} {xa ma oa p : Nat} {A E : Nat → Nat} {i : Nat} (hlt : l.stackTraces = false) (hL : L ≤ 2561) (X : lwx pg sg mg #[Value.ref b] cg D Y lo b L xs) (hi : i + 4 < L) (hnext : LG pg l eg sg mg bw mt cg D Y lo b L xs xa ma oa p A E (i + 5)) {M : Hm} {P : Nat → Pf} {cap si : Nat → Nat} {rf th : Nat} {c : Nat → Nat → Nat} {f : Nat → Int64} {H : Heap} {locs : List Loc} {ls : Array Slot} (hinv : linv Y xa ma oa p A E M P cap si rf th c f) (hst : hp_st D vC lo M sg.heap H locs) (hl : lv_has ls 7 [(0, .ref b), (1, .ref xa), (2, .ref ma), (3, .ref oa), (4, .int (nI i))]) : W pg l eg room_1 sg mg #[Value.ref b] bw mt cg H locs (sm cap 300 + i) (327125 + 6 * sm cap 300 + 6 * i) (lw_Z bw #[Value.ref b] sg) (F0 mg 176 ls []) := by
  have X1 := X
  obtain ⟨hx, hb, hml, hown, hG, hbl, hlo, hkx⟩ := X1
  have hK := hkx.1.1
  have hXs := hkx.2.2
  have hbs : b < sg.heap.size := Nat.lt_of_lt_of_le hbl hlo
  have hbA : ¬ lo ≤ b := by omega
  obtain ⟨hcs, hmo, hrr, hoa, hcb⟩ := hinv
  have hsm := cb_sm hcb
  refine lv_aload_n hx hb dL_law_176 rfl (lv_at hl 1 rfl) ?_
  refine lv_aload_n hx hb dL_law_177 rfl (lv_at hl 0 rfl) ?_
  refine lv_iload hx hb dL_law_178 (lv_at hl 4 rfl) ?_
  refine lv_iconst (v := nI 1) hx hb dL_law_180 (by decide +kernel) ?_
  refine t_iadd hx hb dL_law_181 (v := nI (i + 1)) (nI_add _ _) ?_
  refine va_sld (A := fun q => lo ≤ q) hx hb hXs hbs hbA hst.2.1 (i := nI (i + 1)) (vp_in_nI (by omega) (by omega)) dL_law_182 ?_
  refine tp_i (e2 := xs (i + 1)) (by rw [nI_clamp (by omega)]) ?_
  refine lv_aload_n hx hb dL_law_183 rfl (lv_at hl 0 rfl) ?_
  refine lv_iload hx hb dL_law_184 (lv_at hl 4 rfl) ?_
  refine lv_iconst (v := nI 2) hx hb dL_law_186 (by decide +kernel) ?_
  refine t_iadd hx hb dL_law_187 (v := nI (i + 2)) (nI_add _ _) ?_
  refine va_sld (A := fun q => lo ≤ q) hx hb hXs hbs hbA hst.2.1 (i := nI (i + 2)) (vp_in_nI (by omega) (by omega)) dL_law_188 ?_
  refine tp_i (e2 := xs (i + 2)) (by rw [nI_clamp (by omega)]) ?_
  obtain ⟨k, P', rf', v, cap', si', mc, hk, hk2, hmc, hcm, hcp, hvb, hct, hR⟩ := u_variable l D Y lo hlt hcs ma E (xs (i + 1)) (xs (i + 2))
  have hcb2 := hcp hcb
  have hsm2 := cb_sm hcb2
  refine lw_callH (av2 := [.ref xa, .int (xs (i + 1)), .int (xs (i + 2))]) (rest := []) X hst (w_variable l D Y lo hcs hct) wh_L_variable ml_L_89 ws_L_variable wn_L md_L_variable (by decide) hl.1 rfl (Nat.le_of_ble_eq_true rfl) ⟨by omega, by omega⟩ dL_law_189 (fun r M1 H locs hp hst => ?_)
  obtain ⟨rfl, hcs1, ho1⟩ := hp
  have hmo1 := hmo.off ho1 (by omega)
  refine lv_istore (lv' := [(5, .int (nI k)), (0, .ref b), (1, .ref xa), (2, .ref ma), (3, .ref oa), (4, .int (nI i))]) hx hb dL_law_192 hl (by decide) rfl (fun ls hl => ?_)
  refine lv_aload_n hx hb dL_law_194 rfl (lv_at hl 3 rfl) ?_
  refine lv_aload_n hx hb dL_law_195 rfl (lv_at hl 1 rfl) ?_
  refine lv_iload hx hb dL_law_196 (lv_at hl 5 rfl) ?_
  refine lv_iconst (v := nI 1) hx hb dL_law_198 (by decide +kernel) ?_
  refine t_iadd hx hb dL_law_199 (v := nI (i + 1)) (nI_add _ _) ?_
  refine va_sld (A := fun q => lo ≤ q) hx hb hXs hbs hbA hst.2.1 (i := nI (i + 1)) (vp_in_nI (by omega) (by omega)) dL_law_200 ?_
  refine tp_i (e2 := xs (i + 1)) (by rw [nI_clamp (by omega)]) ?_
  refine lv_aload_n hx hb dL_law_201 rfl (lv_at hl 1 rfl) ?_
  refine lv_iload hx hb dL_law_202 (lv_at hl 5 rfl) ?_
  refine lv_iconst (v := nI 2) hx hb dL_law_204 (by decide +kernel) ?_
  refine t_iadd hx hb dL_law_205 (v := nI (i + 2)) (nI_add _ _) ?_
  refine va_sld (A := fun q => lo ≤ q) hx hb hXs hbs hbA hst.2.1 (i := nI (i + 2)) (vp_in_nI (by omega) (by omega)) dL_law_206 ?_
  refine tp_i (e2 := xs (i + 2)) (by rw [nI_clamp (by omega)]) ?_
  refine lw_callV (av2 := [.int (xs (i + 1)), .int (xs (i + 2))]) (rest := []) (x := ma) X hst (hR M1 th c hmo1 hrr) hmo1.ob rfl wc_R_variable ml_L_91 wi_R_variable wl_R_variable wn_R md_R_variable (by decide) hl.1 rfl (Nat.le_of_ble_eq_true rfl) ⟨by omega, by omega⟩ dL_law_207 (fun r M2 H locs hp hst => ?_)
  obtain ⟨c2, w2, hr, hwb, hwv, hmo2, hrr2, ho2⟩ := hp
  have hr : r = none := hr
  subst hr
  have hcs2 := hcs1.off ho2 (by omega)
  have hoa1 := ho1.of hoa (by show ¬ _ < 300; omega)
  have hoa2 := ho2.of hoa1 (by decide)
  refine lv_aload_n hx hb dL_law_210 rfl (lv_at hl 3 rfl) ?_
  refine lw_callV (av2 := []) (rest := []) (x := ma) X hst (c_R_thrown l D Y lo hmo2) hmo2.ob rfl wc_R_thrown ml_L_85 wi_R_thrown wl_R_thrown wn_R md_R_thrown (by decide) hl.1 rfl (Nat.le_of_ble_eq_true rfl) ⟨by omega, by omega⟩ dL_law_211 (fun r M3 H locs hp hst => ?_)
  obtain ⟨rfl, rfl⟩ := hp
  refine lv_iload hx hb dL_law_214 (lv_at hl 0 rfl) ?_
  refine lv_icmp_eq hx hb dL_law_216 (tgt := 221) rfl (fun hc => ?_) (fun hc => ?_)
  · skip
    have hck : k = k := (nI_eq (by omega) (by omega)).mp hc
    refine lv_goto hx hb dL_law_221 (tgt := 1304) rfl ?_
    refine lv_iinc (lv' := [(4, .int (nI (i + 5))), (5, .int (nI k)), (0, .ref b), (1, .ref xa), (2, .ref ma), (3, .ref oa)]) hx hb dL_law_1304 hl (k := 5) rfl (ii_5 _) (by decide) rfl (fun ls hl => ?_)
    refine lv_goto hx hb dL_law_1307 (tgt := 33) rfl ?_
    refine W.widen (k := sm cap' 300 + (i + 5)) (n := 327125 + 6 * sm cap' 300 + 6 * (i + 5)) (by omega) (by omega) ?_
    exact hnext _ _ _ _ _ _ _ _ _ _ _ ⟨hcs2, hmo2, hrr2, hoa2, hcb2⟩ hst (lv_sub hl [2, 3, 4, 5, 0] rfl)
  · skip
    have hck : ¬ k = k := fun z => hc ((nI_eq (by omega) (by omega)).mpr z)
    exact absurd rfl hck

set_option maxHeartbeats 4000000 in
set_option maxRecDepth 100000 in
theorem lc_add {pg : Program} {l : Launch} {eg : Env} {sg : State} {mg : MethodId} {bw : List Frame} {mt : Method} {cg : Code} {D : va_G} {Y : Nat → ClassId} {lo b L : Nat} {xs : Nat → Int32} {xa ma oa p : Nat} {A E : Nat → Nat} {i : Nat} (hlt : l.stackTraces = false) (hL : L ≤ 2561) (X : lwx pg sg mg #[Value.ref b] cg D Y lo b L xs) (hi : i + 4 < L) (hnext : LG pg l eg sg mg bw mt cg D Y lo b L xs xa ma oa p A E (i + 5)) {M : Hm} {P : Nat → Pf} {cap si : Nat → Nat} {rf th : Nat} {c : Nat → Nat → Nat} {f : Nat → Int64} {H : Heap} {locs : List Loc} {ls : Array Slot} (hinv : linv Y xa ma oa p A E M P cap si rf th c f) (hst : hp_st D vC lo M sg.heap H locs) (hl : lv_has ls 7 [(0, .ref b), (1, .ref xa), (2, .ref ma), (3, .ref oa), (4, .int (nI i))]) : W pg l eg room_1 sg mg #[Value.ref b] bw mt cg H locs (sm cap 300 + i) (327125 + 6 * sm cap 300 + 6 * i) (lw_Z bw #[Value.ref b] sg) (F0 mg 224 ls []) := by
  have X1 := X
  obtain ⟨hx, hb, hml, hown, hG, hbl, hlo, hkx⟩ := X1
  have hK := hkx.1.1
  have hXs := hkx.2.2
  have hbs : b < sg.heap.size := Nat.lt_of_lt_of_le hbl hlo
  have hbA : ¬ lo ≤ b := by omega
  obtain ⟨hcs, hmo, hrr, hoa, hcb⟩ := hinv
  have hsm := cb_sm hcb
  refine lv_aload_n hx hb dL_law_224 rfl (lv_at hl 1 rfl) ?_
  refine lv_aload_n hx hb dL_law_225 rfl (lv_at hl 0 rfl) ?_
  refine lv_iload hx hb dL_law_226 (lv_at hl 4 rfl) ?_
  refine lv_iconst (v := nI 1) hx hb dL_law_228 (by decide +kernel) ?_
  refine t_iadd hx hb dL_law_229 (v := nI (i + 1)) (nI_add _ _) ?_
  refine va_sld (A := fun q => lo ≤ q) hx hb hXs hbs hbA hst.2.1 (i := nI (i + 1)) (vp_in_nI (by omega) (by omega)) dL_law_230 ?_
  refine tp_i (e2 := xs (i + 1)) (by rw [nI_clamp (by omega)]) ?_
  refine lv_aload_n hx hb dL_law_231 rfl (lv_at hl 0 rfl) ?_
  refine lv_iload hx hb dL_law_232 (lv_at hl 4 rfl) ?_
  refine lv_iconst (v := nI 2) hx hb dL_law_234 (by decide +kernel) ?_
  refine t_iadd hx hb dL_law_235 (v := nI (i + 2)) (nI_add _ _) ?_
  refine va_sld (A := fun q => lo ≤ q) hx hb hXs hbs hbA hst.2.1 (i := nI (i + 2)) (vp_in_nI (by omega) (by omega)) dL_law_236 ?_
  refine tp_i (e2 := xs (i + 2)) (by rw [nI_clamp (by omega)]) ?_
  refine lv_aload_n hx hb dL_law_237 rfl (lv_at hl 0 rfl) ?_
  refine lv_iload hx hb dL_law_238 (lv_at hl 4 rfl) ?_
  refine lv_iconst (v := nI 3) hx hb dL_law_240 (by decide +kernel) ?_
  refine t_iadd hx hb dL_law_241 (v := nI (i + 3)) (nI_add _ _) ?_
  refine va_sld (A := fun q => lo ≤ q) hx hb hXs hbs hbA hst.2.1 (i := nI (i + 3)) (vp_in_nI (by omega) (by omega)) dL_law_242 ?_
  refine tp_i (e2 := xs (i + 3)) (by rw [nI_clamp (by omega)]) ?_
  refine lv_aload_n hx hb dL_law_243 rfl (lv_at hl 0 rfl) ?_
  refine lv_iload hx hb dL_law_244 (lv_at hl 4 rfl) ?_
  refine lv_iconst (v := nI 4) hx hb dL_law_246 (by decide +kernel) ?_
  refine t_iadd hx hb dL_law_247 (v := nI (i + 4)) (nI_add _ _) ?_
  refine va_sld (A := fun q => lo ≤ q) hx hb hXs hbs hbA hst.2.1 (i := nI (i + 4)) (vp_in_nI (by omega) (by omega)) dL_law_248 ?_
  refine tp_i (e2 := xs (i + 4)) (by rw [nI_clamp (by omega)]) ?_
  obtain ⟨k, P', rf', v, cap', si', mc, hk, hk2, hmc, hcm, hcp, hvb, hct, hR⟩ := u_add l D Y lo hlt hcs ma E (xs (i + 1)) (xs (i + 2)) (xs (i + 3)) (xs (i + 4))
  have hcb2 := hcp hcb
  have hsm2 := cb_sm hcb2
  refine lw_callH (av2 := [.ref xa, .int (xs (i + 1)), .int (xs (i + 2)), .int (xs (i + 3)), .int (xs (i + 4))]) (rest := []) X hst (w_add l D Y lo hcs hct (hk2 rfl)) wh_L_add ml_L_92 ws_L_add wn_L md_L_add (by decide) hl.1 rfl (Nat.le_of_ble_eq_true rfl) ⟨by omega, by omega⟩ dL_law_249 (fun r M1 H locs hp hst => ?_)
  obtain ⟨rfl, hcs1, ho1⟩ := hp
  have hmo1 := hmo.off ho1 (by omega)
  refine lv_istore (lv' := [(5, .int (nI k)), (0, .ref b), (1, .ref xa), (2, .ref ma), (3, .ref oa), (4, .int (nI i))]) hx hb dL_law_252 hl (by decide) rfl (fun ls hl => ?_)
  refine lv_aload_n hx hb dL_law_254 rfl (lv_at hl 3 rfl) ?_
  refine lv_aload_n hx hb dL_law_255 rfl (lv_at hl 1 rfl) ?_
  refine lv_iload hx hb dL_law_256 (lv_at hl 5 rfl) ?_
  refine lv_iconst (v := nI 1) hx hb dL_law_258 (by decide +kernel) ?_
  refine t_iadd hx hb dL_law_259 (v := nI (i + 1)) (nI_add _ _) ?_
  refine va_sld (A := fun q => lo ≤ q) hx hb hXs hbs hbA hst.2.1 (i := nI (i + 1)) (vp_in_nI (by omega) (by omega)) dL_law_260 ?_
  refine tp_i (e2 := xs (i + 1)) (by rw [nI_clamp (by omega)]) ?_
  refine lv_aload_n hx hb dL_law_261 rfl (lv_at hl 1 rfl) ?_
  refine lv_iload hx hb dL_law_262 (lv_at hl 5 rfl) ?_
  refine lv_iconst (v := nI 2) hx hb dL_law_264 (by decide +kernel) ?_
  refine t_iadd hx hb dL_law_265 (v := nI (i + 2)) (nI_add _ _) ?_
  refine va_sld (A := fun q => lo ≤ q) hx hb hXs hbs hbA hst.2.1 (i := nI (i + 2)) (vp_in_nI (by omega) (by omega)) dL_law_266 ?_
  refine tp_i (e2 := xs (i + 2)) (by rw [nI_clamp (by omega)]) ?_
  refine lv_aload_n hx hb dL_law_267 rfl (lv_at hl 1 rfl) ?_
  refine lv_iload hx hb dL_law_268 (lv_at hl 5 rfl) ?_
  refine lv_iconst (v := nI 3) hx hb dL_law_270 (by decide +kernel) ?_
  refine t_iadd hx hb dL_law_271 (v := nI (i + 3)) (nI_add _ _) ?_
  refine va_sld (A := fun q => lo ≤ q) hx hb hXs hbs hbA hst.2.1 (i := nI (i + 3)) (vp_in_nI (by omega) (by omega)) dL_law_272 ?_
  refine tp_i (e2 := xs (i + 3)) (by rw [nI_clamp (by omega)]) ?_
  refine lv_aload_n hx hb dL_law_273 rfl (lv_at hl 1 rfl) ?_
  refine lv_iload hx hb dL_law_274 (lv_at hl 5 rfl) ?_
  refine lv_iconst (v := nI 4) hx hb dL_law_276 (by decide +kernel) ?_
  refine t_iadd hx hb dL_law_277 (v := nI (i + 4)) (nI_add _ _) ?_
  refine va_sld (A := fun q => lo ≤ q) hx hb hXs hbs hbA hst.2.1 (i := nI (i + 4)) (vp_in_nI (by omega) (by omega)) dL_law_278 ?_
  refine tp_i (e2 := xs (i + 4)) (by rw [nI_clamp (by omega)]) ?_
  refine lw_callV (av2 := [.int (xs (i + 1)), .int (xs (i + 2)), .int (xs (i + 3)), .int (xs (i + 4))]) (rest := []) (x := ma) X hst (hR M1 th c hmo1 hrr) hmo1.ob rfl wc_R_add ml_L_95 wi_R_add wl_R_add wn_R md_R_add (by decide) hl.1 rfl (Nat.le_of_ble_eq_true rfl) ⟨by omega, by omega⟩ dL_law_279 (fun r M2 H locs hp hst => ?_)
  obtain ⟨c2, w2, hr, hwb, hwv, hmo2, hrr2, ho2⟩ := hp
  have hr : r = none := hr
  subst hr
  have hcs2 := hcs1.off ho2 (by omega)
  have hoa1 := ho1.of hoa (by show ¬ _ < 300; omega)
  have hoa2 := ho2.of hoa1 (by decide)
  refine lv_aload_n hx hb dL_law_282 rfl (lv_at hl 3 rfl) ?_
  refine lw_callV (av2 := []) (rest := []) (x := ma) X hst (c_R_thrown l D Y lo hmo2) hmo2.ob rfl wc_R_thrown ml_L_85 wi_R_thrown wl_R_thrown wn_R md_R_thrown (by decide) hl.1 rfl (Nat.le_of_ble_eq_true rfl) ⟨by omega, by omega⟩ dL_law_283 (fun r M3 H locs hp hst => ?_)
  obtain ⟨rfl, rfl⟩ := hp
  refine lv_iload hx hb dL_law_286 (lv_at hl 0 rfl) ?_
  refine lv_icmp_eq hx hb dL_law_288 (tgt := 293) rfl (fun hc => ?_) (fun hc => ?_)
  · skip
    have hck : k = k := (nI_eq (by omega) (by omega)).mp hc
    refine lv_goto hx hb dL_law_293 (tgt := 1304) rfl ?_
    refine lv_iinc (lv' := [(4, .int (nI (i + 5))), (5, .int (nI k)), (0, .ref b), (1, .ref xa), (2, .ref ma), (3, .ref oa)]) hx hb dL_law_1304 hl (k := 5) rfl (ii_5 _) (by decide) rfl (fun ls hl => ?_)
    refine lv_goto hx hb dL_law_1307 (tgt := 33) rfl ?_
    refine W.widen (k := sm cap' 300 + (i + 5)) (n := 327125 + 6 * sm cap' 300 + 6 * (i + 5)) (by omega) (by omega) ?_
    exact hnext _ _ _ _ _ _ _ _ _ _ _ ⟨hcs2, hmo2, hrr2, hoa2, hcb2⟩ hst (lv_sub hl [2, 3, 4, 5, 0] rfl)
  · skip
    have hck : ¬ k = k := fun z => hc ((nI_eq (by omega) (by omega)).mpr z)
    exact absurd rfl hck

set_option maxHeartbeats 4000000 in
set_option maxRecDepth 100000 in
theorem lc_multiply {pg : Program} {l : Launch} {eg : Env} {sg : State} {mg : MethodId} {bw : List Frame} {mt : Method} {cg : Code} {D : va_G} {Y : Nat → ClassId} {lo b L : Nat} {xs : Nat → Int32} {xa ma oa p : Nat} {A E : Nat → Nat} {i : Nat} (hlt : l.stackTraces = false) (hL : L ≤ 2561) (X : lwx pg sg mg #[Value.ref b] cg D Y lo b L xs) (hi : i + 4 < L) (hnext : LG pg l eg sg mg bw mt cg D Y lo b L xs xa ma oa p A E (i + 5)) {M : Hm} {P : Nat → Pf} {cap si : Nat → Nat} {rf th : Nat} {c : Nat → Nat → Nat} {f : Nat → Int64} {H : Heap} {locs : List Loc} {ls : Array Slot} (hinv : linv Y xa ma oa p A E M P cap si rf th c f) (hst : hp_st D vC lo M sg.heap H locs) (hl : lv_has ls 7 [(0, .ref b), (1, .ref xa), (2, .ref ma), (3, .ref oa), (4, .int (nI i))]) : W pg l eg room_1 sg mg #[Value.ref b] bw mt cg H locs (sm cap 300 + i) (327125 + 6 * sm cap 300 + 6 * i) (lw_Z bw #[Value.ref b] sg) (F0 mg 296 ls []) := by
  have X1 := X
  obtain ⟨hx, hb, hml, hown, hG, hbl, hlo, hkx⟩ := X1
  have hK := hkx.1.1
  have hXs := hkx.2.2
  have hbs : b < sg.heap.size := Nat.lt_of_lt_of_le hbl hlo
  have hbA : ¬ lo ≤ b := by omega
  obtain ⟨hcs, hmo, hrr, hoa, hcb⟩ := hinv
  have hsm := cb_sm hcb
  refine lv_aload_n hx hb dL_law_296 rfl (lv_at hl 1 rfl) ?_
  refine lv_aload_n hx hb dL_law_297 rfl (lv_at hl 0 rfl) ?_
  refine lv_iload hx hb dL_law_298 (lv_at hl 4 rfl) ?_
  refine lv_iconst (v := nI 1) hx hb dL_law_300 (by decide +kernel) ?_
  refine t_iadd hx hb dL_law_301 (v := nI (i + 1)) (nI_add _ _) ?_
  refine va_sld (A := fun q => lo ≤ q) hx hb hXs hbs hbA hst.2.1 (i := nI (i + 1)) (vp_in_nI (by omega) (by omega)) dL_law_302 ?_
  refine tp_i (e2 := xs (i + 1)) (by rw [nI_clamp (by omega)]) ?_
  refine lv_aload_n hx hb dL_law_303 rfl (lv_at hl 0 rfl) ?_
  refine lv_iload hx hb dL_law_304 (lv_at hl 4 rfl) ?_
  refine lv_iconst (v := nI 2) hx hb dL_law_306 (by decide +kernel) ?_
  refine t_iadd hx hb dL_law_307 (v := nI (i + 2)) (nI_add _ _) ?_
  refine va_sld (A := fun q => lo ≤ q) hx hb hXs hbs hbA hst.2.1 (i := nI (i + 2)) (vp_in_nI (by omega) (by omega)) dL_law_308 ?_
  refine tp_i (e2 := xs (i + 2)) (by rw [nI_clamp (by omega)]) ?_
  refine lv_aload_n hx hb dL_law_309 rfl (lv_at hl 0 rfl) ?_
  refine lv_iload hx hb dL_law_310 (lv_at hl 4 rfl) ?_
  refine lv_iconst (v := nI 3) hx hb dL_law_312 (by decide +kernel) ?_
  refine t_iadd hx hb dL_law_313 (v := nI (i + 3)) (nI_add _ _) ?_
  refine va_sld (A := fun q => lo ≤ q) hx hb hXs hbs hbA hst.2.1 (i := nI (i + 3)) (vp_in_nI (by omega) (by omega)) dL_law_314 ?_
  refine tp_i (e2 := xs (i + 3)) (by rw [nI_clamp (by omega)]) ?_
  refine lv_aload_n hx hb dL_law_315 rfl (lv_at hl 3 rfl) ?_
  obtain ⟨k, P', rf', v, cap', si', mc, hk, hk2, hmc, hcm, hcp, hvb, hct, hR⟩ := u_multiply l D Y lo hlt hcs ma E (xs (i + 1)) (xs (i + 2)) (xs (i + 3))
  have hcb2 := hcp hcb
  have hsm2 := cb_sm hcb2
  refine lw_callH (av2 := [.ref xa, .int (xs (i + 1)), .int (xs (i + 2)), .int (xs (i + 3)), .ref oa]) (rest := []) X hst (w_multiply l D Y lo hcs hct (hk2 rfl) hoa (hvb rfl)) wh_L_multiply ml_L_96 ws_L_multiply wn_L md_L_multiply (by decide) hl.1 rfl (Nat.le_of_ble_eq_true rfl) ⟨by omega, by omega⟩ dL_law_316 (fun r M1 H locs hp hst => ?_)
  obtain ⟨rfl, hcs1, ho1, f1, hoa1, hf1⟩ := hp
  have hmo1 := hmo.off ho1 (by omega)
  refine lv_istore (lv' := [(5, .int (nI k)), (0, .ref b), (1, .ref xa), (2, .ref ma), (3, .ref oa), (4, .int (nI i))]) hx hb dL_law_319 hl (by decide) rfl (fun ls hl => ?_)
  refine lv_aload_n hx hb dL_law_321 rfl (lv_at hl 3 rfl) ?_
  refine lv_aload_n hx hb dL_law_322 rfl (lv_at hl 1 rfl) ?_
  refine lv_iload hx hb dL_law_323 (lv_at hl 5 rfl) ?_
  refine lv_iconst (v := nI 1) hx hb dL_law_325 (by decide +kernel) ?_
  refine t_iadd hx hb dL_law_326 (v := nI (i + 1)) (nI_add _ _) ?_
  refine va_sld (A := fun q => lo ≤ q) hx hb hXs hbs hbA hst.2.1 (i := nI (i + 1)) (vp_in_nI (by omega) (by omega)) dL_law_327 ?_
  refine tp_i (e2 := xs (i + 1)) (by rw [nI_clamp (by omega)]) ?_
  refine lv_aload_n hx hb dL_law_328 rfl (lv_at hl 1 rfl) ?_
  refine lv_iload hx hb dL_law_329 (lv_at hl 5 rfl) ?_
  refine lv_iconst (v := nI 2) hx hb dL_law_331 (by decide +kernel) ?_
  refine t_iadd hx hb dL_law_332 (v := nI (i + 2)) (nI_add _ _) ?_
  refine va_sld (A := fun q => lo ≤ q) hx hb hXs hbs hbA hst.2.1 (i := nI (i + 2)) (vp_in_nI (by omega) (by omega)) dL_law_333 ?_
  refine tp_i (e2 := xs (i + 2)) (by rw [nI_clamp (by omega)]) ?_
  refine lv_aload_n hx hb dL_law_334 rfl (lv_at hl 1 rfl) ?_
  refine lv_iload hx hb dL_law_335 (lv_at hl 5 rfl) ?_
  refine lv_iconst (v := nI 3) hx hb dL_law_337 (by decide +kernel) ?_
  refine t_iadd hx hb dL_law_338 (v := nI (i + 3)) (nI_add _ _) ?_
  refine va_sld (A := fun q => lo ≤ q) hx hb hXs hbs hbA hst.2.1 (i := nI (i + 3)) (vp_in_nI (by omega) (by omega)) dL_law_339 ?_
  refine tp_i (e2 := xs (i + 3)) (by rw [nI_clamp (by omega)]) ?_
  refine lw_callV (av2 := [.int (xs (i + 1)), .int (xs (i + 2)), .int (xs (i + 3))]) (rest := []) (x := ma) X hst (hR M1 th c hmo1 hrr) hmo1.ob rfl wc_R_multiply ml_L_99 wi_R_multiply wl_R_multiply wn_R md_R_multiply (by decide) hl.1 rfl (Nat.le_of_ble_eq_true rfl) ⟨by omega, by omega⟩ dL_law_340 (fun r M2 H locs hp hst => ?_)
  obtain ⟨c2, w2, hr, hwb, hwv, hmo2, hrr2, ho2⟩ := hp
  obtain ⟨z2, hz2, rfl⟩ := hwb rfl
  have hr : r = some (.int (nI z2)) := hr
  subst hr
  have hcs2 := hcs1.off ho2 (by omega)
  have hoa2 := ho2.of hoa1 (by decide)
  refine lv_istore (lv' := [(6, .int (nI z2)), (5, .int (nI k)), (0, .ref b), (1, .ref xa), (2, .ref ma), (3, .ref oa), (4, .int (nI i))]) hx hb dL_law_343 hl (by decide) rfl (fun ls hl => ?_)
  refine lv_aload_n hx hb dL_law_345 rfl (lv_at hl 4 rfl) ?_
  refine lw_callV (av2 := []) (rest := []) (x := ma) X hst (c_R_thrown l D Y lo hmo2) hmo2.ob rfl wc_R_thrown ml_L_85 wi_R_thrown wl_R_thrown wn_R md_R_thrown (by decide) hl.1 rfl (Nat.le_of_ble_eq_true rfl) ⟨by omega, by omega⟩ dL_law_346 (fun r M3 H locs hp hst => ?_)
  obtain ⟨rfl, rfl⟩ := hp
  refine lv_iload hx hb dL_law_349 (lv_at hl 1 rfl) ?_
  refine lv_icmp_eq hx hb dL_law_351 (tgt := 356) rfl (fun hc => ?_) (fun hc => ?_)
  · skip
    have hck : k = k := (nI_eq (by omega) (by omega)).mp hc
    refine lv_iload hx hb dL_law_356 (lv_at hl 1 rfl) ?_
    refine lv_if_ne hx hb dL_law_358 (tgt := 380) rfl (fun hc => ?_) (fun hc => ?_)
    · skip
      rw [← nI_0] at hc
      have hk0 : ¬ k = 0 := fun z => hc ((nI_eq (by omega) (by omega)).mpr z)
      refine lv_goto hx hb dL_law_380 (tgt := 1304) rfl ?_
      refine lv_iinc (lv' := [(4, .int (nI (i + 5))), (6, .int (nI z2)), (5, .int (nI k)), (0, .ref b), (1, .ref xa), (2, .ref ma), (3, .ref oa)]) hx hb dL_law_1304 hl (k := 6) rfl (ii_5 _) (by decide) rfl (fun ls hl => ?_)
      refine lv_goto hx hb dL_law_1307 (tgt := 33) rfl ?_
      refine W.widen (k := sm cap' 300 + (i + 5)) (n := 327125 + 6 * sm cap' 300 + 6 * (i + 5)) (by omega) (by omega) ?_
      exact hnext _ _ _ _ _ _ _ _ _ _ _ ⟨hcs2, hmo2, hrr2, hoa2, hcb2⟩ hst (lv_sub hl [3, 4, 5, 6, 0] rfl)
    · skip
      rw [← nI_0] at hc
      have hk0 : k = 0 := (nI_eq (by omega) (by omega)).mp hc
      have hf0 := hf1 hk0
      have hwv := hwv hk0
      refine lv_aload_n hx hb dL_law_361 rfl (lv_at hl 5 rfl) ?_
      refine lv_iconst (v := nI 0) hx hb dL_law_362 (by decide +kernel) ?_
      refine hp_lald hx hb hK rfl hst hoa2 (j := 0) (by omega) (by omega) dL_law_363 ?_
      refine tp_l (e2 := lN z2) (by rw [hf0, ← hwv]; exact nI_l (by omega)) ?_
      refine lv_iload hx hb dL_law_364 (lv_at hl 0 rfl) ?_
      refine lv_if_eq hx hb dL_law_366 (tgt := 373) rfl (fun hc => ?_) (fun hc => ?_)
      · skip
        rw [← nI_0] at hc
        have hcb9 : z2 = 0 := (nI_eq (by omega) (by omega)).mp hc
        refine lv_lconst (v := lN 0) hx hb dL_law_373 (by decide +kernel) ?_
        refine lv_lcmp hx hb dL_law_374 ?_
        refine lv_if_eq hx hb dL_law_375 (tgt := 380) rfl (fun hc => ?_) (fun hc => absurd (lcm3_eq.mpr (by rw [show z2 = 0 by omega])) hc)
        refine lv_goto hx hb dL_law_380 (tgt := 1304) rfl ?_
        refine lv_iinc (lv' := [(4, .int (nI (i + 5))), (6, .int (nI z2)), (5, .int (nI k)), (0, .ref b), (1, .ref xa), (2, .ref ma), (3, .ref oa)]) hx hb dL_law_1304 hl (k := 6) rfl (ii_5 _) (by decide) rfl (fun ls hl => ?_)
        refine lv_goto hx hb dL_law_1307 (tgt := 33) rfl ?_
        refine W.widen (k := sm cap' 300 + (i + 5)) (n := 327125 + 6 * sm cap' 300 + 6 * (i + 5)) (by omega) (by omega) ?_
        exact hnext _ _ _ _ _ _ _ _ _ _ _ ⟨hcs2, hmo2, hrr2, hoa2, hcb2⟩ hst (lv_sub hl [3, 4, 5, 6, 0] rfl)
      · skip
        rw [← nI_0] at hc
        have hcb9 : ¬ z2 = 0 := fun z => hc ((nI_eq (by omega) (by omega)).mpr z)
        refine lv_lconst (v := lN 1) hx hb dL_law_369 (by decide +kernel) ?_
        refine lv_goto hx hb dL_law_370 (tgt := 374) rfl ?_
        refine lv_lcmp hx hb dL_law_374 ?_
        refine lv_if_eq hx hb dL_law_375 (tgt := 380) rfl (fun hc => ?_) (fun hc => absurd (lcm3_eq.mpr (by rw [show z2 = 1 by omega])) hc)
        refine lv_goto hx hb dL_law_380 (tgt := 1304) rfl ?_
        refine lv_iinc (lv' := [(4, .int (nI (i + 5))), (6, .int (nI z2)), (5, .int (nI k)), (0, .ref b), (1, .ref xa), (2, .ref ma), (3, .ref oa)]) hx hb dL_law_1304 hl (k := 6) rfl (ii_5 _) (by decide) rfl (fun ls hl => ?_)
        refine lv_goto hx hb dL_law_1307 (tgt := 33) rfl ?_
        refine W.widen (k := sm cap' 300 + (i + 5)) (n := 327125 + 6 * sm cap' 300 + 6 * (i + 5)) (by omega) (by omega) ?_
        exact hnext _ _ _ _ _ _ _ _ _ _ _ ⟨hcs2, hmo2, hrr2, hoa2, hcb2⟩ hst (lv_sub hl [3, 4, 5, 6, 0] rfl)
  · skip
    have hck : ¬ k = k := fun z => hc ((nI_eq (by omega) (by omega)).mpr z)
    exact absurd rfl hck

set_option maxHeartbeats 4000000 in
set_option maxRecDepth 100000 in
theorem lc_power {pg : Program} {l : Launch} {eg : Env} {sg : State} {mg : MethodId} {bw : List Frame} {mt : Method} {cg : Code} {D : va_G} {Y : Nat → ClassId} {lo b L : Nat} {xs : Nat → Int32} {xa ma oa p : Nat} {A E : Nat → Nat} {i : Nat} (hlt : l.stackTraces = false) (hL : L ≤ 2561) (X : lwx pg sg mg #[Value.ref b] cg D Y lo b L xs) (hi : i + 4 < L) (hnext : LG pg l eg sg mg bw mt cg D Y lo b L xs xa ma oa p A E (i + 5)) {M : Hm} {P : Nat → Pf} {cap si : Nat → Nat} {rf th : Nat} {c : Nat → Nat → Nat} {f : Nat → Int64} {H : Heap} {locs : List Loc} {ls : Array Slot} (hinv : linv Y xa ma oa p A E M P cap si rf th c f) (hst : hp_st D vC lo M sg.heap H locs) (hl : lv_has ls 7 [(0, .ref b), (1, .ref xa), (2, .ref ma), (3, .ref oa), (4, .int (nI i))]) : W pg l eg room_1 sg mg #[Value.ref b] bw mt cg H locs (sm cap 300 + i) (327125 + 6 * sm cap 300 + 6 * i) (lw_Z bw #[Value.ref b] sg) (F0 mg 383 ls []) := by
  have X1 := X
  obtain ⟨hx, hb, hml, hown, hG, hbl, hlo, hkx⟩ := X1
  have hK := hkx.1.1
  have hXs := hkx.2.2
  have hbs : b < sg.heap.size := Nat.lt_of_lt_of_le hbl hlo
  have hbA : ¬ lo ≤ b := by omega
  obtain ⟨hcs, hmo, hrr, hoa, hcb⟩ := hinv
  have hsm := cb_sm hcb
  refine lv_aload_n hx hb dL_law_383 rfl (lv_at hl 1 rfl) ?_
  refine lv_aload_n hx hb dL_law_384 rfl (lv_at hl 0 rfl) ?_
  refine lv_iload hx hb dL_law_385 (lv_at hl 4 rfl) ?_
  refine lv_iconst (v := nI 1) hx hb dL_law_387 (by decide +kernel) ?_
  refine t_iadd hx hb dL_law_388 (v := nI (i + 1)) (nI_add _ _) ?_
  refine va_sld (A := fun q => lo ≤ q) hx hb hXs hbs hbA hst.2.1 (i := nI (i + 1)) (vp_in_nI (by omega) (by omega)) dL_law_389 ?_
  refine tp_i (e2 := xs (i + 1)) (by rw [nI_clamp (by omega)]) ?_
  refine lv_aload_n hx hb dL_law_390 rfl (lv_at hl 0 rfl) ?_
  refine lv_iload hx hb dL_law_391 (lv_at hl 4 rfl) ?_
  refine lv_iconst (v := nI 2) hx hb dL_law_393 (by decide +kernel) ?_
  refine t_iadd hx hb dL_law_394 (v := nI (i + 2)) (nI_add _ _) ?_
  refine va_sld (A := fun q => lo ≤ q) hx hb hXs hbs hbA hst.2.1 (i := nI (i + 2)) (vp_in_nI (by omega) (by omega)) dL_law_395 ?_
  refine tp_i (e2 := xs (i + 2)) (by rw [nI_clamp (by omega)]) ?_
  refine lv_aload_n hx hb dL_law_396 rfl (lv_at hl 0 rfl) ?_
  refine lv_iload hx hb dL_law_397 (lv_at hl 4 rfl) ?_
  refine lv_iconst (v := nI 3) hx hb dL_law_399 (by decide +kernel) ?_
  refine t_iadd hx hb dL_law_400 (v := nI (i + 3)) (nI_add _ _) ?_
  refine va_sld (A := fun q => lo ≤ q) hx hb hXs hbs hbA hst.2.1 (i := nI (i + 3)) (vp_in_nI (by omega) (by omega)) dL_law_401 ?_
  refine tp_i (e2 := xs (i + 3)) (by rw [nI_clamp (by omega)]) ?_
  refine lv_aload_n hx hb dL_law_402 rfl (lv_at hl 3 rfl) ?_
  obtain ⟨k, P', rf', v, cap', si', mc, hk, hk2, hmc, hcm, hcp, hvb, hct, hR⟩ := u_power l D Y lo hlt hcs ma E (xs (i + 1)) (xs (i + 2)) (xs (i + 3))
  have hcb2 := hcp hcb
  have hsm2 := cb_sm hcb2
  refine lw_callH (av2 := [.ref xa, .int (xs (i + 1)), .int (xs (i + 2)), .int (xs (i + 3)), .ref oa]) (rest := []) X hst (w_power l D Y lo hcs hct hoa (hvb rfl)) wh_L_power ml_L_100 ws_L_power wn_L md_L_power (by decide) hl.1 rfl (Nat.le_of_ble_eq_true rfl) ⟨by omega, by omega⟩ dL_law_403 (fun r M1 H locs hp hst => ?_)
  obtain ⟨rfl, hcs1, ho1, f1, hoa1, hf1⟩ := hp
  have hmo1 := hmo.off ho1 (by omega)
  refine lv_istore (lv' := [(5, .int (nI k)), (0, .ref b), (1, .ref xa), (2, .ref ma), (3, .ref oa), (4, .int (nI i))]) hx hb dL_law_406 hl (by decide) rfl (fun ls hl => ?_)
  refine lv_aload_n hx hb dL_law_408 rfl (lv_at hl 3 rfl) ?_
  refine lv_aload_n hx hb dL_law_409 rfl (lv_at hl 1 rfl) ?_
  refine lv_iload hx hb dL_law_410 (lv_at hl 5 rfl) ?_
  refine lv_iconst (v := nI 1) hx hb dL_law_412 (by decide +kernel) ?_
  refine t_iadd hx hb dL_law_413 (v := nI (i + 1)) (nI_add _ _) ?_
  refine va_sld (A := fun q => lo ≤ q) hx hb hXs hbs hbA hst.2.1 (i := nI (i + 1)) (vp_in_nI (by omega) (by omega)) dL_law_414 ?_
  refine tp_i (e2 := xs (i + 1)) (by rw [nI_clamp (by omega)]) ?_
  refine lv_aload_n hx hb dL_law_415 rfl (lv_at hl 1 rfl) ?_
  refine lv_iload hx hb dL_law_416 (lv_at hl 5 rfl) ?_
  refine lv_iconst (v := nI 2) hx hb dL_law_418 (by decide +kernel) ?_
  refine t_iadd hx hb dL_law_419 (v := nI (i + 2)) (nI_add _ _) ?_
  refine va_sld (A := fun q => lo ≤ q) hx hb hXs hbs hbA hst.2.1 (i := nI (i + 2)) (vp_in_nI (by omega) (by omega)) dL_law_420 ?_
  refine tp_i (e2 := xs (i + 2)) (by rw [nI_clamp (by omega)]) ?_
  refine lv_aload_n hx hb dL_law_421 rfl (lv_at hl 1 rfl) ?_
  refine lv_iload hx hb dL_law_422 (lv_at hl 5 rfl) ?_
  refine lv_iconst (v := nI 3) hx hb dL_law_424 (by decide +kernel) ?_
  refine t_iadd hx hb dL_law_425 (v := nI (i + 3)) (nI_add _ _) ?_
  refine va_sld (A := fun q => lo ≤ q) hx hb hXs hbs hbA hst.2.1 (i := nI (i + 3)) (vp_in_nI (by omega) (by omega)) dL_law_426 ?_
  refine tp_i (e2 := xs (i + 3)) (by rw [nI_clamp (by omega)]) ?_
  refine lw_callV (av2 := [.int (xs (i + 1)), .int (xs (i + 2)), .int (xs (i + 3))]) (rest := []) (x := ma) X hst (hR M1 th c hmo1 hrr) hmo1.ob rfl wc_R_power ml_L_102 wi_R_power wl_R_power wn_R md_R_power (by decide) hl.1 rfl (Nat.le_of_ble_eq_true rfl) ⟨by omega, by omega⟩ dL_law_427 (fun r M2 H locs hp hst => ?_)
  obtain ⟨c2, w2, hr, hwb, hwv, hmo2, hrr2, ho2⟩ := hp
  obtain ⟨z2, hz2, rfl⟩ := hwb rfl
  have hr : r = some (.int (nI z2)) := hr
  subst hr
  have hcs2 := hcs1.off ho2 (by omega)
  have hoa2 := ho2.of hoa1 (by decide)
  refine lv_istore (lv' := [(6, .int (nI z2)), (5, .int (nI k)), (0, .ref b), (1, .ref xa), (2, .ref ma), (3, .ref oa), (4, .int (nI i))]) hx hb dL_law_430 hl (by decide) rfl (fun ls hl => ?_)
  refine lv_aload_n hx hb dL_law_432 rfl (lv_at hl 4 rfl) ?_
  refine lw_callV (av2 := []) (rest := []) (x := ma) X hst (c_R_thrown l D Y lo hmo2) hmo2.ob rfl wc_R_thrown ml_L_85 wi_R_thrown wl_R_thrown wn_R md_R_thrown (by decide) hl.1 rfl (Nat.le_of_ble_eq_true rfl) ⟨by omega, by omega⟩ dL_law_433 (fun r M3 H locs hp hst => ?_)
  obtain ⟨rfl, rfl⟩ := hp
  refine lv_iload hx hb dL_law_436 (lv_at hl 1 rfl) ?_
  refine lv_icmp_eq hx hb dL_law_438 (tgt := 443) rfl (fun hc => ?_) (fun hc => ?_)
  · skip
    have hck : k = k := (nI_eq (by omega) (by omega)).mp hc
    refine lv_iload hx hb dL_law_443 (lv_at hl 1 rfl) ?_
    refine lv_if_ne hx hb dL_law_445 (tgt := 467) rfl (fun hc => ?_) (fun hc => ?_)
    · skip
      rw [← nI_0] at hc
      have hk0 : ¬ k = 0 := fun z => hc ((nI_eq (by omega) (by omega)).mpr z)
      refine lv_goto hx hb dL_law_467 (tgt := 1304) rfl ?_
      refine lv_iinc (lv' := [(4, .int (nI (i + 5))), (6, .int (nI z2)), (5, .int (nI k)), (0, .ref b), (1, .ref xa), (2, .ref ma), (3, .ref oa)]) hx hb dL_law_1304 hl (k := 6) rfl (ii_5 _) (by decide) rfl (fun ls hl => ?_)
      refine lv_goto hx hb dL_law_1307 (tgt := 33) rfl ?_
      refine W.widen (k := sm cap' 300 + (i + 5)) (n := 327125 + 6 * sm cap' 300 + 6 * (i + 5)) (by omega) (by omega) ?_
      exact hnext _ _ _ _ _ _ _ _ _ _ _ ⟨hcs2, hmo2, hrr2, hoa2, hcb2⟩ hst (lv_sub hl [3, 4, 5, 6, 0] rfl)
    · skip
      rw [← nI_0] at hc
      have hk0 : k = 0 := (nI_eq (by omega) (by omega)).mp hc
      have hf0 := hf1 hk0
      have hwv := hwv hk0
      refine lv_aload_n hx hb dL_law_448 rfl (lv_at hl 5 rfl) ?_
      refine lv_iconst (v := nI 0) hx hb dL_law_449 (by decide +kernel) ?_
      refine hp_lald hx hb hK rfl hst hoa2 (j := 0) (by omega) (by omega) dL_law_450 ?_
      refine tp_l (e2 := lN z2) (by rw [hf0, ← hwv]; exact nI_l (by omega)) ?_
      refine lv_iload hx hb dL_law_451 (lv_at hl 0 rfl) ?_
      refine lv_if_eq hx hb dL_law_453 (tgt := 460) rfl (fun hc => ?_) (fun hc => ?_)
      · skip
        rw [← nI_0] at hc
        have hcb9 : z2 = 0 := (nI_eq (by omega) (by omega)).mp hc
        refine lv_lconst (v := lN 0) hx hb dL_law_460 (by decide +kernel) ?_
        refine lv_lcmp hx hb dL_law_461 ?_
        refine lv_if_eq hx hb dL_law_462 (tgt := 467) rfl (fun hc => ?_) (fun hc => absurd (lcm3_eq.mpr (by rw [show z2 = 0 by omega])) hc)
        refine lv_goto hx hb dL_law_467 (tgt := 1304) rfl ?_
        refine lv_iinc (lv' := [(4, .int (nI (i + 5))), (6, .int (nI z2)), (5, .int (nI k)), (0, .ref b), (1, .ref xa), (2, .ref ma), (3, .ref oa)]) hx hb dL_law_1304 hl (k := 6) rfl (ii_5 _) (by decide) rfl (fun ls hl => ?_)
        refine lv_goto hx hb dL_law_1307 (tgt := 33) rfl ?_
        refine W.widen (k := sm cap' 300 + (i + 5)) (n := 327125 + 6 * sm cap' 300 + 6 * (i + 5)) (by omega) (by omega) ?_
        exact hnext _ _ _ _ _ _ _ _ _ _ _ ⟨hcs2, hmo2, hrr2, hoa2, hcb2⟩ hst (lv_sub hl [3, 4, 5, 6, 0] rfl)
      · skip
        rw [← nI_0] at hc
        have hcb9 : ¬ z2 = 0 := fun z => hc ((nI_eq (by omega) (by omega)).mpr z)
        refine lv_lconst (v := lN 1) hx hb dL_law_456 (by decide +kernel) ?_
        refine lv_goto hx hb dL_law_457 (tgt := 461) rfl ?_
        refine lv_lcmp hx hb dL_law_461 ?_
        refine lv_if_eq hx hb dL_law_462 (tgt := 467) rfl (fun hc => ?_) (fun hc => absurd (lcm3_eq.mpr (by rw [show z2 = 1 by omega])) hc)
        refine lv_goto hx hb dL_law_467 (tgt := 1304) rfl ?_
        refine lv_iinc (lv' := [(4, .int (nI (i + 5))), (6, .int (nI z2)), (5, .int (nI k)), (0, .ref b), (1, .ref xa), (2, .ref ma), (3, .ref oa)]) hx hb dL_law_1304 hl (k := 6) rfl (ii_5 _) (by decide) rfl (fun ls hl => ?_)
        refine lv_goto hx hb dL_law_1307 (tgt := 33) rfl ?_
        refine W.widen (k := sm cap' 300 + (i + 5)) (n := 327125 + 6 * sm cap' 300 + 6 * (i + 5)) (by omega) (by omega) ?_
        exact hnext _ _ _ _ _ _ _ _ _ _ _ ⟨hcs2, hmo2, hrr2, hoa2, hcb2⟩ hst (lv_sub hl [3, 4, 5, 6, 0] rfl)
  · skip
    have hck : ¬ k = k := fun z => hc ((nI_eq (by omega) (by omega)).mpr z)
    exact absurd rfl hck

set_option maxHeartbeats 4000000 in
set_option maxRecDepth 100000 in
theorem lc_divide {pg : Program} {l : Launch} {eg : Env} {sg : State} {mg : MethodId} {bw : List Frame} {mt : Method} {cg : Code} {D : va_G} {Y : Nat → ClassId} {lo b L : Nat} {xs : Nat → Int32} {xa ma oa p : Nat} {A E : Nat → Nat} {i : Nat} (hlt : l.stackTraces = false) (hL : L ≤ 2561) (X : lwx pg sg mg #[Value.ref b] cg D Y lo b L xs) (hi : i + 4 < L) (hnext : LG pg l eg sg mg bw mt cg D Y lo b L xs xa ma oa p A E (i + 5)) {M : Hm} {P : Nat → Pf} {cap si : Nat → Nat} {rf th : Nat} {c : Nat → Nat → Nat} {f : Nat → Int64} {H : Heap} {locs : List Loc} {ls : Array Slot} (hinv : linv Y xa ma oa p A E M P cap si rf th c f) (hst : hp_st D vC lo M sg.heap H locs) (hl : lv_has ls 7 [(0, .ref b), (1, .ref xa), (2, .ref ma), (3, .ref oa), (4, .int (nI i))]) : W pg l eg room_1 sg mg #[Value.ref b] bw mt cg H locs (sm cap 300 + i) (327125 + 6 * sm cap 300 + 6 * i) (lw_Z bw #[Value.ref b] sg) (F0 mg 470 ls []) := by
  have X1 := X
  obtain ⟨hx, hb, hml, hown, hG, hbl, hlo, hkx⟩ := X1
  have hK := hkx.1.1
  have hXs := hkx.2.2
  have hbs : b < sg.heap.size := Nat.lt_of_lt_of_le hbl hlo
  have hbA : ¬ lo ≤ b := by omega
  obtain ⟨hcs, hmo, hrr, hoa, hcb⟩ := hinv
  have hsm := cb_sm hcb
  refine lv_aload_n hx hb dL_law_470 rfl (lv_at hl 1 rfl) ?_
  refine lv_aload_n hx hb dL_law_471 rfl (lv_at hl 0 rfl) ?_
  refine lv_iload hx hb dL_law_472 (lv_at hl 4 rfl) ?_
  refine lv_iconst (v := nI 1) hx hb dL_law_474 (by decide +kernel) ?_
  refine t_iadd hx hb dL_law_475 (v := nI (i + 1)) (nI_add _ _) ?_
  refine va_sld (A := fun q => lo ≤ q) hx hb hXs hbs hbA hst.2.1 (i := nI (i + 1)) (vp_in_nI (by omega) (by omega)) dL_law_476 ?_
  refine tp_i (e2 := xs (i + 1)) (by rw [nI_clamp (by omega)]) ?_
  refine lv_aload_n hx hb dL_law_477 rfl (lv_at hl 0 rfl) ?_
  refine lv_iload hx hb dL_law_478 (lv_at hl 4 rfl) ?_
  refine lv_iconst (v := nI 2) hx hb dL_law_480 (by decide +kernel) ?_
  refine t_iadd hx hb dL_law_481 (v := nI (i + 2)) (nI_add _ _) ?_
  refine va_sld (A := fun q => lo ≤ q) hx hb hXs hbs hbA hst.2.1 (i := nI (i + 2)) (vp_in_nI (by omega) (by omega)) dL_law_482 ?_
  refine tp_i (e2 := xs (i + 2)) (by rw [nI_clamp (by omega)]) ?_
  refine lv_aload_n hx hb dL_law_483 rfl (lv_at hl 0 rfl) ?_
  refine lv_iload hx hb dL_law_484 (lv_at hl 4 rfl) ?_
  refine lv_iconst (v := nI 3) hx hb dL_law_486 (by decide +kernel) ?_
  refine t_iadd hx hb dL_law_487 (v := nI (i + 3)) (nI_add _ _) ?_
  refine va_sld (A := fun q => lo ≤ q) hx hb hXs hbs hbA hst.2.1 (i := nI (i + 3)) (vp_in_nI (by omega) (by omega)) dL_law_488 ?_
  refine tp_i (e2 := xs (i + 3)) (by rw [nI_clamp (by omega)]) ?_
  refine lv_aload_n hx hb dL_law_489 rfl (lv_at hl 0 rfl) ?_
  refine lv_iload hx hb dL_law_490 (lv_at hl 4 rfl) ?_
  refine lv_iconst (v := nI 4) hx hb dL_law_492 (by decide +kernel) ?_
  refine t_iadd hx hb dL_law_493 (v := nI (i + 4)) (nI_add _ _) ?_
  refine va_sld (A := fun q => lo ≤ q) hx hb hXs hbs hbA hst.2.1 (i := nI (i + 4)) (vp_in_nI (by omega) (by omega)) dL_law_494 ?_
  refine tp_i (e2 := xs (i + 4)) (by rw [nI_clamp (by omega)]) ?_
  refine lv_if_eq hx hb dL_law_495 (tgt := 502) rfl (fun hc => ?_) (fun hc => ?_)
  · skip
    have hcz := hc
    refine lv_iconst (v := nI 0) hx hb dL_law_502 (by decide +kernel) ?_
    obtain ⟨k, P', rf', v, cap', si', mc, hk, hk2, hmc, hcm, hcp, hvb, hct, hR⟩ := u_divide l D Y lo hlt hcs ma E (xs (i + 1)) (xs (i + 2)) (xs (i + 3)) (z := 0) (by omega)
    have hcb2 := hcp hcb
    have hsm2 := cb_sm hcb2
    refine lw_callH (av2 := [.ref xa, .int (xs (i + 1)), .int (xs (i + 2)), .int (xs (i + 3)), .int (nI 0)]) (rest := []) X hst (w_divide l D Y lo hcs hct) wh_L_divide ml_L_103 ws_L_divide wn_L md_L_divide (by decide) hl.1 rfl (Nat.le_of_ble_eq_true rfl) ⟨by omega, by omega⟩ dL_law_503 (fun r M1 H locs hp hst => ?_)
    obtain ⟨rfl, hcs1, ho1⟩ := hp
    have hmo1 := hmo.off ho1 (by omega)
    refine lv_istore (lv' := [(5, .int (nI k)), (0, .ref b), (1, .ref xa), (2, .ref ma), (3, .ref oa), (4, .int (nI i))]) hx hb dL_law_506 hl (by decide) rfl (fun ls hl => ?_)
    refine lv_aload_n hx hb dL_law_508 rfl (lv_at hl 3 rfl) ?_
    refine lv_aload_n hx hb dL_law_509 rfl (lv_at hl 1 rfl) ?_
    refine lv_iload hx hb dL_law_510 (lv_at hl 5 rfl) ?_
    refine lv_iconst (v := nI 1) hx hb dL_law_512 (by decide +kernel) ?_
    refine t_iadd hx hb dL_law_513 (v := nI (i + 1)) (nI_add _ _) ?_
    refine va_sld (A := fun q => lo ≤ q) hx hb hXs hbs hbA hst.2.1 (i := nI (i + 1)) (vp_in_nI (by omega) (by omega)) dL_law_514 ?_
    refine tp_i (e2 := xs (i + 1)) (by rw [nI_clamp (by omega)]) ?_
    refine lv_aload_n hx hb dL_law_515 rfl (lv_at hl 1 rfl) ?_
    refine lv_iload hx hb dL_law_516 (lv_at hl 5 rfl) ?_
    refine lv_iconst (v := nI 2) hx hb dL_law_518 (by decide +kernel) ?_
    refine t_iadd hx hb dL_law_519 (v := nI (i + 2)) (nI_add _ _) ?_
    refine va_sld (A := fun q => lo ≤ q) hx hb hXs hbs hbA hst.2.1 (i := nI (i + 2)) (vp_in_nI (by omega) (by omega)) dL_law_520 ?_
    refine tp_i (e2 := xs (i + 2)) (by rw [nI_clamp (by omega)]) ?_
    refine lv_aload_n hx hb dL_law_521 rfl (lv_at hl 1 rfl) ?_
    refine lv_iload hx hb dL_law_522 (lv_at hl 5 rfl) ?_
    refine lv_iconst (v := nI 3) hx hb dL_law_524 (by decide +kernel) ?_
    refine t_iadd hx hb dL_law_525 (v := nI (i + 3)) (nI_add _ _) ?_
    refine va_sld (A := fun q => lo ≤ q) hx hb hXs hbs hbA hst.2.1 (i := nI (i + 3)) (vp_in_nI (by omega) (by omega)) dL_law_526 ?_
    refine tp_i (e2 := xs (i + 3)) (by rw [nI_clamp (by omega)]) ?_
    refine lv_aload_n hx hb dL_law_527 rfl (lv_at hl 1 rfl) ?_
    refine lv_iload hx hb dL_law_528 (lv_at hl 5 rfl) ?_
    refine lv_iconst (v := nI 4) hx hb dL_law_530 (by decide +kernel) ?_
    refine t_iadd hx hb dL_law_531 (v := nI (i + 4)) (nI_add _ _) ?_
    refine va_sld (A := fun q => lo ≤ q) hx hb hXs hbs hbA hst.2.1 (i := nI (i + 4)) (vp_in_nI (by omega) (by omega)) dL_law_532 ?_
    refine tp_i (e2 := xs (i + 4)) (by rw [nI_clamp (by omega)]) ?_
    refine lv_if_eq hx hb dL_law_533 (tgt := 540) rfl (fun hc2 => ?_) (fun hc2 => absurd hcz hc2)
    refine lv_iconst (v := nI 0) hx hb dL_law_540 (by decide +kernel) ?_
    refine lw_callV (av2 := [.int (xs (i + 1)), .int (xs (i + 2)), .int (xs (i + 3)), .int (nI 0)]) (rest := []) (x := ma) X hst (hR M1 th c hmo1 hrr) hmo1.ob rfl wc_R_divide ml_L_106 wi_R_divide wl_R_divide wn_R md_R_divide (by decide) hl.1 rfl (Nat.le_of_ble_eq_true rfl) ⟨by omega, by omega⟩ dL_law_541 (fun r M2 H locs hp hst => ?_)
    obtain ⟨c2, w2, hr, hwb, hwv, hmo2, hrr2, ho2⟩ := hp
    have hr : r = none := hr
    subst hr
    have hcs2 := hcs1.off ho2 (by omega)
    have hoa1 := ho1.of hoa (by show ¬ _ < 300; omega)
    have hoa2 := ho2.of hoa1 (by decide)
    refine lv_aload_n hx hb dL_law_544 rfl (lv_at hl 3 rfl) ?_
    refine lw_callV (av2 := []) (rest := []) (x := ma) X hst (c_R_thrown l D Y lo hmo2) hmo2.ob rfl wc_R_thrown ml_L_85 wi_R_thrown wl_R_thrown wn_R md_R_thrown (by decide) hl.1 rfl (Nat.le_of_ble_eq_true rfl) ⟨by omega, by omega⟩ dL_law_545 (fun r M3 H locs hp hst => ?_)
    obtain ⟨rfl, rfl⟩ := hp
    refine lv_iload hx hb dL_law_548 (lv_at hl 0 rfl) ?_
    refine lv_icmp_eq hx hb dL_law_550 (tgt := 555) rfl (fun hc => ?_) (fun hc => ?_)
    · skip
      have hck : k = k := (nI_eq (by omega) (by omega)).mp hc
      refine lv_goto hx hb dL_law_555 (tgt := 1304) rfl ?_
      refine lv_iinc (lv' := [(4, .int (nI (i + 5))), (5, .int (nI k)), (0, .ref b), (1, .ref xa), (2, .ref ma), (3, .ref oa)]) hx hb dL_law_1304 hl (k := 5) rfl (ii_5 _) (by decide) rfl (fun ls hl => ?_)
      refine lv_goto hx hb dL_law_1307 (tgt := 33) rfl ?_
      refine W.widen (k := sm cap' 300 + (i + 5)) (n := 327125 + 6 * sm cap' 300 + 6 * (i + 5)) (by omega) (by omega) ?_
      exact hnext _ _ _ _ _ _ _ _ _ _ _ ⟨hcs2, hmo2, hrr2, hoa2, hcb2⟩ hst (lv_sub hl [2, 3, 4, 5, 0] rfl)
    · skip
      have hck : ¬ k = k := fun z => hc ((nI_eq (by omega) (by omega)).mpr z)
      exact absurd rfl hck
  · skip
    have hcz := hc
    refine lv_iconst (v := nI 1) hx hb dL_law_498 (by decide +kernel) ?_
    refine lv_goto hx hb dL_law_499 (tgt := 503) rfl ?_
    obtain ⟨k, P', rf', v, cap', si', mc, hk, hk2, hmc, hcm, hcp, hvb, hct, hR⟩ := u_divide l D Y lo hlt hcs ma E (xs (i + 1)) (xs (i + 2)) (xs (i + 3)) (z := 1) (by omega)
    have hcb2 := hcp hcb
    have hsm2 := cb_sm hcb2
    refine lw_callH (av2 := [.ref xa, .int (xs (i + 1)), .int (xs (i + 2)), .int (xs (i + 3)), .int (nI 1)]) (rest := []) X hst (w_divide l D Y lo hcs hct) wh_L_divide ml_L_103 ws_L_divide wn_L md_L_divide (by decide) hl.1 rfl (Nat.le_of_ble_eq_true rfl) ⟨by omega, by omega⟩ dL_law_503 (fun r M1 H locs hp hst => ?_)
    obtain ⟨rfl, hcs1, ho1⟩ := hp
    have hmo1 := hmo.off ho1 (by omega)
    refine lv_istore (lv' := [(5, .int (nI k)), (0, .ref b), (1, .ref xa), (2, .ref ma), (3, .ref oa), (4, .int (nI i))]) hx hb dL_law_506 hl (by decide) rfl (fun ls hl => ?_)
    refine lv_aload_n hx hb dL_law_508 rfl (lv_at hl 3 rfl) ?_
    refine lv_aload_n hx hb dL_law_509 rfl (lv_at hl 1 rfl) ?_
    refine lv_iload hx hb dL_law_510 (lv_at hl 5 rfl) ?_
    refine lv_iconst (v := nI 1) hx hb dL_law_512 (by decide +kernel) ?_
    refine t_iadd hx hb dL_law_513 (v := nI (i + 1)) (nI_add _ _) ?_
    refine va_sld (A := fun q => lo ≤ q) hx hb hXs hbs hbA hst.2.1 (i := nI (i + 1)) (vp_in_nI (by omega) (by omega)) dL_law_514 ?_
    refine tp_i (e2 := xs (i + 1)) (by rw [nI_clamp (by omega)]) ?_
    refine lv_aload_n hx hb dL_law_515 rfl (lv_at hl 1 rfl) ?_
    refine lv_iload hx hb dL_law_516 (lv_at hl 5 rfl) ?_
    refine lv_iconst (v := nI 2) hx hb dL_law_518 (by decide +kernel) ?_
    refine t_iadd hx hb dL_law_519 (v := nI (i + 2)) (nI_add _ _) ?_
    refine va_sld (A := fun q => lo ≤ q) hx hb hXs hbs hbA hst.2.1 (i := nI (i + 2)) (vp_in_nI (by omega) (by omega)) dL_law_520 ?_
    refine tp_i (e2 := xs (i + 2)) (by rw [nI_clamp (by omega)]) ?_
    refine lv_aload_n hx hb dL_law_521 rfl (lv_at hl 1 rfl) ?_
    refine lv_iload hx hb dL_law_522 (lv_at hl 5 rfl) ?_
    refine lv_iconst (v := nI 3) hx hb dL_law_524 (by decide +kernel) ?_
    refine t_iadd hx hb dL_law_525 (v := nI (i + 3)) (nI_add _ _) ?_
    refine va_sld (A := fun q => lo ≤ q) hx hb hXs hbs hbA hst.2.1 (i := nI (i + 3)) (vp_in_nI (by omega) (by omega)) dL_law_526 ?_
    refine tp_i (e2 := xs (i + 3)) (by rw [nI_clamp (by omega)]) ?_
    refine lv_aload_n hx hb dL_law_527 rfl (lv_at hl 1 rfl) ?_
    refine lv_iload hx hb dL_law_528 (lv_at hl 5 rfl) ?_
    refine lv_iconst (v := nI 4) hx hb dL_law_530 (by decide +kernel) ?_
    refine t_iadd hx hb dL_law_531 (v := nI (i + 4)) (nI_add _ _) ?_
    refine va_sld (A := fun q => lo ≤ q) hx hb hXs hbs hbA hst.2.1 (i := nI (i + 4)) (vp_in_nI (by omega) (by omega)) dL_law_532 ?_
    refine tp_i (e2 := xs (i + 4)) (by rw [nI_clamp (by omega)]) ?_
    refine lv_if_eq hx hb dL_law_533 (tgt := 540) rfl (fun hc2 => absurd hc2 hcz) (fun hc2 => ?_)
    refine lv_iconst (v := nI 1) hx hb dL_law_536 (by decide +kernel) ?_
    refine lv_goto hx hb dL_law_537 (tgt := 541) rfl ?_
    refine lw_callV (av2 := [.int (xs (i + 1)), .int (xs (i + 2)), .int (xs (i + 3)), .int (nI 1)]) (rest := []) (x := ma) X hst (hR M1 th c hmo1 hrr) hmo1.ob rfl wc_R_divide ml_L_106 wi_R_divide wl_R_divide wn_R md_R_divide (by decide) hl.1 rfl (Nat.le_of_ble_eq_true rfl) ⟨by omega, by omega⟩ dL_law_541 (fun r M2 H locs hp hst => ?_)
    obtain ⟨c2, w2, hr, hwb, hwv, hmo2, hrr2, ho2⟩ := hp
    have hr : r = none := hr
    subst hr
    have hcs2 := hcs1.off ho2 (by omega)
    have hoa1 := ho1.of hoa (by show ¬ _ < 300; omega)
    have hoa2 := ho2.of hoa1 (by decide)
    refine lv_aload_n hx hb dL_law_544 rfl (lv_at hl 3 rfl) ?_
    refine lw_callV (av2 := []) (rest := []) (x := ma) X hst (c_R_thrown l D Y lo hmo2) hmo2.ob rfl wc_R_thrown ml_L_85 wi_R_thrown wl_R_thrown wn_R md_R_thrown (by decide) hl.1 rfl (Nat.le_of_ble_eq_true rfl) ⟨by omega, by omega⟩ dL_law_545 (fun r M3 H locs hp hst => ?_)
    obtain ⟨rfl, rfl⟩ := hp
    refine lv_iload hx hb dL_law_548 (lv_at hl 0 rfl) ?_
    refine lv_icmp_eq hx hb dL_law_550 (tgt := 555) rfl (fun hc => ?_) (fun hc => ?_)
    · skip
      have hck : k = k := (nI_eq (by omega) (by omega)).mp hc
      refine lv_goto hx hb dL_law_555 (tgt := 1304) rfl ?_
      refine lv_iinc (lv' := [(4, .int (nI (i + 5))), (5, .int (nI k)), (0, .ref b), (1, .ref xa), (2, .ref ma), (3, .ref oa)]) hx hb dL_law_1304 hl (k := 5) rfl (ii_5 _) (by decide) rfl (fun ls hl => ?_)
      refine lv_goto hx hb dL_law_1307 (tgt := 33) rfl ?_
      refine W.widen (k := sm cap' 300 + (i + 5)) (n := 327125 + 6 * sm cap' 300 + 6 * (i + 5)) (by omega) (by omega) ?_
      exact hnext _ _ _ _ _ _ _ _ _ _ _ ⟨hcs2, hmo2, hrr2, hoa2, hcb2⟩ hst (lv_sub hl [2, 3, 4, 5, 0] rfl)
    · skip
      have hck : ¬ k = k := fun z => hc ((nI_eq (by omega) (by omega)).mpr z)
      exact absurd rfl hck

set_option maxHeartbeats 4000000 in
set_option maxRecDepth 100000 in
theorem lc_derive {pg : Program} {l : Launch} {eg : Env} {sg : State} {mg : MethodId} {bw : List Frame} {mt : Method} {cg : Code} {D : va_G} {Y : Nat → ClassId} {lo b L : Nat} {xs : Nat → Int32} {xa ma oa p : Nat} {A E : Nat → Nat} {i : Nat} (hlt : l.stackTraces = false) (hL : L ≤ 2561) (X : lwx pg sg mg #[Value.ref b] cg D Y lo b L xs) (hi : i + 4 < L) (hnext : LG pg l eg sg mg bw mt cg D Y lo b L xs xa ma oa p A E (i + 5)) {M : Hm} {P : Nat → Pf} {cap si : Nat → Nat} {rf th : Nat} {c : Nat → Nat → Nat} {f : Nat → Int64} {H : Heap} {locs : List Loc} {ls : Array Slot} (hinv : linv Y xa ma oa p A E M P cap si rf th c f) (hst : hp_st D vC lo M sg.heap H locs) (hl : lv_has ls 7 [(0, .ref b), (1, .ref xa), (2, .ref ma), (3, .ref oa), (4, .int (nI i))]) : W pg l eg room_1 sg mg #[Value.ref b] bw mt cg H locs (sm cap 300 + i) (327125 + 6 * sm cap 300 + 6 * i) (lw_Z bw #[Value.ref b] sg) (F0 mg 558 ls []) := by
  have X1 := X
  obtain ⟨hx, hb, hml, hown, hG, hbl, hlo, hkx⟩ := X1
  have hK := hkx.1.1
  have hXs := hkx.2.2
  have hbs : b < sg.heap.size := Nat.lt_of_lt_of_le hbl hlo
  have hbA : ¬ lo ≤ b := by omega
  obtain ⟨hcs, hmo, hrr, hoa, hcb⟩ := hinv
  have hsm := cb_sm hcb
  refine lv_aload_n hx hb dL_law_558 rfl (lv_at hl 1 rfl) ?_
  refine lv_aload_n hx hb dL_law_559 rfl (lv_at hl 0 rfl) ?_
  refine lv_iload hx hb dL_law_560 (lv_at hl 4 rfl) ?_
  refine lv_iconst (v := nI 1) hx hb dL_law_562 (by decide +kernel) ?_
  refine t_iadd hx hb dL_law_563 (v := nI (i + 1)) (nI_add _ _) ?_
  refine va_sld (A := fun q => lo ≤ q) hx hb hXs hbs hbA hst.2.1 (i := nI (i + 1)) (vp_in_nI (by omega) (by omega)) dL_law_564 ?_
  refine tp_i (e2 := xs (i + 1)) (by rw [nI_clamp (by omega)]) ?_
  refine lv_aload_n hx hb dL_law_565 rfl (lv_at hl 0 rfl) ?_
  refine lv_iload hx hb dL_law_566 (lv_at hl 4 rfl) ?_
  refine lv_iconst (v := nI 2) hx hb dL_law_568 (by decide +kernel) ?_
  refine t_iadd hx hb dL_law_569 (v := nI (i + 2)) (nI_add _ _) ?_
  refine va_sld (A := fun q => lo ≤ q) hx hb hXs hbs hbA hst.2.1 (i := nI (i + 2)) (vp_in_nI (by omega) (by omega)) dL_law_570 ?_
  refine tp_i (e2 := xs (i + 2)) (by rw [nI_clamp (by omega)]) ?_
  refine lv_aload_n hx hb dL_law_571 rfl (lv_at hl 0 rfl) ?_
  refine lv_iload hx hb dL_law_572 (lv_at hl 4 rfl) ?_
  refine lv_iconst (v := nI 3) hx hb dL_law_574 (by decide +kernel) ?_
  refine t_iadd hx hb dL_law_575 (v := nI (i + 3)) (nI_add _ _) ?_
  refine va_sld (A := fun q => lo ≤ q) hx hb hXs hbs hbA hst.2.1 (i := nI (i + 3)) (vp_in_nI (by omega) (by omega)) dL_law_576 ?_
  refine tp_i (e2 := xs (i + 3)) (by rw [nI_clamp (by omega)]) ?_
  obtain ⟨k, P', rf', v, cap', si', mc, hk, hk2, hmc, hcm, hcp, hvb, hct, hR⟩ := u_derive l D Y lo hlt hcs ma E (xs (i + 1)) (xs (i + 2)) (xs (i + 3))
  have hcb2 := hcp hcb
  have hsm2 := cb_sm hcb2
  refine lw_callH (av2 := [.ref xa, .int (xs (i + 1)), .int (xs (i + 2)), .int (xs (i + 3))]) (rest := []) X hst (w_derive l D Y lo hcs hct) wh_L_derive ml_L_107 ws_L_derive wn_L md_L_derive (by decide) hl.1 rfl (Nat.le_of_ble_eq_true rfl) ⟨by omega, by omega⟩ dL_law_577 (fun r M1 H locs hp hst => ?_)
  obtain ⟨rfl, hcs1, ho1⟩ := hp
  have hmo1 := hmo.off ho1 (by omega)
  refine lv_istore (lv' := [(5, .int (nI k)), (0, .ref b), (1, .ref xa), (2, .ref ma), (3, .ref oa), (4, .int (nI i))]) hx hb dL_law_580 hl (by decide) rfl (fun ls hl => ?_)
  refine lv_aload_n hx hb dL_law_582 rfl (lv_at hl 3 rfl) ?_
  refine lv_aload_n hx hb dL_law_583 rfl (lv_at hl 1 rfl) ?_
  refine lv_iload hx hb dL_law_584 (lv_at hl 5 rfl) ?_
  refine lv_iconst (v := nI 1) hx hb dL_law_586 (by decide +kernel) ?_
  refine t_iadd hx hb dL_law_587 (v := nI (i + 1)) (nI_add _ _) ?_
  refine va_sld (A := fun q => lo ≤ q) hx hb hXs hbs hbA hst.2.1 (i := nI (i + 1)) (vp_in_nI (by omega) (by omega)) dL_law_588 ?_
  refine tp_i (e2 := xs (i + 1)) (by rw [nI_clamp (by omega)]) ?_
  refine lv_aload_n hx hb dL_law_589 rfl (lv_at hl 1 rfl) ?_
  refine lv_iload hx hb dL_law_590 (lv_at hl 5 rfl) ?_
  refine lv_iconst (v := nI 2) hx hb dL_law_592 (by decide +kernel) ?_
  refine t_iadd hx hb dL_law_593 (v := nI (i + 2)) (nI_add _ _) ?_
  refine va_sld (A := fun q => lo ≤ q) hx hb hXs hbs hbA hst.2.1 (i := nI (i + 2)) (vp_in_nI (by omega) (by omega)) dL_law_594 ?_
  refine tp_i (e2 := xs (i + 2)) (by rw [nI_clamp (by omega)]) ?_
  refine lv_aload_n hx hb dL_law_595 rfl (lv_at hl 1 rfl) ?_
  refine lv_iload hx hb dL_law_596 (lv_at hl 5 rfl) ?_
  refine lv_iconst (v := nI 3) hx hb dL_law_598 (by decide +kernel) ?_
  refine t_iadd hx hb dL_law_599 (v := nI (i + 3)) (nI_add _ _) ?_
  refine va_sld (A := fun q => lo ≤ q) hx hb hXs hbs hbA hst.2.1 (i := nI (i + 3)) (vp_in_nI (by omega) (by omega)) dL_law_600 ?_
  refine tp_i (e2 := xs (i + 3)) (by rw [nI_clamp (by omega)]) ?_
  refine lw_callV (av2 := [.int (xs (i + 1)), .int (xs (i + 2)), .int (xs (i + 3))]) (rest := []) (x := ma) X hst (hR M1 th c hmo1 hrr) hmo1.ob rfl wc_R_derive ml_L_110 wi_R_derive wl_R_derive wn_R md_R_derive (by decide) hl.1 rfl (Nat.le_of_ble_eq_true rfl) ⟨by omega, by omega⟩ dL_law_601 (fun r M2 H locs hp hst => ?_)
  obtain ⟨c2, w2, hr, hwb, hwv, hmo2, hrr2, ho2⟩ := hp
  have hr : r = none := hr
  subst hr
  have hcs2 := hcs1.off ho2 (by omega)
  have hoa1 := ho1.of hoa (by show ¬ _ < 300; omega)
  have hoa2 := ho2.of hoa1 (by decide)
  refine lv_aload_n hx hb dL_law_604 rfl (lv_at hl 3 rfl) ?_
  refine lw_callV (av2 := []) (rest := []) (x := ma) X hst (c_R_thrown l D Y lo hmo2) hmo2.ob rfl wc_R_thrown ml_L_85 wi_R_thrown wl_R_thrown wn_R md_R_thrown (by decide) hl.1 rfl (Nat.le_of_ble_eq_true rfl) ⟨by omega, by omega⟩ dL_law_605 (fun r M3 H locs hp hst => ?_)
  obtain ⟨rfl, rfl⟩ := hp
  refine lv_iload hx hb dL_law_608 (lv_at hl 0 rfl) ?_
  refine lv_icmp_eq hx hb dL_law_610 (tgt := 615) rfl (fun hc => ?_) (fun hc => ?_)
  · skip
    have hck : k = k := (nI_eq (by omega) (by omega)).mp hc
    refine lv_goto hx hb dL_law_615 (tgt := 1304) rfl ?_
    refine lv_iinc (lv' := [(4, .int (nI (i + 5))), (5, .int (nI k)), (0, .ref b), (1, .ref xa), (2, .ref ma), (3, .ref oa)]) hx hb dL_law_1304 hl (k := 5) rfl (ii_5 _) (by decide) rfl (fun ls hl => ?_)
    refine lv_goto hx hb dL_law_1307 (tgt := 33) rfl ?_
    refine W.widen (k := sm cap' 300 + (i + 5)) (n := 327125 + 6 * sm cap' 300 + 6 * (i + 5)) (by omega) (by omega) ?_
    exact hnext _ _ _ _ _ _ _ _ _ _ _ ⟨hcs2, hmo2, hrr2, hoa2, hcb2⟩ hst (lv_sub hl [2, 3, 4, 5, 0] rfl)
  · skip
    have hck : ¬ k = k := fun z => hc ((nI_eq (by omega) (by omega)).mpr z)
    exact absurd rfl hck

set_option maxHeartbeats 4000000 in
set_option maxRecDepth 100000 in
theorem lc_put {pg : Program} {l : Launch} {eg : Env} {sg : State} {mg : MethodId} {bw : List Frame} {mt : Method} {cg : Code} {D : va_G} {Y : Nat → ClassId} {lo b L : Nat} {xs : Nat → Int32} {xa ma oa p : Nat} {A E : Nat → Nat} {i : Nat} (hlt : l.stackTraces = false) (hL : L ≤ 2561) (X : lwx pg sg mg #[Value.ref b] cg D Y lo b L xs) (hi : i + 4 < L) (hnext : LG pg l eg sg mg bw mt cg D Y lo b L xs xa ma oa p A E (i + 5)) {M : Hm} {P : Nat → Pf} {cap si : Nat → Nat} {rf th : Nat} {c : Nat → Nat → Nat} {f : Nat → Int64} {H : Heap} {locs : List Loc} {ls : Array Slot} (hinv : linv Y xa ma oa p A E M P cap si rf th c f) (hst : hp_st D vC lo M sg.heap H locs) (hl : lv_has ls 7 [(0, .ref b), (1, .ref xa), (2, .ref ma), (3, .ref oa), (4, .int (nI i))]) : W pg l eg room_1 sg mg #[Value.ref b] bw mt cg H locs (sm cap 300 + i) (327125 + 6 * sm cap 300 + 6 * i) (lw_Z bw #[Value.ref b] sg) (F0 mg 618 ls []) := by
  have X1 := X
  obtain ⟨hx, hb, hml, hown, hG, hbl, hlo, hkx⟩ := X1
  have hK := hkx.1.1
  have hXs := hkx.2.2
  have hbs : b < sg.heap.size := Nat.lt_of_lt_of_le hbl hlo
  have hbA : ¬ lo ≤ b := by omega
  obtain ⟨hcs, hmo, hrr, hoa, hcb⟩ := hinv
  have hsm := cb_sm hcb
  refine lv_aload_n hx hb dL_law_618 rfl (lv_at hl 1 rfl) ?_
  refine lv_aload_n hx hb dL_law_619 rfl (lv_at hl 0 rfl) ?_
  refine lv_iload hx hb dL_law_620 (lv_at hl 4 rfl) ?_
  refine lv_iconst (v := nI 1) hx hb dL_law_622 (by decide +kernel) ?_
  refine t_iadd hx hb dL_law_623 (v := nI (i + 1)) (nI_add _ _) ?_
  refine va_sld (A := fun q => lo ≤ q) hx hb hXs hbs hbA hst.2.1 (i := nI (i + 1)) (vp_in_nI (by omega) (by omega)) dL_law_624 ?_
  refine tp_i (e2 := xs (i + 1)) (by rw [nI_clamp (by omega)]) ?_
  refine lv_aload_n hx hb dL_law_625 rfl (lv_at hl 0 rfl) ?_
  refine lv_iload hx hb dL_law_626 (lv_at hl 4 rfl) ?_
  refine lv_iconst (v := nI 2) hx hb dL_law_628 (by decide +kernel) ?_
  refine t_iadd hx hb dL_law_629 (v := nI (i + 2)) (nI_add _ _) ?_
  refine va_sld (A := fun q => lo ≤ q) hx hb hXs hbs hbA hst.2.1 (i := nI (i + 2)) (vp_in_nI (by omega) (by omega)) dL_law_630 ?_
  refine tp_i (e2 := xs (i + 2)) (by rw [nI_clamp (by omega)]) ?_
  refine lv_aload_n hx hb dL_law_631 rfl (lv_at hl 0 rfl) ?_
  refine lv_iload hx hb dL_law_632 (lv_at hl 4 rfl) ?_
  refine lv_iconst (v := nI 3) hx hb dL_law_634 (by decide +kernel) ?_
  refine t_iadd hx hb dL_law_635 (v := nI (i + 3)) (nI_add _ _) ?_
  refine va_sld (A := fun q => lo ≤ q) hx hb hXs hbs hbA hst.2.1 (i := nI (i + 3)) (vp_in_nI (by omega) (by omega)) dL_law_636 ?_
  refine tp_i (e2 := xs (i + 3)) (by rw [nI_clamp (by omega)]) ?_
  refine lv_aload_n hx hb dL_law_637 rfl (lv_at hl 0 rfl) ?_
  refine lv_iload hx hb dL_law_638 (lv_at hl 4 rfl) ?_
  refine lv_iconst (v := nI 4) hx hb dL_law_640 (by decide +kernel) ?_
  refine t_iadd hx hb dL_law_641 (v := nI (i + 4)) (nI_add _ _) ?_
  refine va_sld (A := fun q => lo ≤ q) hx hb hXs hbs hbA hst.2.1 (i := nI (i + 4)) (vp_in_nI (by omega) (by omega)) dL_law_642 ?_
  refine tp_i (e2 := xs (i + 4)) (by rw [nI_clamp (by omega)]) ?_
  refine lv_aload_n hx hb dL_law_643 rfl (lv_at hl 3 rfl) ?_
  obtain ⟨k, P', rf', v, cap', si', mc, hk, hk2, hmc, hcm, hcp, hvb, hct, hR⟩ := u_put l D Y lo hlt hcs ma E (xs (i + 1)) (xs (i + 2)) (xs (i + 3)) (xs (i + 4))
  have hcb2 := hcp hcb
  have hsm2 := cb_sm hcb2
  refine lw_callH (av2 := [.ref xa, .int (xs (i + 1)), .int (xs (i + 2)), .int (xs (i + 3)), .int (xs (i + 4)), .ref oa]) (rest := []) X hst (w_put l D Y lo hcs hct hoa (hvb rfl)) wh_L_put ml_L_111 ws_L_put wn_L md_L_put (by decide) hl.1 rfl (Nat.le_of_ble_eq_true rfl) ⟨by omega, by omega⟩ dL_law_644 (fun r M1 H locs hp hst => ?_)
  obtain ⟨rfl, hcs1, ho1, f1, hoa1, hf1⟩ := hp
  have hmo1 := hmo.off ho1 (by omega)
  refine lv_istore (lv' := [(5, .int (nI k)), (0, .ref b), (1, .ref xa), (2, .ref ma), (3, .ref oa), (4, .int (nI i))]) hx hb dL_law_647 hl (by decide) rfl (fun ls hl => ?_)
  refine lv_aload_n hx hb dL_law_649 rfl (lv_at hl 3 rfl) ?_
  refine lv_aload_n hx hb dL_law_650 rfl (lv_at hl 1 rfl) ?_
  refine lv_iload hx hb dL_law_651 (lv_at hl 5 rfl) ?_
  refine lv_iconst (v := nI 1) hx hb dL_law_653 (by decide +kernel) ?_
  refine t_iadd hx hb dL_law_654 (v := nI (i + 1)) (nI_add _ _) ?_
  refine va_sld (A := fun q => lo ≤ q) hx hb hXs hbs hbA hst.2.1 (i := nI (i + 1)) (vp_in_nI (by omega) (by omega)) dL_law_655 ?_
  refine tp_i (e2 := xs (i + 1)) (by rw [nI_clamp (by omega)]) ?_
  refine lv_aload_n hx hb dL_law_656 rfl (lv_at hl 1 rfl) ?_
  refine lv_iload hx hb dL_law_657 (lv_at hl 5 rfl) ?_
  refine lv_iconst (v := nI 2) hx hb dL_law_659 (by decide +kernel) ?_
  refine t_iadd hx hb dL_law_660 (v := nI (i + 2)) (nI_add _ _) ?_
  refine va_sld (A := fun q => lo ≤ q) hx hb hXs hbs hbA hst.2.1 (i := nI (i + 2)) (vp_in_nI (by omega) (by omega)) dL_law_661 ?_
  refine tp_i (e2 := xs (i + 2)) (by rw [nI_clamp (by omega)]) ?_
  refine lv_aload_n hx hb dL_law_662 rfl (lv_at hl 1 rfl) ?_
  refine lv_iload hx hb dL_law_663 (lv_at hl 5 rfl) ?_
  refine lv_iconst (v := nI 3) hx hb dL_law_665 (by decide +kernel) ?_
  refine t_iadd hx hb dL_law_666 (v := nI (i + 3)) (nI_add _ _) ?_
  refine va_sld (A := fun q => lo ≤ q) hx hb hXs hbs hbA hst.2.1 (i := nI (i + 3)) (vp_in_nI (by omega) (by omega)) dL_law_667 ?_
  refine tp_i (e2 := xs (i + 3)) (by rw [nI_clamp (by omega)]) ?_
  refine lv_aload_n hx hb dL_law_668 rfl (lv_at hl 1 rfl) ?_
  refine lv_iload hx hb dL_law_669 (lv_at hl 5 rfl) ?_
  refine lv_iconst (v := nI 4) hx hb dL_law_671 (by decide +kernel) ?_
  refine t_iadd hx hb dL_law_672 (v := nI (i + 4)) (nI_add _ _) ?_
  refine va_sld (A := fun q => lo ≤ q) hx hb hXs hbs hbA hst.2.1 (i := nI (i + 4)) (vp_in_nI (by omega) (by omega)) dL_law_673 ?_
  refine tp_i (e2 := xs (i + 4)) (by rw [nI_clamp (by omega)]) ?_
  refine lw_callV (av2 := [.int (xs (i + 1)), .int (xs (i + 2)), .int (xs (i + 3)), .int (xs (i + 4))]) (rest := []) (x := ma) X hst (hR M1 th c hmo1 hrr) hmo1.ob rfl wc_R_put ml_L_114 wi_R_put wl_R_put wn_R md_R_put (by decide) hl.1 rfl (Nat.le_of_ble_eq_true rfl) ⟨by omega, by omega⟩ dL_law_674 (fun r M2 H locs hp hst => ?_)
  obtain ⟨c2, w2, hr, hwb, hwv, hmo2, hrr2, ho2⟩ := hp
  obtain ⟨z2, hz2, rfl⟩ := hwb rfl
  have hr : r = some (.int (nI z2)) := hr
  subst hr
  have hcs2 := hcs1.off ho2 (by omega)
  have hoa2 := ho2.of hoa1 (by decide)
  refine lv_istore (lv' := [(6, .int (nI z2)), (5, .int (nI k)), (0, .ref b), (1, .ref xa), (2, .ref ma), (3, .ref oa), (4, .int (nI i))]) hx hb dL_law_677 hl (by decide) rfl (fun ls hl => ?_)
  refine lv_aload_n hx hb dL_law_679 rfl (lv_at hl 4 rfl) ?_
  refine lw_callV (av2 := []) (rest := []) (x := ma) X hst (c_R_thrown l D Y lo hmo2) hmo2.ob rfl wc_R_thrown ml_L_85 wi_R_thrown wl_R_thrown wn_R md_R_thrown (by decide) hl.1 rfl (Nat.le_of_ble_eq_true rfl) ⟨by omega, by omega⟩ dL_law_680 (fun r M3 H locs hp hst => ?_)
  obtain ⟨rfl, rfl⟩ := hp
  refine lv_iload hx hb dL_law_683 (lv_at hl 1 rfl) ?_
  refine lv_icmp_eq hx hb dL_law_685 (tgt := 690) rfl (fun hc => ?_) (fun hc => ?_)
  · skip
    have hck : k = k := (nI_eq (by omega) (by omega)).mp hc
    refine lv_iload hx hb dL_law_690 (lv_at hl 1 rfl) ?_
    refine lv_if_ne hx hb dL_law_692 (tgt := 714) rfl (fun hc => ?_) (fun hc => ?_)
    · skip
      rw [← nI_0] at hc
      have hk0 : ¬ k = 0 := fun z => hc ((nI_eq (by omega) (by omega)).mpr z)
      refine lv_goto hx hb dL_law_714 (tgt := 1304) rfl ?_
      refine lv_iinc (lv' := [(4, .int (nI (i + 5))), (6, .int (nI z2)), (5, .int (nI k)), (0, .ref b), (1, .ref xa), (2, .ref ma), (3, .ref oa)]) hx hb dL_law_1304 hl (k := 6) rfl (ii_5 _) (by decide) rfl (fun ls hl => ?_)
      refine lv_goto hx hb dL_law_1307 (tgt := 33) rfl ?_
      refine W.widen (k := sm cap' 300 + (i + 5)) (n := 327125 + 6 * sm cap' 300 + 6 * (i + 5)) (by omega) (by omega) ?_
      exact hnext _ _ _ _ _ _ _ _ _ _ _ ⟨hcs2, hmo2, hrr2, hoa2, hcb2⟩ hst (lv_sub hl [3, 4, 5, 6, 0] rfl)
    · skip
      rw [← nI_0] at hc
      have hk0 : k = 0 := (nI_eq (by omega) (by omega)).mp hc
      have hf0 := hf1 hk0
      have hwv := hwv hk0
      refine lv_aload_n hx hb dL_law_695 rfl (lv_at hl 5 rfl) ?_
      refine lv_iconst (v := nI 0) hx hb dL_law_696 (by decide +kernel) ?_
      refine hp_lald hx hb hK rfl hst hoa2 (j := 0) (by omega) (by omega) dL_law_697 ?_
      refine tp_l (e2 := lN z2) (by rw [hf0, ← hwv]; exact nI_l (by omega)) ?_
      refine lv_iload hx hb dL_law_698 (lv_at hl 0 rfl) ?_
      refine lv_if_eq hx hb dL_law_700 (tgt := 707) rfl (fun hc => ?_) (fun hc => ?_)
      · skip
        rw [← nI_0] at hc
        have hcb9 : z2 = 0 := (nI_eq (by omega) (by omega)).mp hc
        refine lv_lconst (v := lN 0) hx hb dL_law_707 (by decide +kernel) ?_
        refine lv_lcmp hx hb dL_law_708 ?_
        refine lv_if_eq hx hb dL_law_709 (tgt := 714) rfl (fun hc => ?_) (fun hc => absurd (lcm3_eq.mpr (by rw [show z2 = 0 by omega])) hc)
        refine lv_goto hx hb dL_law_714 (tgt := 1304) rfl ?_
        refine lv_iinc (lv' := [(4, .int (nI (i + 5))), (6, .int (nI z2)), (5, .int (nI k)), (0, .ref b), (1, .ref xa), (2, .ref ma), (3, .ref oa)]) hx hb dL_law_1304 hl (k := 6) rfl (ii_5 _) (by decide) rfl (fun ls hl => ?_)
        refine lv_goto hx hb dL_law_1307 (tgt := 33) rfl ?_
        refine W.widen (k := sm cap' 300 + (i + 5)) (n := 327125 + 6 * sm cap' 300 + 6 * (i + 5)) (by omega) (by omega) ?_
        exact hnext _ _ _ _ _ _ _ _ _ _ _ ⟨hcs2, hmo2, hrr2, hoa2, hcb2⟩ hst (lv_sub hl [3, 4, 5, 6, 0] rfl)
      · skip
        rw [← nI_0] at hc
        have hcb9 : ¬ z2 = 0 := fun z => hc ((nI_eq (by omega) (by omega)).mpr z)
        refine lv_lconst (v := lN 1) hx hb dL_law_703 (by decide +kernel) ?_
        refine lv_goto hx hb dL_law_704 (tgt := 708) rfl ?_
        refine lv_lcmp hx hb dL_law_708 ?_
        refine lv_if_eq hx hb dL_law_709 (tgt := 714) rfl (fun hc => ?_) (fun hc => absurd (lcm3_eq.mpr (by rw [show z2 = 1 by omega])) hc)
        refine lv_goto hx hb dL_law_714 (tgt := 1304) rfl ?_
        refine lv_iinc (lv' := [(4, .int (nI (i + 5))), (6, .int (nI z2)), (5, .int (nI k)), (0, .ref b), (1, .ref xa), (2, .ref ma), (3, .ref oa)]) hx hb dL_law_1304 hl (k := 6) rfl (ii_5 _) (by decide) rfl (fun ls hl => ?_)
        refine lv_goto hx hb dL_law_1307 (tgt := 33) rfl ?_
        refine W.widen (k := sm cap' 300 + (i + 5)) (n := 327125 + 6 * sm cap' 300 + 6 * (i + 5)) (by omega) (by omega) ?_
        exact hnext _ _ _ _ _ _ _ _ _ _ _ ⟨hcs2, hmo2, hrr2, hoa2, hcb2⟩ hst (lv_sub hl [3, 4, 5, 6, 0] rfl)
  · skip
    have hck : ¬ k = k := fun z => hc ((nI_eq (by omega) (by omega)).mpr z)
    exact absurd rfl hck

set_option maxHeartbeats 4000000 in
set_option maxRecDepth 100000 in
theorem lc_resultant {pg : Program} {l : Launch} {eg : Env} {sg : State} {mg : MethodId} {bw : List Frame} {mt : Method} {cg : Code} {D : va_G} {Y : Nat → ClassId} {lo b L : Nat} {xs : Nat → Int32} {xa ma oa p : Nat} {A E : Nat → Nat} {i : Nat} (hlt : l.stackTraces = false) (hL : L ≤ 2561) (X : lwx pg sg mg #[Value.ref b] cg D Y lo b L xs) (hi : i + 4 < L) (hnext : LG pg l eg sg mg bw mt cg D Y lo b L xs xa ma oa p A E (i + 5)) {M : Hm} {P : Nat → Pf} {cap si : Nat → Nat} {rf th : Nat} {c : Nat → Nat → Nat} {f : Nat → Int64} {H : Heap} {locs : List Loc} {ls : Array Slot} (hinv : linv Y xa ma oa p A E M P cap si rf th c f) (hst : hp_st D vC lo M sg.heap H locs) (hl : lv_has ls 7 [(0, .ref b), (1, .ref xa), (2, .ref ma), (3, .ref oa), (4, .int (nI i))]) : W pg l eg room_1 sg mg #[Value.ref b] bw mt cg H locs (sm cap 300 + i) (327125 + 6 * sm cap 300 + 6 * i) (lw_Z bw #[Value.ref b] sg) (F0 mg 717 ls []) := by
  have X1 := X
  obtain ⟨hx, hb, hml, hown, hG, hbl, hlo, hkx⟩ := X1
  have hK := hkx.1.1
  have hXs := hkx.2.2
  have hbs : b < sg.heap.size := Nat.lt_of_lt_of_le hbl hlo
  have hbA : ¬ lo ≤ b := by omega
  obtain ⟨hcs, hmo, hrr, hoa, hcb⟩ := hinv
  have hsm := cb_sm hcb
  refine lv_aload_n hx hb dL_law_717 rfl (lv_at hl 1 rfl) ?_
  refine lv_aload_n hx hb dL_law_718 rfl (lv_at hl 0 rfl) ?_
  refine lv_iload hx hb dL_law_719 (lv_at hl 4 rfl) ?_
  refine lv_iconst (v := nI 1) hx hb dL_law_721 (by decide +kernel) ?_
  refine t_iadd hx hb dL_law_722 (v := nI (i + 1)) (nI_add _ _) ?_
  refine va_sld (A := fun q => lo ≤ q) hx hb hXs hbs hbA hst.2.1 (i := nI (i + 1)) (vp_in_nI (by omega) (by omega)) dL_law_723 ?_
  refine tp_i (e2 := xs (i + 1)) (by rw [nI_clamp (by omega)]) ?_
  refine lv_aload_n hx hb dL_law_724 rfl (lv_at hl 0 rfl) ?_
  refine lv_iload hx hb dL_law_725 (lv_at hl 4 rfl) ?_
  refine lv_iconst (v := nI 2) hx hb dL_law_727 (by decide +kernel) ?_
  refine t_iadd hx hb dL_law_728 (v := nI (i + 2)) (nI_add _ _) ?_
  refine va_sld (A := fun q => lo ≤ q) hx hb hXs hbs hbA hst.2.1 (i := nI (i + 2)) (vp_in_nI (by omega) (by omega)) dL_law_729 ?_
  refine tp_i (e2 := xs (i + 2)) (by rw [nI_clamp (by omega)]) ?_
  refine lv_aload_n hx hb dL_law_730 rfl (lv_at hl 0 rfl) ?_
  refine lv_iload hx hb dL_law_731 (lv_at hl 4 rfl) ?_
  refine lv_iconst (v := nI 3) hx hb dL_law_733 (by decide +kernel) ?_
  refine t_iadd hx hb dL_law_734 (v := nI (i + 3)) (nI_add _ _) ?_
  refine va_sld (A := fun q => lo ≤ q) hx hb hXs hbs hbA hst.2.1 (i := nI (i + 3)) (vp_in_nI (by omega) (by omega)) dL_law_735 ?_
  refine tp_i (e2 := xs (i + 3)) (by rw [nI_clamp (by omega)]) ?_
  refine lv_aload_n hx hb dL_law_736 rfl (lv_at hl 0 rfl) ?_
  refine lv_iload hx hb dL_law_737 (lv_at hl 4 rfl) ?_
  refine lv_iconst (v := nI 4) hx hb dL_law_739 (by decide +kernel) ?_
  refine t_iadd hx hb dL_law_740 (v := nI (i + 4)) (nI_add _ _) ?_
  refine va_sld (A := fun q => lo ≤ q) hx hb hXs hbs hbA hst.2.1 (i := nI (i + 4)) (vp_in_nI (by omega) (by omega)) dL_law_741 ?_
  refine tp_i (e2 := xs (i + 4)) (by rw [nI_clamp (by omega)]) ?_
  refine lv_aload_n hx hb dL_law_742 rfl (lv_at hl 3 rfl) ?_
  obtain ⟨k, P', rf', v, cap', si', mc, hk, hk2, hmc, hcm, hcp, hvb, hct, hR⟩ := u_resultant l D Y lo hlt hcs ma E (xs (i + 1)) (xs (i + 2)) (xs (i + 3)) (xs (i + 4))
  have hcb2 := hcp hcb
  have hsm2 := cb_sm hcb2
  refine lw_callH (av2 := [.ref xa, .int (xs (i + 1)), .int (xs (i + 2)), .int (xs (i + 3)), .int (xs (i + 4)), .ref oa]) (rest := []) X hst (w_resultant l D Y lo hcs hct hoa (hvb rfl)) wh_L_resultant ml_L_115 ws_L_resultant wn_L md_L_resultant (by decide) hl.1 rfl (Nat.le_of_ble_eq_true rfl) ⟨by omega, by omega⟩ dL_law_743 (fun r M1 H locs hp hst => ?_)
  obtain ⟨rfl, hcs1, ho1, f1, hoa1, hf1⟩ := hp
  have hmo1 := hmo.off ho1 (by omega)
  refine lv_istore (lv' := [(5, .int (nI k)), (0, .ref b), (1, .ref xa), (2, .ref ma), (3, .ref oa), (4, .int (nI i))]) hx hb dL_law_746 hl (by decide) rfl (fun ls hl => ?_)
  refine lv_aload_n hx hb dL_law_748 rfl (lv_at hl 3 rfl) ?_
  refine lv_aload_n hx hb dL_law_749 rfl (lv_at hl 1 rfl) ?_
  refine lv_iload hx hb dL_law_750 (lv_at hl 5 rfl) ?_
  refine lv_iconst (v := nI 1) hx hb dL_law_752 (by decide +kernel) ?_
  refine t_iadd hx hb dL_law_753 (v := nI (i + 1)) (nI_add _ _) ?_
  refine va_sld (A := fun q => lo ≤ q) hx hb hXs hbs hbA hst.2.1 (i := nI (i + 1)) (vp_in_nI (by omega) (by omega)) dL_law_754 ?_
  refine tp_i (e2 := xs (i + 1)) (by rw [nI_clamp (by omega)]) ?_
  refine lv_aload_n hx hb dL_law_755 rfl (lv_at hl 1 rfl) ?_
  refine lv_iload hx hb dL_law_756 (lv_at hl 5 rfl) ?_
  refine lv_iconst (v := nI 2) hx hb dL_law_758 (by decide +kernel) ?_
  refine t_iadd hx hb dL_law_759 (v := nI (i + 2)) (nI_add _ _) ?_
  refine va_sld (A := fun q => lo ≤ q) hx hb hXs hbs hbA hst.2.1 (i := nI (i + 2)) (vp_in_nI (by omega) (by omega)) dL_law_760 ?_
  refine tp_i (e2 := xs (i + 2)) (by rw [nI_clamp (by omega)]) ?_
  refine lv_aload_n hx hb dL_law_761 rfl (lv_at hl 1 rfl) ?_
  refine lv_iload hx hb dL_law_762 (lv_at hl 5 rfl) ?_
  refine lv_iconst (v := nI 3) hx hb dL_law_764 (by decide +kernel) ?_
  refine t_iadd hx hb dL_law_765 (v := nI (i + 3)) (nI_add _ _) ?_
  refine va_sld (A := fun q => lo ≤ q) hx hb hXs hbs hbA hst.2.1 (i := nI (i + 3)) (vp_in_nI (by omega) (by omega)) dL_law_766 ?_
  refine tp_i (e2 := xs (i + 3)) (by rw [nI_clamp (by omega)]) ?_
  refine lv_aload_n hx hb dL_law_767 rfl (lv_at hl 1 rfl) ?_
  refine lv_iload hx hb dL_law_768 (lv_at hl 5 rfl) ?_
  refine lv_iconst (v := nI 4) hx hb dL_law_770 (by decide +kernel) ?_
  refine t_iadd hx hb dL_law_771 (v := nI (i + 4)) (nI_add _ _) ?_
  refine va_sld (A := fun q => lo ≤ q) hx hb hXs hbs hbA hst.2.1 (i := nI (i + 4)) (vp_in_nI (by omega) (by omega)) dL_law_772 ?_
  refine tp_i (e2 := xs (i + 4)) (by rw [nI_clamp (by omega)]) ?_
  refine lw_callV (av2 := [.int (xs (i + 1)), .int (xs (i + 2)), .int (xs (i + 3)), .int (xs (i + 4))]) (rest := []) (x := ma) X hst (hR M1 th c hmo1 hrr) hmo1.ob rfl wc_R_resultant ml_L_117 wi_R_resultant wl_R_resultant wn_R md_R_resultant (by decide) hl.1 rfl (Nat.le_of_ble_eq_true rfl) ⟨by omega, by omega⟩ dL_law_773 (fun r M2 H locs hp hst => ?_)
  obtain ⟨c2, w2, hr, hwb, hwv, hmo2, hrr2, ho2⟩ := hp
  obtain ⟨z2, hz2, rfl⟩ := hwb rfl
  have hr : r = some (.int (nI z2)) := hr
  subst hr
  have hcs2 := hcs1.off ho2 (by omega)
  have hoa2 := ho2.of hoa1 (by decide)
  refine lv_istore (lv' := [(6, .int (nI z2)), (5, .int (nI k)), (0, .ref b), (1, .ref xa), (2, .ref ma), (3, .ref oa), (4, .int (nI i))]) hx hb dL_law_776 hl (by decide) rfl (fun ls hl => ?_)
  refine lv_aload_n hx hb dL_law_778 rfl (lv_at hl 4 rfl) ?_
  refine lw_callV (av2 := []) (rest := []) (x := ma) X hst (c_R_thrown l D Y lo hmo2) hmo2.ob rfl wc_R_thrown ml_L_85 wi_R_thrown wl_R_thrown wn_R md_R_thrown (by decide) hl.1 rfl (Nat.le_of_ble_eq_true rfl) ⟨by omega, by omega⟩ dL_law_779 (fun r M3 H locs hp hst => ?_)
  obtain ⟨rfl, rfl⟩ := hp
  refine lv_iload hx hb dL_law_782 (lv_at hl 1 rfl) ?_
  refine lv_icmp_eq hx hb dL_law_784 (tgt := 789) rfl (fun hc => ?_) (fun hc => ?_)
  · skip
    have hck : k = k := (nI_eq (by omega) (by omega)).mp hc
    refine lv_iload hx hb dL_law_789 (lv_at hl 1 rfl) ?_
    refine lv_if_ne hx hb dL_law_791 (tgt := 813) rfl (fun hc => ?_) (fun hc => ?_)
    · skip
      rw [← nI_0] at hc
      have hk0 : ¬ k = 0 := fun z => hc ((nI_eq (by omega) (by omega)).mpr z)
      refine lv_goto hx hb dL_law_813 (tgt := 1304) rfl ?_
      refine lv_iinc (lv' := [(4, .int (nI (i + 5))), (6, .int (nI z2)), (5, .int (nI k)), (0, .ref b), (1, .ref xa), (2, .ref ma), (3, .ref oa)]) hx hb dL_law_1304 hl (k := 6) rfl (ii_5 _) (by decide) rfl (fun ls hl => ?_)
      refine lv_goto hx hb dL_law_1307 (tgt := 33) rfl ?_
      refine W.widen (k := sm cap' 300 + (i + 5)) (n := 327125 + 6 * sm cap' 300 + 6 * (i + 5)) (by omega) (by omega) ?_
      exact hnext _ _ _ _ _ _ _ _ _ _ _ ⟨hcs2, hmo2, hrr2, hoa2, hcb2⟩ hst (lv_sub hl [3, 4, 5, 6, 0] rfl)
    · skip
      rw [← nI_0] at hc
      have hk0 : k = 0 := (nI_eq (by omega) (by omega)).mp hc
      have hf0 := hf1 hk0
      have hwv := hwv hk0
      refine lv_aload_n hx hb dL_law_794 rfl (lv_at hl 5 rfl) ?_
      refine lv_iconst (v := nI 0) hx hb dL_law_795 (by decide +kernel) ?_
      refine hp_lald hx hb hK rfl hst hoa2 (j := 0) (by omega) (by omega) dL_law_796 ?_
      refine tp_l (e2 := lN z2) (by rw [hf0, ← hwv]; exact nI_l (by omega)) ?_
      refine lv_iload hx hb dL_law_797 (lv_at hl 0 rfl) ?_
      refine lv_if_eq hx hb dL_law_799 (tgt := 806) rfl (fun hc => ?_) (fun hc => ?_)
      · skip
        rw [← nI_0] at hc
        have hcb9 : z2 = 0 := (nI_eq (by omega) (by omega)).mp hc
        refine lv_lconst (v := lN 0) hx hb dL_law_806 (by decide +kernel) ?_
        refine lv_lcmp hx hb dL_law_807 ?_
        refine lv_if_eq hx hb dL_law_808 (tgt := 813) rfl (fun hc => ?_) (fun hc => absurd (lcm3_eq.mpr (by rw [show z2 = 0 by omega])) hc)
        refine lv_goto hx hb dL_law_813 (tgt := 1304) rfl ?_
        refine lv_iinc (lv' := [(4, .int (nI (i + 5))), (6, .int (nI z2)), (5, .int (nI k)), (0, .ref b), (1, .ref xa), (2, .ref ma), (3, .ref oa)]) hx hb dL_law_1304 hl (k := 6) rfl (ii_5 _) (by decide) rfl (fun ls hl => ?_)
        refine lv_goto hx hb dL_law_1307 (tgt := 33) rfl ?_
        refine W.widen (k := sm cap' 300 + (i + 5)) (n := 327125 + 6 * sm cap' 300 + 6 * (i + 5)) (by omega) (by omega) ?_
        exact hnext _ _ _ _ _ _ _ _ _ _ _ ⟨hcs2, hmo2, hrr2, hoa2, hcb2⟩ hst (lv_sub hl [3, 4, 5, 6, 0] rfl)
      · skip
        rw [← nI_0] at hc
        have hcb9 : ¬ z2 = 0 := fun z => hc ((nI_eq (by omega) (by omega)).mpr z)
        refine lv_lconst (v := lN 1) hx hb dL_law_802 (by decide +kernel) ?_
        refine lv_goto hx hb dL_law_803 (tgt := 807) rfl ?_
        refine lv_lcmp hx hb dL_law_807 ?_
        refine lv_if_eq hx hb dL_law_808 (tgt := 813) rfl (fun hc => ?_) (fun hc => absurd (lcm3_eq.mpr (by rw [show z2 = 1 by omega])) hc)
        refine lv_goto hx hb dL_law_813 (tgt := 1304) rfl ?_
        refine lv_iinc (lv' := [(4, .int (nI (i + 5))), (6, .int (nI z2)), (5, .int (nI k)), (0, .ref b), (1, .ref xa), (2, .ref ma), (3, .ref oa)]) hx hb dL_law_1304 hl (k := 6) rfl (ii_5 _) (by decide) rfl (fun ls hl => ?_)
        refine lv_goto hx hb dL_law_1307 (tgt := 33) rfl ?_
        refine W.widen (k := sm cap' 300 + (i + 5)) (n := 327125 + 6 * sm cap' 300 + 6 * (i + 5)) (by omega) (by omega) ?_
        exact hnext _ _ _ _ _ _ _ _ _ _ _ ⟨hcs2, hmo2, hrr2, hoa2, hcb2⟩ hst (lv_sub hl [3, 4, 5, 6, 0] rfl)
  · skip
    have hck : ¬ k = k := fun z => hc ((nI_eq (by omega) (by omega)).mpr z)
    exact absurd rfl hck

set_option maxHeartbeats 4000000 in
set_option maxRecDepth 100000 in
theorem lc_value {pg : Program} {l : Launch} {eg : Env} {sg : State} {mg : MethodId} {bw : List Frame} {mt : Method} {cg : Code} {D : va_G} {Y : Nat → ClassId} {lo b L : Nat} {xs : Nat → Int32} {xa ma oa p : Nat} {A E : Nat → Nat} {i : Nat} (hlt : l.stackTraces = false) (hL : L ≤ 2561) (X : lwx pg sg mg #[Value.ref b] cg D Y lo b L xs) (hi : i + 4 < L) (hnext : LG pg l eg sg mg bw mt cg D Y lo b L xs xa ma oa p A E (i + 5)) {M : Hm} {P : Nat → Pf} {cap si : Nat → Nat} {rf th : Nat} {c : Nat → Nat → Nat} {f : Nat → Int64} {H : Heap} {locs : List Loc} {ls : Array Slot} (hinv : linv Y xa ma oa p A E M P cap si rf th c f) (hst : hp_st D vC lo M sg.heap H locs) (hl : lv_has ls 7 [(0, .ref b), (1, .ref xa), (2, .ref ma), (3, .ref oa), (4, .int (nI i))]) : W pg l eg room_1 sg mg #[Value.ref b] bw mt cg H locs (sm cap 300 + i) (327125 + 6 * sm cap 300 + 6 * i) (lw_Z bw #[Value.ref b] sg) (F0 mg 816 ls []) := by
  have X1 := X
  obtain ⟨hx, hb, hml, hown, hG, hbl, hlo, hkx⟩ := X1
  have hK := hkx.1.1
  have hXs := hkx.2.2
  have hbs : b < sg.heap.size := Nat.lt_of_lt_of_le hbl hlo
  have hbA : ¬ lo ≤ b := by omega
  obtain ⟨hcs, hmo, hrr, hoa, hcb⟩ := hinv
  have hsm := cb_sm hcb
  refine lv_aload_n hx hb dL_law_816 rfl (lv_at hl 1 rfl) ?_
  refine lv_aload_n hx hb dL_law_817 rfl (lv_at hl 0 rfl) ?_
  refine lv_iload hx hb dL_law_818 (lv_at hl 4 rfl) ?_
  refine lv_iconst (v := nI 1) hx hb dL_law_820 (by decide +kernel) ?_
  refine t_iadd hx hb dL_law_821 (v := nI (i + 1)) (nI_add _ _) ?_
  refine va_sld (A := fun q => lo ≤ q) hx hb hXs hbs hbA hst.2.1 (i := nI (i + 1)) (vp_in_nI (by omega) (by omega)) dL_law_822 ?_
  refine tp_i (e2 := xs (i + 1)) (by rw [nI_clamp (by omega)]) ?_
  refine lv_aload_n hx hb dL_law_823 rfl (lv_at hl 0 rfl) ?_
  refine lv_iload hx hb dL_law_824 (lv_at hl 4 rfl) ?_
  refine lv_iconst (v := nI 2) hx hb dL_law_826 (by decide +kernel) ?_
  refine t_iadd hx hb dL_law_827 (v := nI (i + 2)) (nI_add _ _) ?_
  refine va_sld (A := fun q => lo ≤ q) hx hb hXs hbs hbA hst.2.1 (i := nI (i + 2)) (vp_in_nI (by omega) (by omega)) dL_law_828 ?_
  refine tp_i (e2 := xs (i + 2)) (by rw [nI_clamp (by omega)]) ?_
  refine lv_aload_n hx hb dL_law_829 rfl (lv_at hl 0 rfl) ?_
  refine lv_iload hx hb dL_law_830 (lv_at hl 4 rfl) ?_
  refine lv_iconst (v := nI 3) hx hb dL_law_832 (by decide +kernel) ?_
  refine t_iadd hx hb dL_law_833 (v := nI (i + 3)) (nI_add _ _) ?_
  refine va_sld (A := fun q => lo ≤ q) hx hb hXs hbs hbA hst.2.1 (i := nI (i + 3)) (vp_in_nI (by omega) (by omega)) dL_law_834 ?_
  refine tp_i (e2 := xs (i + 3)) (by rw [nI_clamp (by omega)]) ?_
  refine lv_aload_n hx hb dL_law_835 rfl (lv_at hl 0 rfl) ?_
  refine lv_iload hx hb dL_law_836 (lv_at hl 4 rfl) ?_
  refine lv_iconst (v := nI 4) hx hb dL_law_838 (by decide +kernel) ?_
  refine t_iadd hx hb dL_law_839 (v := nI (i + 4)) (nI_add _ _) ?_
  refine va_sld (A := fun q => lo ≤ q) hx hb hXs hbs hbA hst.2.1 (i := nI (i + 4)) (vp_in_nI (by omega) (by omega)) dL_law_840 ?_
  refine tp_i (e2 := xs (i + 4)) (by rw [nI_clamp (by omega)]) ?_
  refine lv_aload_n hx hb dL_law_841 rfl (lv_at hl 3 rfl) ?_
  obtain ⟨k, P', rf', v, cap', si', mc, hk, hk2, hmc, hcm, hcp, hvb, hct, hR⟩ := u_value l D Y lo hlt hcs ma E (xs (i + 1)) (xs (i + 2)) (xs (i + 3)) (xs (i + 4))
  have hcb2 := hcp hcb
  have hsm2 := cb_sm hcb2
  refine lw_callH (av2 := [.ref xa, .int (xs (i + 1)), .int (xs (i + 2)), .int (xs (i + 3)), .int (xs (i + 4)), .ref oa]) (rest := []) X hst (w_value l D Y lo hcs hct (hk2 rfl) hoa) wh_L_value ml_L_118 ws_L_value wn_L md_L_value (by decide) hl.1 rfl (Nat.le_of_ble_eq_true rfl) ⟨by omega, by omega⟩ dL_law_842 (fun r M1 H locs hp hst => ?_)
  obtain ⟨rfl, hcs1, ho1, f1, hoa1, hf1⟩ := hp
  have hmo1 := hmo.off ho1 (by omega)
  refine lv_istore (lv' := [(5, .int (nI k)), (0, .ref b), (1, .ref xa), (2, .ref ma), (3, .ref oa), (4, .int (nI i))]) hx hb dL_law_845 hl (by decide) rfl (fun ls hl => ?_)
  refine lv_aload_n hx hb dL_law_847 rfl (lv_at hl 3 rfl) ?_
  refine lv_aload_n hx hb dL_law_848 rfl (lv_at hl 1 rfl) ?_
  refine lv_iload hx hb dL_law_849 (lv_at hl 5 rfl) ?_
  refine lv_iconst (v := nI 1) hx hb dL_law_851 (by decide +kernel) ?_
  refine t_iadd hx hb dL_law_852 (v := nI (i + 1)) (nI_add _ _) ?_
  refine va_sld (A := fun q => lo ≤ q) hx hb hXs hbs hbA hst.2.1 (i := nI (i + 1)) (vp_in_nI (by omega) (by omega)) dL_law_853 ?_
  refine tp_i (e2 := xs (i + 1)) (by rw [nI_clamp (by omega)]) ?_
  refine lv_aload_n hx hb dL_law_854 rfl (lv_at hl 1 rfl) ?_
  refine lv_iload hx hb dL_law_855 (lv_at hl 5 rfl) ?_
  refine lv_iconst (v := nI 2) hx hb dL_law_857 (by decide +kernel) ?_
  refine t_iadd hx hb dL_law_858 (v := nI (i + 2)) (nI_add _ _) ?_
  refine va_sld (A := fun q => lo ≤ q) hx hb hXs hbs hbA hst.2.1 (i := nI (i + 2)) (vp_in_nI (by omega) (by omega)) dL_law_859 ?_
  refine tp_i (e2 := xs (i + 2)) (by rw [nI_clamp (by omega)]) ?_
  refine lv_aload_n hx hb dL_law_860 rfl (lv_at hl 1 rfl) ?_
  refine lv_iload hx hb dL_law_861 (lv_at hl 5 rfl) ?_
  refine lv_iconst (v := nI 3) hx hb dL_law_863 (by decide +kernel) ?_
  refine t_iadd hx hb dL_law_864 (v := nI (i + 3)) (nI_add _ _) ?_
  refine va_sld (A := fun q => lo ≤ q) hx hb hXs hbs hbA hst.2.1 (i := nI (i + 3)) (vp_in_nI (by omega) (by omega)) dL_law_865 ?_
  refine tp_i (e2 := xs (i + 3)) (by rw [nI_clamp (by omega)]) ?_
  refine lv_aload_n hx hb dL_law_866 rfl (lv_at hl 1 rfl) ?_
  refine lv_iload hx hb dL_law_867 (lv_at hl 5 rfl) ?_
  refine lv_iconst (v := nI 4) hx hb dL_law_869 (by decide +kernel) ?_
  refine t_iadd hx hb dL_law_870 (v := nI (i + 4)) (nI_add _ _) ?_
  refine va_sld (A := fun q => lo ≤ q) hx hb hXs hbs hbA hst.2.1 (i := nI (i + 4)) (vp_in_nI (by omega) (by omega)) dL_law_871 ?_
  refine tp_i (e2 := xs (i + 4)) (by rw [nI_clamp (by omega)]) ?_
  refine lw_callV (av2 := [.int (xs (i + 1)), .int (xs (i + 2)), .int (xs (i + 3)), .int (xs (i + 4))]) (rest := []) (x := ma) X hst (hR M1 th c hmo1 hrr) hmo1.ob rfl wc_R_value ml_L_120 wi_R_value wl_R_value wn_R md_R_value (by decide) hl.1 rfl (Nat.le_of_ble_eq_true rfl) ⟨by omega, by omega⟩ dL_law_872 (fun r M2 H locs hp hst => ?_)
  obtain ⟨c2, w2, hr, hwb, hwv, hmo2, hrr2, ho2⟩ := hp
  have hr : r = some (.int (w2)) := hr
  subst hr
  have hcs2 := hcs1.off ho2 (by omega)
  have hoa2 := ho2.of hoa1 (by decide)
  refine lv_istore (lv' := [(6, .int w2), (5, .int (nI k)), (0, .ref b), (1, .ref xa), (2, .ref ma), (3, .ref oa), (4, .int (nI i))]) hx hb dL_law_875 hl (by decide) rfl (fun ls hl => ?_)
  refine lv_aload_n hx hb dL_law_877 rfl (lv_at hl 4 rfl) ?_
  refine lw_callV (av2 := []) (rest := []) (x := ma) X hst (c_R_thrown l D Y lo hmo2) hmo2.ob rfl wc_R_thrown ml_L_85 wi_R_thrown wl_R_thrown wn_R md_R_thrown (by decide) hl.1 rfl (Nat.le_of_ble_eq_true rfl) ⟨by omega, by omega⟩ dL_law_878 (fun r M3 H locs hp hst => ?_)
  obtain ⟨rfl, rfl⟩ := hp
  refine lv_iload hx hb dL_law_881 (lv_at hl 1 rfl) ?_
  refine lv_icmp_eq hx hb dL_law_883 (tgt := 888) rfl (fun hc => ?_) (fun hc => ?_)
  · skip
    have hck : k = k := (nI_eq (by omega) (by omega)).mp hc
    refine lv_iload hx hb dL_law_888 (lv_at hl 1 rfl) ?_
    refine lv_if_ne hx hb dL_law_890 (tgt := 905) rfl (fun hc => ?_) (fun hc => ?_)
    · skip
      rw [← nI_0] at hc
      have hk0 : ¬ k = 0 := fun z => hc ((nI_eq (by omega) (by omega)).mpr z)
      refine lv_goto hx hb dL_law_905 (tgt := 1304) rfl ?_
      refine lv_iinc (lv' := [(4, .int (nI (i + 5))), (6, .int w2), (5, .int (nI k)), (0, .ref b), (1, .ref xa), (2, .ref ma), (3, .ref oa)]) hx hb dL_law_1304 hl (k := 6) rfl (ii_5 _) (by decide) rfl (fun ls hl => ?_)
      refine lv_goto hx hb dL_law_1307 (tgt := 33) rfl ?_
      refine W.widen (k := sm cap' 300 + (i + 5)) (n := 327125 + 6 * sm cap' 300 + 6 * (i + 5)) (by omega) (by omega) ?_
      exact hnext _ _ _ _ _ _ _ _ _ _ _ ⟨hcs2, hmo2, hrr2, hoa2, hcb2⟩ hst (lv_sub hl [3, 4, 5, 6, 0] rfl)
    · skip
      rw [← nI_0] at hc
      have hk0 : k = 0 := (nI_eq (by omega) (by omega)).mp hc
      have hf0 := hf1 hk0
      have hwv := hwv hk0
      refine lv_aload_n hx hb dL_law_893 rfl (lv_at hl 5 rfl) ?_
      refine lv_iconst (v := nI 0) hx hb dL_law_894 (by decide +kernel) ?_
      refine hp_lald hx hb hK rfl hst hoa2 (j := 0) (by omega) (by omega) dL_law_895 ?_
      refine tp_l (e2 := w2.toInt64) (by rw [hf0, hwv]) ?_
      refine lv_iload hx hb dL_law_896 (lv_at hl 0 rfl) ?_
      refine lv_i2l (v := w2.toInt64) hx hb dL_law_898 rfl ?_
      refine lv_lcmp hx hb dL_law_899 ?_
      refine lv_if_eq hx hb dL_law_900 (tgt := 905) rfl (fun hc => ?_) (fun hc => absurd (lcm3_eq.mpr rfl) hc)
      refine lv_goto hx hb dL_law_905 (tgt := 1304) rfl ?_
      refine lv_iinc (lv' := [(4, .int (nI (i + 5))), (6, .int w2), (5, .int (nI k)), (0, .ref b), (1, .ref xa), (2, .ref ma), (3, .ref oa)]) hx hb dL_law_1304 hl (k := 6) rfl (ii_5 _) (by decide) rfl (fun ls hl => ?_)
      refine lv_goto hx hb dL_law_1307 (tgt := 33) rfl ?_
      refine W.widen (k := sm cap' 300 + (i + 5)) (n := 327125 + 6 * sm cap' 300 + 6 * (i + 5)) (by omega) (by omega) ?_
      exact hnext _ _ _ _ _ _ _ _ _ _ _ ⟨hcs2, hmo2, hrr2, hoa2, hcb2⟩ hst (lv_sub hl [3, 4, 5, 6, 0] rfl)
  · skip
    have hck : ¬ k = k := fun z => hc ((nI_eq (by omega) (by omega)).mpr z)
    exact absurd rfl hck

set_option maxHeartbeats 4000000 in
set_option maxRecDepth 100000 in
theorem lc_terms {pg : Program} {l : Launch} {eg : Env} {sg : State} {mg : MethodId} {bw : List Frame} {mt : Method} {cg : Code} {D : va_G} {Y : Nat → ClassId} {lo b L : Nat} {xs : Nat → Int32} {xa ma oa p : Nat} {A E : Nat → Nat} {i : Nat} (hlt : l.stackTraces = false) (hL : L ≤ 2561) (X : lwx pg sg mg #[Value.ref b] cg D Y lo b L xs) (hi : i + 4 < L) (hnext : LG pg l eg sg mg bw mt cg D Y lo b L xs xa ma oa p A E (i + 5)) {M : Hm} {P : Nat → Pf} {cap si : Nat → Nat} {rf th : Nat} {c : Nat → Nat → Nat} {f : Nat → Int64} {H : Heap} {locs : List Loc} {ls : Array Slot} (hinv : linv Y xa ma oa p A E M P cap si rf th c f) (hst : hp_st D vC lo M sg.heap H locs) (hl : lv_has ls 7 [(0, .ref b), (1, .ref xa), (2, .ref ma), (3, .ref oa), (4, .int (nI i))]) : W pg l eg room_1 sg mg #[Value.ref b] bw mt cg H locs (sm cap 300 + i) (327125 + 6 * sm cap 300 + 6 * i) (lw_Z bw #[Value.ref b] sg) (F0 mg 908 ls []) := by
  have X1 := X
  obtain ⟨hx, hb, hml, hown, hG, hbl, hlo, hkx⟩ := X1
  have hK := hkx.1.1
  have hXs := hkx.2.2
  have hbs : b < sg.heap.size := Nat.lt_of_lt_of_le hbl hlo
  have hbA : ¬ lo ≤ b := by omega
  obtain ⟨hcs, hmo, hrr, hoa, hcb⟩ := hinv
  have hsm := cb_sm hcb
  refine lv_aload_n hx hb dL_law_908 rfl (lv_at hl 1 rfl) ?_
  refine lv_aload_n hx hb dL_law_909 rfl (lv_at hl 0 rfl) ?_
  refine lv_iload hx hb dL_law_910 (lv_at hl 4 rfl) ?_
  refine lv_iconst (v := nI 1) hx hb dL_law_912 (by decide +kernel) ?_
  refine t_iadd hx hb dL_law_913 (v := nI (i + 1)) (nI_add _ _) ?_
  refine va_sld (A := fun q => lo ≤ q) hx hb hXs hbs hbA hst.2.1 (i := nI (i + 1)) (vp_in_nI (by omega) (by omega)) dL_law_914 ?_
  refine tp_i (e2 := xs (i + 1)) (by rw [nI_clamp (by omega)]) ?_
  refine lv_aload_n hx hb dL_law_915 rfl (lv_at hl 3 rfl) ?_
  obtain ⟨k, P', rf', v, cap', si', mc, hk, hk2, hmc, hcm, hcp, hvb, hct, hR⟩ := u_terms l D Y lo hlt hcs ma E (xs (i + 1))
  have hcb2 := hcp hcb
  have hsm2 := cb_sm hcb2
  refine lw_callH (av2 := [.ref xa, .int (xs (i + 1)), .ref oa]) (rest := []) X hst (w_terms l D Y lo hcs hct (hk2 rfl) hoa) wh_L_terms ml_L_121 ws_L_terms wn_L md_L_terms (by decide) hl.1 rfl (Nat.le_of_ble_eq_true rfl) ⟨by omega, by omega⟩ dL_law_916 (fun r M1 H locs hp hst => ?_)
  obtain ⟨rfl, hcs1, ho1, f1, hoa1, hf1⟩ := hp
  have hmo1 := hmo.off ho1 (by omega)
  refine lv_istore (lv' := [(5, .int (nI k)), (0, .ref b), (1, .ref xa), (2, .ref ma), (3, .ref oa), (4, .int (nI i))]) hx hb dL_law_919 hl (by decide) rfl (fun ls hl => ?_)
  refine lv_aload_n hx hb dL_law_921 rfl (lv_at hl 3 rfl) ?_
  refine lv_aload_n hx hb dL_law_922 rfl (lv_at hl 1 rfl) ?_
  refine lv_iload hx hb dL_law_923 (lv_at hl 5 rfl) ?_
  refine lv_iconst (v := nI 1) hx hb dL_law_925 (by decide +kernel) ?_
  refine t_iadd hx hb dL_law_926 (v := nI (i + 1)) (nI_add _ _) ?_
  refine va_sld (A := fun q => lo ≤ q) hx hb hXs hbs hbA hst.2.1 (i := nI (i + 1)) (vp_in_nI (by omega) (by omega)) dL_law_927 ?_
  refine tp_i (e2 := xs (i + 1)) (by rw [nI_clamp (by omega)]) ?_
  refine lw_callV (av2 := [.int (xs (i + 1))]) (rest := []) (x := ma) X hst (hR M1 th c hmo1 hrr) hmo1.ob rfl wc_R_terms ml_L_124 wi_R_terms wl_R_terms wn_R md_R_terms (by decide) hl.1 rfl (Nat.le_of_ble_eq_true rfl) ⟨by omega, by omega⟩ dL_law_928 (fun r M2 H locs hp hst => ?_)
  obtain ⟨c2, w2, hr, hwb, hwv, hmo2, hrr2, ho2⟩ := hp
  have hr : r = some (.int (w2)) := hr
  subst hr
  have hcs2 := hcs1.off ho2 (by omega)
  have hoa2 := ho2.of hoa1 (by decide)
  refine lv_istore (lv' := [(6, .int w2), (5, .int (nI k)), (0, .ref b), (1, .ref xa), (2, .ref ma), (3, .ref oa), (4, .int (nI i))]) hx hb dL_law_931 hl (by decide) rfl (fun ls hl => ?_)
  refine lv_aload_n hx hb dL_law_933 rfl (lv_at hl 4 rfl) ?_
  refine lw_callV (av2 := []) (rest := []) (x := ma) X hst (c_R_thrown l D Y lo hmo2) hmo2.ob rfl wc_R_thrown ml_L_85 wi_R_thrown wl_R_thrown wn_R md_R_thrown (by decide) hl.1 rfl (Nat.le_of_ble_eq_true rfl) ⟨by omega, by omega⟩ dL_law_934 (fun r M3 H locs hp hst => ?_)
  obtain ⟨rfl, rfl⟩ := hp
  refine lv_iload hx hb dL_law_937 (lv_at hl 1 rfl) ?_
  refine lv_icmp_eq hx hb dL_law_939 (tgt := 944) rfl (fun hc => ?_) (fun hc => ?_)
  · skip
    have hck : k = k := (nI_eq (by omega) (by omega)).mp hc
    refine lv_iload hx hb dL_law_944 (lv_at hl 1 rfl) ?_
    refine lv_if_ne hx hb dL_law_946 (tgt := 961) rfl (fun hc => ?_) (fun hc => ?_)
    · skip
      rw [← nI_0] at hc
      have hk0 : ¬ k = 0 := fun z => hc ((nI_eq (by omega) (by omega)).mpr z)
      refine lv_goto hx hb dL_law_961 (tgt := 1304) rfl ?_
      refine lv_iinc (lv' := [(4, .int (nI (i + 5))), (6, .int w2), (5, .int (nI k)), (0, .ref b), (1, .ref xa), (2, .ref ma), (3, .ref oa)]) hx hb dL_law_1304 hl (k := 6) rfl (ii_5 _) (by decide) rfl (fun ls hl => ?_)
      refine lv_goto hx hb dL_law_1307 (tgt := 33) rfl ?_
      refine W.widen (k := sm cap' 300 + (i + 5)) (n := 327125 + 6 * sm cap' 300 + 6 * (i + 5)) (by omega) (by omega) ?_
      exact hnext _ _ _ _ _ _ _ _ _ _ _ ⟨hcs2, hmo2, hrr2, hoa2, hcb2⟩ hst (lv_sub hl [3, 4, 5, 6, 0] rfl)
    · skip
      rw [← nI_0] at hc
      have hk0 : k = 0 := (nI_eq (by omega) (by omega)).mp hc
      have hf0 := hf1 hk0
      have hwv := hwv hk0
      refine lv_aload_n hx hb dL_law_949 rfl (lv_at hl 5 rfl) ?_
      refine lv_iconst (v := nI 0) hx hb dL_law_950 (by decide +kernel) ?_
      refine hp_lald hx hb hK rfl hst hoa2 (j := 0) (by omega) (by omega) dL_law_951 ?_
      refine tp_l (e2 := w2.toInt64) (by rw [hf0, hwv]) ?_
      refine lv_iload hx hb dL_law_952 (lv_at hl 0 rfl) ?_
      refine lv_i2l (v := w2.toInt64) hx hb dL_law_954 rfl ?_
      refine lv_lcmp hx hb dL_law_955 ?_
      refine lv_if_eq hx hb dL_law_956 (tgt := 961) rfl (fun hc => ?_) (fun hc => absurd (lcm3_eq.mpr rfl) hc)
      refine lv_goto hx hb dL_law_961 (tgt := 1304) rfl ?_
      refine lv_iinc (lv' := [(4, .int (nI (i + 5))), (6, .int w2), (5, .int (nI k)), (0, .ref b), (1, .ref xa), (2, .ref ma), (3, .ref oa)]) hx hb dL_law_1304 hl (k := 6) rfl (ii_5 _) (by decide) rfl (fun ls hl => ?_)
      refine lv_goto hx hb dL_law_1307 (tgt := 33) rfl ?_
      refine W.widen (k := sm cap' 300 + (i + 5)) (n := 327125 + 6 * sm cap' 300 + 6 * (i + 5)) (by omega) (by omega) ?_
      exact hnext _ _ _ _ _ _ _ _ _ _ _ ⟨hcs2, hmo2, hrr2, hoa2, hcb2⟩ hst (lv_sub hl [3, 4, 5, 6, 0] rfl)
  · skip
    have hck : ¬ k = k := fun z => hc ((nI_eq (by omega) (by omega)).mpr z)
    exact absurd rfl hck

set_option maxHeartbeats 4000000 in
set_option maxRecDepth 100000 in
theorem lc_term {pg : Program} {l : Launch} {eg : Env} {sg : State} {mg : MethodId} {bw : List Frame} {mt : Method} {cg : Code} {D : va_G} {Y : Nat → ClassId} {lo b L : Nat} {xs : Nat → Int32} {xa ma oa p : Nat} {A E : Nat → Nat} {i : Nat} (hlt : l.stackTraces = false) (hL : L ≤ 2561) (X : lwx pg sg mg #[Value.ref b] cg D Y lo b L xs) (hi : i + 4 < L) (hnext : LG pg l eg sg mg bw mt cg D Y lo b L xs xa ma oa p A E (i + 5)) {M : Hm} {P : Nat → Pf} {cap si : Nat → Nat} {rf th : Nat} {c : Nat → Nat → Nat} {f : Nat → Int64} {H : Heap} {locs : List Loc} {ls : Array Slot} (hinv : linv Y xa ma oa p A E M P cap si rf th c f) (hst : hp_st D vC lo M sg.heap H locs) (hl : lv_has ls 7 [(0, .ref b), (1, .ref xa), (2, .ref ma), (3, .ref oa), (4, .int (nI i))]) : W pg l eg room_1 sg mg #[Value.ref b] bw mt cg H locs (sm cap 300 + i) (327125 + 6 * sm cap 300 + 6 * i) (lw_Z bw #[Value.ref b] sg) (F0 mg 964 ls []) := by
  have X1 := X
  obtain ⟨hx, hb, hml, hown, hG, hbl, hlo, hkx⟩ := X1
  have hK := hkx.1.1
  have hXs := hkx.2.2
  have hbs : b < sg.heap.size := Nat.lt_of_lt_of_le hbl hlo
  have hbA : ¬ lo ≤ b := by omega
  obtain ⟨hcs, hmo, hrr, hoa, hcb⟩ := hinv
  have hsm := cb_sm hcb
  refine lv_aload_n hx hb dL_law_964 rfl (lv_at hl 1 rfl) ?_
  refine lv_aload_n hx hb dL_law_965 rfl (lv_at hl 0 rfl) ?_
  refine lv_iload hx hb dL_law_966 (lv_at hl 4 rfl) ?_
  refine lv_iconst (v := nI 1) hx hb dL_law_968 (by decide +kernel) ?_
  refine t_iadd hx hb dL_law_969 (v := nI (i + 1)) (nI_add _ _) ?_
  refine va_sld (A := fun q => lo ≤ q) hx hb hXs hbs hbA hst.2.1 (i := nI (i + 1)) (vp_in_nI (by omega) (by omega)) dL_law_970 ?_
  refine tp_i (e2 := xs (i + 1)) (by rw [nI_clamp (by omega)]) ?_
  refine lv_aload_n hx hb dL_law_971 rfl (lv_at hl 0 rfl) ?_
  refine lv_iload hx hb dL_law_972 (lv_at hl 4 rfl) ?_
  refine lv_iconst (v := nI 2) hx hb dL_law_974 (by decide +kernel) ?_
  refine t_iadd hx hb dL_law_975 (v := nI (i + 2)) (nI_add _ _) ?_
  refine va_sld (A := fun q => lo ≤ q) hx hb hXs hbs hbA hst.2.1 (i := nI (i + 2)) (vp_in_nI (by omega) (by omega)) dL_law_976 ?_
  refine tp_i (e2 := xs (i + 2)) (by rw [nI_clamp (by omega)]) ?_
  refine lv_aload_n hx hb dL_law_977 rfl (lv_at hl 0 rfl) ?_
  refine lv_iload hx hb dL_law_978 (lv_at hl 4 rfl) ?_
  refine lv_iconst (v := nI 3) hx hb dL_law_980 (by decide +kernel) ?_
  refine t_iadd hx hb dL_law_981 (v := nI (i + 3)) (nI_add _ _) ?_
  refine va_sld (A := fun q => lo ≤ q) hx hb hXs hbs hbA hst.2.1 (i := nI (i + 3)) (vp_in_nI (by omega) (by omega)) dL_law_982 ?_
  refine tp_i (e2 := xs (i + 3)) (by rw [nI_clamp (by omega)]) ?_
  refine lv_aload_n hx hb dL_law_983 rfl (lv_at hl 3 rfl) ?_
  obtain ⟨k, P', rf', v, cap', si', mc, hk, hk2, hmc, hcm, hcp, hvb, hct, hR⟩ := u_term l D Y lo hlt hcs ma E (xs (i + 1)) (xs (i + 2)) (xs (i + 3))
  have hcb2 := hcp hcb
  have hsm2 := cb_sm hcb2
  refine lw_callH (av2 := [.ref xa, .int (xs (i + 1)), .int (xs (i + 2)), .int (xs (i + 3)), .ref oa]) (rest := []) X hst (w_term l D Y lo hcs hct hoa) wh_L_term ml_L_125 ws_L_term wn_L md_L_term (by decide) hl.1 rfl (Nat.le_of_ble_eq_true rfl) ⟨by omega, by omega⟩ dL_law_984 (fun r M1 H locs hp hst => ?_)
  obtain ⟨rfl, hcs1, ho1, f1, hoa1, hf1⟩ := hp
  have hmo1 := hmo.off ho1 (by omega)
  refine lv_istore (lv' := [(5, .int (nI k)), (0, .ref b), (1, .ref xa), (2, .ref ma), (3, .ref oa), (4, .int (nI i))]) hx hb dL_law_987 hl (by decide) rfl (fun ls hl => ?_)
  refine lv_aload_n hx hb dL_law_989 rfl (lv_at hl 3 rfl) ?_
  refine lv_aload_n hx hb dL_law_990 rfl (lv_at hl 1 rfl) ?_
  refine lv_iload hx hb dL_law_991 (lv_at hl 5 rfl) ?_
  refine lv_iconst (v := nI 1) hx hb dL_law_993 (by decide +kernel) ?_
  refine t_iadd hx hb dL_law_994 (v := nI (i + 1)) (nI_add _ _) ?_
  refine va_sld (A := fun q => lo ≤ q) hx hb hXs hbs hbA hst.2.1 (i := nI (i + 1)) (vp_in_nI (by omega) (by omega)) dL_law_995 ?_
  refine tp_i (e2 := xs (i + 1)) (by rw [nI_clamp (by omega)]) ?_
  refine lv_aload_n hx hb dL_law_996 rfl (lv_at hl 1 rfl) ?_
  refine lv_iload hx hb dL_law_997 (lv_at hl 5 rfl) ?_
  refine lv_iconst (v := nI 2) hx hb dL_law_999 (by decide +kernel) ?_
  refine t_iadd hx hb dL_law_1000 (v := nI (i + 2)) (nI_add _ _) ?_
  refine va_sld (A := fun q => lo ≤ q) hx hb hXs hbs hbA hst.2.1 (i := nI (i + 2)) (vp_in_nI (by omega) (by omega)) dL_law_1001 ?_
  refine tp_i (e2 := xs (i + 2)) (by rw [nI_clamp (by omega)]) ?_
  refine lv_aload_n hx hb dL_law_1002 rfl (lv_at hl 1 rfl) ?_
  refine lv_iload hx hb dL_law_1003 (lv_at hl 5 rfl) ?_
  refine lv_iconst (v := nI 3) hx hb dL_law_1005 (by decide +kernel) ?_
  refine t_iadd hx hb dL_law_1006 (v := nI (i + 3)) (nI_add _ _) ?_
  refine va_sld (A := fun q => lo ≤ q) hx hb hXs hbs hbA hst.2.1 (i := nI (i + 3)) (vp_in_nI (by omega) (by omega)) dL_law_1007 ?_
  refine tp_i (e2 := xs (i + 3)) (by rw [nI_clamp (by omega)]) ?_
  refine lw_callV (av2 := [.int (xs (i + 1)), .int (xs (i + 2)), .int (xs (i + 3))]) (rest := []) (x := ma) X hst (hR M1 th c hmo1 hrr) hmo1.ob rfl wc_R_term ml_L_127 wi_R_term wl_R_term wn_R md_R_term (by decide) hl.1 rfl (Nat.le_of_ble_eq_true rfl) ⟨by omega, by omega⟩ dL_law_1008 (fun r M2 H locs hp hst => ?_)
  obtain ⟨c2, w2, hr, hwb, hwv, hmo2, hrr2, ho2⟩ := hp
  have hr : r = some (.int (w2)) := hr
  subst hr
  have hcs2 := hcs1.off ho2 (by omega)
  have hoa2 := ho2.of hoa1 (by decide)
  refine lv_istore (lv' := [(6, .int w2), (5, .int (nI k)), (0, .ref b), (1, .ref xa), (2, .ref ma), (3, .ref oa), (4, .int (nI i))]) hx hb dL_law_1011 hl (by decide) rfl (fun ls hl => ?_)
  refine lv_aload_n hx hb dL_law_1013 rfl (lv_at hl 4 rfl) ?_
  refine lw_callV (av2 := []) (rest := []) (x := ma) X hst (c_R_thrown l D Y lo hmo2) hmo2.ob rfl wc_R_thrown ml_L_85 wi_R_thrown wl_R_thrown wn_R md_R_thrown (by decide) hl.1 rfl (Nat.le_of_ble_eq_true rfl) ⟨by omega, by omega⟩ dL_law_1014 (fun r M3 H locs hp hst => ?_)
  obtain ⟨rfl, rfl⟩ := hp
  refine lv_iload hx hb dL_law_1017 (lv_at hl 1 rfl) ?_
  refine lv_icmp_eq hx hb dL_law_1019 (tgt := 1024) rfl (fun hc => ?_) (fun hc => ?_)
  · skip
    have hck : k = k := (nI_eq (by omega) (by omega)).mp hc
    refine lv_iload hx hb dL_law_1024 (lv_at hl 1 rfl) ?_
    refine lv_if_ne hx hb dL_law_1026 (tgt := 1041) rfl (fun hc => ?_) (fun hc => ?_)
    · skip
      rw [← nI_0] at hc
      have hk0 : ¬ k = 0 := fun z => hc ((nI_eq (by omega) (by omega)).mpr z)
      refine lv_goto hx hb dL_law_1041 (tgt := 1304) rfl ?_
      refine lv_iinc (lv' := [(4, .int (nI (i + 5))), (6, .int w2), (5, .int (nI k)), (0, .ref b), (1, .ref xa), (2, .ref ma), (3, .ref oa)]) hx hb dL_law_1304 hl (k := 6) rfl (ii_5 _) (by decide) rfl (fun ls hl => ?_)
      refine lv_goto hx hb dL_law_1307 (tgt := 33) rfl ?_
      refine W.widen (k := sm cap' 300 + (i + 5)) (n := 327125 + 6 * sm cap' 300 + 6 * (i + 5)) (by omega) (by omega) ?_
      exact hnext _ _ _ _ _ _ _ _ _ _ _ ⟨hcs2, hmo2, hrr2, hoa2, hcb2⟩ hst (lv_sub hl [3, 4, 5, 6, 0] rfl)
    · skip
      rw [← nI_0] at hc
      have hk0 : k = 0 := (nI_eq (by omega) (by omega)).mp hc
      have hf0 := hf1 hk0
      have hwv := hwv hk0
      refine lv_aload_n hx hb dL_law_1029 rfl (lv_at hl 5 rfl) ?_
      refine lv_iconst (v := nI 0) hx hb dL_law_1030 (by decide +kernel) ?_
      refine hp_lald hx hb hK rfl hst hoa2 (j := 0) (by omega) (by omega) dL_law_1031 ?_
      refine tp_l (e2 := w2.toInt64) (by rw [hf0, hwv]) ?_
      refine lv_iload hx hb dL_law_1032 (lv_at hl 0 rfl) ?_
      refine lv_i2l (v := w2.toInt64) hx hb dL_law_1034 rfl ?_
      refine lv_lcmp hx hb dL_law_1035 ?_
      refine lv_if_eq hx hb dL_law_1036 (tgt := 1041) rfl (fun hc => ?_) (fun hc => absurd (lcm3_eq.mpr rfl) hc)
      refine lv_goto hx hb dL_law_1041 (tgt := 1304) rfl ?_
      refine lv_iinc (lv' := [(4, .int (nI (i + 5))), (6, .int w2), (5, .int (nI k)), (0, .ref b), (1, .ref xa), (2, .ref ma), (3, .ref oa)]) hx hb dL_law_1304 hl (k := 6) rfl (ii_5 _) (by decide) rfl (fun ls hl => ?_)
      refine lv_goto hx hb dL_law_1307 (tgt := 33) rfl ?_
      refine W.widen (k := sm cap' 300 + (i + 5)) (n := 327125 + 6 * sm cap' 300 + 6 * (i + 5)) (by omega) (by omega) ?_
      exact hnext _ _ _ _ _ _ _ _ _ _ _ ⟨hcs2, hmo2, hrr2, hoa2, hcb2⟩ hst (lv_sub hl [3, 4, 5, 6, 0] rfl)
  · skip
    have hck : ¬ k = k := fun z => hc ((nI_eq (by omega) (by omega)).mpr z)
    exact absurd rfl hck

set_option maxHeartbeats 4000000 in
set_option maxRecDepth 100000 in
theorem lc_coefficient {pg : Program} {l : Launch} {eg : Env} {sg : State} {mg : MethodId} {bw : List Frame} {mt : Method} {cg : Code} {D : va_G} {Y : Nat → ClassId} {lo b L : Nat} {xs : Nat → Int32} {xa ma oa p : Nat} {A E : Nat → Nat} {i : Nat} (hlt : l.stackTraces = false) (hL : L ≤ 2561) (X : lwx pg sg mg #[Value.ref b] cg D Y lo b L xs) (hi : i + 4 < L) (hnext : LG pg l eg sg mg bw mt cg D Y lo b L xs xa ma oa p A E (i + 5)) {M : Hm} {P : Nat → Pf} {cap si : Nat → Nat} {rf th : Nat} {c : Nat → Nat → Nat} {f : Nat → Int64} {H : Heap} {locs : List Loc} {ls : Array Slot} (hinv : linv Y xa ma oa p A E M P cap si rf th c f) (hst : hp_st D vC lo M sg.heap H locs) (hl : lv_has ls 7 [(0, .ref b), (1, .ref xa), (2, .ref ma), (3, .ref oa), (4, .int (nI i))]) : W pg l eg room_1 sg mg #[Value.ref b] bw mt cg H locs (sm cap 300 + i) (327125 + 6 * sm cap 300 + 6 * i) (lw_Z bw #[Value.ref b] sg) (F0 mg 1044 ls []) := by
  have X1 := X
  obtain ⟨hx, hb, hml, hown, hG, hbl, hlo, hkx⟩ := X1
  have hK := hkx.1.1
  have hXs := hkx.2.2
  have hbs : b < sg.heap.size := Nat.lt_of_lt_of_le hbl hlo
  have hbA : ¬ lo ≤ b := by omega
  obtain ⟨hcs, hmo, hrr, hoa, hcb⟩ := hinv
  have hsm := cb_sm hcb
  refine lv_aload_n hx hb dL_law_1044 rfl (lv_at hl 1 rfl) ?_
  refine lv_aload_n hx hb dL_law_1045 rfl (lv_at hl 0 rfl) ?_
  refine lv_iload hx hb dL_law_1046 (lv_at hl 4 rfl) ?_
  refine lv_iconst (v := nI 1) hx hb dL_law_1048 (by decide +kernel) ?_
  refine t_iadd hx hb dL_law_1049 (v := nI (i + 1)) (nI_add _ _) ?_
  refine va_sld (A := fun q => lo ≤ q) hx hb hXs hbs hbA hst.2.1 (i := nI (i + 1)) (vp_in_nI (by omega) (by omega)) dL_law_1050 ?_
  refine tp_i (e2 := xs (i + 1)) (by rw [nI_clamp (by omega)]) ?_
  refine lv_aload_n hx hb dL_law_1051 rfl (lv_at hl 0 rfl) ?_
  refine lv_iload hx hb dL_law_1052 (lv_at hl 4 rfl) ?_
  refine lv_iconst (v := nI 2) hx hb dL_law_1054 (by decide +kernel) ?_
  refine t_iadd hx hb dL_law_1055 (v := nI (i + 2)) (nI_add _ _) ?_
  refine va_sld (A := fun q => lo ≤ q) hx hb hXs hbs hbA hst.2.1 (i := nI (i + 2)) (vp_in_nI (by omega) (by omega)) dL_law_1056 ?_
  refine tp_i (e2 := xs (i + 2)) (by rw [nI_clamp (by omega)]) ?_
  refine lv_aload_n hx hb dL_law_1057 rfl (lv_at hl 0 rfl) ?_
  refine lv_iload hx hb dL_law_1058 (lv_at hl 4 rfl) ?_
  refine lv_iconst (v := nI 3) hx hb dL_law_1060 (by decide +kernel) ?_
  refine t_iadd hx hb dL_law_1061 (v := nI (i + 3)) (nI_add _ _) ?_
  refine va_sld (A := fun q => lo ≤ q) hx hb hXs hbs hbA hst.2.1 (i := nI (i + 3)) (vp_in_nI (by omega) (by omega)) dL_law_1062 ?_
  refine tp_i (e2 := xs (i + 3)) (by rw [nI_clamp (by omega)]) ?_
  refine lv_aload_n hx hb dL_law_1063 rfl (lv_at hl 0 rfl) ?_
  refine lv_iload hx hb dL_law_1064 (lv_at hl 4 rfl) ?_
  refine lv_iconst (v := nI 4) hx hb dL_law_1066 (by decide +kernel) ?_
  refine t_iadd hx hb dL_law_1067 (v := nI (i + 4)) (nI_add _ _) ?_
  refine va_sld (A := fun q => lo ≤ q) hx hb hXs hbs hbA hst.2.1 (i := nI (i + 4)) (vp_in_nI (by omega) (by omega)) dL_law_1068 ?_
  refine tp_i (e2 := xs (i + 4)) (by rw [nI_clamp (by omega)]) ?_
  refine lv_aload_n hx hb dL_law_1069 rfl (lv_at hl 3 rfl) ?_
  obtain ⟨k, P', rf', v, cap', si', mc, hk, hk2, hmc, hcm, hcp, hvb, hct, hR⟩ := u_coefficient l D Y lo hlt hcs ma E (xs (i + 1)) (xs (i + 2)) (xs (i + 3)) (xs (i + 4))
  have hcb2 := hcp hcb
  have hsm2 := cb_sm hcb2
  refine lw_callH (av2 := [.ref xa, .int (xs (i + 1)), .int (xs (i + 2)), .int (xs (i + 3)), .int (xs (i + 4)), .ref oa]) (rest := []) X hst (w_coefficient l D Y lo hcs hct hoa) wh_L_coefficient ml_L_128 ws_L_coefficient wn_L md_L_coefficient (by decide) hl.1 rfl (Nat.le_of_ble_eq_true rfl) ⟨by omega, by omega⟩ dL_law_1070 (fun r M1 H locs hp hst => ?_)
  obtain ⟨rfl, hcs1, ho1, f1, hoa1, hf1⟩ := hp
  have hmo1 := hmo.off ho1 (by omega)
  refine lv_istore (lv' := [(5, .int (nI k)), (0, .ref b), (1, .ref xa), (2, .ref ma), (3, .ref oa), (4, .int (nI i))]) hx hb dL_law_1073 hl (by decide) rfl (fun ls hl => ?_)
  refine lv_aload_n hx hb dL_law_1075 rfl (lv_at hl 3 rfl) ?_
  refine lv_aload_n hx hb dL_law_1076 rfl (lv_at hl 1 rfl) ?_
  refine lv_iload hx hb dL_law_1077 (lv_at hl 5 rfl) ?_
  refine lv_iconst (v := nI 1) hx hb dL_law_1079 (by decide +kernel) ?_
  refine t_iadd hx hb dL_law_1080 (v := nI (i + 1)) (nI_add _ _) ?_
  refine va_sld (A := fun q => lo ≤ q) hx hb hXs hbs hbA hst.2.1 (i := nI (i + 1)) (vp_in_nI (by omega) (by omega)) dL_law_1081 ?_
  refine tp_i (e2 := xs (i + 1)) (by rw [nI_clamp (by omega)]) ?_
  refine lv_aload_n hx hb dL_law_1082 rfl (lv_at hl 1 rfl) ?_
  refine lv_iload hx hb dL_law_1083 (lv_at hl 5 rfl) ?_
  refine lv_iconst (v := nI 2) hx hb dL_law_1085 (by decide +kernel) ?_
  refine t_iadd hx hb dL_law_1086 (v := nI (i + 2)) (nI_add _ _) ?_
  refine va_sld (A := fun q => lo ≤ q) hx hb hXs hbs hbA hst.2.1 (i := nI (i + 2)) (vp_in_nI (by omega) (by omega)) dL_law_1087 ?_
  refine tp_i (e2 := xs (i + 2)) (by rw [nI_clamp (by omega)]) ?_
  refine lv_aload_n hx hb dL_law_1088 rfl (lv_at hl 1 rfl) ?_
  refine lv_iload hx hb dL_law_1089 (lv_at hl 5 rfl) ?_
  refine lv_iconst (v := nI 3) hx hb dL_law_1091 (by decide +kernel) ?_
  refine t_iadd hx hb dL_law_1092 (v := nI (i + 3)) (nI_add _ _) ?_
  refine va_sld (A := fun q => lo ≤ q) hx hb hXs hbs hbA hst.2.1 (i := nI (i + 3)) (vp_in_nI (by omega) (by omega)) dL_law_1093 ?_
  refine tp_i (e2 := xs (i + 3)) (by rw [nI_clamp (by omega)]) ?_
  refine lv_aload_n hx hb dL_law_1094 rfl (lv_at hl 1 rfl) ?_
  refine lv_iload hx hb dL_law_1095 (lv_at hl 5 rfl) ?_
  refine lv_iconst (v := nI 4) hx hb dL_law_1097 (by decide +kernel) ?_
  refine t_iadd hx hb dL_law_1098 (v := nI (i + 4)) (nI_add _ _) ?_
  refine va_sld (A := fun q => lo ≤ q) hx hb hXs hbs hbA hst.2.1 (i := nI (i + 4)) (vp_in_nI (by omega) (by omega)) dL_law_1099 ?_
  refine tp_i (e2 := xs (i + 4)) (by rw [nI_clamp (by omega)]) ?_
  refine lw_callV (av2 := [.int (xs (i + 1)), .int (xs (i + 2)), .int (xs (i + 3)), .int (xs (i + 4))]) (rest := []) (x := ma) X hst (hR M1 th c hmo1 hrr) hmo1.ob rfl wc_R_coefficient ml_L_130 wi_R_coefficient wl_R_coefficient wn_R md_R_coefficient (by decide) hl.1 rfl (Nat.le_of_ble_eq_true rfl) ⟨by omega, by omega⟩ dL_law_1100 (fun r M2 H locs hp hst => ?_)
  obtain ⟨c2, w2, hr, hwb, hwv, hmo2, hrr2, ho2⟩ := hp
  have hr : r = some (.int (w2)) := hr
  subst hr
  have hcs2 := hcs1.off ho2 (by omega)
  have hoa2 := ho2.of hoa1 (by decide)
  refine lv_istore (lv' := [(6, .int w2), (5, .int (nI k)), (0, .ref b), (1, .ref xa), (2, .ref ma), (3, .ref oa), (4, .int (nI i))]) hx hb dL_law_1103 hl (by decide) rfl (fun ls hl => ?_)
  refine lv_aload_n hx hb dL_law_1105 rfl (lv_at hl 4 rfl) ?_
  refine lw_callV (av2 := []) (rest := []) (x := ma) X hst (c_R_thrown l D Y lo hmo2) hmo2.ob rfl wc_R_thrown ml_L_85 wi_R_thrown wl_R_thrown wn_R md_R_thrown (by decide) hl.1 rfl (Nat.le_of_ble_eq_true rfl) ⟨by omega, by omega⟩ dL_law_1106 (fun r M3 H locs hp hst => ?_)
  obtain ⟨rfl, rfl⟩ := hp
  refine lv_iload hx hb dL_law_1109 (lv_at hl 1 rfl) ?_
  refine lv_icmp_eq hx hb dL_law_1111 (tgt := 1116) rfl (fun hc => ?_) (fun hc => ?_)
  · skip
    have hck : k = k := (nI_eq (by omega) (by omega)).mp hc
    refine lv_iload hx hb dL_law_1116 (lv_at hl 1 rfl) ?_
    refine lv_if_ne hx hb dL_law_1118 (tgt := 1133) rfl (fun hc => ?_) (fun hc => ?_)
    · skip
      rw [← nI_0] at hc
      have hk0 : ¬ k = 0 := fun z => hc ((nI_eq (by omega) (by omega)).mpr z)
      refine lv_goto hx hb dL_law_1133 (tgt := 1304) rfl ?_
      refine lv_iinc (lv' := [(4, .int (nI (i + 5))), (6, .int w2), (5, .int (nI k)), (0, .ref b), (1, .ref xa), (2, .ref ma), (3, .ref oa)]) hx hb dL_law_1304 hl (k := 6) rfl (ii_5 _) (by decide) rfl (fun ls hl => ?_)
      refine lv_goto hx hb dL_law_1307 (tgt := 33) rfl ?_
      refine W.widen (k := sm cap' 300 + (i + 5)) (n := 327125 + 6 * sm cap' 300 + 6 * (i + 5)) (by omega) (by omega) ?_
      exact hnext _ _ _ _ _ _ _ _ _ _ _ ⟨hcs2, hmo2, hrr2, hoa2, hcb2⟩ hst (lv_sub hl [3, 4, 5, 6, 0] rfl)
    · skip
      rw [← nI_0] at hc
      have hk0 : k = 0 := (nI_eq (by omega) (by omega)).mp hc
      have hf0 := hf1 hk0
      have hwv := hwv hk0
      refine lv_aload_n hx hb dL_law_1121 rfl (lv_at hl 5 rfl) ?_
      refine lv_iconst (v := nI 0) hx hb dL_law_1122 (by decide +kernel) ?_
      refine hp_lald hx hb hK rfl hst hoa2 (j := 0) (by omega) (by omega) dL_law_1123 ?_
      refine tp_l (e2 := w2.toInt64) (by rw [hf0, hwv]) ?_
      refine lv_iload hx hb dL_law_1124 (lv_at hl 0 rfl) ?_
      refine lv_i2l (v := w2.toInt64) hx hb dL_law_1126 rfl ?_
      refine lv_lcmp hx hb dL_law_1127 ?_
      refine lv_if_eq hx hb dL_law_1128 (tgt := 1133) rfl (fun hc => ?_) (fun hc => absurd (lcm3_eq.mpr rfl) hc)
      refine lv_goto hx hb dL_law_1133 (tgt := 1304) rfl ?_
      refine lv_iinc (lv' := [(4, .int (nI (i + 5))), (6, .int w2), (5, .int (nI k)), (0, .ref b), (1, .ref xa), (2, .ref ma), (3, .ref oa)]) hx hb dL_law_1304 hl (k := 6) rfl (ii_5 _) (by decide) rfl (fun ls hl => ?_)
      refine lv_goto hx hb dL_law_1307 (tgt := 33) rfl ?_
      refine W.widen (k := sm cap' 300 + (i + 5)) (n := 327125 + 6 * sm cap' 300 + 6 * (i + 5)) (by omega) (by omega) ?_
      exact hnext _ _ _ _ _ _ _ _ _ _ _ ⟨hcs2, hmo2, hrr2, hoa2, hcb2⟩ hst (lv_sub hl [3, 4, 5, 6, 0] rfl)
  · skip
    have hck : ¬ k = k := fun z => hc ((nI_eq (by omega) (by omega)).mpr z)
    exact absurd rfl hck

set_option maxHeartbeats 4000000 in
set_option maxRecDepth 100000 in
theorem lc_degree {pg : Program} {l : Launch} {eg : Env} {sg : State} {mg : MethodId} {bw : List Frame} {mt : Method} {cg : Code} {D : va_G} {Y : Nat → ClassId} {lo b L : Nat} {xs : Nat → Int32} {xa ma oa p : Nat} {A E : Nat → Nat} {i : Nat} (hlt : l.stackTraces = false) (hL : L ≤ 2561) (X : lwx pg sg mg #[Value.ref b] cg D Y lo b L xs) (hi : i + 4 < L) (hnext : LG pg l eg sg mg bw mt cg D Y lo b L xs xa ma oa p A E (i + 5)) {M : Hm} {P : Nat → Pf} {cap si : Nat → Nat} {rf th : Nat} {c : Nat → Nat → Nat} {f : Nat → Int64} {H : Heap} {locs : List Loc} {ls : Array Slot} (hinv : linv Y xa ma oa p A E M P cap si rf th c f) (hst : hp_st D vC lo M sg.heap H locs) (hl : lv_has ls 7 [(0, .ref b), (1, .ref xa), (2, .ref ma), (3, .ref oa), (4, .int (nI i))]) : W pg l eg room_1 sg mg #[Value.ref b] bw mt cg H locs (sm cap 300 + i) (327125 + 6 * sm cap 300 + 6 * i) (lw_Z bw #[Value.ref b] sg) (F0 mg 1136 ls []) := by
  have X1 := X
  obtain ⟨hx, hb, hml, hown, hG, hbl, hlo, hkx⟩ := X1
  have hK := hkx.1.1
  have hXs := hkx.2.2
  have hbs : b < sg.heap.size := Nat.lt_of_lt_of_le hbl hlo
  have hbA : ¬ lo ≤ b := by omega
  obtain ⟨hcs, hmo, hrr, hoa, hcb⟩ := hinv
  have hsm := cb_sm hcb
  refine lv_aload_n hx hb dL_law_1136 rfl (lv_at hl 1 rfl) ?_
  refine lv_aload_n hx hb dL_law_1137 rfl (lv_at hl 0 rfl) ?_
  refine lv_iload hx hb dL_law_1138 (lv_at hl 4 rfl) ?_
  refine lv_iconst (v := nI 1) hx hb dL_law_1140 (by decide +kernel) ?_
  refine t_iadd hx hb dL_law_1141 (v := nI (i + 1)) (nI_add _ _) ?_
  refine va_sld (A := fun q => lo ≤ q) hx hb hXs hbs hbA hst.2.1 (i := nI (i + 1)) (vp_in_nI (by omega) (by omega)) dL_law_1142 ?_
  refine tp_i (e2 := xs (i + 1)) (by rw [nI_clamp (by omega)]) ?_
  refine lv_aload_n hx hb dL_law_1143 rfl (lv_at hl 0 rfl) ?_
  refine lv_iload hx hb dL_law_1144 (lv_at hl 4 rfl) ?_
  refine lv_iconst (v := nI 2) hx hb dL_law_1146 (by decide +kernel) ?_
  refine t_iadd hx hb dL_law_1147 (v := nI (i + 2)) (nI_add _ _) ?_
  refine va_sld (A := fun q => lo ≤ q) hx hb hXs hbs hbA hst.2.1 (i := nI (i + 2)) (vp_in_nI (by omega) (by omega)) dL_law_1148 ?_
  refine tp_i (e2 := xs (i + 2)) (by rw [nI_clamp (by omega)]) ?_
  refine lv_aload_n hx hb dL_law_1149 rfl (lv_at hl 3 rfl) ?_
  obtain ⟨k, P', rf', v, cap', si', mc, hk, hk2, hmc, hcm, hcp, hvb, hct, hR⟩ := u_degree l D Y lo hlt hcs ma E (xs (i + 1)) (xs (i + 2))
  have hcb2 := hcp hcb
  have hsm2 := cb_sm hcb2
  refine lw_callH (av2 := [.ref xa, .int (xs (i + 1)), .int (xs (i + 2)), .ref oa]) (rest := []) X hst (w_degree l D Y lo hcs hct hoa) wh_L_degree ml_L_131 ws_L_degree wn_L md_L_degree (by decide) hl.1 rfl (Nat.le_of_ble_eq_true rfl) ⟨by omega, by omega⟩ dL_law_1150 (fun r M1 H locs hp hst => ?_)
  obtain ⟨rfl, hcs1, ho1, f1, hoa1, hf1⟩ := hp
  have hmo1 := hmo.off ho1 (by omega)
  refine lv_istore (lv' := [(5, .int (nI k)), (0, .ref b), (1, .ref xa), (2, .ref ma), (3, .ref oa), (4, .int (nI i))]) hx hb dL_law_1153 hl (by decide) rfl (fun ls hl => ?_)
  refine lv_aload_n hx hb dL_law_1155 rfl (lv_at hl 3 rfl) ?_
  refine lv_aload_n hx hb dL_law_1156 rfl (lv_at hl 1 rfl) ?_
  refine lv_iload hx hb dL_law_1157 (lv_at hl 5 rfl) ?_
  refine lv_iconst (v := nI 1) hx hb dL_law_1159 (by decide +kernel) ?_
  refine t_iadd hx hb dL_law_1160 (v := nI (i + 1)) (nI_add _ _) ?_
  refine va_sld (A := fun q => lo ≤ q) hx hb hXs hbs hbA hst.2.1 (i := nI (i + 1)) (vp_in_nI (by omega) (by omega)) dL_law_1161 ?_
  refine tp_i (e2 := xs (i + 1)) (by rw [nI_clamp (by omega)]) ?_
  refine lv_aload_n hx hb dL_law_1162 rfl (lv_at hl 1 rfl) ?_
  refine lv_iload hx hb dL_law_1163 (lv_at hl 5 rfl) ?_
  refine lv_iconst (v := nI 2) hx hb dL_law_1165 (by decide +kernel) ?_
  refine t_iadd hx hb dL_law_1166 (v := nI (i + 2)) (nI_add _ _) ?_
  refine va_sld (A := fun q => lo ≤ q) hx hb hXs hbs hbA hst.2.1 (i := nI (i + 2)) (vp_in_nI (by omega) (by omega)) dL_law_1167 ?_
  refine tp_i (e2 := xs (i + 2)) (by rw [nI_clamp (by omega)]) ?_
  refine lw_callV (av2 := [.int (xs (i + 1)), .int (xs (i + 2))]) (rest := []) (x := ma) X hst (hR M1 th c hmo1 hrr) hmo1.ob rfl wc_R_degree ml_L_134 wi_R_degree wl_R_degree wn_R md_R_degree (by decide) hl.1 rfl (Nat.le_of_ble_eq_true rfl) ⟨by omega, by omega⟩ dL_law_1168 (fun r M2 H locs hp hst => ?_)
  obtain ⟨c2, w2, hr, hwb, hwv, hmo2, hrr2, ho2⟩ := hp
  have hr : r = some (.int (w2)) := hr
  subst hr
  have hcs2 := hcs1.off ho2 (by omega)
  have hoa2 := ho2.of hoa1 (by decide)
  refine lv_istore (lv' := [(6, .int w2), (5, .int (nI k)), (0, .ref b), (1, .ref xa), (2, .ref ma), (3, .ref oa), (4, .int (nI i))]) hx hb dL_law_1171 hl (by decide) rfl (fun ls hl => ?_)
  refine lv_aload_n hx hb dL_law_1173 rfl (lv_at hl 4 rfl) ?_
  refine lw_callV (av2 := []) (rest := []) (x := ma) X hst (c_R_thrown l D Y lo hmo2) hmo2.ob rfl wc_R_thrown ml_L_85 wi_R_thrown wl_R_thrown wn_R md_R_thrown (by decide) hl.1 rfl (Nat.le_of_ble_eq_true rfl) ⟨by omega, by omega⟩ dL_law_1174 (fun r M3 H locs hp hst => ?_)
  obtain ⟨rfl, rfl⟩ := hp
  refine lv_iload hx hb dL_law_1177 (lv_at hl 1 rfl) ?_
  refine lv_icmp_eq hx hb dL_law_1179 (tgt := 1184) rfl (fun hc => ?_) (fun hc => ?_)
  · skip
    have hck : k = k := (nI_eq (by omega) (by omega)).mp hc
    refine lv_iload hx hb dL_law_1184 (lv_at hl 1 rfl) ?_
    refine lv_if_ne hx hb dL_law_1186 (tgt := 1201) rfl (fun hc => ?_) (fun hc => ?_)
    · skip
      rw [← nI_0] at hc
      have hk0 : ¬ k = 0 := fun z => hc ((nI_eq (by omega) (by omega)).mpr z)
      refine lv_goto hx hb dL_law_1201 (tgt := 1304) rfl ?_
      refine lv_iinc (lv' := [(4, .int (nI (i + 5))), (6, .int w2), (5, .int (nI k)), (0, .ref b), (1, .ref xa), (2, .ref ma), (3, .ref oa)]) hx hb dL_law_1304 hl (k := 6) rfl (ii_5 _) (by decide) rfl (fun ls hl => ?_)
      refine lv_goto hx hb dL_law_1307 (tgt := 33) rfl ?_
      refine W.widen (k := sm cap' 300 + (i + 5)) (n := 327125 + 6 * sm cap' 300 + 6 * (i + 5)) (by omega) (by omega) ?_
      exact hnext _ _ _ _ _ _ _ _ _ _ _ ⟨hcs2, hmo2, hrr2, hoa2, hcb2⟩ hst (lv_sub hl [3, 4, 5, 6, 0] rfl)
    · skip
      rw [← nI_0] at hc
      have hk0 : k = 0 := (nI_eq (by omega) (by omega)).mp hc
      have hf0 := hf1 hk0
      have hwv := hwv hk0
      refine lv_aload_n hx hb dL_law_1189 rfl (lv_at hl 5 rfl) ?_
      refine lv_iconst (v := nI 0) hx hb dL_law_1190 (by decide +kernel) ?_
      refine hp_lald hx hb hK rfl hst hoa2 (j := 0) (by omega) (by omega) dL_law_1191 ?_
      refine tp_l (e2 := w2.toInt64) (by rw [hf0, hwv]) ?_
      refine lv_iload hx hb dL_law_1192 (lv_at hl 0 rfl) ?_
      refine lv_i2l (v := w2.toInt64) hx hb dL_law_1194 rfl ?_
      refine lv_lcmp hx hb dL_law_1195 ?_
      refine lv_if_eq hx hb dL_law_1196 (tgt := 1201) rfl (fun hc => ?_) (fun hc => absurd (lcm3_eq.mpr rfl) hc)
      refine lv_goto hx hb dL_law_1201 (tgt := 1304) rfl ?_
      refine lv_iinc (lv' := [(4, .int (nI (i + 5))), (6, .int w2), (5, .int (nI k)), (0, .ref b), (1, .ref xa), (2, .ref ma), (3, .ref oa)]) hx hb dL_law_1304 hl (k := 6) rfl (ii_5 _) (by decide) rfl (fun ls hl => ?_)
      refine lv_goto hx hb dL_law_1307 (tgt := 33) rfl ?_
      refine W.widen (k := sm cap' 300 + (i + 5)) (n := 327125 + 6 * sm cap' 300 + 6 * (i + 5)) (by omega) (by omega) ?_
      exact hnext _ _ _ _ _ _ _ _ _ _ _ ⟨hcs2, hmo2, hrr2, hoa2, hcb2⟩ hst (lv_sub hl [3, 4, 5, 6, 0] rfl)
  · skip
    have hck : ¬ k = k := fun z => hc ((nI_eq (by omega) (by omega)).mpr z)
    exact absurd rfl hck

set_option maxHeartbeats 4000000 in
set_option maxRecDepth 100000 in
theorem lc_isSame {pg : Program} {l : Launch} {eg : Env} {sg : State} {mg : MethodId} {bw : List Frame} {mt : Method} {cg : Code} {D : va_G} {Y : Nat → ClassId} {lo b L : Nat} {xs : Nat → Int32} {xa ma oa p : Nat} {A E : Nat → Nat} {i : Nat} (hlt : l.stackTraces = false) (hL : L ≤ 2561) (X : lwx pg sg mg #[Value.ref b] cg D Y lo b L xs) (hi : i + 4 < L) (hnext : LG pg l eg sg mg bw mt cg D Y lo b L xs xa ma oa p A E (i + 5)) {M : Hm} {P : Nat → Pf} {cap si : Nat → Nat} {rf th : Nat} {c : Nat → Nat → Nat} {f : Nat → Int64} {H : Heap} {locs : List Loc} {ls : Array Slot} (hinv : linv Y xa ma oa p A E M P cap si rf th c f) (hst : hp_st D vC lo M sg.heap H locs) (hl : lv_has ls 7 [(0, .ref b), (1, .ref xa), (2, .ref ma), (3, .ref oa), (4, .int (nI i))]) : W pg l eg room_1 sg mg #[Value.ref b] bw mt cg H locs (sm cap 300 + i) (327125 + 6 * sm cap 300 + 6 * i) (lw_Z bw #[Value.ref b] sg) (F0 mg 1204 ls []) := by
  have X1 := X
  obtain ⟨hx, hb, hml, hown, hG, hbl, hlo, hkx⟩ := X1
  have hK := hkx.1.1
  have hXs := hkx.2.2
  have hbs : b < sg.heap.size := Nat.lt_of_lt_of_le hbl hlo
  have hbA : ¬ lo ≤ b := by omega
  obtain ⟨hcs, hmo, hrr, hoa, hcb⟩ := hinv
  have hsm := cb_sm hcb
  refine lv_aload_n hx hb dL_law_1204 rfl (lv_at hl 1 rfl) ?_
  refine lv_aload_n hx hb dL_law_1205 rfl (lv_at hl 0 rfl) ?_
  refine lv_iload hx hb dL_law_1206 (lv_at hl 4 rfl) ?_
  refine lv_iconst (v := nI 1) hx hb dL_law_1208 (by decide +kernel) ?_
  refine t_iadd hx hb dL_law_1209 (v := nI (i + 1)) (nI_add _ _) ?_
  refine va_sld (A := fun q => lo ≤ q) hx hb hXs hbs hbA hst.2.1 (i := nI (i + 1)) (vp_in_nI (by omega) (by omega)) dL_law_1210 ?_
  refine tp_i (e2 := xs (i + 1)) (by rw [nI_clamp (by omega)]) ?_
  refine lv_aload_n hx hb dL_law_1211 rfl (lv_at hl 0 rfl) ?_
  refine lv_iload hx hb dL_law_1212 (lv_at hl 4 rfl) ?_
  refine lv_iconst (v := nI 2) hx hb dL_law_1214 (by decide +kernel) ?_
  refine t_iadd hx hb dL_law_1215 (v := nI (i + 2)) (nI_add _ _) ?_
  refine va_sld (A := fun q => lo ≤ q) hx hb hXs hbs hbA hst.2.1 (i := nI (i + 2)) (vp_in_nI (by omega) (by omega)) dL_law_1216 ?_
  refine tp_i (e2 := xs (i + 2)) (by rw [nI_clamp (by omega)]) ?_
  refine lv_aload_n hx hb dL_law_1217 rfl (lv_at hl 3 rfl) ?_
  obtain ⟨k, P', rf', v, cap', si', mc, hk, hk2, hmc, hcm, hcp, hvb, hct, hR⟩ := u_isSame l D Y lo hlt hcs ma E (xs (i + 1)) (xs (i + 2))
  have hcb2 := hcp hcb
  have hsm2 := cb_sm hcb2
  refine lw_callH (av2 := [.ref xa, .int (xs (i + 1)), .int (xs (i + 2)), .ref oa]) (rest := []) X hst (w_isSame l D Y lo hcs hct (hk2 rfl) hoa (hvb rfl)) wh_L_isSame ml_L_135 ws_L_isSame wn_L md_L_isSame (by decide) hl.1 rfl (Nat.le_of_ble_eq_true rfl) ⟨by omega, by omega⟩ dL_law_1218 (fun r M1 H locs hp hst => ?_)
  obtain ⟨rfl, hcs1, ho1, f1, hoa1, hf1⟩ := hp
  have hmo1 := hmo.off ho1 (by omega)
  refine lv_istore (lv' := [(5, .int (nI k)), (0, .ref b), (1, .ref xa), (2, .ref ma), (3, .ref oa), (4, .int (nI i))]) hx hb dL_law_1221 hl (by decide) rfl (fun ls hl => ?_)
  refine lv_aload_n hx hb dL_law_1223 rfl (lv_at hl 3 rfl) ?_
  refine lv_aload_n hx hb dL_law_1224 rfl (lv_at hl 1 rfl) ?_
  refine lv_iload hx hb dL_law_1225 (lv_at hl 5 rfl) ?_
  refine lv_iconst (v := nI 1) hx hb dL_law_1227 (by decide +kernel) ?_
  refine t_iadd hx hb dL_law_1228 (v := nI (i + 1)) (nI_add _ _) ?_
  refine va_sld (A := fun q => lo ≤ q) hx hb hXs hbs hbA hst.2.1 (i := nI (i + 1)) (vp_in_nI (by omega) (by omega)) dL_law_1229 ?_
  refine tp_i (e2 := xs (i + 1)) (by rw [nI_clamp (by omega)]) ?_
  refine lv_aload_n hx hb dL_law_1230 rfl (lv_at hl 1 rfl) ?_
  refine lv_iload hx hb dL_law_1231 (lv_at hl 5 rfl) ?_
  refine lv_iconst (v := nI 2) hx hb dL_law_1233 (by decide +kernel) ?_
  refine t_iadd hx hb dL_law_1234 (v := nI (i + 2)) (nI_add _ _) ?_
  refine va_sld (A := fun q => lo ≤ q) hx hb hXs hbs hbA hst.2.1 (i := nI (i + 2)) (vp_in_nI (by omega) (by omega)) dL_law_1235 ?_
  refine tp_i (e2 := xs (i + 2)) (by rw [nI_clamp (by omega)]) ?_
  refine lw_callV (av2 := [.int (xs (i + 1)), .int (xs (i + 2))]) (rest := []) (x := ma) X hst (hR M1 th c hmo1 hrr) hmo1.ob rfl wc_R_isSame ml_L_137 wi_R_isSame wl_R_isSame wn_R md_R_isSame (by decide) hl.1 rfl (Nat.le_of_ble_eq_true rfl) ⟨by omega, by omega⟩ dL_law_1236 (fun r M2 H locs hp hst => ?_)
  obtain ⟨c2, w2, hr, hwb, hwv, hmo2, hrr2, ho2⟩ := hp
  obtain ⟨z2, hz2, rfl⟩ := hwb rfl
  have hr : r = some (.int (nI z2)) := hr
  subst hr
  have hcs2 := hcs1.off ho2 (by omega)
  have hoa2 := ho2.of hoa1 (by decide)
  refine lv_istore (lv' := [(6, .int (nI z2)), (5, .int (nI k)), (0, .ref b), (1, .ref xa), (2, .ref ma), (3, .ref oa), (4, .int (nI i))]) hx hb dL_law_1239 hl (by decide) rfl (fun ls hl => ?_)
  refine lv_aload_n hx hb dL_law_1241 rfl (lv_at hl 4 rfl) ?_
  refine lw_callV (av2 := []) (rest := []) (x := ma) X hst (c_R_thrown l D Y lo hmo2) hmo2.ob rfl wc_R_thrown ml_L_85 wi_R_thrown wl_R_thrown wn_R md_R_thrown (by decide) hl.1 rfl (Nat.le_of_ble_eq_true rfl) ⟨by omega, by omega⟩ dL_law_1242 (fun r M3 H locs hp hst => ?_)
  obtain ⟨rfl, rfl⟩ := hp
  refine lv_iload hx hb dL_law_1245 (lv_at hl 1 rfl) ?_
  refine lv_icmp_eq hx hb dL_law_1247 (tgt := 1252) rfl (fun hc => ?_) (fun hc => ?_)
  · skip
    have hck : k = k := (nI_eq (by omega) (by omega)).mp hc
    refine lv_iload hx hb dL_law_1252 (lv_at hl 1 rfl) ?_
    refine lv_if_ne hx hb dL_law_1254 (tgt := 1276) rfl (fun hc => ?_) (fun hc => ?_)
    · skip
      rw [← nI_0] at hc
      have hk0 : ¬ k = 0 := fun z => hc ((nI_eq (by omega) (by omega)).mpr z)
      refine lv_goto hx hb dL_law_1276 (tgt := 1304) rfl ?_
      refine lv_iinc (lv' := [(4, .int (nI (i + 5))), (6, .int (nI z2)), (5, .int (nI k)), (0, .ref b), (1, .ref xa), (2, .ref ma), (3, .ref oa)]) hx hb dL_law_1304 hl (k := 6) rfl (ii_5 _) (by decide) rfl (fun ls hl => ?_)
      refine lv_goto hx hb dL_law_1307 (tgt := 33) rfl ?_
      refine W.widen (k := sm cap' 300 + (i + 5)) (n := 327125 + 6 * sm cap' 300 + 6 * (i + 5)) (by omega) (by omega) ?_
      exact hnext _ _ _ _ _ _ _ _ _ _ _ ⟨hcs2, hmo2, hrr2, hoa2, hcb2⟩ hst (lv_sub hl [3, 4, 5, 6, 0] rfl)
    · skip
      rw [← nI_0] at hc
      have hk0 : k = 0 := (nI_eq (by omega) (by omega)).mp hc
      have hf0 := hf1 hk0
      have hwv := hwv hk0
      refine lv_aload_n hx hb dL_law_1257 rfl (lv_at hl 5 rfl) ?_
      refine lv_iconst (v := nI 0) hx hb dL_law_1258 (by decide +kernel) ?_
      refine hp_lald hx hb hK rfl hst hoa2 (j := 0) (by omega) (by omega) dL_law_1259 ?_
      refine tp_l (e2 := lN z2) (by rw [hf0, ← hwv]; exact nI_l (by omega)) ?_
      refine lv_iload hx hb dL_law_1260 (lv_at hl 0 rfl) ?_
      refine lv_if_eq hx hb dL_law_1262 (tgt := 1269) rfl (fun hc => ?_) (fun hc => ?_)
      · skip
        rw [← nI_0] at hc
        have hcb9 : z2 = 0 := (nI_eq (by omega) (by omega)).mp hc
        refine lv_lconst (v := lN 0) hx hb dL_law_1269 (by decide +kernel) ?_
        refine lv_lcmp hx hb dL_law_1270 ?_
        refine lv_if_eq hx hb dL_law_1271 (tgt := 1276) rfl (fun hc => ?_) (fun hc => absurd (lcm3_eq.mpr (by rw [show z2 = 0 by omega])) hc)
        refine lv_goto hx hb dL_law_1276 (tgt := 1304) rfl ?_
        refine lv_iinc (lv' := [(4, .int (nI (i + 5))), (6, .int (nI z2)), (5, .int (nI k)), (0, .ref b), (1, .ref xa), (2, .ref ma), (3, .ref oa)]) hx hb dL_law_1304 hl (k := 6) rfl (ii_5 _) (by decide) rfl (fun ls hl => ?_)
        refine lv_goto hx hb dL_law_1307 (tgt := 33) rfl ?_
        refine W.widen (k := sm cap' 300 + (i + 5)) (n := 327125 + 6 * sm cap' 300 + 6 * (i + 5)) (by omega) (by omega) ?_
        exact hnext _ _ _ _ _ _ _ _ _ _ _ ⟨hcs2, hmo2, hrr2, hoa2, hcb2⟩ hst (lv_sub hl [3, 4, 5, 6, 0] rfl)
      · skip
        rw [← nI_0] at hc
        have hcb9 : ¬ z2 = 0 := fun z => hc ((nI_eq (by omega) (by omega)).mpr z)
        refine lv_lconst (v := lN 1) hx hb dL_law_1265 (by decide +kernel) ?_
        refine lv_goto hx hb dL_law_1266 (tgt := 1270) rfl ?_
        refine lv_lcmp hx hb dL_law_1270 ?_
        refine lv_if_eq hx hb dL_law_1271 (tgt := 1276) rfl (fun hc => ?_) (fun hc => absurd (lcm3_eq.mpr (by rw [show z2 = 1 by omega])) hc)
        refine lv_goto hx hb dL_law_1276 (tgt := 1304) rfl ?_
        refine lv_iinc (lv' := [(4, .int (nI (i + 5))), (6, .int (nI z2)), (5, .int (nI k)), (0, .ref b), (1, .ref xa), (2, .ref ma), (3, .ref oa)]) hx hb dL_law_1304 hl (k := 6) rfl (ii_5 _) (by decide) rfl (fun ls hl => ?_)
        refine lv_goto hx hb dL_law_1307 (tgt := 33) rfl ?_
        refine W.widen (k := sm cap' 300 + (i + 5)) (n := 327125 + 6 * sm cap' 300 + 6 * (i + 5)) (by omega) (by omega) ?_
        exact hnext _ _ _ _ _ _ _ _ _ _ _ ⟨hcs2, hmo2, hrr2, hoa2, hcb2⟩ hst (lv_sub hl [3, 4, 5, 6, 0] rfl)
  · skip
    have hck : ¬ k = k := fun z => hc ((nI_eq (by omega) (by omega)).mpr z)
    exact absurd rfl hck

set_option maxHeartbeats 4000000 in
set_option maxRecDepth 100000 in
theorem lc_count {pg : Program} {l : Launch} {eg : Env} {sg : State} {mg : MethodId} {bw : List Frame} {mt : Method} {cg : Code} {D : va_G} {Y : Nat → ClassId} {lo b L : Nat} {xs : Nat → Int32} {xa ma oa p : Nat} {A E : Nat → Nat} {i : Nat} (hlt : l.stackTraces = false) (hL : L ≤ 2561) (X : lwx pg sg mg #[Value.ref b] cg D Y lo b L xs) (hi : i + 4 < L) (hnext : LG pg l eg sg mg bw mt cg D Y lo b L xs xa ma oa p A E (i + 5)) {M : Hm} {P : Nat → Pf} {cap si : Nat → Nat} {rf th : Nat} {c : Nat → Nat → Nat} {f : Nat → Int64} {H : Heap} {locs : List Loc} {ls : Array Slot} (hinv : linv Y xa ma oa p A E M P cap si rf th c f) (hst : hp_st D vC lo M sg.heap H locs) (hl : lv_has ls 7 [(0, .ref b), (1, .ref xa), (2, .ref ma), (3, .ref oa), (4, .int (nI i))]) : W pg l eg room_1 sg mg #[Value.ref b] bw mt cg H locs (sm cap 300 + i) (327125 + 6 * sm cap 300 + 6 * i) (lw_Z bw #[Value.ref b] sg) (F0 mg 1279 ls []) := by
  have X1 := X
  obtain ⟨hx, hb, hml, hown, hG, hbl, hlo, hkx⟩ := X1
  have hK := hkx.1.1
  have hXs := hkx.2.2
  have hbs : b < sg.heap.size := Nat.lt_of_lt_of_le hbl hlo
  have hbA : ¬ lo ≤ b := by omega
  obtain ⟨hcs, hmo, hrr, hoa, hcb⟩ := hinv
  have hsm := cb_sm hcb
  have hcs0 := hcs
  obtain ⟨-, -, -, -, -, -, -, -, -, -, -, -, hPp⟩ := hcs0
  refine lv_aload_n hx hb dL_law_1279 rfl (lv_at hl 1 rfl) ?_
  refine lv_aload_n hx hb dL_law_1280 rfl (lv_at hl 0 rfl) ?_
  refine lv_iload hx hb dL_law_1281 (lv_at hl 4 rfl) ?_
  refine lv_iconst (v := nI 1) hx hb dL_law_1283 (by decide +kernel) ?_
  refine t_iadd hx hb dL_law_1284 (v := nI (i + 1)) (nI_add _ _) ?_
  refine va_sld (A := fun q => lo ≤ q) hx hb hXs hbs hbA hst.2.1 (i := nI (i + 1)) (vp_in_nI (by omega) (by omega)) dL_law_1285 ?_
  refine tp_i (e2 := xs (i + 1)) (by rw [nI_clamp (by omega)]) ?_
  refine lw_callV (av2 := [.int (xs (i + 1))]) (rest := []) (x := xa) X hst (c_H_count l D Y lo hcs (xs (i + 1))) hcs.1 rfl wc_H_count ml_L_138 wi_H_count wl_H_count wn_H md_H_count (by decide) hl.1 rfl (Nat.le_of_ble_eq_true rfl) ⟨by omega, by omega⟩ dL_law_1286 (fun r M1 H locs hp hst => ?_)
  obtain ⟨rfl, rfl⟩ := hp
  refine lv_aload_n hx hb dL_law_1289 rfl (lv_at hl 2 rfl) ?_
  refine lv_aload_n hx hb dL_law_1290 rfl (lv_at hl 0 rfl) ?_
  refine lv_iload hx hb dL_law_1291 (lv_at hl 4 rfl) ?_
  refine lv_iconst (v := nI 1) hx hb dL_law_1293 (by decide +kernel) ?_
  refine t_iadd hx hb dL_law_1294 (v := nI (i + 1)) (nI_add _ _) ?_
  refine va_sld (A := fun q => lo ≤ q) hx hb hXs hbs hbA hst.2.1 (i := nI (i + 1)) (vp_in_nI (by omega) (by omega)) dL_law_1295 ?_
  refine tp_i (e2 := xs (i + 1)) (by rw [nI_clamp (by omega)]) ?_
  refine lw_callV (av2 := [.int (xs (i + 1))]) (rest := [.int (cnt p rf P (xs (i + 1)))]) (x := ma) X hst (c_R_count l D Y lo hmo hrr hPp (xs (i + 1))) hmo.ob rfl wc_R_count ml_L_141 wi_R_count wl_R_count wn_R md_R_count (by decide) hl.1 rfl (Nat.le_of_ble_eq_true rfl) ⟨by omega, by omega⟩ dL_law_1296 (fun r M2 H locs hp hst => ?_)
  obtain ⟨c2, rfl, hmo2, hrr2, ho2⟩ := hp
  refine lv_icmp_eq hx hb dL_law_1299 (tgt := 1304) rfl (fun hc => ?_) (fun hc => absurd rfl hc)
  refine lv_iinc (lv' := [(4, .int (nI (i + 5))), (0, .ref b), (1, .ref xa), (2, .ref ma), (3, .ref oa)]) hx hb dL_law_1304 hl (k := 4) rfl (ii_5 _) (by decide) rfl (fun ls hl => ?_)
  refine lv_goto hx hb dL_law_1307 (tgt := 33) rfl ?_
  refine W.widen (k := sm cap 300 + (i + 5)) (n := 327125 + 6 * sm cap 300 + 6 * (i + 5)) (by omega) (by omega) ?_
  exact hnext _ _ _ _ _ _ _ _ _ _ _ ⟨hcs.off ho2 (by omega), hmo2, hrr2, ho2.of hoa (by decide), hcb⟩ hst (lv_sub hl [1, 2, 3, 4, 0] rfl)

