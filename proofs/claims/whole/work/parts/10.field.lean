/-! Words for states; small rows on numbers. -/
theorem ii_p (a : Nat) : nI a + Int32.ofInt 1 = nI (a + 1) := nI_1 a
def dn (n : Nat) : Int32 := nI n - 1
theorem ii_m (a : Nat) : nI a + Int32.ofInt (-1) = dn a := by
  show nI a + (-1) = nI a - 1
  rw [Int32.sub_eq_add_neg]
theorem dn_s (a : Nat) : dn (a + 1) = nI a := nI_pred a
theorem dn_0 : dn 0 < 0 := by decide +kernel
section TPN
variable {p : Program} {l : Launch} {e : Env} {R : Room} {s : State} {m : MethodId} {args : Array Value} {below : List Frame} {meth : Method} {c : Code} {H : Heap} {locs : List Loc} {cells slots : Nat} {Q : State → Prop} {pc : Nat} {ls : Array Slot} {rest : List Value}
theorem tp_n {e1 e2 : Nat} (h : e1 = e2) (k : W p l e R s m args below meth c H locs cells slots Q (F0 m pc ls (.int (nI e2) :: rest))) : W p l e R s m args below meth c H locs cells slots Q (F0 m pc ls (.int (nI e1) :: rest)) := by
  subst h
  exact k
theorem tp_i {e1 e2 : Int32} (h : e1 = e2) (k : W p l e R s m args below meth c H locs cells slots Q (F0 m pc ls (.int e2 :: rest))) : W p l e R s m args below meth c H locs cells slots Q (F0 m pc ls (.int e1 :: rest)) := by
  subst h
  exact k
theorem tp_l {e1 e2 : Int64} (h : e1 = e2) (k : W p l e R s m args below meth c H locs cells slots Q (F0 m pc ls (.long e2 :: rest))) : W p l e R s m args below meth c H locs cells slots Q (F0 m pc ls (.long e1 :: rest)) := by
  subst h
  exact k
end TPN
/-- the field: its prime -/
def fd (M : Hm) (fa p : Nat) : Prop := M fa = some ((1, 0), .inr (0, [.int (nI p)])) ∧ 2 ≤ p ∧ p ≤ 46337
theorem fd_mul {p x y : Nat} (hp : p ≤ 46337) (hx : x < p) (hy : y < p) : x * y ≤ 46336 * 46336 := Nat.mul_le_mul (by omega) (by omega)
/-- the opposite number -/
def ng (p x : Nat) : Nat := if x = 0 then 0 else p - x
theorem ng_lt {p x : Nat} (hp : 0 < p) : ng p x < p := by
  unfold ng
  split <;> omega

set_option maxHeartbeats 4000000 in
set_option maxRecDepth 100000 in
theorem c_F_product (l : Launch) (D : va_G) (Y : Nat → ClassId) (lo : Nat) {M : Hm} {fa p x y : Nat} (hf : fd M fa p) (hxp : x < p) (hyp : y < p) : ct l D Y lo y_F_product b_F_product 3 (some .int) 0 [.ref fa, .int (nI x), .int (nI y)] M (fun r M' => r = some (.int (nI (x * y % p))) ∧ M = M') nx 0 0 := by
  refine ct_of (by decide) (Nat.le_of_ble_eq_true rfl) ?_
  intro pg eg sg mg bw mt cg ls X hst hl
  have X1 := X
  obtain ⟨hx, hb, hml, hrt, hlocks, hown, hnm, hts, hkz, hex⟩ := X1
  have hG : ∀ w ∈ GW, w.before _ sg = true := fun w h => hts w (List.mem_cons_of_mem _ h)
  have hK := hkz.1
  have hl : lv_has ls 3 [(0, .ref fa), (1, .int (nI x)), (2, .int (nI y))] := hl
  obtain ⟨h0, hp2, hp3⟩ := hf
  have hm := fd_mul hp3 hxp hyp
  refine lv_iload_n hx hb dF_product_0 rfl (lv_at hl 1 rfl) ?_
  refine lv_iload_n hx hb dF_product_1 rfl (lv_at hl 2 rfl) ?_
  refine t_imul hx hb dF_product_2 (v := nI (x * y)) (pk_mul _ _) ?_
  refine lv_aload_n hx hb dF_product_3 rfl (lv_at hl 0 rfl) ?_
  refine hp_get hx hb hG in_F hown hK hst h0 rfl 0 (by decide) (hG _ fl_F_13) rfl rfl dF_product_4 ?_
  have hmod := Nat.mod_lt (x * y) (show 0 < p from (by omega))
  refine t_irem hx hb dF_product_7 (nI_ne0 (by omega) (by omega)) (v := nI ((x * y) % p)) (pk_rem (by omega) (by omega) (by omega)) ?_
  exact ct_iret X hst ⟨rfl, rfl⟩ (by omega) (by omega) dF_product_8

set_option maxHeartbeats 4000000 in
set_option maxRecDepth 100000 in
theorem c_F_sumWithProduct (l : Launch) (D : va_G) (Y : Nat → ClassId) (lo : Nat) {M : Hm} {fa p z x y : Nat} (hf : fd M fa p) (hzp : z < p) (hxp : x < p) (hyp : y < p) : ct l D Y lo y_F_sumWithProduct b_F_sumWithProduct 4 (some .int) 0 [.ref fa, .int (nI z), .int (nI x), .int (nI y)] M (fun r M' => r = some (.int (nI ((z + x * y) % p))) ∧ M = M') nx 0 0 := by
  refine ct_of (by decide) (Nat.le_of_ble_eq_true rfl) ?_
  intro pg eg sg mg bw mt cg ls X hst hl
  have X1 := X
  obtain ⟨hx, hb, hml, hrt, hlocks, hown, hnm, hts, hkz, hex⟩ := X1
  have hG : ∀ w ∈ GW, w.before _ sg = true := fun w h => hts w (List.mem_cons_of_mem _ h)
  have hK := hkz.1
  have hl : lv_has ls 4 [(0, .ref fa), (1, .int (nI z)), (2, .int (nI x)), (3, .int (nI y))] := hl
  obtain ⟨h0, hp2, hp3⟩ := hf
  have hm := fd_mul hp3 hxp hyp
  refine lv_iload_n hx hb dF_sumWithProduct_0 rfl (lv_at hl 1 rfl) ?_
  refine lv_iload_n hx hb dF_sumWithProduct_1 rfl (lv_at hl 2 rfl) ?_
  refine lv_iload_n hx hb dF_sumWithProduct_2 rfl (lv_at hl 3 rfl) ?_
  refine t_imul hx hb dF_sumWithProduct_3 (v := nI (x * y)) (pk_mul _ _) ?_
  refine t_iadd hx hb dF_sumWithProduct_4 (v := nI (z + (x * y))) (nI_add _ _) ?_
  refine lv_aload_n hx hb dF_sumWithProduct_5 rfl (lv_at hl 0 rfl) ?_
  refine hp_get hx hb hG in_F hown hK hst h0 rfl 0 (by decide) (hG _ fl_F_13) rfl rfl dF_sumWithProduct_6 ?_
  have hmod := Nat.mod_lt (z + (x * y)) (show 0 < p from (by omega))
  refine t_irem hx hb dF_sumWithProduct_9 (nI_ne0 (by omega) (by omega)) (v := nI ((z + (x * y)) % p)) (pk_rem (by omega) (by omega) (by omega)) ?_
  exact ct_iret X hst ⟨rfl, rfl⟩ (by omega) (by omega) dF_sumWithProduct_10

set_option maxHeartbeats 4000000 in
set_option maxRecDepth 100000 in
theorem c_F_negative (l : Launch) (D : va_G) (Y : Nat → ClassId) (lo : Nat) {M : Hm} {fa p x : Nat} (hf : fd M fa p) (hxp : x < p) : ct l D Y lo y_F_negative b_F_negative 2 (some .int) 0 [.ref fa, .int (nI x)] M (fun r M' => r = some (.int (nI (ng p x))) ∧ M = M') nx 0 0 := by
  refine ct_of (by decide) (Nat.le_of_ble_eq_true rfl) ?_
  intro pg eg sg mg bw mt cg ls X hst hl
  have X1 := X
  obtain ⟨hx, hb, hml, hrt, hlocks, hown, hnm, hts, hkz, hex⟩ := X1
  have hG : ∀ w ∈ GW, w.before _ sg = true := fun w h => hts w (List.mem_cons_of_mem _ h)
  have hK := hkz.1
  have hl : lv_has ls 2 [(0, .ref fa), (1, .int (nI x))] := hl
  obtain ⟨h0, hp2, hp3⟩ := hf
  refine lv_iload_n hx hb dF_negative_0 rfl (lv_at hl 1 rfl) ?_
  refine lv_if_ne hx hb dF_negative_1 (tgt := 8) rfl (fun hc => ?_) (fun hc => ?_)
  · skip
    rw [← nI_0] at hc
    have hc : ¬ x = 0 := fun z => hc ((nI_eq (by omega) (by omega)).mpr z)
    refine lv_aload_n hx hb dF_negative_8 rfl (lv_at hl 0 rfl) ?_
    refine hp_get hx hb hG in_F hown hK hst h0 rfl 0 (by decide) (hG _ fl_F_13) rfl rfl dF_negative_9 ?_
    refine lv_iload_n hx hb dF_negative_12 rfl (lv_at hl 1 rfl) ?_
    refine t_isub hx hb dF_negative_13 (v := nI (p - x)) (pk_sub (by omega)) ?_
    exact ct_iret X hst ⟨by unfold ng; rw [if_neg hc], rfl⟩ (by omega) (by omega) dF_negative_14
  · skip
    rw [← nI_0] at hc
    have hc : x = 0 := (nI_eq (by omega) (by omega)).mp hc
    refine lv_iconst (v := nI 0) hx hb dF_negative_4 (by decide +kernel) ?_
    refine lv_goto hx hb dF_negative_5 (tgt := 14) rfl ?_
    exact ct_iret X hst ⟨by unfold ng; rw [if_pos hc], rfl⟩ (by omega) (by omega) dF_negative_14

set_option maxHeartbeats 4000000 in
set_option maxRecDepth 100000 in
theorem c_F_isPrime (l : Launch) (D : va_G) (Y : Nat → ClassId) (lo : Nat) {M : Hm} {n : Nat} (h2 : 2 ≤ n) (hn : n ≤ 46337) : ct l D Y lo y_F_isPrime b_F_isPrime 2 (some .boolean) 0 [.int (nI n)] M (fun r M' => ∃ b : Nat, r = some (.int (nI b)) ∧ b ≤ 1 ∧ (b = 1 ↔ pr n) ∧ M = M') nx 0 0 := by
  refine ct_of (by decide) (Nat.le_of_ble_eq_true rfl) ?_
  intro pg eg sg mg bw mt cg ls X hst hl
  have X1 := X
  obtain ⟨hx, hb, hml, hrt, hlocks, hown, hnm, hts, hkz, hex⟩ := X1
  have hG : ∀ w ∈ GW, w.before _ sg = true := fun w h => hts w (List.mem_cons_of_mem _ h)
  have hK := hkz.1
  have hl : lv_has ls 2 [(0, .int (nI n))] := hl
  refine lv_iconst (v := nI 2) hx hb dF_isPrime_0 (by decide +kernel) ?_
  refine lv_istore_n (lv' := [(1, .int (nI 2)), (0, .int (nI n))]) hx hb dF_isPrime_1 rfl hl (by decide) rfl (fun ls hl => ?_)
  have LP : ∀ (kk : Nat) (d : Nat) (H : Heap) (locs : List Loc) (ls : Array Slot), kk = 217 - d → (2 ≤ d) → (d ≤ 216) → (∀ d', 2 ≤ d' → d' < d → n % d' ≠ 0) → hp_st D vC lo M sg.heap H locs → lv_has ls 2 [(0, .int (nI n)), (1, .int (nI d))] → cW pg l eg sg mg [.int (nI n)] bw mt cg y_F_isPrime b_F_isPrime 2 (some .boolean) 0 D lo (fun r M' => ∃ b : Nat, r = some (.int (nI b)) ∧ b ≤ 1 ∧ (b = 1 ↔ pr n) ∧ M = M') nx 0 0 H locs 0 0 (F0 mg 2 ls []) := by
    intro kk
    induction kk using Nat.strongRecOn with
    | _ kk ih =>
    intro d H locs ls hkk hd1 hd2 hno hst hl
    have hdd : d * d ≤ 216 * 216 := Nat.mul_le_mul hd2 hd2
    refine lv_iload_n hx hb dF_isPrime_2 rfl (lv_at hl 1 rfl) ?_
    refine lv_iload_n hx hb dF_isPrime_3 rfl (lv_at hl 1 rfl) ?_
    refine t_imul hx hb dF_isPrime_4 (v := nI (d * d)) (pk_mul _ _) ?_
    refine lv_iload_n hx hb dF_isPrime_5 rfl (lv_at hl 0 rfl) ?_
    refine lv_icmp_gt hx hb dF_isPrime_6 (tgt := 23) rfl (fun hc => ?_) (fun hc => ?_)
    · skip
      have hc : n < (d * d) := (nI_ltI (by omega) (by omega)).mp hc
      refine lv_iconst (v := nI 1) hx hb dF_isPrime_23 (by decide +kernel) ?_
      have hpr : pr n := ⟨h2, fun d' h1 h3 => by
          by_cases hlt : d' < d
          · exact hno d' h1 hlt
          · have := Nat.mul_le_mul (show d ≤ d' by omega) (show d ≤ d' by omega)
            omega⟩
      exact ct_zret X hst (by omega) ⟨1, rfl, by omega, iff_of_true rfl hpr, rfl⟩ (by omega) (by omega) dF_isPrime_24
    · skip
      have hc : ¬ n < (d * d) := fun z => hc ((nI_ltI (by omega) (by omega)).mpr z)
      have hd3 : d < 216 := by
        apply Classical.byContradiction
        intro hh
        have := Nat.mul_le_mul (show 216 ≤ d by omega) (show 216 ≤ d by omega)
        omega
      refine lv_iload_n hx hb dF_isPrime_9 rfl (lv_at hl 0 rfl) ?_
      refine lv_iload_n hx hb dF_isPrime_10 rfl (lv_at hl 1 rfl) ?_
      have hmod := Nat.mod_lt n (show 0 < d from (by omega))
      refine t_irem hx hb dF_isPrime_11 (nI_ne0 (by omega) (by omega)) (v := nI (n % d)) (pk_rem (by omega) (by omega) (by omega)) ?_
      refine lv_if_ne hx hb dF_isPrime_12 (tgt := 17) rfl (fun hc => ?_) (fun hc => ?_)
      · skip
        rw [← nI_0] at hc
        have hc2 : ¬ (n % d) = 0 := fun z => hc ((nI_eq (by omega) (by omega)).mpr z)
        refine lv_iinc (lv' := [(1, .int (nI (d + 1))), (0, .int (nI n))]) hx hb dF_isPrime_17 hl (k := 1) rfl (ii_p _) (by decide) rfl (fun ls hl => ?_)
        refine lv_goto hx hb dF_isPrime_20 (tgt := 2) rfl ?_
        exact ih _ (by omega) (d + 1) _ _ _ rfl (by omega) (by omega) (fun d' h1 h3 => by
            by_cases he : d' = d
            · subst he; exact hc2
            · exact hno d' h1 (by omega)) hst (lv_sub hl [1, 0] rfl)
      · skip
        rw [← nI_0] at hc
        have hc2 : (n % d) = 0 := (nI_eq (by omega) (by omega)).mp hc
        refine lv_iconst (v := nI 0) hx hb dF_isPrime_15 (by decide +kernel) ?_
        exact ct_zret X hst (by omega) ⟨0, rfl, by omega, iff_of_false (by decide) (fun hpr => hpr.2 d hd1 (by omega) hc2), rfl⟩ (by omega) (by omega) dF_isPrime_16
  exact LP _ 2 _ _ _ rfl (by omega) (by omega) (fun d' h1 h3 => by omega) hst (lv_sub hl [1, 0] rfl)

set_option maxHeartbeats 4000000 in
set_option maxRecDepth 100000 in
theorem c_Jm_floorMod (l : Launch) (D : va_G) (Y : Nat → ClassId) (lo : Nat) {M : Hm} {p : Nat} (x : Int32) (hp2 : 2 ≤ p) (hp3 : p ≤ 46337) : ct l D Y lo y_Jm_floorMod b_Jm_floorMod 3 (some .int) 0 [.int x, .int (nI p)] M (fun r M' => r = some (.int (nI (rd p x.toInt))) ∧ M = M') nx 0 0 := by
  refine ct_ofF (by decide +kernel) (Nat.le_of_ble_eq_true rfl) ?_
  intro pg eg sg mg bw mt cg ls X hst hl
  have X1 := X
  obtain ⟨hx, hb, hml, hrt, hlocks, hown, hnm, hts, hkz, hex⟩ := X1
  have hG : ∀ w ∈ GW, w.before _ sg = true := fun w h => hts w (List.mem_cons_of_mem _ h)
  have hK := hkz.1
  have hl : lv_has ls 3 [(0, .int x), (1, .int (nI p))] := hl
  refine lv_iload_n hx hb dJm_floorMod_0 rfl (lv_at hl 0 rfl) ?_
  refine lv_iload_n hx hb dJm_floorMod_1 rfl (lv_at hl 1 rfl) ?_
  refine lv_irem hx hb dJm_floorMod_2 (nI_ne0 (by omega) (by omega)) ?_
  have hr := rem32 x (p := p) (by omega) (by omega)
  obtain ⟨t1, t2, t3, t4⟩ := tm_abs (p := p) (by omega) x.toInt
  obtain ⟨u1, u2⟩ := rd_tm (p := p) (by omega) x.toInt
  have hlt := rd_lt (p := p) (by omega) x.toInt
  generalize x - x / nI p * nI p = q at hr ⊢
  refine lv_istore_n (lv' := [(2, .int q), (0, .int x), (1, .int (nI p))]) hx hb dJm_floorMod_3 rfl hl (by decide) rfl (fun ls hl => ?_)
  refine lv_iload_n hx hb dJm_floorMod_4 rfl (lv_at hl 1 rfl) ?_
  refine lv_iload_n hx hb dJm_floorMod_5 rfl (lv_at hl 2 rfl) ?_
  refine lv_ixor hx hb dJm_floorMod_6 ?_
  refine lv_if_ge hx hb dJm_floorMod_7 (tgt := 18) rfl (fun hc => ?_) (fun hc => ?_)
  · skip
    have hge : 0 ≤ x.toInt := by
      have h9 := (neg_xor x (by omega)).mp hc
      rwa [Int32.le_iff_toInt_le, Int32.toInt_zero] at h9
    refine lv_iload_n hx hb dJm_floorMod_18 rfl (lv_at hl 0 rfl) ?_
    exact ct_iret X hst ⟨by rw [i32_of (hr.trans (u1 (Or.inl hge)))], rfl⟩ (by omega) (by omega) dJm_floorMod_19
  · skip
    have hge : ¬ 0 ≤ x.toInt := fun h9 => hc ((neg_xor x (by omega)).mpr (by rw [Int32.le_iff_toInt_le, Int32.toInt_zero]; exact h9))
    refine lv_iload_n hx hb dJm_floorMod_10 rfl (lv_at hl 0 rfl) ?_
    refine lv_if_eq hx hb dJm_floorMod_11 (tgt := 18) rfl (fun hc => ?_) (fun hc => ?_)
    · skip
      have hq : x.toInt.tmod p = 0 := by rw [← hr, hc]; rfl
      refine lv_iload_n hx hb dJm_floorMod_18 rfl (lv_at hl 0 rfl) ?_
      exact ct_iret X hst ⟨by rw [i32_of (hr.trans (u1 (Or.inr hq)))], rfl⟩ (by omega) (by omega) dJm_floorMod_19
    · skip
      have hq : x.toInt.tmod p ≠ 0 := fun h9 => hc (Int32.toInt_inj.mp (by rw [hr, h9]; rfl))
      refine lv_iload_n hx hb dJm_floorMod_14 rfl (lv_at hl 0 rfl) ?_
      refine lv_iload_n hx hb dJm_floorMod_15 rfl (lv_at hl 2 rfl) ?_
      refine t_iadd hx hb dJm_floorMod_16 (v := q + (nI p)) rfl ?_
      exact ct_iret X hst ⟨by
        refine congrArg (fun v => some (Value.int v)) (i32_of ?_)
        rw [Int32.toInt_add, hr, nI_toInt (by omega), u2 ⟨by omega, hq⟩]
        exact Int.bmod_eq_of_le (by omega) (by omega), rfl⟩ (by omega) (by omega) dJm_floorMod_17

set_option maxHeartbeats 4000000 in
set_option maxRecDepth 100000 in
theorem c_F_reduced (l : Launch) (D : va_G) (Y : Nat → ClassId) (lo : Nat) {M : Hm} {fa p : Nat} (x : Int32) (hf : fd M fa p) : ct l D Y lo y_F_reduced b_F_reduced 2 (some .int) 1 [.ref fa, .int x] M (fun r M' => r = some (.int (nI (rd p x.toInt))) ∧ M = M') nx 0 0 := by
  refine ct_of (by decide) (Nat.le_of_ble_eq_true rfl) ?_
  intro pg eg sg mg bw mt cg ls X hst hl
  have X1 := X
  obtain ⟨hx, hb, hml, hrt, hlocks, hown, hnm, hts, hkz, hex⟩ := X1
  have hG : ∀ w ∈ GW, w.before _ sg = true := fun w h => hts w (List.mem_cons_of_mem _ h)
  have hK := hkz.1
  have hl : lv_has ls 2 [(0, .ref fa), (1, .int x)] := hl
  obtain ⟨h0, hp2, hp3⟩ := hf
  refine lv_iload_n hx hb dF_reduced_0 rfl (lv_at hl 1 rfl) ?_
  refine lv_aload_n hx hb dF_reduced_1 rfl (lv_at hl 0 rfl) ?_
  refine hp_get hx hb hG in_F hown hK hst h0 rfl 0 (by decide) (hG _ fl_F_13) rfl rfl dF_reduced_2 ?_
  refine ct_callS (av2 := [.int x, .int (nI p)]) (rest := []) X hst (c_Jm_floorMod l D Y lo x hp2 hp3) wc_Jm_floorMod ml_F_28 ws_Jm_floorMod wn_Jm md_Jm_floorMod (by decide) hl.1 rfl (Nat.le_of_ble_eq_true rfl) ⟨by omega, by omega⟩ (fun _ _ h => h.elim) dF_reduced_5 (fun r M' H locs hp hst => ?_)
  obtain ⟨rfl, rfl⟩ := hp
  exact ct_iret X hst ⟨rfl, rfl⟩ (by omega) (by omega) dF_reduced_8

/-- p is the least prime from x on, or the greatest one allowed -/
def lpr (x : Int32) (p : Nat) : Prop := pr p ∧ p ≤ 46337 ∧ (x.toInt ≤ p ∨ p = 46337) ∧ ∀ q, pr q → q < p → (q : Int) < x.toInt
theorem lpr_eq {x : Int32} {p q : Nat} (h : lpr x p) (h' : lpr x q) : p = q := by
  obtain ⟨a1, a2, a3, a4⟩ := h
  obtain ⟨b1, b2, b3, b4⟩ := h'
  rcases Nat.lt_trichotomy p q with hl | hl | hl
  · have := b4 p a1 hl; omega
  · exact hl
  · have := a4 q b1 hl; omega

set_option maxHeartbeats 4000000 in
set_option maxRecDepth 100000 in
theorem c_F_leastPrime (l : Launch) (D : va_G) (Y : Nat → ClassId) (lo : Nat) {M : Hm} (x : Int32) : ct l D Y lo y_F_leastPrime b_F_leastPrime 2 (some .int) 1 [.int x] M (fun r M' => ∃ p : Nat, r = some (.int (nI p)) ∧ lpr x p ∧ M = M') nx 0 0 := by
  refine ct_of (by decide) (Nat.le_of_ble_eq_true rfl) ?_
  intro pg eg sg mg bw mt cg ls X hst hl
  have X1 := X
  obtain ⟨hx, hb, hml, hrt, hlocks, hown, hnm, hts, hkz, hex⟩ := X1
  have hG : ∀ w ∈ GW, w.before _ sg = true := fun w h => hts w (List.mem_cons_of_mem _ h)
  have hK := hkz.1
  have hl : lv_has ls 2 [(0, .int x)] := hl
  refine lv_iload_n hx hb dF_leastPrime_0 rfl (lv_at hl 0 rfl) ?_
  refine lv_iconst (v := nI 2) hx hb dF_leastPrime_1 (by decide +kernel) ?_
  refine va_mmax hx hb (by rw [hml]; exact hl.1.symm) hown (hG _ ml_F_17) (hG _ ws_Jm_max) (hG _ wn_Jm) (hG _ wc_Jm_max) (Nat.le_of_ble_eq_true rfl) (Nat.le_of_ble_eq_true rfl) (by show _ ≤ _; omega) (by show _ ≤ _; omega) dF_leastPrime_2 ?_
  obtain ⟨n0, hn0, hn1, hn2, hn3⟩ : ∃ n0 : Nat, (if x < nI 2 then nI 2 else x) = nI n0 ∧ 2 ≤ n0 ∧ n0 < 2 ^ 31 ∧ (x.toInt ≤ n0 ∧ (n0 = 2 ∨ (n0 : Int) = x.toInt)) := by
    have h2 : (nI 2).toInt = 2 := nI_toInt (by omega)
    by_cases hx2 : x < nI 2
    · rw [if_pos hx2]
      rw [Int32.lt_iff_toInt_lt, h2] at hx2
      exact ⟨2, rfl, by omega, by omega, by omega, Or.inl rfl⟩
    · rw [if_neg hx2]
      rw [Int32.lt_iff_toInt_lt, h2] at hx2
      have hb2 := Int32.toInt_lt x
      exact ⟨x.toInt.toNat, i32_of (by omega), by omega, by omega, by omega, Or.inr (by omega)⟩
  rw [hn0]
  refine lv_istore_n (lv' := [(1, .int (nI n0)), (0, .int x)]) hx hb dF_leastPrime_5 rfl hl (by decide) rfl (fun ls hl => ?_)
  have LP : ∀ (kk : Nat) (n : Nat) (H : Heap) (locs : List Loc) (ls : Array Slot), kk = 2 ^ 31 - n → (2 ≤ n) → (n < 2 ^ 31) → (x.toInt ≤ n) → (∀ q, pr q → q < n → (q : Int) < x.toInt) → hp_st D vC lo M sg.heap H locs → lv_has ls 2 [(0, .int x), (1, .int (nI n))] → cW pg l eg sg mg [.int x] bw mt cg y_F_leastPrime b_F_leastPrime 2 (some .int) 1 D lo (fun r M' => ∃ p : Nat, r = some (.int (nI p)) ∧ lpr x p ∧ M = M') nx 0 0 H locs 0 0 (F0 mg 6 ls []) := by
    intro kk
    induction kk using Nat.strongRecOn with
    | _ kk ih =>
    intro n H locs ls hkk h1 h3 h4 hno hst hl
    refine lv_iload_n hx hb dF_leastPrime_6 rfl (lv_at hl 1 rfl) ?_
    refine lv_ldc (v := nI 46337) hx hb hown (hG _ kc_F_23) dF_leastPrime_7 ?_
    refine lv_icmp_ge hx hb dF_leastPrime_9 (tgt := 27) rfl (fun hc => ?_) (fun hc => ?_)
    · skip
      have hc : 46337 ≤ n := (nI_leI (by omega) (by omega)).mp hc
      refine lv_ldc (v := nI 46337) hx hb hown (hG _ kc_F_23) dF_leastPrime_27 ?_
      exact ct_iret X hst ⟨46337, rfl, ⟨pr_big, by omega, Or.inr rfl, fun q hq hlt => hno q hq (by omega)⟩, rfl⟩ (by omega) (by omega) dF_leastPrime_29
    · skip
      have hc : ¬ 46337 ≤ n := fun z => hc ((nI_leI (by omega) (by omega)).mpr z)
      refine lv_iload_n hx hb dF_leastPrime_12 rfl (lv_at hl 1 rfl) ?_
      refine ct_callS (av2 := [.int (nI n)]) (rest := []) X hst (c_F_isPrime l D Y lo (n := n) (by omega) (by omega)) wc_F_isPrime ml_F_24 ws_F_isPrime wn_F md_F_isPrime (by decide) hl.1 rfl (Nat.le_of_ble_eq_true rfl) ⟨by omega, by omega⟩ (fun _ _ h => h.elim) dF_leastPrime_13 (fun r M' H locs hp hst => ?_)
      obtain ⟨b, rfl, hb1, hb2, rfl⟩ := hp
      refine lv_if_eq hx hb dF_leastPrime_16 (tgt := 21) rfl (fun hc => ?_) (fun hc => ?_)
      · skip
        rw [← nI_0] at hc
        have hcb : b = 0 := (nI_eq (by omega) (by omega)).mp hc
        refine lv_iinc (lv' := [(1, .int (nI (n + 1))), (0, .int x)]) hx hb dF_leastPrime_21 hl (k := 1) rfl (ii_p _) (by decide) rfl (fun ls hl => ?_)
        refine lv_goto hx hb dF_leastPrime_24 (tgt := 6) rfl ?_
        exact ih _ (by omega) (n + 1) _ _ _ rfl (by omega) (by omega) (by omega) (fun q hq hlt => by
            by_cases he : q = n
            · subst he
              have := hb2.mpr hq
              omega
            · exact hno q hq (by omega)) hst (lv_sub hl [1, 0] rfl)
      · skip
        rw [← nI_0] at hc
        have hcb : ¬ b = 0 := fun z => hc ((nI_eq (by omega) (by omega)).mpr z)
        refine lv_iload_n hx hb dF_leastPrime_19 rfl (lv_at hl 1 rfl) ?_
        exact ct_iret X hst ⟨n, rfl, ⟨hb2.mp (by omega), by omega, Or.inl (by omega), fun q hq hlt => hno q hq hlt⟩, rfl⟩ (by omega) (by omega) dF_leastPrime_20
  exact LP _ n0 _ _ _ rfl hn1 hn2 hn3.1 (fun q hq hlt => by
    have := hq.1
    omega) hst (lv_sub hl [1, 0] rfl)

set_option maxHeartbeats 4000000 in
set_option maxRecDepth 100000 in
theorem c_F_init (l : Launch) (D : va_G) (Y : Nat → ClassId) (lo : Nat) {M : Hm} {fa : Nat} (x : Int32) (h0 : M fa = some ((1, 0), .inr (0, [.int (nI 0)]))) : ct l D Y lo y_F_init b_F_init 2 none 2 [.ref fa, .int x] M (fun r M' => ∃ p : Nat, r = none ∧ lpr x p ∧ fd M' fa p ∧ hp_off (fun i => i = 1) M M') nx 0 0 := by
  refine ct_of (by decide) (Nat.le_of_ble_eq_true rfl) ?_
  intro pg eg sg mg bw mt cg ls X hst hl
  have X1 := X
  obtain ⟨hx, hb, hml, hrt, hlocks, hown, hnm, hts, hkz, hex⟩ := X1
  have hG : ∀ w ∈ GW, w.before _ sg = true := fun w h => hts w (List.mem_cons_of_mem _ h)
  have hK := hkz.1
  have hl : lv_has ls 2 [(0, .ref fa), (1, .int x)] := hl
  have hin : mt.name = "<init>" := hnm
  refine lv_aload_n hx hb dF_init_0 rfl (lv_at hl 0 rfl) ?_
  refine W.objInit hx hb hown (hG _ ml_F_1) (hG _ wi_Jo_init) (hG _ wc_Jo_init) rfl (by rw [hml]; exact hl.1) rfl dF_init_1 (Nat.le_of_ble_eq_true rfl) (Nat.le_of_ble_eq_true rfl) ?_
  refine W.eq (g2 := F0 mg 4 ls []) rfl ?_
  refine lv_aload_n hx hb dF_init_4 rfl (lv_at hl 0 rfl) ?_
  refine lv_iload_n hx hb dF_init_5 rfl (lv_at hl 1 rfl) ?_
  refine ct_callS (av2 := [.int x]) (rest := [.ref fa]) X hst (c_F_leastPrime l D Y lo x) wc_F_leastPrime ml_F_7 ws_F_leastPrime wn_F md_F_leastPrime (by decide) hl.1 rfl (Nat.le_of_ble_eq_true rfl) ⟨by omega, by omega⟩ (fun _ _ h => h.elim) dF_init_6 (fun r M' H locs hp hst => ?_)
  obtain ⟨p, rfl, hlp, rfl⟩ := hp
  refine hp_putF hx hb hG in_F ty_F tyok_F nm_F hown hK hst h0 rfl 0 (by decide) (hG _ fl_F_13) rfl rfl hin rfl rfl rfl (Nat.le_of_ble_eq_true rfl) dF_init_9 (fs' := [.int (nI p)]) rfl (fun H locs hst => ?_)
  generalize hM2 : hp_up M fa ((1, 0), .inr (0, [.int (nI p)])) = M1 at hst
  have f3 : M1 fa = some ((1, 0), .inr (0, [.int (nI p)])) := by rw [← hM2]; exact hp_up_self _ _ _
  have o4 : hp_off (fun i => i = 1) M M1 := by rw [← hM2]; exact hp_off.up h0 rfl
  exact ct_vret X hst ⟨p, rfl, hlp, ⟨f3, hlp.1.1, hlp.2.1⟩, o4⟩ (by omega) (by omega) dF_init_12

theorem inv_odd {p r s e : Nat} (h : e % 2 = 1) : (r * s % p * (s * s % p) ^ (e / 2)) % p = (r * s ^ e) % p := by
  have h1 : (s * s % p) ^ (e / 2) % p = (s * s) ^ (e / 2) % p := (Nat.pow_mod (s * s) (e / 2) p).symm
  rw [Nat.mul_mod, h1, Nat.mod_mod, ← Nat.mul_mod]
  have h2 : s ^ e = s * (s * s) ^ (e / 2) := by
    have h3 : e = 2 * (e / 2) + 1 := by omega
    have h4 : s * s = s ^ 2 := (Nat.pow_two s).symm
    rw [h4, ← Nat.pow_mul, ← Nat.pow_succ']
    exact congrArg _ h3
  rw [h2, Nat.mul_assoc]
theorem inv_even {p r s e : Nat} (h : e % 2 = 0) : (r * (s * s % p) ^ (e / 2)) % p = (r * s ^ e) % p := by
  have h1 : (s * s % p) ^ (e / 2) % p = (s * s) ^ (e / 2) % p := (Nat.pow_mod (s * s) (e / 2) p).symm
  rw [Nat.mul_mod, h1, ← Nat.mul_mod]
  have h2 : s ^ e = (s * s) ^ (e / 2) := by
    have h3 : e = 2 * (e / 2) := by omega
    have h4 : s * s = s ^ 2 := (Nat.pow_two s).symm
    rw [h4, ← Nat.pow_mul]
    exact congrArg _ h3
  rw [h2]

set_option maxHeartbeats 4000000 in
set_option maxRecDepth 100000 in
theorem c_F_inverse (l : Launch) (D : va_G) (Y : Nat → ClassId) (lo : Nat) {M : Hm} {fa p x : Nat} (hf : fd M fa p) (hxp : x < p) : ct l D Y lo y_F_inverse b_F_inverse 5 (some .int) 1 [.ref fa, .int (nI x)] M (fun r M' => r = some (.int (nI (x ^ (p - 2) % p))) ∧ M = M') nx 0 0 := by
  refine ct_of (by decide) (Nat.le_of_ble_eq_true rfl) ?_
  intro pg eg sg mg bw mt cg ls X hst hl
  have X1 := X
  obtain ⟨hx, hb, hml, hrt, hlocks, hown, hnm, hts, hkz, hex⟩ := X1
  have hG : ∀ w ∈ GW, w.before _ sg = true := fun w h => hts w (List.mem_cons_of_mem _ h)
  have hK := hkz.1
  have hl : lv_has ls 5 [(0, .ref fa), (1, .int (nI x))] := hl
  have hf0 := hf
  obtain ⟨h0, hp2, hp3⟩ := hf
  refine lv_iconst (v := nI 1) hx hb dF_inverse_0 (by decide +kernel) ?_
  refine lv_istore_n (lv' := [(2, .int (nI 1)), (0, .ref fa), (1, .int (nI x))]) hx hb dF_inverse_1 rfl hl (by decide) rfl (fun ls hl => ?_)
  refine lv_iload_n hx hb dF_inverse_2 rfl (lv_at hl 2 rfl) ?_
  refine lv_istore_n (lv' := [(3, .int (nI x)), (2, .int (nI 1)), (0, .ref fa), (1, .int (nI x))]) hx hb dF_inverse_3 rfl hl (by decide) rfl (fun ls hl => ?_)
  refine lv_aload_n hx hb dF_inverse_4 rfl (lv_at hl 2 rfl) ?_
  refine hp_get hx hb hG in_F hown hK hst h0 rfl 0 (by decide) (hG _ fl_F_13) rfl rfl dF_inverse_5 ?_
  refine lv_iconst (v := nI 2) hx hb dF_inverse_8 (by decide +kernel) ?_
  refine t_isub hx hb dF_inverse_9 (v := nI (p - 2)) (pk_sub (by omega)) ?_
  refine lv_istore (lv' := [(4, .int (nI (p - 2))), (3, .int (nI x)), (2, .int (nI 1)), (0, .ref fa), (1, .int (nI x))]) hx hb dF_inverse_10 hl (by decide) rfl (fun ls hl => ?_)
  have LP : ∀ (kk : Nat) (r sq ex : Nat) (H : Heap) (locs : List Loc) (ls : Array Slot), kk = ex → (r < p) → (sq < p) → (ex ≤ p) → (r * sq ^ ex % p = x ^ (p - 2) % p) → hp_st D vC lo M sg.heap H locs → lv_has ls 5 [(0, .ref fa), (1, .int (nI x)), (2, .int (nI r)), (3, .int (nI sq)), (4, .int (nI ex))] → cW pg l eg sg mg [.ref fa, .int (nI x)] bw mt cg y_F_inverse b_F_inverse 5 (some .int) 1 D lo (fun r M' => r = some (.int (nI (x ^ (p - 2) % p))) ∧ M = M') nx 0 0 H locs 0 0 (F0 mg 12 ls []) := by
    intro kk
    induction kk using Nat.strongRecOn with
    | _ kk ih =>
    intro r sq ex H locs ls hkk hr hsq hex hinv hst hl
    refine lv_iload hx hb dF_inverse_12 (lv_at hl 4 rfl) ?_
    refine lv_if_le hx hb dF_inverse_14 (tgt := 47) rfl (fun hc => ?_) (fun hc => ?_)
    · skip
      rw [← nI_0] at hc
      have hc : ex ≤ 0 := (nI_leI (by omega) (by omega)).mp hc
      have h9 : ex = 0 := by omega
      subst h9
      rw [Nat.pow_zero, Nat.mul_one, Nat.mod_eq_of_lt hr] at hinv
      refine lv_iload_n hx hb dF_inverse_47 rfl (lv_at hl 2 rfl) ?_
      exact ct_iret X hst ⟨by rw [hinv], rfl⟩ (by omega) (by omega) dF_inverse_48
    · skip
      rw [← nI_0] at hc
      have hc : ¬ ex ≤ 0 := fun z => hc ((nI_leI (by omega) (by omega)).mpr z)
      refine lv_iload hx hb dF_inverse_17 (lv_at hl 4 rfl) ?_
      refine lv_iconst (v := nI 1) hx hb dF_inverse_19 (by decide +kernel) ?_
      refine lv_iand hx hb dF_inverse_20 ?_
      refine tp_i (e2 := nI (ex &&& 1)) (bt_and _ _) ?_
      refine tp_n (e2 := ex % 2) (and_1 ex) ?_
      refine lv_if_eq hx hb dF_inverse_21 (tgt := 31) rfl (fun hc => ?_) (fun hc => ?_)
      · skip
        rw [← nI_0] at hc
        have hc2 : (ex % 2) = 0 := (nI_eq (by omega) (by omega)).mp hc
        refine lv_aload_n hx hb dF_inverse_31 rfl (lv_at hl 0 rfl) ?_
        refine lv_iload_n hx hb dF_inverse_32 rfl (lv_at hl 3 rfl) ?_
        refine lv_iload_n hx hb dF_inverse_33 rfl (lv_at hl 3 rfl) ?_
        refine ct_callV (av2 := [.int (nI sq), .int (nI sq)]) (rest := []) (b := fa) X hst (c_F_product l D Y lo hf0 hsq hsq) h0 rfl wc_F_product ml_F_31 wi_F_product wl_F_product wn_F md_F_product (by decide) hl.1 rfl (Nat.le_of_ble_eq_true rfl) ⟨by omega, by omega⟩ (fun _ _ h => h.elim) dF_inverse_34 (fun r M' H locs hp hst => ?_)
        obtain ⟨rfl, rfl⟩ := hp
        refine lv_istore_n (lv' := [(3, .int (nI (sq * sq % p))), (0, .ref fa), (1, .int (nI x)), (2, .int (nI r)), (4, .int (nI ex))]) hx hb dF_inverse_37 rfl hl (by decide) rfl (fun ls hl => ?_)
        refine lv_iload hx hb dF_inverse_38 (lv_at hl 4 rfl) ?_
        refine lv_iconst (v := nI 1) hx hb dF_inverse_40 (by decide +kernel) ?_
        refine lv_ishr hx hb dF_inverse_41 ?_
        refine tp_i (e2 := nI (ex / 2)) (sh_r (by omega) (by omega)) ?_
        refine lv_istore (lv' := [(4, .int (nI (ex / 2))), (3, .int (nI (sq * sq % p))), (0, .ref fa), (1, .int (nI x)), (2, .int (nI r))]) hx hb dF_inverse_42 hl (by decide) rfl (fun ls hl => ?_)
        refine lv_goto hx hb dF_inverse_44 (tgt := 12) rfl ?_
        exact ih _ (by omega) r (sq * sq % p) (ex / 2) _ _ _ rfl hr (Nat.mod_lt _ (by omega)) (by omega) (by rw [inv_even hc2]; exact hinv) hst (lv_sub hl [2, 3, 4, 1, 0] rfl)
      · skip
        rw [← nI_0] at hc
        have hc2 : ¬ (ex % 2) = 0 := fun z => hc ((nI_eq (by omega) (by omega)).mpr z)
        refine lv_aload_n hx hb dF_inverse_24 rfl (lv_at hl 0 rfl) ?_
        refine lv_iload_n hx hb dF_inverse_25 rfl (lv_at hl 2 rfl) ?_
        refine lv_iload_n hx hb dF_inverse_26 rfl (lv_at hl 3 rfl) ?_
        refine ct_callV (av2 := [.int (nI r), .int (nI sq)]) (rest := []) (b := fa) X hst (c_F_product l D Y lo hf0 hr hsq) h0 rfl wc_F_product ml_F_31 wi_F_product wl_F_product wn_F md_F_product (by decide) hl.1 rfl (Nat.le_of_ble_eq_true rfl) ⟨by omega, by omega⟩ (fun _ _ h => h.elim) dF_inverse_27 (fun r M' H locs hp hst => ?_)
        obtain ⟨rfl, rfl⟩ := hp
        refine lv_istore_n (lv' := [(2, .int (nI (r * sq % p))), (0, .ref fa), (1, .int (nI x)), (3, .int (nI sq)), (4, .int (nI ex))]) hx hb dF_inverse_30 rfl hl (by decide) rfl (fun ls hl => ?_)
        refine lv_aload_n hx hb dF_inverse_31 rfl (lv_at hl 1 rfl) ?_
        refine lv_iload_n hx hb dF_inverse_32 rfl (lv_at hl 3 rfl) ?_
        refine lv_iload_n hx hb dF_inverse_33 rfl (lv_at hl 3 rfl) ?_
        refine ct_callV (av2 := [.int (nI sq), .int (nI sq)]) (rest := []) (b := fa) X hst (c_F_product l D Y lo hf0 hsq hsq) h0 rfl wc_F_product ml_F_31 wi_F_product wl_F_product wn_F md_F_product (by decide) hl.1 rfl (Nat.le_of_ble_eq_true rfl) ⟨by omega, by omega⟩ (fun _ _ h => h.elim) dF_inverse_34 (fun r M' H locs hp hst => ?_)
        obtain ⟨rfl, rfl⟩ := hp
        refine lv_istore_n (lv' := [(3, .int (nI (sq * sq % p))), (2, .int (nI (r * sq % p))), (0, .ref fa), (1, .int (nI x)), (4, .int (nI ex))]) hx hb dF_inverse_37 rfl hl (by decide) rfl (fun ls hl => ?_)
        refine lv_iload hx hb dF_inverse_38 (lv_at hl 4 rfl) ?_
        refine lv_iconst (v := nI 1) hx hb dF_inverse_40 (by decide +kernel) ?_
        refine lv_ishr hx hb dF_inverse_41 ?_
        refine tp_i (e2 := nI (ex / 2)) (sh_r (by omega) (by omega)) ?_
        refine lv_istore (lv' := [(4, .int (nI (ex / 2))), (3, .int (nI (sq * sq % p))), (2, .int (nI (r * sq % p))), (0, .ref fa), (1, .int (nI x))]) hx hb dF_inverse_42 hl (by decide) rfl (fun ls hl => ?_)
        refine lv_goto hx hb dF_inverse_44 (tgt := 12) rfl ?_
        exact ih _ (by omega) (r * sq % p) (sq * sq % p) (ex / 2) _ _ _ rfl (Nat.mod_lt _ (by omega)) (Nat.mod_lt _ (by omega)) (by omega) (by rw [inv_odd (by omega)]; exact hinv) hst (lv_sub hl [3, 4, 2, 1, 0] rfl)
  exact LP _ 1 x (p - 2) _ _ _ rfl (by omega) hxp (by omega) (by rw [Nat.one_mul]) hst (lv_sub hl [3, 4, 2, 1, 0] rfl)
