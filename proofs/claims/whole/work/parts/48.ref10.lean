/-! The reference: isPrime, a new object. -/
set_option maxHeartbeats 4000000 in
set_option maxRecDepth 100000 in
theorem c_R_isPrime (l : Launch) (D : va_G) (Y : Nat → ClassId) (lo : Nat) {M : Hm} {n : Nat} (h2 : 2 ≤ n) (hn : n ≤ 46337) : ct l D Y lo y_R_isPrime b_R_isPrime 3 (some .boolean) 0 [.int (nI n)] M (fun r M' => ∃ b : Nat, r = some (.int (nI b)) ∧ b ≤ 1 ∧ (b = 1 ↔ pr n) ∧ M = M') nx 0 0 := by
  refine ct_of (by decide) (Nat.le_of_ble_eq_true rfl) ?_
  intro pg eg sg mg bw mt cg ls X hst hl
  have X1 := X
  obtain ⟨hx, hb, hml, hrt, hlocks, hown, hnm, hts, hkz, hex⟩ := X1
  have hG : ∀ w ∈ GW, w.before _ sg = true := fun w h => hts w (List.mem_cons_of_mem _ h)
  have hK := hkz.1
  have hl : lv_has ls 3 [(0, .int (nI n))] := hl
  refine lv_iconst (v := nI 1) hx hb dR_isPrime_0 (by decide +kernel) ?_
  refine lv_istore_n (lv' := [(1, .int (nI 1)), (0, .int (nI n))]) hx hb dR_isPrime_1 rfl hl (by decide) rfl (fun ls hl => ?_)
  refine lv_iconst (v := nI 2) hx hb dR_isPrime_2 (by decide +kernel) ?_
  refine lv_istore_n (lv' := [(2, .int (nI 2)), (1, .int (nI 1)), (0, .int (nI n))]) hx hb dR_isPrime_3 rfl hl (by decide) rfl (fun ls hl => ?_)
  have LP : ∀ (kk : Nat) (b d : Nat) (H : Heap) (locs : List Loc) (ls : Array Slot), kk = 217 - d → (2 ≤ d) → (d ≤ 216) → (b ≤ 1) → (b = 1 ↔ ∀ e, 2 ≤ e → e < d → n % e ≠ 0) → (∀ e, 2 ≤ e → e < d → e * e ≤ n) → hp_st D vC lo M sg.heap H locs → lv_has ls 3 [(0, .int (nI n)), (1, .int (nI b)), (2, .int (nI d))] → cW pg l eg sg mg [.int (nI n)] bw mt cg y_R_isPrime b_R_isPrime 3 (some .boolean) 0 D lo (fun r M' => ∃ b : Nat, r = some (.int (nI b)) ∧ b ≤ 1 ∧ (b = 1 ↔ pr n) ∧ M = M') nx 0 0 H locs 0 0 (F0 mg 4 ls []) := by
    intro kk
    induction kk using Nat.strongRecOn with
    | _ kk ihLP =>
    intro b d H locs ls hkk hd1 hd2 hb1 hb2 hsq hst hl
    have hdd : d * d ≤ 216 * 216 := Nat.mul_le_mul hd2 hd2
    refine lv_iload_n hx hb dR_isPrime_4 rfl (lv_at hl 2 rfl) ?_
    refine lv_iload_n hx hb dR_isPrime_5 rfl (lv_at hl 2 rfl) ?_
    refine t_imul hx hb dR_isPrime_6 (v := nI (d * d)) (pk_mul _ _) ?_
    refine lv_iload_n hx hb dR_isPrime_7 rfl (lv_at hl 0 rfl) ?_
    refine lv_icmp_gt hx hb dR_isPrime_8 (tgt := 33) rfl (fun hc => ?_) (fun hc => ?_)
    · skip
      have hc5 : n < (d * d) := (nI_ltI (by omega) (by omega)).mp hc
      refine lv_iload_n hx hb dR_isPrime_33 rfl (lv_at hl 1 rfl) ?_
      exact ct_zret X hst (by omega) ⟨b, rfl, hb1, ⟨fun z => ⟨h2, fun e h1 h3 => hb2.mp z e h1 (by
        apply Classical.byContradiction
        intro hh
        have := Nat.mul_le_mul (show d ≤ e by omega) (show d ≤ e by omega)
        omega)⟩, fun hpr => hb2.mpr (fun e h1 h3 => hpr.2 e h1 (hsq e h1 h3))⟩, rfl⟩ (by omega) (by omega) dR_isPrime_34
    · skip
      have hc5 : ¬ n < (d * d) := fun z => hc ((nI_ltI (by omega) (by omega)).mpr z)
      have hd3 : d < 216 := by
        apply Classical.byContradiction
        intro hh
        have := Nat.mul_le_mul (show 216 ≤ d by omega) (show 216 ≤ d by omega)
        omega
      have hsq2 : ∀ e, 2 ≤ e → e < d + 1 → e * e ≤ n := fun e h1 h3 => by
        by_cases he : e = d
        · subst he; omega
        · exact hsq e h1 (by omega)
      refine lv_iload_n hx hb dR_isPrime_11 rfl (lv_at hl 1 rfl) ?_
      refine lv_if_eq hx hb dR_isPrime_12 (tgt := 25) rfl (fun hc => ?_) (fun hc => ?_)
      · skip
        rw [← nI_0] at hc
        have hcz : b = 0 := (nI_eq (by omega) (by omega)).mp hc
        refine lv_iconst (v := nI 0) hx hb dR_isPrime_25 (by decide +kernel) ?_
        refine lv_istore_n (lv' := [(1, .int (nI 0)), (0, .int (nI n)), (2, .int (nI d))]) hx hb dR_isPrime_26 rfl hl (by decide) rfl (fun ls hl => ?_)
        refine lv_iinc (lv' := [(2, .int (nI (d + 1))), (1, .int (nI 0)), (0, .int (nI n))]) hx hb dR_isPrime_27 hl (k := 2) rfl (ii_p _) (by decide) rfl (fun ls hl => ?_)
        refine lv_goto hx hb dR_isPrime_30 (tgt := 4) rfl ?_
        exact ihLP _ (by omega) 0 (d + 1) _ _ _ rfl (by omega) (by omega) (by omega) ⟨fun z => by omega, fun z => absurd (hb2.mpr (fun e h1 h3 => z e h1 (by omega))) (by omega)⟩ hsq2 hst (lv_sub hl [2, 1, 0] rfl)
      · skip
        rw [← nI_0] at hc
        have hcz : ¬ b = 0 := fun z => hc ((nI_eq (by omega) (by omega)).mpr z)
        refine lv_iload_n hx hb dR_isPrime_15 rfl (lv_at hl 0 rfl) ?_
        refine lv_iload_n hx hb dR_isPrime_16 rfl (lv_at hl 2 rfl) ?_
        have hmod := Nat.mod_lt n (show 0 < d from (by omega))
        refine t_irem hx hb dR_isPrime_17 (nI_ne0 (by omega) (by omega)) (v := nI (n % d)) (pk_rem (by omega) (by omega) (by omega)) ?_
        refine lv_if_le hx hb dR_isPrime_18 (tgt := 25) rfl (fun hc => ?_) (fun hc => ?_)
        · skip
          rw [← nI_0] at hc
          have hcm : (n % d) ≤ 0 := (nI_leI (by omega) (by omega)).mp hc
          refine lv_iconst (v := nI 0) hx hb dR_isPrime_25 (by decide +kernel) ?_
          refine lv_istore_n (lv' := [(1, .int (nI 0)), (0, .int (nI n)), (2, .int (nI d))]) hx hb dR_isPrime_26 rfl hl (by decide) rfl (fun ls hl => ?_)
          refine lv_iinc (lv' := [(2, .int (nI (d + 1))), (1, .int (nI 0)), (0, .int (nI n))]) hx hb dR_isPrime_27 hl (k := 2) rfl (ii_p _) (by decide) rfl (fun ls hl => ?_)
          refine lv_goto hx hb dR_isPrime_30 (tgt := 4) rfl ?_
          exact ihLP _ (by omega) 0 (d + 1) _ _ _ rfl (by omega) (by omega) (by omega) ⟨fun z => by omega, fun z => absurd (show n % d = 0 by omega) (z d hd1 (by omega))⟩ hsq2 hst (lv_sub hl [2, 1, 0] rfl)
        · skip
          rw [← nI_0] at hc
          have hcm : ¬ (n % d) ≤ 0 := fun z => hc ((nI_leI (by omega) (by omega)).mpr z)
          refine lv_iconst (v := nI 1) hx hb dR_isPrime_21 (by decide +kernel) ?_
          refine lv_goto hx hb dR_isPrime_22 (tgt := 26) rfl ?_
          refine lv_istore_n (lv' := [(1, .int (nI 1)), (0, .int (nI n)), (2, .int (nI d))]) hx hb dR_isPrime_26 rfl hl (by decide) rfl (fun ls hl => ?_)
          refine lv_iinc (lv' := [(2, .int (nI (d + 1))), (1, .int (nI 1)), (0, .int (nI n))]) hx hb dR_isPrime_27 hl (k := 2) rfl (ii_p _) (by decide) rfl (fun ls hl => ?_)
          refine lv_goto hx hb dR_isPrime_30 (tgt := 4) rfl ?_
          exact ihLP _ (by omega) 1 (d + 1) _ _ _ rfl (by omega) (by omega) (by omega) ⟨fun _ e h1 h3 => by
              by_cases he : e = d
              · subst he; omega
              · exact hb2.mp (by omega) e h1 (by omega), fun _ => rfl⟩ hsq2 hst (lv_sub hl [2, 1, 0] rfl)
  exact LP _ 1 2 _ _ _ rfl (by omega) (by omega) (by omega) ⟨fun _ e h1 h3 => by omega, fun _ => rfl⟩ (fun e h1 h3 => by omega) hst (lv_sub hl [2, 1, 0] rfl)

/-- the reference while it is made -/
def mb (Y : Nat → ClassId) (M : Hm) (ma : Nat) (E : Nat → Nat) (p : Nat) (c1 c2 : Nat → Nat) : Prop :=
  M ma = some ((1000, 0), .inr (5, [.int (nI 0), .int (nI p), .int (nI 0), .ref (E 1), .ref (E 2), .ref (E 3), .ref (E 4), .ref (E 5), .ref (E 6), .ref (E 7), .ref (E 8), .ref (E 9), .ref (E 10), .ref (E 11)])) ∧ M (E 1) = some ((1000, 1), e_n Y 27417 c1) ∧ M (E 2) = some ((1000, 2), e_n Y 50653 c2) ∧ ∀ j, 3 ≤ j → j ≤ 11 → M (E j) = some ((1000, j), e_n Y (ml j) (fun _ => 0))
theorem mb.s1 {Y : Nat → ClassId} {M : Hm} {ma p : Nat} {E : Nat → Nat} {c1 c2 : Nat → Nat} (h : mb Y M ma E p c1 c2) (g : Nat → Nat) : mb Y (hp_up M (E 1) ((1000, 1), e_n Y 27417 g)) ma E p g c2 ∧ hp_off (fun i => i = 1000) M (hp_up M (E 1) ((1000, 1), e_n Y 27417 g)) := by
  obtain ⟨k0, k1, k2, k3⟩ := h
  exact ⟨⟨hp_kt k1 k0 (tg2 (by omega)), hp_up_self _ _ _, hp_kt k1 k2 (tg2 (by omega)), fun i a b => hp_kt k1 (k3 i a b) (tg2 (by omega))⟩, hp_off.up k1 rfl⟩
theorem mb.s2 {Y : Nat → ClassId} {M : Hm} {ma p : Nat} {E : Nat → Nat} {c1 c2 : Nat → Nat} (h : mb Y M ma E p c1 c2) (g : Nat → Nat) : mb Y (hp_up M (E 2) ((1000, 2), e_n Y 50653 g)) ma E p c1 g ∧ hp_off (fun i => i = 1000) M (hp_up M (E 2) ((1000, 2), e_n Y 50653 g)) := by
  obtain ⟨k0, k1, k2, k3⟩ := h
  exact ⟨⟨hp_kt k2 k0 (tg2 (by omega)), hp_kt k2 k1 (tg2 (by omega)), hp_up_self _ _ _, fun i a b => hp_kt k2 (k3 i a b) (tg2 (by omega))⟩, hp_off.up k2 rfl⟩
theorem mb.np {Y : Nat → ClassId} {M : Hm} {ma p : Nat} {E : Nat → Nat} {c1 c2 : Nat → Nat} (h : mb Y M ma E p c1 c2) (p2 : Nat) : mb Y (hp_up M ma ((1000, 0), .inr (5, [.int (nI 0), .int (nI p2), .int (nI 0), .ref (E 1), .ref (E 2), .ref (E 3), .ref (E 4), .ref (E 5), .ref (E 6), .ref (E 7), .ref (E 8), .ref (E 9), .ref (E 10), .ref (E 11)]))) ma E p2 c1 c2 ∧ hp_off (fun i => i = 1000) M (hp_up M ma ((1000, 0), .inr (5, [.int (nI 0), .int (nI p2), .int (nI 0), .ref (E 1), .ref (E 2), .ref (E 3), .ref (E 4), .ref (E 5), .ref (E 6), .ref (E 7), .ref (E 8), .ref (E 9), .ref (E 10), .ref (E 11)]))) := by
  obtain ⟨k0, k1, k2, k3⟩ := h
  exact ⟨⟨hp_up_self _ _ _, hp_kt k0 k1 (tg2 (by omega)), hp_kt k0 k2 (tg2 (by omega)), fun i a b => hp_kt k0 (k3 i a b) (tg2 (by omega))⟩, hp_off.up k0 rfl⟩
/-- the tables' first k places -/
def tb (c1 c2 : Nat → Nat) (k : Nat) : Prop := (∀ i, i < k → ∀ v, v < 3 → c1 (3 * i + v) = xe (pl i) v) ∧ ∀ a b d, a + b + d ≤ 36 → 9138 - rk (mp a b d) < k → c2 ((37 * a + b) * 37 + d) = 9138 - rk (mp a b d)
theorem tb_step {c1 c2 : Nat → Nat} {k a b d : Nat} (h36 : a + b + d ≤ 36) (hk : k = 9138 - rk (mp a b d)) (h : tb c1 c2 k) : tb (va_up (va_up (va_up c1 (3 * k) a) (3 * k + 1) b) (3 * k + 2) d) (va_up c2 ((37 * a + b) * 37 + d) k) (k + 1) := by
  have hm : mv (mp a b d) := mp_mv h36
  have hr := rk_lt hm
  have hpl : pl k = mp a b d := by rw [hk]; exact pl_rk hm
  refine ⟨fun i hi v hv => ?_, fun a2 b2 d2 h2 hlt => ?_⟩
  · by_cases he : i = k
    · subst he
      rw [hpl]
      have hv3 : v = 0 ∨ v = 1 ∨ v = 2 := by omega
      rcases hv3 with rfl | rfl | rfl
      · rw [va_up_ne _ _ (by omega), va_up_ne _ _ (by omega), mp_x0 (by omega)]; exact va_up_self _ _ _
      · rw [va_up_ne _ _ (by omega), mp_x1 (by omega)]; exact va_up_self _ _ _
      · rw [mp_x2 (by omega)]; exact va_up_self _ _ _
    · rw [va_up_ne _ _ (by omega), va_up_ne _ _ (by omega), va_up_ne _ _ (by omega)]
      exact h.1 i (by omega) v hv
  · have hm2 : mv (mp a2 b2 d2) := mp_mv h2
    have hr2 := rk_lt hm2
    by_cases he : rk (mp a2 b2 d2) = rk (mp a b d)
    · obtain ⟨e1, e2, e3⟩ := mp_inj (by omega) (by omega) (rk_inj hm2 hm he)
      rw [e1, e2, e3, va_up_self, hk]
    · rw [va_up_ne _ _ (fun z => he (by
        have e1 : a2 = a := by omega
        have e2 : b2 = b := by omega
        have e3 : d2 = d := by omega
        rw [e1, e2, e3]))]
      exact h.2 a2 b2 d2 h2 (by omega)
def cc (c1 c2 : Nat → Nat) (j : Nat) : Nat → Nat := if j = 1 then c1 else if j = 2 then c2 else fun _ => 0
theorem mb.mo {Y : Nat → ClassId} {M : Hm} {ma p : Nat} {E : Nat → Nat} {c1 c2 : Nat → Nat} (h : mb Y M ma E p c1 c2) (ht : tb c1 c2 9139) (h2 : 2 ≤ p) (h3 : p ≤ 46337) : mo Y M ma E p 0 0 (cc c1 c2) := by
  obtain ⟨k0, k1, k2, k3⟩ := h
  refine ⟨k0, k1, k2, fun j a b => ?_, fun k hk v hv => ht.1 k hk v hv, fun a b d hs => ht.2 a b d hs (by have := rk_lt (mp_mv hs); omega), h2, h3⟩
  have e : cc c1 c2 j = fun _ => 0 := by unfold cc; rw [if_neg (by omega), if_neg (by omega)]
  rw [e]
  exact k3 j a b
theorem T3_s (s : Nat) : T3 (s + 1) = T3 s + R2 s (s + 1) := rfl
theorem R2_s (s a : Nat) : R2 s (a + 1) = R2 s a + (s + 1 - a) := rfl
theorem T3_0 : T3 0 = 0 := rfl
theorem R2_0 (s : Nat) : R2 s 0 = 0 := rfl

set_option maxHeartbeats 4000000 in
set_option maxRecDepth 100000 in
theorem c_R_init (l : Launch) (D : va_G) (Y : Nat → ClassId) (lo : Nat) {M : Hm} {ma : Nat} (x : Int32) (h0 : M ma = some ((1000, 0), .inr (5, [.int (nI 0), .int (nI 0), .int (nI 0), .null, .null, .null, .null, .null, .null, .null, .null, .null, .null, .null]))) : ct l D Y lo y_R_init b_R_init 7 none 1 [.ref ma, .int x] M (fun r9 M' => ∃ (p : Nat) (E : Nat → Nat) (c : Nat → Nat → Nat), r9 = none ∧ lpr x p ∧ mo Y M' ma E p 0 0 c ∧ rr c (fun _ _ => 0) ∧ hp_off (fun i => i = 1000) M M') nx 11 296652 := by
  refine ct_of (by decide) (Nat.le_of_ble_eq_true rfl) ?_
  intro pg eg sg mg bw mt cg ls X hst hl
  have X1 := X
  obtain ⟨hx, hb, hml, hrt, hlocks, hown, hnm, hts, hkz, hex⟩ := X1
  have hG : ∀ w ∈ GW, w.before _ sg = true := fun w h => hts w (List.mem_cons_of_mem _ h)
  have hK := hkz.1
  have hl : lv_has ls 7 [(0, .ref ma), (1, .int x)] := hl
  have hin : mt.name = "<init>" := hnm
  refine lv_aload_n hx hb dR_init_0 rfl (lv_at hl 0 rfl) ?_
  refine W.objInit hx hb hown (hG _ ml_R_1) (hG _ wi_Jo_init) (hG _ wc_Jo_init) rfl (by rw [hml]; exact hl.1) rfl dR_init_1 (Nat.le_of_ble_eq_true rfl) (Nat.le_of_ble_eq_true rfl) ?_
  refine W.eq (g2 := F0 mg 4 ls []) rfl ?_
  refine lv_aload_n hx hb dR_init_4 rfl (lv_at hl 0 rfl) ?_
  refine lv_sipush (v := nI 27417) hx hb dR_init_5 (by decide +kernel) ?_
  refine hp_newi hx hb (hG _ ac_int) hK rfl hst (1000, 1) (N' := 27417) (by omega) (rm_c (by omega)) (rm_s (by omega)) dR_init_8 (fun q1 H hq2 hst => ?_)
  generalize hM4 : hp_up M q1 ((1000, 1), e_n Y 27417 (fun _ => 0)) = M3 at hst
  have f5 : M3 q1 = some ((1000, 1), e_n Y 27417 (fun _ => 0)) := by rw [← hM4]; exact hp_up_self _ _ _
  have f6 : M3 ma = some ((1000, 0), .inr (5, [.int (nI 0), .int (nI 0), .int (nI 0), .null, .null, .null, .null, .null, .null, .null, .null, .null, .null, .null])) := by rw [← hM4]; exact hp_kf hq2 h0
  have o7 : hp_off (fun i => i = 1000) M M3 := by rw [← hM4]; exact hp_off.nw hq2 rfl
  refine hp_putF hx hb hG in_R ty_R tyok_R nm_R hown hK hst f6 rfl 3 (by decide) (hG _ fl_R_7) rfl rfl hin rfl rfl rfl (Nat.le_of_ble_eq_true rfl) dR_init_10 (fs' := [.int (nI 0), .int (nI 0), .int (nI 0), .ref q1, .null, .null, .null, .null, .null, .null, .null, .null, .null, .null]) rfl (fun H locs hst => ?_)
  generalize hM9 : hp_up M3 ma ((1000, 0), .inr (5, [.int (nI 0), .int (nI 0), .int (nI 0), .ref q1, .null, .null, .null, .null, .null, .null, .null, .null, .null, .null])) = M8 at hst
  have f10 : M8 ma = some ((1000, 0), .inr (5, [.int (nI 0), .int (nI 0), .int (nI 0), .ref q1, .null, .null, .null, .null, .null, .null, .null, .null, .null, .null])) := by rw [← hM9]; exact hp_up_self _ _ _
  have f11 : M8 q1 = some ((1000, 1), e_n Y 27417 (fun _ => 0)) := by rw [← hM9]; exact hp_kt f6 f5 (tg2 (by decide))
  have o12 : hp_off (fun i => i = 1000) M M8 := by rw [← hM9]; exact hp_off.tr o7 (hp_off.up f6 rfl)
  refine lv_aload_n hx hb dR_init_13 rfl (lv_at hl 0 rfl) ?_
  refine lv_ldc (v := nI 50653) hx hb hown (hG _ kc_R_13) dR_init_14 ?_
  refine hp_newi hx hb (hG _ ac_int) hK rfl hst (1000, 2) (N' := 50653) (by omega) (rm_c (by omega)) (rm_s (by omega)) dR_init_16 (fun q13 H hq14 hst => ?_)
  generalize hM16 : hp_up M8 q13 ((1000, 2), e_n Y 50653 (fun _ => 0)) = M15 at hst
  have f17 : M15 q13 = some ((1000, 2), e_n Y 50653 (fun _ => 0)) := by rw [← hM16]; exact hp_up_self _ _ _
  have f18 : M15 q1 = some ((1000, 1), e_n Y 27417 (fun _ => 0)) := by rw [← hM16]; exact hp_kf hq14 f11
  have f19 : M15 ma = some ((1000, 0), .inr (5, [.int (nI 0), .int (nI 0), .int (nI 0), .ref q1, .null, .null, .null, .null, .null, .null, .null, .null, .null, .null])) := by rw [← hM16]; exact hp_kf hq14 f10
  have o20 : hp_off (fun i => i = 1000) M M15 := by rw [← hM16]; exact hp_off.tr o12 (hp_off.nw hq14 rfl)
  refine hp_putF hx hb hG in_R ty_R tyok_R nm_R hown hK hst f19 rfl 4 (by decide) (hG _ fl_R_14) rfl rfl hin rfl rfl rfl (Nat.le_of_ble_eq_true rfl) dR_init_18 (fs' := [.int (nI 0), .int (nI 0), .int (nI 0), .ref q1, .ref q13, .null, .null, .null, .null, .null, .null, .null, .null, .null]) rfl (fun H locs hst => ?_)
  generalize hM22 : hp_up M15 ma ((1000, 0), .inr (5, [.int (nI 0), .int (nI 0), .int (nI 0), .ref q1, .ref q13, .null, .null, .null, .null, .null, .null, .null, .null, .null])) = M21 at hst
  have f23 : M21 ma = some ((1000, 0), .inr (5, [.int (nI 0), .int (nI 0), .int (nI 0), .ref q1, .ref q13, .null, .null, .null, .null, .null, .null, .null, .null, .null])) := by rw [← hM22]; exact hp_up_self _ _ _
  have f24 : M21 q1 = some ((1000, 1), e_n Y 27417 (fun _ => 0)) := by rw [← hM22]; exact hp_kt f19 f18 (tg2 (by decide))
  have f25 : M21 q13 = some ((1000, 2), e_n Y 50653 (fun _ => 0)) := by rw [← hM22]; exact hp_kt f19 f17 (tg2 (by decide))
  have o26 : hp_off (fun i => i = 1000) M M21 := by rw [← hM22]; exact hp_off.tr o20 (hp_off.up f19 rfl)
  refine lv_aload_n hx hb dR_init_21 rfl (lv_at hl 0 rfl) ?_
  refine lv_ldc (v := nI 109668) hx hb hown (hG _ kc_R_17) dR_init_22 ?_
  refine hp_newi hx hb (hG _ ac_int) hK rfl hst (1000, 3) (N' := 109668) (by omega) (rm_c (by omega)) (rm_s (by omega)) dR_init_24 (fun q27 H hq28 hst => ?_)
  generalize hM30 : hp_up M21 q27 ((1000, 3), e_n Y 109668 (fun _ => 0)) = M29 at hst
  have f31 : M29 q27 = some ((1000, 3), e_n Y 109668 (fun _ => 0)) := by rw [← hM30]; exact hp_up_self _ _ _
  have f32 : M29 q1 = some ((1000, 1), e_n Y 27417 (fun _ => 0)) := by rw [← hM30]; exact hp_kf hq28 f24
  have f33 : M29 q13 = some ((1000, 2), e_n Y 50653 (fun _ => 0)) := by rw [← hM30]; exact hp_kf hq28 f25
  have f34 : M29 ma = some ((1000, 0), .inr (5, [.int (nI 0), .int (nI 0), .int (nI 0), .ref q1, .ref q13, .null, .null, .null, .null, .null, .null, .null, .null, .null])) := by rw [← hM30]; exact hp_kf hq28 f23
  have o35 : hp_off (fun i => i = 1000) M M29 := by rw [← hM30]; exact hp_off.tr o26 (hp_off.nw hq28 rfl)
  refine hp_putF hx hb hG in_R ty_R tyok_R nm_R hown hK hst f34 rfl 5 (by decide) (hG _ fl_R_18) rfl rfl hin rfl rfl rfl (Nat.le_of_ble_eq_true rfl) dR_init_26 (fs' := [.int (nI 0), .int (nI 0), .int (nI 0), .ref q1, .ref q13, .ref q27, .null, .null, .null, .null, .null, .null, .null, .null]) rfl (fun H locs hst => ?_)
  generalize hM37 : hp_up M29 ma ((1000, 0), .inr (5, [.int (nI 0), .int (nI 0), .int (nI 0), .ref q1, .ref q13, .ref q27, .null, .null, .null, .null, .null, .null, .null, .null])) = M36 at hst
  have f38 : M36 ma = some ((1000, 0), .inr (5, [.int (nI 0), .int (nI 0), .int (nI 0), .ref q1, .ref q13, .ref q27, .null, .null, .null, .null, .null, .null, .null, .null])) := by rw [← hM37]; exact hp_up_self _ _ _
  have f39 : M36 q1 = some ((1000, 1), e_n Y 27417 (fun _ => 0)) := by rw [← hM37]; exact hp_kt f34 f32 (tg2 (by decide))
  have f40 : M36 q13 = some ((1000, 2), e_n Y 50653 (fun _ => 0)) := by rw [← hM37]; exact hp_kt f34 f33 (tg2 (by decide))
  have f41 : M36 q27 = some ((1000, 3), e_n Y 109668 (fun _ => 0)) := by rw [← hM37]; exact hp_kt f34 f31 (tg2 (by decide))
  have o42 : hp_off (fun i => i = 1000) M M36 := by rw [← hM37]; exact hp_off.tr o35 (hp_off.up f34 rfl)
  refine lv_aload_n hx hb dR_init_29 rfl (lv_at hl 0 rfl) ?_
  refine lv_sipush (v := nI 9139) hx hb dR_init_30 (by decide +kernel) ?_
  refine hp_newi hx hb (hG _ ac_int) hK rfl hst (1000, 4) (N' := 9139) (by omega) (rm_c (by omega)) (rm_s (by omega)) dR_init_33 (fun q43 H hq44 hst => ?_)
  generalize hM46 : hp_up M36 q43 ((1000, 4), e_n Y 9139 (fun _ => 0)) = M45 at hst
  have f47 : M45 q43 = some ((1000, 4), e_n Y 9139 (fun _ => 0)) := by rw [← hM46]; exact hp_up_self _ _ _
  have f48 : M45 q1 = some ((1000, 1), e_n Y 27417 (fun _ => 0)) := by rw [← hM46]; exact hp_kf hq44 f39
  have f49 : M45 q13 = some ((1000, 2), e_n Y 50653 (fun _ => 0)) := by rw [← hM46]; exact hp_kf hq44 f40
  have f50 : M45 q27 = some ((1000, 3), e_n Y 109668 (fun _ => 0)) := by rw [← hM46]; exact hp_kf hq44 f41
  have f51 : M45 ma = some ((1000, 0), .inr (5, [.int (nI 0), .int (nI 0), .int (nI 0), .ref q1, .ref q13, .ref q27, .null, .null, .null, .null, .null, .null, .null, .null])) := by rw [← hM46]; exact hp_kf hq44 f38
  have o52 : hp_off (fun i => i = 1000) M M45 := by rw [← hM46]; exact hp_off.tr o42 (hp_off.nw hq44 rfl)
  refine hp_putF hx hb hG in_R ty_R tyok_R nm_R hown hK hst f51 rfl 6 (by decide) (hG _ fl_R_21) rfl rfl hin rfl rfl rfl (Nat.le_of_ble_eq_true rfl) dR_init_35 (fs' := [.int (nI 0), .int (nI 0), .int (nI 0), .ref q1, .ref q13, .ref q27, .ref q43, .null, .null, .null, .null, .null, .null, .null]) rfl (fun H locs hst => ?_)
  generalize hM54 : hp_up M45 ma ((1000, 0), .inr (5, [.int (nI 0), .int (nI 0), .int (nI 0), .ref q1, .ref q13, .ref q27, .ref q43, .null, .null, .null, .null, .null, .null, .null])) = M53 at hst
  have f55 : M53 ma = some ((1000, 0), .inr (5, [.int (nI 0), .int (nI 0), .int (nI 0), .ref q1, .ref q13, .ref q27, .ref q43, .null, .null, .null, .null, .null, .null, .null])) := by rw [← hM54]; exact hp_up_self _ _ _
  have f56 : M53 q1 = some ((1000, 1), e_n Y 27417 (fun _ => 0)) := by rw [← hM54]; exact hp_kt f51 f48 (tg2 (by decide))
  have f57 : M53 q13 = some ((1000, 2), e_n Y 50653 (fun _ => 0)) := by rw [← hM54]; exact hp_kt f51 f49 (tg2 (by decide))
  have f58 : M53 q27 = some ((1000, 3), e_n Y 109668 (fun _ => 0)) := by rw [← hM54]; exact hp_kt f51 f50 (tg2 (by decide))
  have f59 : M53 q43 = some ((1000, 4), e_n Y 9139 (fun _ => 0)) := by rw [← hM54]; exact hp_kt f51 f47 (tg2 (by decide))
  have o60 : hp_off (fun i => i = 1000) M M53 := by rw [← hM54]; exact hp_off.tr o52 (hp_off.up f51 rfl)
  refine lv_aload_n hx hb dR_init_38 rfl (lv_at hl 0 rfl) ?_
  refine lv_sipush (v := nI 9139) hx hb dR_init_39 (by decide +kernel) ?_
  refine hp_newi hx hb (hG _ ac_int) hK rfl hst (1000, 5) (N' := 9139) (by omega) (rm_c (by omega)) (rm_s (by omega)) dR_init_42 (fun q61 H hq62 hst => ?_)
  generalize hM64 : hp_up M53 q61 ((1000, 5), e_n Y 9139 (fun _ => 0)) = M63 at hst
  have f65 : M63 q61 = some ((1000, 5), e_n Y 9139 (fun _ => 0)) := by rw [← hM64]; exact hp_up_self _ _ _
  have f66 : M63 q1 = some ((1000, 1), e_n Y 27417 (fun _ => 0)) := by rw [← hM64]; exact hp_kf hq62 f56
  have f67 : M63 q13 = some ((1000, 2), e_n Y 50653 (fun _ => 0)) := by rw [← hM64]; exact hp_kf hq62 f57
  have f68 : M63 q27 = some ((1000, 3), e_n Y 109668 (fun _ => 0)) := by rw [← hM64]; exact hp_kf hq62 f58
  have f69 : M63 q43 = some ((1000, 4), e_n Y 9139 (fun _ => 0)) := by rw [← hM64]; exact hp_kf hq62 f59
  have f70 : M63 ma = some ((1000, 0), .inr (5, [.int (nI 0), .int (nI 0), .int (nI 0), .ref q1, .ref q13, .ref q27, .ref q43, .null, .null, .null, .null, .null, .null, .null])) := by rw [← hM64]; exact hp_kf hq62 f55
  have o71 : hp_off (fun i => i = 1000) M M63 := by rw [← hM64]; exact hp_off.tr o60 (hp_off.nw hq62 rfl)
  refine hp_putF hx hb hG in_R ty_R tyok_R nm_R hown hK hst f70 rfl 7 (by decide) (hG _ fl_R_24) rfl rfl hin rfl rfl rfl (Nat.le_of_ble_eq_true rfl) dR_init_44 (fs' := [.int (nI 0), .int (nI 0), .int (nI 0), .ref q1, .ref q13, .ref q27, .ref q43, .ref q61, .null, .null, .null, .null, .null, .null]) rfl (fun H locs hst => ?_)
  generalize hM73 : hp_up M63 ma ((1000, 0), .inr (5, [.int (nI 0), .int (nI 0), .int (nI 0), .ref q1, .ref q13, .ref q27, .ref q43, .ref q61, .null, .null, .null, .null, .null, .null])) = M72 at hst
  have f74 : M72 ma = some ((1000, 0), .inr (5, [.int (nI 0), .int (nI 0), .int (nI 0), .ref q1, .ref q13, .ref q27, .ref q43, .ref q61, .null, .null, .null, .null, .null, .null])) := by rw [← hM73]; exact hp_up_self _ _ _
  have f75 : M72 q1 = some ((1000, 1), e_n Y 27417 (fun _ => 0)) := by rw [← hM73]; exact hp_kt f70 f66 (tg2 (by decide))
  have f76 : M72 q13 = some ((1000, 2), e_n Y 50653 (fun _ => 0)) := by rw [← hM73]; exact hp_kt f70 f67 (tg2 (by decide))
  have f77 : M72 q27 = some ((1000, 3), e_n Y 109668 (fun _ => 0)) := by rw [← hM73]; exact hp_kt f70 f68 (tg2 (by decide))
  have f78 : M72 q43 = some ((1000, 4), e_n Y 9139 (fun _ => 0)) := by rw [← hM73]; exact hp_kt f70 f69 (tg2 (by decide))
  have f79 : M72 q61 = some ((1000, 5), e_n Y 9139 (fun _ => 0)) := by rw [← hM73]; exact hp_kt f70 f65 (tg2 (by decide))
  have o80 : hp_off (fun i => i = 1000) M M72 := by rw [← hM73]; exact hp_off.tr o71 (hp_off.up f70 rfl)
  refine lv_aload_n hx hb dR_init_47 rfl (lv_at hl 0 rfl) ?_
  refine lv_sipush (v := nI 9139) hx hb dR_init_48 (by decide +kernel) ?_
  refine hp_newi hx hb (hG _ ac_int) hK rfl hst (1000, 6) (N' := 9139) (by omega) (rm_c (by omega)) (rm_s (by omega)) dR_init_51 (fun q81 H hq82 hst => ?_)
  generalize hM84 : hp_up M72 q81 ((1000, 6), e_n Y 9139 (fun _ => 0)) = M83 at hst
  have f85 : M83 q81 = some ((1000, 6), e_n Y 9139 (fun _ => 0)) := by rw [← hM84]; exact hp_up_self _ _ _
  have f86 : M83 q1 = some ((1000, 1), e_n Y 27417 (fun _ => 0)) := by rw [← hM84]; exact hp_kf hq82 f75
  have f87 : M83 q13 = some ((1000, 2), e_n Y 50653 (fun _ => 0)) := by rw [← hM84]; exact hp_kf hq82 f76
  have f88 : M83 q27 = some ((1000, 3), e_n Y 109668 (fun _ => 0)) := by rw [← hM84]; exact hp_kf hq82 f77
  have f89 : M83 q43 = some ((1000, 4), e_n Y 9139 (fun _ => 0)) := by rw [← hM84]; exact hp_kf hq82 f78
  have f90 : M83 q61 = some ((1000, 5), e_n Y 9139 (fun _ => 0)) := by rw [← hM84]; exact hp_kf hq82 f79
  have f91 : M83 ma = some ((1000, 0), .inr (5, [.int (nI 0), .int (nI 0), .int (nI 0), .ref q1, .ref q13, .ref q27, .ref q43, .ref q61, .null, .null, .null, .null, .null, .null])) := by rw [← hM84]; exact hp_kf hq82 f74
  have o92 : hp_off (fun i => i = 1000) M M83 := by rw [← hM84]; exact hp_off.tr o80 (hp_off.nw hq82 rfl)
  refine hp_putF hx hb hG in_R ty_R tyok_R nm_R hown hK hst f91 rfl 8 (by decide) (hG _ fl_R_27) rfl rfl hin rfl rfl rfl (Nat.le_of_ble_eq_true rfl) dR_init_53 (fs' := [.int (nI 0), .int (nI 0), .int (nI 0), .ref q1, .ref q13, .ref q27, .ref q43, .ref q61, .ref q81, .null, .null, .null, .null, .null]) rfl (fun H locs hst => ?_)
  generalize hM94 : hp_up M83 ma ((1000, 0), .inr (5, [.int (nI 0), .int (nI 0), .int (nI 0), .ref q1, .ref q13, .ref q27, .ref q43, .ref q61, .ref q81, .null, .null, .null, .null, .null])) = M93 at hst
  have f95 : M93 ma = some ((1000, 0), .inr (5, [.int (nI 0), .int (nI 0), .int (nI 0), .ref q1, .ref q13, .ref q27, .ref q43, .ref q61, .ref q81, .null, .null, .null, .null, .null])) := by rw [← hM94]; exact hp_up_self _ _ _
  have f96 : M93 q1 = some ((1000, 1), e_n Y 27417 (fun _ => 0)) := by rw [← hM94]; exact hp_kt f91 f86 (tg2 (by decide))
  have f97 : M93 q13 = some ((1000, 2), e_n Y 50653 (fun _ => 0)) := by rw [← hM94]; exact hp_kt f91 f87 (tg2 (by decide))
  have f98 : M93 q27 = some ((1000, 3), e_n Y 109668 (fun _ => 0)) := by rw [← hM94]; exact hp_kt f91 f88 (tg2 (by decide))
  have f99 : M93 q43 = some ((1000, 4), e_n Y 9139 (fun _ => 0)) := by rw [← hM94]; exact hp_kt f91 f89 (tg2 (by decide))
  have f100 : M93 q61 = some ((1000, 5), e_n Y 9139 (fun _ => 0)) := by rw [← hM94]; exact hp_kt f91 f90 (tg2 (by decide))
  have f101 : M93 q81 = some ((1000, 6), e_n Y 9139 (fun _ => 0)) := by rw [← hM94]; exact hp_kt f91 f85 (tg2 (by decide))
  have o102 : hp_off (fun i => i = 1000) M M93 := by rw [← hM94]; exact hp_off.tr o92 (hp_off.up f91 rfl)
  refine lv_aload_n hx hb dR_init_56 rfl (lv_at hl 0 rfl) ?_
  refine lv_sipush (v := nI 9139) hx hb dR_init_57 (by decide +kernel) ?_
  refine hp_newi hx hb (hG _ ac_int) hK rfl hst (1000, 7) (N' := 9139) (by omega) (rm_c (by omega)) (rm_s (by omega)) dR_init_60 (fun q103 H hq104 hst => ?_)
  generalize hM106 : hp_up M93 q103 ((1000, 7), e_n Y 9139 (fun _ => 0)) = M105 at hst
  have f107 : M105 q103 = some ((1000, 7), e_n Y 9139 (fun _ => 0)) := by rw [← hM106]; exact hp_up_self _ _ _
  have f108 : M105 q1 = some ((1000, 1), e_n Y 27417 (fun _ => 0)) := by rw [← hM106]; exact hp_kf hq104 f96
  have f109 : M105 q13 = some ((1000, 2), e_n Y 50653 (fun _ => 0)) := by rw [← hM106]; exact hp_kf hq104 f97
  have f110 : M105 q27 = some ((1000, 3), e_n Y 109668 (fun _ => 0)) := by rw [← hM106]; exact hp_kf hq104 f98
  have f111 : M105 q43 = some ((1000, 4), e_n Y 9139 (fun _ => 0)) := by rw [← hM106]; exact hp_kf hq104 f99
  have f112 : M105 q61 = some ((1000, 5), e_n Y 9139 (fun _ => 0)) := by rw [← hM106]; exact hp_kf hq104 f100
  have f113 : M105 q81 = some ((1000, 6), e_n Y 9139 (fun _ => 0)) := by rw [← hM106]; exact hp_kf hq104 f101
  have f114 : M105 ma = some ((1000, 0), .inr (5, [.int (nI 0), .int (nI 0), .int (nI 0), .ref q1, .ref q13, .ref q27, .ref q43, .ref q61, .ref q81, .null, .null, .null, .null, .null])) := by rw [← hM106]; exact hp_kf hq104 f95
  have o115 : hp_off (fun i => i = 1000) M M105 := by rw [← hM106]; exact hp_off.tr o102 (hp_off.nw hq104 rfl)
  refine hp_putF hx hb hG in_R ty_R tyok_R nm_R hown hK hst f114 rfl 9 (by decide) (hG _ fl_R_30) rfl rfl hin rfl rfl rfl (Nat.le_of_ble_eq_true rfl) dR_init_62 (fs' := [.int (nI 0), .int (nI 0), .int (nI 0), .ref q1, .ref q13, .ref q27, .ref q43, .ref q61, .ref q81, .ref q103, .null, .null, .null, .null]) rfl (fun H locs hst => ?_)
  generalize hM117 : hp_up M105 ma ((1000, 0), .inr (5, [.int (nI 0), .int (nI 0), .int (nI 0), .ref q1, .ref q13, .ref q27, .ref q43, .ref q61, .ref q81, .ref q103, .null, .null, .null, .null])) = M116 at hst
  have f118 : M116 ma = some ((1000, 0), .inr (5, [.int (nI 0), .int (nI 0), .int (nI 0), .ref q1, .ref q13, .ref q27, .ref q43, .ref q61, .ref q81, .ref q103, .null, .null, .null, .null])) := by rw [← hM117]; exact hp_up_self _ _ _
  have f119 : M116 q1 = some ((1000, 1), e_n Y 27417 (fun _ => 0)) := by rw [← hM117]; exact hp_kt f114 f108 (tg2 (by decide))
  have f120 : M116 q13 = some ((1000, 2), e_n Y 50653 (fun _ => 0)) := by rw [← hM117]; exact hp_kt f114 f109 (tg2 (by decide))
  have f121 : M116 q27 = some ((1000, 3), e_n Y 109668 (fun _ => 0)) := by rw [← hM117]; exact hp_kt f114 f110 (tg2 (by decide))
  have f122 : M116 q43 = some ((1000, 4), e_n Y 9139 (fun _ => 0)) := by rw [← hM117]; exact hp_kt f114 f111 (tg2 (by decide))
  have f123 : M116 q61 = some ((1000, 5), e_n Y 9139 (fun _ => 0)) := by rw [← hM117]; exact hp_kt f114 f112 (tg2 (by decide))
  have f124 : M116 q81 = some ((1000, 6), e_n Y 9139 (fun _ => 0)) := by rw [← hM117]; exact hp_kt f114 f113 (tg2 (by decide))
  have f125 : M116 q103 = some ((1000, 7), e_n Y 9139 (fun _ => 0)) := by rw [← hM117]; exact hp_kt f114 f107 (tg2 (by decide))
  have o126 : hp_off (fun i => i = 1000) M M116 := by rw [← hM117]; exact hp_off.tr o115 (hp_off.up f114 rfl)
  refine lv_aload_n hx hb dR_init_65 rfl (lv_at hl 0 rfl) ?_
  refine lv_sipush (v := nI 9139) hx hb dR_init_66 (by decide +kernel) ?_
  refine hp_newi hx hb (hG _ ac_int) hK rfl hst (1000, 8) (N' := 9139) (by omega) (rm_c (by omega)) (rm_s (by omega)) dR_init_69 (fun q127 H hq128 hst => ?_)
  generalize hM130 : hp_up M116 q127 ((1000, 8), e_n Y 9139 (fun _ => 0)) = M129 at hst
  have f131 : M129 q127 = some ((1000, 8), e_n Y 9139 (fun _ => 0)) := by rw [← hM130]; exact hp_up_self _ _ _
  have f132 : M129 q1 = some ((1000, 1), e_n Y 27417 (fun _ => 0)) := by rw [← hM130]; exact hp_kf hq128 f119
  have f133 : M129 q13 = some ((1000, 2), e_n Y 50653 (fun _ => 0)) := by rw [← hM130]; exact hp_kf hq128 f120
  have f134 : M129 q27 = some ((1000, 3), e_n Y 109668 (fun _ => 0)) := by rw [← hM130]; exact hp_kf hq128 f121
  have f135 : M129 q43 = some ((1000, 4), e_n Y 9139 (fun _ => 0)) := by rw [← hM130]; exact hp_kf hq128 f122
  have f136 : M129 q61 = some ((1000, 5), e_n Y 9139 (fun _ => 0)) := by rw [← hM130]; exact hp_kf hq128 f123
  have f137 : M129 q81 = some ((1000, 6), e_n Y 9139 (fun _ => 0)) := by rw [← hM130]; exact hp_kf hq128 f124
  have f138 : M129 q103 = some ((1000, 7), e_n Y 9139 (fun _ => 0)) := by rw [← hM130]; exact hp_kf hq128 f125
  have f139 : M129 ma = some ((1000, 0), .inr (5, [.int (nI 0), .int (nI 0), .int (nI 0), .ref q1, .ref q13, .ref q27, .ref q43, .ref q61, .ref q81, .ref q103, .null, .null, .null, .null])) := by rw [← hM130]; exact hp_kf hq128 f118
  have o140 : hp_off (fun i => i = 1000) M M129 := by rw [← hM130]; exact hp_off.tr o126 (hp_off.nw hq128 rfl)
  refine hp_putF hx hb hG in_R ty_R tyok_R nm_R hown hK hst f139 rfl 10 (by decide) (hG _ fl_R_33) rfl rfl hin rfl rfl rfl (Nat.le_of_ble_eq_true rfl) dR_init_71 (fs' := [.int (nI 0), .int (nI 0), .int (nI 0), .ref q1, .ref q13, .ref q27, .ref q43, .ref q61, .ref q81, .ref q103, .ref q127, .null, .null, .null]) rfl (fun H locs hst => ?_)
  generalize hM142 : hp_up M129 ma ((1000, 0), .inr (5, [.int (nI 0), .int (nI 0), .int (nI 0), .ref q1, .ref q13, .ref q27, .ref q43, .ref q61, .ref q81, .ref q103, .ref q127, .null, .null, .null])) = M141 at hst
  have f143 : M141 ma = some ((1000, 0), .inr (5, [.int (nI 0), .int (nI 0), .int (nI 0), .ref q1, .ref q13, .ref q27, .ref q43, .ref q61, .ref q81, .ref q103, .ref q127, .null, .null, .null])) := by rw [← hM142]; exact hp_up_self _ _ _
  have f144 : M141 q1 = some ((1000, 1), e_n Y 27417 (fun _ => 0)) := by rw [← hM142]; exact hp_kt f139 f132 (tg2 (by decide))
  have f145 : M141 q13 = some ((1000, 2), e_n Y 50653 (fun _ => 0)) := by rw [← hM142]; exact hp_kt f139 f133 (tg2 (by decide))
  have f146 : M141 q27 = some ((1000, 3), e_n Y 109668 (fun _ => 0)) := by rw [← hM142]; exact hp_kt f139 f134 (tg2 (by decide))
  have f147 : M141 q43 = some ((1000, 4), e_n Y 9139 (fun _ => 0)) := by rw [← hM142]; exact hp_kt f139 f135 (tg2 (by decide))
  have f148 : M141 q61 = some ((1000, 5), e_n Y 9139 (fun _ => 0)) := by rw [← hM142]; exact hp_kt f139 f136 (tg2 (by decide))
  have f149 : M141 q81 = some ((1000, 6), e_n Y 9139 (fun _ => 0)) := by rw [← hM142]; exact hp_kt f139 f137 (tg2 (by decide))
  have f150 : M141 q103 = some ((1000, 7), e_n Y 9139 (fun _ => 0)) := by rw [← hM142]; exact hp_kt f139 f138 (tg2 (by decide))
  have f151 : M141 q127 = some ((1000, 8), e_n Y 9139 (fun _ => 0)) := by rw [← hM142]; exact hp_kt f139 f131 (tg2 (by decide))
  have o152 : hp_off (fun i => i = 1000) M M141 := by rw [← hM142]; exact hp_off.tr o140 (hp_off.up f139 rfl)
  refine lv_aload_n hx hb dR_init_74 rfl (lv_at hl 0 rfl) ?_
  refine lv_sipush (v := nI 9139) hx hb dR_init_75 (by decide +kernel) ?_
  refine hp_newi hx hb (hG _ ac_int) hK rfl hst (1000, 9) (N' := 9139) (by omega) (rm_c (by omega)) (rm_s (by omega)) dR_init_78 (fun q153 H hq154 hst => ?_)
  generalize hM156 : hp_up M141 q153 ((1000, 9), e_n Y 9139 (fun _ => 0)) = M155 at hst
  have f157 : M155 q153 = some ((1000, 9), e_n Y 9139 (fun _ => 0)) := by rw [← hM156]; exact hp_up_self _ _ _
  have f158 : M155 q1 = some ((1000, 1), e_n Y 27417 (fun _ => 0)) := by rw [← hM156]; exact hp_kf hq154 f144
  have f159 : M155 q13 = some ((1000, 2), e_n Y 50653 (fun _ => 0)) := by rw [← hM156]; exact hp_kf hq154 f145
  have f160 : M155 q27 = some ((1000, 3), e_n Y 109668 (fun _ => 0)) := by rw [← hM156]; exact hp_kf hq154 f146
  have f161 : M155 q43 = some ((1000, 4), e_n Y 9139 (fun _ => 0)) := by rw [← hM156]; exact hp_kf hq154 f147
  have f162 : M155 q61 = some ((1000, 5), e_n Y 9139 (fun _ => 0)) := by rw [← hM156]; exact hp_kf hq154 f148
  have f163 : M155 q81 = some ((1000, 6), e_n Y 9139 (fun _ => 0)) := by rw [← hM156]; exact hp_kf hq154 f149
  have f164 : M155 q103 = some ((1000, 7), e_n Y 9139 (fun _ => 0)) := by rw [← hM156]; exact hp_kf hq154 f150
  have f165 : M155 q127 = some ((1000, 8), e_n Y 9139 (fun _ => 0)) := by rw [← hM156]; exact hp_kf hq154 f151
  have f166 : M155 ma = some ((1000, 0), .inr (5, [.int (nI 0), .int (nI 0), .int (nI 0), .ref q1, .ref q13, .ref q27, .ref q43, .ref q61, .ref q81, .ref q103, .ref q127, .null, .null, .null])) := by rw [← hM156]; exact hp_kf hq154 f143
  have o167 : hp_off (fun i => i = 1000) M M155 := by rw [← hM156]; exact hp_off.tr o152 (hp_off.nw hq154 rfl)
  refine hp_putF hx hb hG in_R ty_R tyok_R nm_R hown hK hst f166 rfl 11 (by decide) (hG _ fl_R_36) rfl rfl hin rfl rfl rfl (Nat.le_of_ble_eq_true rfl) dR_init_80 (fs' := [.int (nI 0), .int (nI 0), .int (nI 0), .ref q1, .ref q13, .ref q27, .ref q43, .ref q61, .ref q81, .ref q103, .ref q127, .ref q153, .null, .null]) rfl (fun H locs hst => ?_)
  generalize hM169 : hp_up M155 ma ((1000, 0), .inr (5, [.int (nI 0), .int (nI 0), .int (nI 0), .ref q1, .ref q13, .ref q27, .ref q43, .ref q61, .ref q81, .ref q103, .ref q127, .ref q153, .null, .null])) = M168 at hst
  have f170 : M168 ma = some ((1000, 0), .inr (5, [.int (nI 0), .int (nI 0), .int (nI 0), .ref q1, .ref q13, .ref q27, .ref q43, .ref q61, .ref q81, .ref q103, .ref q127, .ref q153, .null, .null])) := by rw [← hM169]; exact hp_up_self _ _ _
  have f171 : M168 q1 = some ((1000, 1), e_n Y 27417 (fun _ => 0)) := by rw [← hM169]; exact hp_kt f166 f158 (tg2 (by decide))
  have f172 : M168 q13 = some ((1000, 2), e_n Y 50653 (fun _ => 0)) := by rw [← hM169]; exact hp_kt f166 f159 (tg2 (by decide))
  have f173 : M168 q27 = some ((1000, 3), e_n Y 109668 (fun _ => 0)) := by rw [← hM169]; exact hp_kt f166 f160 (tg2 (by decide))
  have f174 : M168 q43 = some ((1000, 4), e_n Y 9139 (fun _ => 0)) := by rw [← hM169]; exact hp_kt f166 f161 (tg2 (by decide))
  have f175 : M168 q61 = some ((1000, 5), e_n Y 9139 (fun _ => 0)) := by rw [← hM169]; exact hp_kt f166 f162 (tg2 (by decide))
  have f176 : M168 q81 = some ((1000, 6), e_n Y 9139 (fun _ => 0)) := by rw [← hM169]; exact hp_kt f166 f163 (tg2 (by decide))
  have f177 : M168 q103 = some ((1000, 7), e_n Y 9139 (fun _ => 0)) := by rw [← hM169]; exact hp_kt f166 f164 (tg2 (by decide))
  have f178 : M168 q127 = some ((1000, 8), e_n Y 9139 (fun _ => 0)) := by rw [← hM169]; exact hp_kt f166 f165 (tg2 (by decide))
  have f179 : M168 q153 = some ((1000, 9), e_n Y 9139 (fun _ => 0)) := by rw [← hM169]; exact hp_kt f166 f157 (tg2 (by decide))
  have o180 : hp_off (fun i => i = 1000) M M168 := by rw [← hM169]; exact hp_off.tr o167 (hp_off.up f166 rfl)
  refine lv_aload_n hx hb dR_init_83 rfl (lv_at hl 0 rfl) ?_
  refine lv_sipush (v := nI 10816) hx hb dR_init_84 (by decide +kernel) ?_
  refine hp_newi hx hb (hG _ ac_int) hK rfl hst (1000, 10) (N' := 10816) (by omega) (rm_c (by omega)) (rm_s (by omega)) dR_init_87 (fun q181 H hq182 hst => ?_)
  generalize hM184 : hp_up M168 q181 ((1000, 10), e_n Y 10816 (fun _ => 0)) = M183 at hst
  have f185 : M183 q181 = some ((1000, 10), e_n Y 10816 (fun _ => 0)) := by rw [← hM184]; exact hp_up_self _ _ _
  have f186 : M183 q1 = some ((1000, 1), e_n Y 27417 (fun _ => 0)) := by rw [← hM184]; exact hp_kf hq182 f171
  have f187 : M183 q13 = some ((1000, 2), e_n Y 50653 (fun _ => 0)) := by rw [← hM184]; exact hp_kf hq182 f172
  have f188 : M183 q27 = some ((1000, 3), e_n Y 109668 (fun _ => 0)) := by rw [← hM184]; exact hp_kf hq182 f173
  have f189 : M183 q43 = some ((1000, 4), e_n Y 9139 (fun _ => 0)) := by rw [← hM184]; exact hp_kf hq182 f174
  have f190 : M183 q61 = some ((1000, 5), e_n Y 9139 (fun _ => 0)) := by rw [← hM184]; exact hp_kf hq182 f175
  have f191 : M183 q81 = some ((1000, 6), e_n Y 9139 (fun _ => 0)) := by rw [← hM184]; exact hp_kf hq182 f176
  have f192 : M183 q103 = some ((1000, 7), e_n Y 9139 (fun _ => 0)) := by rw [← hM184]; exact hp_kf hq182 f177
  have f193 : M183 q127 = some ((1000, 8), e_n Y 9139 (fun _ => 0)) := by rw [← hM184]; exact hp_kf hq182 f178
  have f194 : M183 q153 = some ((1000, 9), e_n Y 9139 (fun _ => 0)) := by rw [← hM184]; exact hp_kf hq182 f179
  have f195 : M183 ma = some ((1000, 0), .inr (5, [.int (nI 0), .int (nI 0), .int (nI 0), .ref q1, .ref q13, .ref q27, .ref q43, .ref q61, .ref q81, .ref q103, .ref q127, .ref q153, .null, .null])) := by rw [← hM184]; exact hp_kf hq182 f170
  have o196 : hp_off (fun i => i = 1000) M M183 := by rw [← hM184]; exact hp_off.tr o180 (hp_off.nw hq182 rfl)
  refine hp_putF hx hb hG in_R ty_R tyok_R nm_R hown hK hst f195 rfl 12 (by decide) (hG _ fl_R_39) rfl rfl hin rfl rfl rfl (Nat.le_of_ble_eq_true rfl) dR_init_89 (fs' := [.int (nI 0), .int (nI 0), .int (nI 0), .ref q1, .ref q13, .ref q27, .ref q43, .ref q61, .ref q81, .ref q103, .ref q127, .ref q153, .ref q181, .null]) rfl (fun H locs hst => ?_)
  generalize hM198 : hp_up M183 ma ((1000, 0), .inr (5, [.int (nI 0), .int (nI 0), .int (nI 0), .ref q1, .ref q13, .ref q27, .ref q43, .ref q61, .ref q81, .ref q103, .ref q127, .ref q153, .ref q181, .null])) = M197 at hst
  have f199 : M197 ma = some ((1000, 0), .inr (5, [.int (nI 0), .int (nI 0), .int (nI 0), .ref q1, .ref q13, .ref q27, .ref q43, .ref q61, .ref q81, .ref q103, .ref q127, .ref q153, .ref q181, .null])) := by rw [← hM198]; exact hp_up_self _ _ _
  have f200 : M197 q1 = some ((1000, 1), e_n Y 27417 (fun _ => 0)) := by rw [← hM198]; exact hp_kt f195 f186 (tg2 (by decide))
  have f201 : M197 q13 = some ((1000, 2), e_n Y 50653 (fun _ => 0)) := by rw [← hM198]; exact hp_kt f195 f187 (tg2 (by decide))
  have f202 : M197 q27 = some ((1000, 3), e_n Y 109668 (fun _ => 0)) := by rw [← hM198]; exact hp_kt f195 f188 (tg2 (by decide))
  have f203 : M197 q43 = some ((1000, 4), e_n Y 9139 (fun _ => 0)) := by rw [← hM198]; exact hp_kt f195 f189 (tg2 (by decide))
  have f204 : M197 q61 = some ((1000, 5), e_n Y 9139 (fun _ => 0)) := by rw [← hM198]; exact hp_kt f195 f190 (tg2 (by decide))
  have f205 : M197 q81 = some ((1000, 6), e_n Y 9139 (fun _ => 0)) := by rw [← hM198]; exact hp_kt f195 f191 (tg2 (by decide))
  have f206 : M197 q103 = some ((1000, 7), e_n Y 9139 (fun _ => 0)) := by rw [← hM198]; exact hp_kt f195 f192 (tg2 (by decide))
  have f207 : M197 q127 = some ((1000, 8), e_n Y 9139 (fun _ => 0)) := by rw [← hM198]; exact hp_kt f195 f193 (tg2 (by decide))
  have f208 : M197 q153 = some ((1000, 9), e_n Y 9139 (fun _ => 0)) := by rw [← hM198]; exact hp_kt f195 f194 (tg2 (by decide))
  have f209 : M197 q181 = some ((1000, 10), e_n Y 10816 (fun _ => 0)) := by rw [← hM198]; exact hp_kt f195 f185 (tg2 (by decide))
  have o210 : hp_off (fun i => i = 1000) M M197 := by rw [← hM198]; exact hp_off.tr o196 (hp_off.up f195 rfl)
  refine lv_aload_n hx hb dR_init_92 rfl (lv_at hl 0 rfl) ?_
  refine lv_ldc (v := nI 43264) hx hb hown (hG _ kc_R_42) dR_init_93 ?_
  refine hp_newi hx hb (hG _ ac_int) hK rfl hst (1000, 11) (N' := 43264) (by omega) (rm_c (by omega)) (rm_s (by omega)) dR_init_95 (fun q211 H hq212 hst => ?_)
  generalize hM214 : hp_up M197 q211 ((1000, 11), e_n Y 43264 (fun _ => 0)) = M213 at hst
  have f215 : M213 q211 = some ((1000, 11), e_n Y 43264 (fun _ => 0)) := by rw [← hM214]; exact hp_up_self _ _ _
  have f216 : M213 q1 = some ((1000, 1), e_n Y 27417 (fun _ => 0)) := by rw [← hM214]; exact hp_kf hq212 f200
  have f217 : M213 q13 = some ((1000, 2), e_n Y 50653 (fun _ => 0)) := by rw [← hM214]; exact hp_kf hq212 f201
  have f218 : M213 q27 = some ((1000, 3), e_n Y 109668 (fun _ => 0)) := by rw [← hM214]; exact hp_kf hq212 f202
  have f219 : M213 q43 = some ((1000, 4), e_n Y 9139 (fun _ => 0)) := by rw [← hM214]; exact hp_kf hq212 f203
  have f220 : M213 q61 = some ((1000, 5), e_n Y 9139 (fun _ => 0)) := by rw [← hM214]; exact hp_kf hq212 f204
  have f221 : M213 q81 = some ((1000, 6), e_n Y 9139 (fun _ => 0)) := by rw [← hM214]; exact hp_kf hq212 f205
  have f222 : M213 q103 = some ((1000, 7), e_n Y 9139 (fun _ => 0)) := by rw [← hM214]; exact hp_kf hq212 f206
  have f223 : M213 q127 = some ((1000, 8), e_n Y 9139 (fun _ => 0)) := by rw [← hM214]; exact hp_kf hq212 f207
  have f224 : M213 q153 = some ((1000, 9), e_n Y 9139 (fun _ => 0)) := by rw [← hM214]; exact hp_kf hq212 f208
  have f225 : M213 q181 = some ((1000, 10), e_n Y 10816 (fun _ => 0)) := by rw [← hM214]; exact hp_kf hq212 f209
  have f226 : M213 ma = some ((1000, 0), .inr (5, [.int (nI 0), .int (nI 0), .int (nI 0), .ref q1, .ref q13, .ref q27, .ref q43, .ref q61, .ref q81, .ref q103, .ref q127, .ref q153, .ref q181, .null])) := by rw [← hM214]; exact hp_kf hq212 f199
  have o227 : hp_off (fun i => i = 1000) M M213 := by rw [← hM214]; exact hp_off.tr o210 (hp_off.nw hq212 rfl)
  refine hp_putF hx hb hG in_R ty_R tyok_R nm_R hown hK hst f226 rfl 13 (by decide) (hG _ fl_R_43) rfl rfl hin rfl rfl rfl (Nat.le_of_ble_eq_true rfl) dR_init_97 (fs' := [.int (nI 0), .int (nI 0), .int (nI 0), .ref q1, .ref q13, .ref q27, .ref q43, .ref q61, .ref q81, .ref q103, .ref q127, .ref q153, .ref q181, .ref q211]) rfl (fun H locs hst => ?_)
  generalize hM229 : hp_up M213 ma ((1000, 0), .inr (5, [.int (nI 0), .int (nI 0), .int (nI 0), .ref q1, .ref q13, .ref q27, .ref q43, .ref q61, .ref q81, .ref q103, .ref q127, .ref q153, .ref q181, .ref q211])) = M228 at hst
  have f230 : M228 ma = some ((1000, 0), .inr (5, [.int (nI 0), .int (nI 0), .int (nI 0), .ref q1, .ref q13, .ref q27, .ref q43, .ref q61, .ref q81, .ref q103, .ref q127, .ref q153, .ref q181, .ref q211])) := by rw [← hM229]; exact hp_up_self _ _ _
  have f231 : M228 q1 = some ((1000, 1), e_n Y 27417 (fun _ => 0)) := by rw [← hM229]; exact hp_kt f226 f216 (tg2 (by decide))
  have f232 : M228 q13 = some ((1000, 2), e_n Y 50653 (fun _ => 0)) := by rw [← hM229]; exact hp_kt f226 f217 (tg2 (by decide))
  have f233 : M228 q27 = some ((1000, 3), e_n Y 109668 (fun _ => 0)) := by rw [← hM229]; exact hp_kt f226 f218 (tg2 (by decide))
  have f234 : M228 q43 = some ((1000, 4), e_n Y 9139 (fun _ => 0)) := by rw [← hM229]; exact hp_kt f226 f219 (tg2 (by decide))
  have f235 : M228 q61 = some ((1000, 5), e_n Y 9139 (fun _ => 0)) := by rw [← hM229]; exact hp_kt f226 f220 (tg2 (by decide))
  have f236 : M228 q81 = some ((1000, 6), e_n Y 9139 (fun _ => 0)) := by rw [← hM229]; exact hp_kt f226 f221 (tg2 (by decide))
  have f237 : M228 q103 = some ((1000, 7), e_n Y 9139 (fun _ => 0)) := by rw [← hM229]; exact hp_kt f226 f222 (tg2 (by decide))
  have f238 : M228 q127 = some ((1000, 8), e_n Y 9139 (fun _ => 0)) := by rw [← hM229]; exact hp_kt f226 f223 (tg2 (by decide))
  have f239 : M228 q153 = some ((1000, 9), e_n Y 9139 (fun _ => 0)) := by rw [← hM229]; exact hp_kt f226 f224 (tg2 (by decide))
  have f240 : M228 q181 = some ((1000, 10), e_n Y 10816 (fun _ => 0)) := by rw [← hM229]; exact hp_kt f226 f225 (tg2 (by decide))
  have f241 : M228 q211 = some ((1000, 11), e_n Y 43264 (fun _ => 0)) := by rw [← hM229]; exact hp_kt f226 f215 (tg2 (by decide))
  have o242 : hp_off (fun i => i = 1000) M M228 := by rw [← hM229]; exact hp_off.tr o227 (hp_off.up f226 rfl)
  obtain ⟨E, hmb0⟩ : ∃ E : Nat → Nat, mb Y M228 ma E 0 (fun _ => 0) (fun _ => 0) := by
    refine ⟨fun j => ([q1, q13, q27, q43, q61, q81, q103, q127, q153, q181, q211] : List Nat).getD (j - 1) 0, f230, f231, f232, fun j h1 h2 => ?_⟩
    rcases (show j = 3 ∨ j = 4 ∨ j = 5 ∨ j = 6 ∨ j = 7 ∨ j = 8 ∨ j = 9 ∨ j = 10 ∨ j = 11 by omega) with rfl | rfl | rfl | rfl | rfl | rfl | rfl | rfl | rfl
    · exact f233
    · exact f234
    · exact f235
    · exact f236
    · exact f237
    · exact f238
    · exact f239
    · exact f240
    · exact f241
  have hoB : hp_off (fun i => i = 1000) M M228 := o242
  refine W.widen (k := 11) (n := 296652) (by omega) (by omega) ?_
  have LP : ∀ (kk : Nat) (n : Nat) (H : Heap) (locs : List Loc) (ls : Array Slot), kk = 46337 - n → (2 ≤ n) → (n ≤ 46337) → (x.toInt ≤ n ∨ n = 46337) → (∀ q, pr q → q < n → (q : Int) < x.toInt) → hp_st D vC lo M228 sg.heap H locs → lv_has ls 7 [(0, .ref ma), (2, .int (nI n))] → cW pg l eg sg mg [.ref ma, .int x] bw mt cg y_R_init b_R_init 7 none 1 D lo (fun r9 M' => ∃ (p : Nat) (E : Nat → Nat) (c : Nat → Nat → Nat), r9 = none ∧ lpr x p ∧ mo Y M' ma E p 0 0 c ∧ rr c (fun _ _ => 0) ∧ hp_off (fun i => i = 1000) M M') nx 11 296652 H locs 11 296652 (F0 mg 122 ls []) := by
    intro kk
    induction kk using Nat.strongRecOn with
    | _ kk ihLP =>
    intro n H locs ls hkk h1 h3 h4 hno hst hl
    refine lv_iload_n hx hb dR_init_122 rfl (lv_at hl 1 rfl) ?_
    refine ct_callS (av2 := [.int (nI n)]) (rest := []) X hst (c_R_isPrime l D Y lo (n := n) h1 h3) wc_R_isPrime ml_R_47 ws_R_isPrime wn_R md_R_isPrime (by decide) hl.1 rfl (Nat.le_of_ble_eq_true rfl) ⟨by omega, by omega⟩ (fun _ _ h => h.elim) dR_init_123 (fun r M' H locs hp hst => ?_)
    obtain ⟨b, rfl, hb1, hb2, rfl⟩ := hp
    refine lv_if_ne hx hb dR_init_126 (tgt := 135) rfl (fun hc => ?_) (fun hc => ?_)
    · skip
      rw [← nI_0] at hc
      have hcb : ¬ b = 0 := fun z => hc ((nI_eq (by omega) (by omega)).mpr z)
      have hlp : lpr x n := ⟨hb2.mp (by omega), h3, h4, hno⟩
      refine lv_aload_n hx hb dR_init_135 rfl (lv_at hl 0 rfl) ?_
      refine lv_iload_n hx hb dR_init_136 rfl (lv_at hl 1 rfl) ?_
      refine hp_putF hx hb hG in_R ty_R tyok_R nm_R hown hK hst hmb0.1 rfl 1 (by decide) (hG _ fl_R_51) rfl rfl hin rfl rfl rfl (Nat.le_of_ble_eq_true rfl) dR_init_137 (fs' := [.int (nI 0), .int (nI n), .int (nI 0), .ref (E 1), .ref (E 2), .ref (E 3), .ref (E 4), .ref (E 5), .ref (E 6), .ref (E 7), .ref (E 8), .ref (E 9), .ref (E 10), .ref (E 11)]) rfl (fun H locs hst => ?_)
      obtain ⟨hmbP, hoP⟩ := hmb0.np n
      generalize hp_up M228 ma ((1000, 0), .inr (5, [.int (nI 0), .int (nI n), .int (nI 0), .ref (E 1), .ref (E 2), .ref (E 3), .ref (E 4), .ref (E 5), .ref (E 6), .ref (E 7), .ref (E 8), .ref (E 9), .ref (E 10), .ref (E 11)])) = MP at hst hmbP hoP
      have hoQ := hoB.tr hoP
      refine lv_iconst (v := nI 0) hx hb dR_init_140 (by decide +kernel) ?_
      refine lv_istore_n (lv' := [(3, .int (nI 0)), (0, .ref ma), (2, .int (nI n))]) hx hb dR_init_141 rfl hl (by decide) rfl (fun ls hl => ?_)
      refine lv_bipush (v := nI 36) hx hb dR_init_142 (by decide +kernel) ?_
      refine lv_istore (lv' := [(4, .int (nI 36)), (3, .int (nI 0)), (0, .ref ma), (2, .int (nI n))]) hx hb dR_init_144 hl (by decide) rfl (fun ls hl => ?_)
      have LS : ∀ (kk : Nat) (s : Nat) (k : Nat) (c1 c2 : Nat → Nat) (M1 : Hm) (H : Heap) (locs : List Loc) (ls : Array Slot), kk = s → (s ≤ 37) → (mb Y M1 ma E n c1 c2) → (tb c1 c2 k) → (k + T3 s = 9139) → (hp_off (fun i => i = 1000) M M1) → hp_st D vC lo M1 sg.heap H locs → lv_has ls 7 [(0, .ref ma), (3, .int (nI k)), (4, .int (dn s))] → cW pg l eg sg mg [.ref ma, .int x] bw mt cg y_R_init b_R_init 7 none 1 D lo (fun r9 M' => ∃ (p : Nat) (E : Nat → Nat) (c : Nat → Nat → Nat), r9 = none ∧ lpr x p ∧ mo Y M' ma E p 0 0 c ∧ rr c (fun _ _ => 0) ∧ hp_off (fun i => i = 1000) M M') nx 11 296652 H locs 11 296652 (F0 mg 146 ls []) := by
        intro kk
        induction kk using Nat.strongRecOn with
        | _ kk ihLS =>
        intro s k c1 c2 M1 H locs ls hkk hs9 hmb htb hkk9 ho hst hl
        cases s with
        | zero =>
          rw [T3_0] at hkk9
          refine lv_iload hx hb dR_init_146 (lv_at hl 2 rfl) ?_
          refine lv_if_lt hx hb dR_init_148 (tgt := 259) rfl (fun hc => ?_) (fun hc => absurd dn_0 hc)
          have hk9 : k = 9139 := by omega
          rw [hk9] at htb
          exact ct_vret X hst ⟨n, E, cc c1 c2, rfl, hlp, hmb.mo htb (by omega) (by omega), fun r hr k hk => rfl, ho⟩ (by omega) (by omega) dR_init_259
        | succ s =>
          rw [dn_s] at hl
          have hT1 := T3_s s
          have hTl := T3_le (s := s + 1) (t := 37) (by omega)
          have h37 := T3_37
          have sl : s + 1 ≤ 37 := hs9
          refine lv_iload hx hb dR_init_146 (lv_at hl 2 rfl) ?_
          refine lv_if_lt hx hb dR_init_148 (tgt := 259) rfl (fun hc => ?_) (fun hc => ?_)
          · skip
            rw [← nI_0] at hc
            have hc5 : s < 0 := (nI_ltI (by omega) (by omega)).mp hc
            exact absurd hc5 (by omega)
          · skip
            rw [← nI_0] at hc
            have hc5 : ¬ s < 0 := fun z => hc ((nI_ltI (by omega) (by omega)).mpr z)
            refine lv_iload hx hb dR_init_151 (lv_at hl 2 rfl) ?_
            refine lv_istore (lv' := [(5, .int (nI s)), (0, .ref ma), (3, .int (nI k)), (4, .int (nI s))]) hx hb dR_init_153 hl (by decide) rfl (fun ls hl => ?_)
            have LA : ∀ (kk : Nat) (a : Nat) (k : Nat) (c1 c2 : Nat → Nat) (M1 : Hm) (H : Heap) (locs : List Loc) (ls : Array Slot), kk = a → (a ≤ s + 1) → (mb Y M1 ma E n c1 c2) → (tb c1 c2 k) → (k + (T3 s + R2 s a) = 9139) → (hp_off (fun i => i = 1000) M M1) → hp_st D vC lo M1 sg.heap H locs → lv_has ls 7 [(0, .ref ma), (3, .int (nI k)), (4, .int (nI s)), (5, .int (dn a))] → cW pg l eg sg mg [.ref ma, .int x] bw mt cg y_R_init b_R_init 7 none 1 D lo (fun r9 M' => ∃ (p : Nat) (E : Nat → Nat) (c : Nat → Nat → Nat), r9 = none ∧ lpr x p ∧ mo Y M' ma E p 0 0 c ∧ rr c (fun _ _ => 0) ∧ hp_off (fun i => i = 1000) M M') nx 11 296652 H locs 11 296652 (F0 mg 155 ls []) := by
              intro kk
              induction kk using Nat.strongRecOn with
              | _ kk ihLA =>
              intro a k c1 c2 M1 H locs ls hkk ha9 hmb htb hkk9 ho hst hl
              cases a with
              | zero =>
                rw [R2_0] at hkk9
                refine lv_iload hx hb dR_init_155 (lv_at hl 3 rfl) ?_
                refine lv_if_lt hx hb dR_init_157 (tgt := 253) rfl (fun hc => ?_) (fun hc => absurd dn_0 hc)
                refine lv_iinc (lv' := [(4, .int (dn s)), (0, .ref ma), (3, .int (nI k)), (5, .int (dn 0))]) hx hb dR_init_253 hl (k := 2) rfl (ii_m _) (by decide) rfl (fun ls hl => ?_)
                refine lv_goto hx hb dR_init_256 (tgt := 146) rfl ?_
                exact ihLS _ (by omega) s k c1 c2 M1 _ _ _ rfl (by omega) hmb htb (by omega) ho hst (lv_sub hl [1, 2, 0] rfl)
              | succ a =>
                rw [dn_s] at hl
                have hR1 := R2_s s a
                have hRl := R2_le (s := s) (a := a + 1) (b := s + 1) (by omega)
                have al : a + 1 ≤ s + 1 := ha9
                refine lv_iload hx hb dR_init_155 (lv_at hl 3 rfl) ?_
                refine lv_if_lt hx hb dR_init_157 (tgt := 253) rfl (fun hc => ?_) (fun hc => ?_)
                · skip
                  rw [← nI_0] at hc
                  have hc6 : a < 0 := (nI_ltI (by omega) (by omega)).mp hc
                  exact absurd hc6 (by omega)
                · skip
                  rw [← nI_0] at hc
                  have hc6 : ¬ a < 0 := fun z => hc ((nI_ltI (by omega) (by omega)).mpr z)
                  refine lv_iload hx hb dR_init_160 (lv_at hl 2 rfl) ?_
                  refine lv_iload hx hb dR_init_162 (lv_at hl 3 rfl) ?_
                  refine t_isub hx hb dR_init_164 (v := nI (s - a)) (pk_sub (by omega)) ?_
                  refine lv_istore (lv' := [(6, .int (nI (s - a))), (0, .ref ma), (3, .int (nI k)), (4, .int (nI s)), (5, .int (nI a))]) hx hb dR_init_165 hl (by decide) rfl (fun ls hl => ?_)
                  have LB : ∀ (kk : Nat) (b : Nat) (k : Nat) (c1 c2 : Nat → Nat) (M1 : Hm) (H : Heap) (locs : List Loc) (ls : Array Slot), kk = b → (b ≤ s + 1 - a) → (mb Y M1 ma E n c1 c2) → (tb c1 c2 k) → (k + (T3 s + R2 s a + b) = 9139) → (hp_off (fun i => i = 1000) M M1) → hp_st D vC lo M1 sg.heap H locs → lv_has ls 7 [(0, .ref ma), (3, .int (nI k)), (4, .int (nI s)), (5, .int (nI a)), (6, .int (dn b))] → cW pg l eg sg mg [.ref ma, .int x] bw mt cg y_R_init b_R_init 7 none 1 D lo (fun r9 M' => ∃ (p : Nat) (E : Nat → Nat) (c : Nat → Nat → Nat), r9 = none ∧ lpr x p ∧ mo Y M' ma E p 0 0 c ∧ rr c (fun _ _ => 0) ∧ hp_off (fun i => i = 1000) M M') nx 11 296652 H locs 11 296652 (F0 mg 167 ls []) := by
                    intro kk
                    induction kk using Nat.strongRecOn with
                    | _ kk ihLB =>
                    intro b k c1 c2 M1 H locs ls hkk hb9 hmb htb hkk9 ho hst hl
                    cases b with
                    | zero =>
                      refine lv_iload hx hb dR_init_167 (lv_at hl 4 rfl) ?_
                      refine lv_if_lt hx hb dR_init_169 (tgt := 247) rfl (fun hc => ?_) (fun hc => absurd dn_0 hc)
                      refine lv_iinc (lv' := [(5, .int (dn a)), (0, .ref ma), (3, .int (nI k)), (4, .int (nI s)), (6, .int (dn 0))]) hx hb dR_init_247 hl (k := 3) rfl (ii_m _) (by decide) rfl (fun ls hl => ?_)
                      refine lv_goto hx hb dR_init_250 (tgt := 155) rfl ?_
                      exact ihLA _ (by omega) a k c1 c2 M1 _ _ _ rfl (by omega) hmb htb (by omega) ho hst (lv_sub hl [1, 2, 3, 0] rfl)
                    | succ b =>
                      rw [dn_s] at hl
                      have bl9 : b + 1 ≤ s + 1 - a := hb9
                      have hrk9 := rk_mp (a := a) (b := b) (c := s - a - b) (by omega)
                      rw [show a + b + (s - a - b) = s by omega] at hrk9
                      have hkr : k = 9138 - rk (mp a b (s - a - b)) := by omega
                      have hk39 : k < 9139 := by omega
                      refine lv_iload hx hb dR_init_167 (lv_at hl 4 rfl) ?_
                      refine lv_if_lt hx hb dR_init_169 (tgt := 247) rfl (fun hc => ?_) (fun hc => ?_)
                      · skip
                        rw [← nI_0] at hc
                        have hc7 : b < 0 := (nI_ltI (by omega) (by omega)).mp hc
                        exact absurd hc7 (by omega)
                      · skip
                        rw [← nI_0] at hc
                        have hc7 : ¬ b < 0 := fun z => hc ((nI_ltI (by omega) (by omega)).mpr z)
                        refine lv_aload_n hx hb dR_init_172 rfl (lv_at hl 0 rfl) ?_
                        refine hp_get hx hb hG in_R hown hK hst hmb.1 rfl 3 (by decide) (hG _ fl_R_7) rfl rfl dR_init_173 ?_
                        refine lv_iconst (v := nI 3) hx hb dR_init_176 (by decide +kernel) ?_
                        refine lv_iload_n hx hb dR_init_177 rfl (lv_at hl 1 rfl) ?_
                        refine t_imul hx hb dR_init_178 (v := nI (3 * k)) (pk_mul _ _) ?_
                        refine lv_iload hx hb dR_init_179 (lv_at hl 3 rfl) ?_
                        refine hp_iast hx hb hK rfl hst hmb.2.1 (j := (3 * k)) (v := a) (by omega) (by omega) dR_init_181 (fun H locs hst => ?_)
                        obtain ⟨hb243, hs244⟩ := hmb.s1 (va_up c1 (3 * k) a)
                        generalize hp_up M1 (E 1) ((1000, 1), e_n Y 27417 (va_up c1 (3 * k) a)) = M245 at hst hb243 hs244
                        have ho246 := ho.tr hs244
                        refine lv_aload_n hx hb dR_init_182 rfl (lv_at hl 0 rfl) ?_
                        refine hp_get hx hb hG in_R hown hK hst hb243.1 rfl 3 (by decide) (hG _ fl_R_7) rfl rfl dR_init_183 ?_
                        refine lv_iconst (v := nI 3) hx hb dR_init_186 (by decide +kernel) ?_
                        refine lv_iload_n hx hb dR_init_187 rfl (lv_at hl 1 rfl) ?_
                        refine t_imul hx hb dR_init_188 (v := nI (3 * k)) (pk_mul _ _) ?_
                        refine lv_iconst (v := nI 1) hx hb dR_init_189 (by decide +kernel) ?_
                        refine t_iadd hx hb dR_init_190 (v := nI ((3 * k) + 1)) (nI_add _ _) ?_
                        refine lv_iload hx hb dR_init_191 (lv_at hl 4 rfl) ?_
                        refine hp_iast hx hb hK rfl hst hb243.2.1 (j := ((3 * k) + 1)) (v := b) (by omega) (by omega) dR_init_193 (fun H locs hst => ?_)
                        obtain ⟨hb247, hs248⟩ := hb243.s1 (va_up (va_up c1 (3 * k) a) ((3 * k) + 1) b)
                        generalize hp_up M245 (E 1) ((1000, 1), e_n Y 27417 (va_up (va_up c1 (3 * k) a) ((3 * k) + 1) b)) = M249 at hst hb247 hs248
                        have ho250 := ho246.tr hs248
                        refine lv_aload_n hx hb dR_init_194 rfl (lv_at hl 0 rfl) ?_
                        refine hp_get hx hb hG in_R hown hK hst hb247.1 rfl 3 (by decide) (hG _ fl_R_7) rfl rfl dR_init_195 ?_
                        refine lv_iconst (v := nI 3) hx hb dR_init_198 (by decide +kernel) ?_
                        refine lv_iload_n hx hb dR_init_199 rfl (lv_at hl 1 rfl) ?_
                        refine t_imul hx hb dR_init_200 (v := nI (3 * k)) (pk_mul _ _) ?_
                        refine lv_iconst (v := nI 2) hx hb dR_init_201 (by decide +kernel) ?_
                        refine t_iadd hx hb dR_init_202 (v := nI ((3 * k) + 2)) (nI_add _ _) ?_
                        refine lv_iload hx hb dR_init_203 (lv_at hl 2 rfl) ?_
                        refine lv_iload hx hb dR_init_205 (lv_at hl 3 rfl) ?_
                        refine t_isub hx hb dR_init_207 (v := nI (s - a)) (pk_sub (by omega)) ?_
                        refine lv_iload hx hb dR_init_208 (lv_at hl 4 rfl) ?_
                        refine t_isub hx hb dR_init_210 (v := nI ((s - a) - b)) (pk_sub (by omega)) ?_
                        refine hp_iast hx hb hK rfl hst hb247.2.1 (j := ((3 * k) + 2)) (v := ((s - a) - b)) (by omega) (by omega) dR_init_211 (fun H locs hst => ?_)
                        obtain ⟨hb251, hs252⟩ := hb247.s1 (va_up (va_up (va_up c1 (3 * k) a) ((3 * k) + 1) b) ((3 * k) + 2) ((s - a) - b))
                        generalize hp_up M249 (E 1) ((1000, 1), e_n Y 27417 (va_up (va_up (va_up c1 (3 * k) a) ((3 * k) + 1) b) ((3 * k) + 2) ((s - a) - b))) = M253 at hst hb251 hs252
                        have ho254 := ho250.tr hs252
                        refine lv_aload_n hx hb dR_init_212 rfl (lv_at hl 0 rfl) ?_
                        refine hp_get hx hb hG in_R hown hK hst hb251.1 rfl 4 (by decide) (hG _ fl_R_14) rfl rfl dR_init_213 ?_
                        refine lv_bipush (v := nI 37) hx hb dR_init_216 (by decide +kernel) ?_
                        refine lv_iload hx hb dR_init_218 (lv_at hl 3 rfl) ?_
                        refine t_imul hx hb dR_init_220 (v := nI (37 * a)) (pk_mul _ _) ?_
                        refine lv_iload hx hb dR_init_221 (lv_at hl 4 rfl) ?_
                        refine t_iadd hx hb dR_init_223 (v := nI ((37 * a) + b)) (nI_add _ _) ?_
                        refine lv_bipush (v := nI 37) hx hb dR_init_224 (by decide +kernel) ?_
                        refine t_imul hx hb dR_init_226 (v := nI (((37 * a) + b) * 37)) (pk_mul _ _) ?_
                        refine lv_iload hx hb dR_init_227 (lv_at hl 2 rfl) ?_
                        refine t_iadd hx hb dR_init_229 (v := nI ((((37 * a) + b) * 37) + s)) (nI_add _ _) ?_
                        refine lv_iload hx hb dR_init_230 (lv_at hl 3 rfl) ?_
                        refine t_isub hx hb dR_init_232 (v := nI (((((37 * a) + b) * 37) + s) - a)) (pk_sub (by omega)) ?_
                        refine lv_iload hx hb dR_init_233 (lv_at hl 4 rfl) ?_
                        refine t_isub hx hb dR_init_235 (v := nI ((((((37 * a) + b) * 37) + s) - a) - b)) (pk_sub (by omega)) ?_
                        refine tp_n (e2 := (37 * a + b) * 37 + (s - a - b)) (by omega) ?_
                        refine lv_iload_n hx hb dR_init_236 rfl (lv_at hl 1 rfl) ?_
                        refine hp_iast hx hb hK rfl hst hb251.2.2.1 (j := ((37 * a + b) * 37 + (s - a - b))) (v := k) (by omega) (by omega) dR_init_237 (fun H locs hst => ?_)
                        obtain ⟨hb255, hs256⟩ := hb251.s2 (va_up c2 ((37 * a + b) * 37 + (s - a - b)) k)
                        generalize hp_up M253 (E 2) ((1000, 2), e_n Y 50653 (va_up c2 ((37 * a + b) * 37 + (s - a - b)) k)) = M257 at hst hb255 hs256
                        have ho258 := ho254.tr hs256
                        refine lv_iinc (lv' := [(3, .int (nI (k + 1))), (0, .ref ma), (4, .int (nI s)), (5, .int (nI a)), (6, .int (nI b))]) hx hb dR_init_238 hl (k := 1) rfl (ii_p _) (by decide) rfl (fun ls hl => ?_)
                        refine lv_iinc (lv' := [(6, .int (dn b)), (3, .int (nI (k + 1))), (0, .ref ma), (4, .int (nI s)), (5, .int (nI a))]) hx hb dR_init_241 hl (k := 4) rfl (ii_m _) (by decide) rfl (fun ls hl => ?_)
                        refine lv_goto hx hb dR_init_244 (tgt := 167) rfl ?_
                        exact ihLB _ (by omega) b (k + 1) (va_up (va_up (va_up c1 (3 * k) a) ((3 * k) + 1) b) ((3 * k) + 2) ((s - a) - b)) (va_up c2 ((37 * a + b) * 37 + (s - a - b)) k) M257 _ _ _ rfl (by omega) hb255 (tb_step (by omega) hkr htb) (by omega) ho258 hst (lv_sub hl [2, 1, 3, 4, 0] rfl)
                  have hl : lv_has ls 7 [(6, .int (dn (s - a + 1))), (0, .ref ma), (3, .int (nI k)), (4, .int (nI s)), (5, .int (nI a))] := by rw [dn_s]; exact hl
                  exact LB _ (s - a + 1) k c1 c2 M1 _ _ _ rfl (by omega) hmb htb (by omega) ho hst (lv_sub hl [1, 2, 3, 4, 0] rfl)
            have hl : lv_has ls 7 [(5, .int (dn (s + 1))), (0, .ref ma), (3, .int (nI k)), (4, .int (nI s))] := by rw [dn_s]; exact hl
            exact LA _ (s + 1) k c1 c2 M1 _ _ _ rfl (by omega) hmb htb (by omega) ho hst (lv_sub hl [1, 2, 3, 0] rfl)
      have hl : lv_has ls 7 [(4, .int (dn 37)), (3, .int (nI 0)), (0, .ref ma), (2, .int (nI n))] := by rw [show dn 37 = nI 36 from dn_s 36]; exact hl
      exact LS _ 37 0 (fun _ => 0) (fun _ => 0) MP _ _ _ rfl (by omega) hmbP ⟨fun i hi => by omega, fun a b d _ hlt => by omega⟩ (by rw [T3_37]) hoQ hst (lv_sub hl [2, 1, 0] rfl)
    · skip
      rw [← nI_0] at hc
      have hcb : b = 0 := (nI_eq (by omega) (by omega)).mp hc
      have hn9 : n ≠ 46337 := fun z => by
        have := hb2.mpr (by rw [z]; exact pr_big)
        omega
      refine lv_iinc (lv' := [(2, .int (nI (n + 1))), (0, .ref ma)]) hx hb dR_init_129 hl (k := 1) rfl (ii_p _) (by decide) rfl (fun ls hl => ?_)
      refine lv_goto hx hb dR_init_132 (tgt := 122) rfl ?_
      exact ihLP _ (by omega) (n + 1) _ _ _ rfl (by omega) (by omega) (by omega) (fun q hq hlt => by
          by_cases he : q = n
          · subst he
            have := hb2.mpr hq
            omega
          · exact hno q hq (by omega)) hst (lv_sub hl [1, 0] rfl)
  have t2 : (nI 2).toInt = 2 := nI_toInt (by omega)
  have t4 : (nI 46337).toInt = 46337 := nI_toInt (by omega)
  refine lv_iload_n hx hb dR_init_100 rfl (lv_at hl 1 rfl) ?_
  refine lv_iconst (v := nI 2) hx hb dR_init_101 (by decide +kernel) ?_
  refine lv_icmp_ge hx hb dR_init_102 (tgt := 109) rfl (fun hc => ?_) (fun hc => ?_)
  · skip
    rw [Int32.le_iff_toInt_le, t2] at hc
    have g2 := hc
    refine lv_iload_n hx hb dR_init_109 rfl (lv_at hl 1 rfl) ?_
    refine lv_ldc (v := nI 46337) hx hb hown (hG _ kc_R_46) dR_init_110 ?_
    refine lv_icmp_le hx hb dR_init_112 (tgt := 120) rfl (fun hc => ?_) (fun hc => ?_)
    · skip
      rw [Int32.le_iff_toInt_le, t4] at hc
      obtain ⟨n0, hn0, hn1, hn2⟩ : ∃ n0 : Nat, x = nI n0 ∧ 2 ≤ n0 ∧ (n0 : Int) = x.toInt := ⟨x.toInt.toNat, i32_of (by omega), by omega, by omega⟩
      refine lv_iload_n hx hb dR_init_120 rfl (lv_at hl 1 rfl) ?_
      refine tp_i (e2 := nI n0) hn0 ?_
      refine lv_istore_n (lv' := [(2, .int (nI n0)), (0, .ref ma), (1, .int x)]) hx hb dR_init_121 rfl hl (by decide) rfl (fun ls hl => ?_)
      exact LP _ n0 _ _ _ rfl (by omega) (by omega) (by omega) (fun q hq hlt => by omega) hst (lv_sub hl [1, 0] rfl)
    · skip
      rw [Int32.le_iff_toInt_le, t4] at hc
      refine lv_ldc (v := nI 46337) hx hb hown (hG _ kc_R_46) dR_init_115 ?_
      refine lv_goto hx hb dR_init_117 (tgt := 121) rfl ?_
      refine lv_istore_n (lv' := [(2, .int (nI 46337)), (0, .ref ma), (1, .int x)]) hx hb dR_init_121 rfl hl (by decide) rfl (fun ls hl => ?_)
      exact LP _ 46337 _ _ _ rfl (by omega) (by omega) (by omega) (fun q hq hlt => by omega) hst (lv_sub hl [1, 0] rfl)
  · skip
    rw [Int32.le_iff_toInt_le, t2] at hc
    refine lv_iconst (v := nI 2) hx hb dR_init_105 (by decide +kernel) ?_
    refine lv_goto hx hb dR_init_106 (tgt := 121) rfl ?_
    refine lv_istore_n (lv' := [(2, .int (nI 2)), (0, .ref ma), (1, .int x)]) hx hb dR_init_121 rfl hl (by decide) rfl (fun ls hl => ?_)
    exact LP _ 2 _ _ _ rfl (by omega) (by omega) (by omega) (fun q hq hlt => by have := hq.1; omega) hst (lv_sub hl [1, 0] rfl)
