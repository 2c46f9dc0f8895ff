/-! The sheet: sh says that its cells hold the function c on packed monomials. -/
def frk (i : Nat) : Nat := if i % 64 ≤ i / 64 ∧ i / 64 ≤ 36 then T3 (i / 64) + R2 (i / 64) (i % 64) else 0
theorem rk_frk {m : Nat} (h : mv m) : rk m = frk (m / 4096) + xe m 1 := by
  obtain ⟨a, b, c, h1, rfl⟩ := mv_of h
  have h2 : mp a b c / 4096 = (a + b + c) * 64 + a := by unfold mp; omega
  rw [rk_mp (by omega), h2, mp_x1 (by omega)]
  unfold frk
  have h3 : ((a + b + c) * 64 + a) / 64 = a + b + c := by omega
  have h4 : ((a + b + c) * 64 + a) % 64 = a := by omega
  rw [h3, h4, if_pos (by omega)]
theorem frk_lt {m : Nat} (h : mv m) : frk (m / 4096) < 9139 := by
  have h1 := rk_lt h
  rw [rk_frk h] at h1
  omega
theorem md_lt {m : Nat} (h : mv m) : m / 4096 < 2368 := by
  obtain ⟨a, b, c, h1, rfl⟩ := mv_of h
  unfold mp
  omega
def sh (Y : Nat → ClassId) (M : Hm) (sa fa : Nat) (c : Pf) : Prop :=
  ∃ (ma fr ca e : Nat) (g : Nat → Nat), M sa = some ((2, 0), .inr (3, [.ref fa, .ref ma, .ref fr, .ref ca, .int (nI e)])) ∧ M ma = some ((2, 1), e_n Y 9139 ur) ∧ M fr = some ((2, 2), e_n Y 2368 frk) ∧ M ca = some ((2, 3), e_n Y 9139 g) ∧
    (∀ r, r < 9139 → g r = c (ur r)) ∧ e ≤ 9139 ∧ ∀ r, e ≤ r → r < 9139 → c (ur r) = 0
theorem sh.off {Y : Nat → ClassId} {M M' : Hm} {sa fa : Nat} {c : Pf} {S : Nat → Prop} (h : sh Y M sa fa c) (ho : hp_off S M M') (hS : ¬ S 2) : sh Y M' sa fa c := by
  obtain ⟨ma, fr, ca, e, g, h0, h1, h2, h3, h4⟩ := h
  exact ⟨ma, fr, ca, e, g, ho.of h0 hS, ho.of h1 hS, ho.of h2 hS, ho.of h3 hS, h4⟩
theorem sh.cell {Y : Nat → ClassId} {M : Hm} {sa fa : Nat} {c : Pf} (h : sh Y M sa fa c) : ∃ fs : List Value, M sa = some ((2, 0), .inr (3, fs)) := by
  obtain ⟨ma, fr, ca, e, g, h0, -⟩ := h
  exact ⟨_, h0⟩
theorem sh.congr {Y : Nat → ClassId} {M : Hm} {sa fa : Nat} {c c' : Pf} (h : sh Y M sa fa c) (he : ∀ r, r < 9139 → c (ur r) = c' (ur r)) : sh Y M sa fa c' := by
  obtain ⟨ma, fr, ca, e, g, h0, h1, h2, h3, h4, h5, h6⟩ := h
  exact ⟨ma, fr, ca, e, g, h0, h1, h2, h3, fun r hr => (h4 r hr).trans (he r hr), h5, fun r h7 h8 => by rw [← he r h8]; exact h6 r h7 h8⟩
theorem fd.off {M M' : Hm} {fa p : Nat} {S : Nat → Prop} (h : fd M fa p) (ho : hp_off S M M') (hS : ¬ S 1) : fd M' fa p := ⟨ho.of h.1 hS, h.2⟩

set_option maxHeartbeats 4000000 in
set_option maxRecDepth 100000 in
theorem c_S_rankOf (l : Launch) (D : va_G) (Y : Nat → ClassId) (lo : Nat) {M : Hm} {sa fa : Nat} {c : Pf} (hs : sh Y M sa fa c) {k : Nat} (hm : mv k) : ct l D Y lo y_S_rankOf b_S_rankOf 2 (some .int) 1 [.ref sa, .int (nI k)] M (fun r M' => r = some (.int (nI (rk k))) ∧ M = M') nx 0 0 := by
  refine ct_of (by decide) (Nat.le_of_ble_eq_true rfl) ?_
  intro pg eg sg mg bw mt cg ls X hst hl
  have X1 := X
  obtain ⟨hx, hb, hml, hrt, hlocks, hown, hnm, hts, hkz, hex⟩ := X1
  have hG : ∀ w ∈ GW, w.before _ sg = true := fun w h => hts w (List.mem_cons_of_mem _ h)
  have hK := hkz.1
  have hl : lv_has ls 2 [(0, .ref sa), (1, .int (nI k))] := hl
  obtain ⟨ma, fr, ca, en, g, s0, s1, s2, s3, hg, hen, hz⟩ := hs
  have hm1 := mv_lt hm
  have hm2 := md_lt hm
  have hm3 := frk_lt hm
  have hm4 := xe_lt k 1
  refine lv_aload_n hx hb dS_rankOf_0 rfl (lv_at hl 0 rfl) ?_
  refine hp_get hx hb hG in_S hown hK hst s0 rfl 2 (by decide) (hG _ fl_S_15) rfl rfl dS_rankOf_1 ?_
  refine lv_iload_n hx hb dS_rankOf_4 rfl (lv_at hl 1 rfl) ?_
  refine ct_callS (av2 := [.int (nI k)]) (rest := [.ref fr]) X hst (c_Q_sumAndFirst l D Y lo (k := k) (by omega)) wc_Q_sumAndFirst ml_S_29 ws_Q_sumAndFirst wn_Q md_Q_sumAndFirst (by decide) hl.1 rfl (Nat.le_of_ble_eq_true rfl) ⟨by omega, by omega⟩ (fun _ _ h => h.elim) dS_rankOf_5 (fun r M' H locs hp hst => ?_)
  obtain ⟨rfl, rfl⟩ := hp
  refine hp_iald hx hb hK rfl hst s2 (j := (k / 4096)) (by omega) (by omega) dS_rankOf_8 ?_
  refine lv_iload_n hx hb dS_rankOf_9 rfl (lv_at hl 1 rfl) ?_
  refine lv_iconst (v := nI 1) hx hb dS_rankOf_10 (by decide +kernel) ?_
  refine ct_callS (av2 := [.int (nI k), .int (nI 1)]) (rest := [.int (nI (frk (k / 4096)))]) X hst (c_Q_exponent l D Y lo (k := k) (v := 1) (by omega) (by omega)) wc_Q_exponent ml_S_33 ws_Q_exponent wn_Q md_Q_exponent (by decide) hl.1 rfl (Nat.le_of_ble_eq_true rfl) ⟨by omega, by omega⟩ (fun _ _ h => h.elim) dS_rankOf_11 (fun r M' H locs hp hst => ?_)
  obtain ⟨rfl, rfl⟩ := hp
  refine t_iadd hx hb dS_rankOf_14 (v := nI ((frk (k / 4096)) + (xe k 1))) (nI_add _ _) ?_
  exact ct_iret X hst ⟨by rw [rk_frk hm], rfl⟩ (by omega) (by omega) dS_rankOf_15

set_option maxHeartbeats 4000000 in
set_option maxRecDepth 100000 in
theorem c_S_addTerm (l : Launch) (D : va_G) (Y : Nat → ClassId) (lo : Nat) {M : Hm} {sa fa p : Nat} {c : Pf} (hs : sh Y M sa fa c) (hf : fd M fa p) (hcp : ∀ m, c m < p) {k f x : Nat} (hm : mv k) (hfp : f < p) (hxp : x < p) : ct l D Y lo y_S_addTerm b_S_addTerm 5 none 2 [.ref sa, .int (nI k), .int (nI f), .int (nI x)] M (fun r M' => r = none ∧ sh Y M' sa fa (va_up c k ((c k + f * x) % p)) ∧ hp_off (fun i => i = 2) M M') nx 0 0 := by
  refine ct_of (by decide) (Nat.le_of_ble_eq_true rfl) ?_
  intro pg eg sg mg bw mt cg ls X hst hl
  have X1 := X
  obtain ⟨hx, hb, hml, hrt, hlocks, hown, hnm, hts, hkz, hex⟩ := X1
  have hG : ∀ w ∈ GW, w.before _ sg = true := fun w h => hts w (List.mem_cons_of_mem _ h)
  have hK := hkz.1
  have hl : lv_has ls 5 [(0, .ref sa), (1, .int (nI k)), (2, .int (nI f)), (3, .int (nI x))] := hl
  have hs0 := hs
  have hrk := rk_lt hm
  have hur := ur_rk hm
  have hf9 := hf
  obtain ⟨ma, fr, ca, en, g, s0, s1, s2, s3, hg, hen, hz⟩ := hs
  obtain ⟨f0, hp2, hp3⟩ := hf9
  have hgk : g (rk k) = c (k) := by rw [hg _ hrk, hur]
  refine lv_aload_n hx hb dS_addTerm_0 rfl (lv_at hl 0 rfl) ?_
  refine lv_iload_n hx hb dS_addTerm_1 rfl (lv_at hl 1 rfl) ?_
  refine ct_callV (av2 := [.int (nI k)]) (rest := []) (b := sa) X hst (c_S_rankOf l D Y lo hs0 hm) s0 rfl wc_S_rankOf ml_S_37 wi_S_rankOf wl_S_rankOf wn_S md_S_rankOf (by decide) hl.1 rfl (Nat.le_of_ble_eq_true rfl) ⟨by omega, by omega⟩ (fun _ _ h => h.elim) dS_addTerm_2 (fun r M' H locs hp hst => ?_)
  obtain ⟨rfl, rfl⟩ := hp
  refine lv_istore (lv' := [(4, .int (nI (rk k))), (0, .ref sa), (1, .int (nI k)), (2, .int (nI f)), (3, .int (nI x))]) hx hb dS_addTerm_5 hl (by decide) rfl (fun ls hl => ?_)
  refine lv_aload_n hx hb dS_addTerm_7 rfl (lv_at hl 1 rfl) ?_
  refine hp_get hx hb hG in_S hown hK hst s0 rfl 3 (by decide) (hG _ fl_S_18) rfl rfl dS_addTerm_8 ?_
  refine lv_iload hx hb dS_addTerm_11 (lv_at hl 0 rfl) ?_
  refine lv_aload_n hx hb dS_addTerm_13 rfl (lv_at hl 1 rfl) ?_
  refine hp_get hx hb hG in_S hown hK hst s0 rfl 0 (by decide) (hG _ fl_S_21) rfl rfl dS_addTerm_14 ?_
  refine lv_aload_n hx hb dS_addTerm_17 rfl (lv_at hl 1 rfl) ?_
  refine hp_get hx hb hG in_S hown hK hst s0 rfl 3 (by decide) (hG _ fl_S_18) rfl rfl dS_addTerm_18 ?_
  refine lv_iload hx hb dS_addTerm_21 (lv_at hl 0 rfl) ?_
  refine hp_iald hx hb hK rfl hst s3 (j := (rk k)) (by omega) (by omega) dS_addTerm_23 ?_
  refine tp_n (e2 := c k) hgk ?_
  refine lv_iload_n hx hb dS_addTerm_24 rfl (lv_at hl 3 rfl) ?_
  refine lv_iload_n hx hb dS_addTerm_25 rfl (lv_at hl 4 rfl) ?_
  refine ct_callV (av2 := [.int (nI (c k)), .int (nI f), .int (nI x)]) (rest := [.int (nI (rk k)), .ref ca]) (b := fa) X hst (c_F_sumWithProduct l D Y lo hf (hcp k) hfp hxp) f0 rfl wc_F_sumWithProduct ml_S_40 wi_F_sumWithProduct wl_F_sumWithProduct wn_F md_F_sumWithProduct (by decide) hl.1 rfl (Nat.le_of_ble_eq_true rfl) ⟨by omega, by omega⟩ (fun _ _ h => h.elim) dS_addTerm_26 (fun r M' H locs hp hst => ?_)
  obtain ⟨rfl, rfl⟩ := hp
  refine hp_iast hx hb hK rfl hst s3 (j := (rk k)) (v := ((c k + f * x) % p)) (by omega) (by omega) dS_addTerm_29 (fun H locs hst => ?_)
  generalize hM2 : hp_up M ca ((2, 3), e_n Y 9139 (va_up g (rk k) ((c k + f * x) % p))) = M1 at hst
  have f3 : M1 ca = some ((2, 3), e_n Y 9139 (va_up g (rk k) ((c k + f * x) % p))) := by rw [← hM2]; exact hp_up_self _ _ _
  have f4 : M1 sa = some ((2, 0), .inr (3, [.ref fa, .ref ma, .ref fr, .ref ca, .int (nI en)])) := by rw [← hM2]; exact hp_kt s3 s0 (tg2 (by decide))
  have f5 : M1 ma = some ((2, 1), e_n Y 9139 ur) := by rw [← hM2]; exact hp_kt s3 s1 (tg2 (by decide))
  have f6 : M1 fr = some ((2, 2), e_n Y 2368 frk) := by rw [← hM2]; exact hp_kt s3 s2 (tg2 (by decide))
  have f7 : M1 fa = some ((1, 0), .inr (0, [.int (nI p)])) := by rw [← hM2]; exact hp_kt s3 f0 (tg2 (by decide))
  have o8 : hp_off (fun i => i = 2) M M1 := by rw [← hM2]; exact hp_off.up s3 rfl
  refine lv_aload_n hx hb dS_addTerm_30 rfl (lv_at hl 1 rfl) ?_
  refine lv_aload_n hx hb dS_addTerm_31 rfl (lv_at hl 1 rfl) ?_
  refine hp_get hx hb hG in_S hown hK hst f4 rfl 4 (by decide) (hG _ fl_S_45) rfl rfl dS_addTerm_32 ?_
  refine lv_iload hx hb dS_addTerm_35 (lv_at hl 0 rfl) ?_
  refine lv_iconst (v := nI 1) hx hb dS_addTerm_37 (by decide +kernel) ?_
  refine t_iadd hx hb dS_addTerm_38 (v := nI ((rk k) + 1)) (nI_add _ _) ?_
  refine va_mmax hx hb (by rw [hml]; exact hl.1.symm) hown (hG _ ml_S_49) (hG _ ws_Jm_max) (hG _ wn_Jm) (hG _ wc_Jm_max) (Nat.le_of_ble_eq_true rfl) (Nat.le_of_ble_eq_true rfl) (by show _ ≤ _; omega) (by show _ ≤ _; omega) dS_addTerm_39 ?_
  refine tp_i (e2 := nI (max en ((rk k) + 1))) (mx9 (by omega) (by omega)) ?_
  refine hp_put hx hb hG in_S ty_S tyok_S nm_S hown hK hst f4 rfl 4 (by decide) (hG _ fl_S_45) rfl rfl rfl rfl (Nat.le_of_ble_eq_true rfl) dS_addTerm_42 (fs' := [.ref fa, .ref ma, .ref fr, .ref ca, .int (nI (max en ((rk k) + 1)))]) rfl (fun H locs hst => ?_)
  generalize hM10 : hp_up M1 sa ((2, 0), .inr (3, [.ref fa, .ref ma, .ref fr, .ref ca, .int (nI (max en ((rk k) + 1)))])) = M9 at hst
  have f11 : M9 sa = some ((2, 0), .inr (3, [.ref fa, .ref ma, .ref fr, .ref ca, .int (nI (max en ((rk k) + 1)))])) := by rw [← hM10]; exact hp_up_self _ _ _
  have f12 : M9 ma = some ((2, 1), e_n Y 9139 ur) := by rw [← hM10]; exact hp_kt f4 f5 (tg2 (by decide))
  have f13 : M9 fr = some ((2, 2), e_n Y 2368 frk) := by rw [← hM10]; exact hp_kt f4 f6 (tg2 (by decide))
  have f14 : M9 fa = some ((1, 0), .inr (0, [.int (nI p)])) := by rw [← hM10]; exact hp_kt f4 f7 (tg1 (by decide))
  have f15 : M9 ca = some ((2, 3), e_n Y 9139 (va_up g (rk k) ((c k + f * x) % p))) := by rw [← hM10]; exact hp_kt f4 f3 (tg2 (by decide))
  have o16 : hp_off (fun i => i = 2) M M9 := by rw [← hM10]; exact hp_off.tr o8 (hp_off.up f4 rfl)
  have hA : ∀ r, r < 9139 → (va_up g (rk k) ((c k + f * x) % p)) r = va_up c k ((c k + f * x) % p) (ur r) := by
    intro r hr
    by_cases h9 : r = rk k
    · subst h9; rw [va_up_self, hur, va_up_self]
    · rw [va_up_ne _ _ h9, va_up_ne _ _ (fun z => h9 (by rw [← z, rk_ur hr])), hg r hr]
  have hB : ∀ r, max en (rk k + 1) ≤ r → r < 9139 → va_up c k ((c k + f * x) % p) (ur r) = 0 := by
    intro r h8 hr
    have h9 : r ≠ rk k := by omega
    rw [va_up_ne _ _ (fun z => h9 (by rw [← z, rk_ur hr]))]
    exact hz r (by omega) hr
  exact ct_vret X hst ⟨rfl, ⟨ma, fr, ca, _, _, f11, f12, f13, f15, hA, (by omega), hB⟩, o16⟩ (by omega) (by omega) dS_addTerm_45

set_option maxHeartbeats 4000000 in
set_option maxRecDepth 100000 in
theorem c_S_addMultiple (l : Launch) (D : va_G) (Y : Nat → ClassId) (lo : Nat) {M : Hm} {sa fa p : Nat} {c : Pf} (hs : sh Y M sa fa c) (hf : fd M fa p) (hcp : ∀ m, c m < p) {id h cap : Nat} {L : List (Nat × Nat)} (hp : po Y M id h cap L) (hid : id ≠ 2) {f t : Nat} (hfp : f < p) (hmo : ∀ q ∈ L, mv (q.1 + t) ∧ q.2 < p) : ct l D Y lo y_S_addMultiple b_S_addMultiple 5 none 3 [.ref sa, .ref h, .int (nI f), .int (nI t)] M (fun r M' => r = none ∧ sh Y M' sa fa (addL p f t L c) ∧ hp_off (fun i => i = 2) M M') nx 0 0 := by
  refine ct_of (by decide) (Nat.le_of_ble_eq_true rfl) ?_
  intro pg eg sg mg bw mt cg ls X hst hl
  have X1 := X
  obtain ⟨hx, hb, hml, hrt, hlocks, hown, hnm, hts, hkz, hex⟩ := X1
  have hG : ∀ w ∈ GW, w.before _ sg = true := fun w h => hts w (List.mem_cons_of_mem _ h)
  have hK := hkz.1
  have hl : lv_has ls 5 [(0, .ref sa), (1, .ref h), (2, .int (nI f)), (3, .int (nI t))] := hl
  have hp2 := hf.2.1
  refine lv_iconst (v := nI 0) hx hb dS_addMultiple_0 (by decide +kernel) ?_
  refine lv_istore (lv' := [(4, .int (nI 0)), (0, .ref sa), (1, .ref h), (2, .int (nI f)), (3, .int (nI t))]) hx hb dS_addMultiple_1 hl (by decide) rfl (fun ls hl => ?_)
  have LP : ∀ (kk : Nat) (i : Nat) (c1 : Pf) (M1 : Hm) (H : Heap) (locs : List Loc) (ls : Array Slot), kk = L.length - i → (i ≤ L.length) → (sh Y M1 sa fa c1) → (∀ m, c1 m < p) → (addL p f t (L.drop i) c1 = addL p f t L c) → (hp_off (fun i => i = 2) M M1) → hp_st D vC lo M1 sg.heap H locs → lv_has ls 5 [(0, .ref sa), (1, .ref h), (2, .int (nI f)), (3, .int (nI t)), (4, .int (nI i))] → cW pg l eg sg mg [.ref sa, .ref h, .int (nI f), .int (nI t)] bw mt cg y_S_addMultiple b_S_addMultiple 5 none 3 D lo (fun r M' => r = none ∧ sh Y M' sa fa (addL p f t L c) ∧ hp_off (fun i => i = 2) M M') nx 0 0 H locs 0 0 (F0 mg 3 ls []) := by
    intro kk
    induction kk using Nat.strongRecOn with
    | _ kk ihLP =>
    intro i c1 M1 H locs ls hkk hi hs1 hcp1 hinv ho hst hl
    have hpi : po Y M1 id h cap L := hp.off ho (by omega)
    have hfi : fd M1 fa p := hf.off ho (by omega)
    obtain ⟨a9, b9, fa9, fb9, h09, h19, h29, hL9, hn9, hc19, hc29⟩ := hpi
    refine lv_iload hx hb dS_addMultiple_3 (lv_at hl 4 rfl) ?_
    refine lv_aload_n hx hb dS_addMultiple_5 rfl (lv_at hl 1 rfl) ?_
    refine hp_get hx hb hG in_P hown hK hst h09 rfl 2 (by decide) (hG _ fl_S_54) rfl rfl dS_addMultiple_6 ?_
    refine lv_icmp_ge hx hb dS_addMultiple_9 (tgt := 39) rfl (fun hc => ?_) (fun hc => ?_)
    · skip
      have hc : L.length ≤ i := (nI_leI (by omega) (by omega)).mp hc
      rw [List.drop_eq_nil_of_le (by omega)] at hinv
      have hinv : c1 = addL p f t L c := hinv
      exact ct_vret X hst ⟨rfl, (by rw [← hinv]; exact hs1), ho⟩ (by omega) (by omega) dS_addMultiple_39
    · skip
      have hc : ¬ L.length ≤ i := fun z => hc ((nI_leI (by omega) (by omega)).mpr z)
      obtain ⟨q, hq1, hq2, hq3⟩ := dr_cons (L := L) (i := i) (by omega)
      obtain ⟨i1, i2⟩ := hL9 i q hq1
      obtain ⟨hm1, hm2⟩ := hmo q hq2
      have hm3 := mv_lt hm1
      obtain ⟨fs0, hcell⟩ := hs1.cell
      refine lv_aload_n hx hb dS_addMultiple_12 rfl (lv_at hl 0 rfl) ?_
      refine lv_aload_n hx hb dS_addMultiple_13 rfl (lv_at hl 1 rfl) ?_
      refine hp_get hx hb hG in_P hown hK hst h09 rfl 0 (by decide) (hG _ fl_S_59) rfl rfl dS_addMultiple_14 ?_
      refine lv_iload hx hb dS_addMultiple_17 (lv_at hl 4 rfl) ?_
      refine hp_iald hx hb hK rfl hst h19 (j := i) (by omega) (by omega) dS_addMultiple_19 ?_
      refine tp_n (e2 := q.1) i1 ?_
      refine lv_iload_n hx hb dS_addMultiple_20 rfl (lv_at hl 3 rfl) ?_
      refine t_iadd hx hb dS_addMultiple_21 (v := nI (q.1 + t)) (nI_add _ _) ?_
      refine lv_iload_n hx hb dS_addMultiple_22 rfl (lv_at hl 2 rfl) ?_
      refine lv_aload_n hx hb dS_addMultiple_23 rfl (lv_at hl 1 rfl) ?_
      refine hp_get hx hb hG in_P hown hK hst h09 rfl 1 (by decide) (hG _ fl_S_60) rfl rfl dS_addMultiple_24 ?_
      refine lv_iload hx hb dS_addMultiple_27 (lv_at hl 4 rfl) ?_
      refine hp_iald hx hb hK rfl hst h29 (j := i) (by omega) (by omega) dS_addMultiple_29 ?_
      refine tp_n (e2 := q.2) i2 ?_
      refine ct_callV (av2 := [.int (nI (q.1 + t)), .int (nI f), .int (nI q.2)]) (rest := []) (b := sa) X hst (c_S_addTerm l D Y lo hs1 hfi hcp1 (k := q.1 + t) (f := f) (x := q.2) hm1 hfp hm2) hcell rfl wc_S_addTerm ml_S_63 wi_S_addTerm wl_S_addTerm wn_S md_S_addTerm (by decide) hl.1 rfl (Nat.le_of_ble_eq_true rfl) ⟨by omega, by omega⟩ (fun _ _ h => h.elim) dS_addMultiple_30 (fun r M' H locs hp hst => ?_)
      obtain ⟨rfl, hs2, ho2⟩ := hp
      refine lv_iinc (lv' := [(4, .int (nI (i + 1))), (0, .ref sa), (1, .ref h), (2, .int (nI f)), (3, .int (nI t))]) hx hb dS_addMultiple_33 hl (k := 4) rfl (ii_p _) (by decide) rfl (fun ls hl => ?_)
      refine lv_goto hx hb dS_addMultiple_36 (tgt := 3) rfl ?_
      exact ihLP _ (by omega) (i + 1) (va_up c1 (q.1 + t) ((c1 (q.1 + t) + f * q.2) % p)) M' _ _ _ rfl (by omega) hs2 (fun m => by
          by_cases h9 : m = q.1 + t
          · subst h9; rw [va_up_self]; exact Nat.mod_lt _ (by omega)
          · rw [va_up_ne _ _ h9]; exact hcp1 m) (by rw [hq3] at hinv; exact hinv) (ho.tr ho2) hst (lv_sub hl [1, 2, 3, 4, 0] rfl)
  exact LP _ 0 c M _ _ _ rfl (by omega) hs hcp rfl hp_off.rf hst (lv_sub hl [1, 2, 3, 4, 0] rfl)

set_option maxHeartbeats 4000000 in
set_option maxRecDepth 100000 in
theorem c_S_addProduct (l : Launch) (D : va_G) (Y : Nat → ClassId) (lo : Nat) {M : Hm} {sa fa p : Nat} {c : Pf} (hs : sh Y M sa fa c) (hf : fd M fa p) (hcp : ∀ m, c m < p) {id h cap : Nat} {L : List (Nat × Nat)} (hp : po Y M id h cap L) (hid : id ≠ 2) {id2 hr cap2 : Nat} {R : List (Nat × Nat)} (hp2 : po Y M id2 hr cap2 R) (hid2 : id2 ≠ 2) (hmo : ∀ q ∈ L, q.2 < p ∧ ∀ q2 ∈ R, mv (q2.1 + q.1) ∧ q2.2 < p) : ct l D Y lo y_S_addProduct b_S_addProduct 4 none 4 [.ref sa, .ref h, .ref hr] M (fun r M' => r = none ∧ sh Y M' sa fa (mulL p R L c) ∧ hp_off (fun i => i = 2) M M') nx 0 0 := by
  refine ct_of (by decide) (Nat.le_of_ble_eq_true rfl) ?_
  intro pg eg sg mg bw mt cg ls X hst hl
  have X1 := X
  obtain ⟨hx, hb, hml, hrt, hlocks, hown, hnm, hts, hkz, hex⟩ := X1
  have hG : ∀ w ∈ GW, w.before _ sg = true := fun w h => hts w (List.mem_cons_of_mem _ h)
  have hK := hkz.1
  have hl : lv_has ls 4 [(0, .ref sa), (1, .ref h), (2, .ref hr)] := hl
  have hpp := hf.2.1
  refine lv_iconst (v := nI 0) hx hb dS_addProduct_0 (by decide +kernel) ?_
  refine lv_istore_n (lv' := [(3, .int (nI 0)), (0, .ref sa), (1, .ref h), (2, .ref hr)]) hx hb dS_addProduct_1 rfl hl (by decide) rfl (fun ls hl => ?_)
  have LP : ∀ (kk : Nat) (i : Nat) (c1 : Pf) (M1 : Hm) (H : Heap) (locs : List Loc) (ls : Array Slot), kk = L.length - i → (i ≤ L.length) → (sh Y M1 sa fa c1) → (∀ m, c1 m < p) → (mulL p R (L.drop i) c1 = mulL p R L c) → (hp_off (fun i => i = 2) M M1) → hp_st D vC lo M1 sg.heap H locs → lv_has ls 4 [(0, .ref sa), (1, .ref h), (2, .ref hr), (3, .int (nI i))] → cW pg l eg sg mg [.ref sa, .ref h, .ref hr] bw mt cg y_S_addProduct b_S_addProduct 4 none 4 D lo (fun r M' => r = none ∧ sh Y M' sa fa (mulL p R L c) ∧ hp_off (fun i => i = 2) M M') nx 0 0 H locs 0 0 (F0 mg 2 ls []) := by
    intro kk
    induction kk using Nat.strongRecOn with
    | _ kk ihLP =>
    intro i c1 M1 H locs ls hkk hi hs1 hcp1 hinv ho hst hl
    have hpi : po Y M1 id h cap L := hp.off ho (by omega)
    have hri : po Y M1 id2 hr cap2 R := hp2.off ho (by omega)
    have hfi : fd M1 fa p := hf.off ho (by omega)
    obtain ⟨a9, b9, fa9, fb9, h09, h19, h29, hL9, hn9, hc19, hc29⟩ := hpi
    refine lv_iload_n hx hb dS_addProduct_2 rfl (lv_at hl 3 rfl) ?_
    refine lv_aload_n hx hb dS_addProduct_3 rfl (lv_at hl 1 rfl) ?_
    refine hp_get hx hb hG in_P hown hK hst h09 rfl 2 (by decide) (hG _ fl_S_54) rfl rfl dS_addProduct_4 ?_
    refine lv_icmp_ge hx hb dS_addProduct_7 (tgt := 33) rfl (fun hc => ?_) (fun hc => ?_)
    · skip
      have hc : L.length ≤ i := (nI_leI (by omega) (by omega)).mp hc
      rw [List.drop_eq_nil_of_le (by omega)] at hinv
      have hinv : c1 = mulL p R L c := hinv
      exact ct_vret X hst ⟨rfl, (by rw [← hinv]; exact hs1), ho⟩ (by omega) (by omega) dS_addProduct_33
    · skip
      have hc : ¬ L.length ≤ i := fun z => hc ((nI_leI (by omega) (by omega)).mpr z)
      obtain ⟨q, hq1, hq2, hq3⟩ := dr_cons (L := L) (i := i) (by omega)
      obtain ⟨i1, i2⟩ := hL9 i q hq1
      have hm2 := hmo q hq2
      obtain ⟨fs0, hcell⟩ := hs1.cell
      refine lv_aload_n hx hb dS_addProduct_10 rfl (lv_at hl 0 rfl) ?_
      refine lv_aload_n hx hb dS_addProduct_11 rfl (lv_at hl 2 rfl) ?_
      refine lv_aload_n hx hb dS_addProduct_12 rfl (lv_at hl 1 rfl) ?_
      refine hp_get hx hb hG in_P hown hK hst h09 rfl 1 (by decide) (hG _ fl_S_60) rfl rfl dS_addProduct_13 ?_
      refine lv_iload_n hx hb dS_addProduct_16 rfl (lv_at hl 3 rfl) ?_
      refine hp_iald hx hb hK rfl hst h29 (j := i) (by omega) (by omega) dS_addProduct_17 ?_
      refine tp_n (e2 := q.2) i2 ?_
      refine lv_aload_n hx hb dS_addProduct_18 rfl (lv_at hl 1 rfl) ?_
      refine hp_get hx hb hG in_P hown hK hst h09 rfl 0 (by decide) (hG _ fl_S_59) rfl rfl dS_addProduct_19 ?_
      refine lv_iload_n hx hb dS_addProduct_22 rfl (lv_at hl 3 rfl) ?_
      refine hp_iald hx hb hK rfl hst h19 (j := i) (by omega) (by omega) dS_addProduct_23 ?_
      refine tp_n (e2 := q.1) i1 ?_
      refine ct_callV (av2 := [.ref hr, .int (nI q.2), .int (nI q.1)]) (rest := []) (b := sa) X hst (c_S_addMultiple l D Y lo hs1 hfi hcp1 hri hid2 (f := q.2) (t := q.1) hm2.1 hm2.2) hcell rfl wc_S_addMultiple ml_S_67 wi_S_addMultiple wl_S_addMultiple wn_S md_S_addMultiple (by decide) hl.1 rfl (Nat.le_of_ble_eq_true rfl) ⟨by omega, by omega⟩ (fun _ _ h => h.elim) dS_addProduct_24 (fun r M' H locs hp hst => ?_)
      obtain ⟨rfl, hs2, ho2⟩ := hp
      refine lv_iinc (lv' := [(3, .int (nI (i + 1))), (0, .ref sa), (1, .ref h), (2, .ref hr)]) hx hb dS_addProduct_27 hl (k := 3) rfl (ii_p _) (by decide) rfl (fun ls hl => ?_)
      refine lv_goto hx hb dS_addProduct_30 (tgt := 2) rfl ?_
      exact ihLP _ (by omega) (i + 1) (addL p q.2 q.1 R c1) M' _ _ _ rfl (by omega) hs2 (addL_lt (by omega) hcp1) (by rw [hq3] at hinv; exact hinv) (ho.tr ho2) hst (lv_sub hl [1, 2, 3, 0] rfl)
  exact LP _ 0 c M _ _ _ rfl (by omega) hs hcp rfl hp_off.rf hst (lv_sub hl [1, 2, 3, 0] rfl)

/-- a monomial without the variable v -/
def wo (k v : Nat) : Nat := k - xe k v * vv v
theorem wo_mp {a b c : Nat} (h : a + b + c ≤ 36) : wo (mp a b c) 0 = mp 0 b c ∧ wo (mp a b c) 1 = mp a 0 c ∧ wo (mp a b c) 2 = mp a b 0 := by
  have h' : a + b + c < 64 := by omega
  unfold wo
  rw [mp_x0 h', mp_x1 h', mp_x2 h']
  refine ⟨?_, ?_, ?_⟩
  · show mp a b c - a * (262144 + 4096) = _; unfold mp; omega
  · show mp a b c - b * (262144 + 64) = _; unfold mp; omega
  · show mp a b c - c * (262144 + 1) = _; unfold mp; omega
theorem wo_mv {k v : Nat} (hk : mv k) (hv : v < 3) : mv (wo k v) := by
  obtain ⟨a, b, c, h, rfl⟩ := mv_of hk
  obtain ⟨h0, h1, h2⟩ := wo_mp h
  refine co3 (P := fun v => mv (wo (mp a b c) v)) ?_ ?_ ?_ hv
  · rw [h0]; exact mv_mp (by omega)
  · rw [h1]; exact mv_mp (by omega)
  · rw [h2]; exact mv_mp (by omega)
def addC (p v ex : Nat) : List (Nat × Nat) → Pf → Pf
  | [], c => c
  | q :: qs, c => addC p v ex qs (if xe q.1 v = ex then va_up c (wo q.1 v) ((c (wo q.1 v) + 1 * q.2) % p) else c)
theorem up_lt {c : Pf} {p m v : Nat} (h : ∀ m, c m < p) (hv : v < p) : ∀ z, va_up c m v z < p := by
  intro z
  by_cases h9 : z = m
  · subst h9; rw [va_up_self]; exact hv
  · rw [va_up_ne _ _ h9]; exact h z

set_option maxHeartbeats 4000000 in
set_option maxRecDepth 100000 in
theorem c_S_addCoefficientOf (l : Launch) (D : va_G) (Y : Nat → ClassId) (lo : Nat) {M : Hm} {sa fa p : Nat} {c : Pf} (hs : sh Y M sa fa c) (hf : fd M fa p) (hcp : ∀ m, c m < p) {id h cap : Nat} {L : List (Nat × Nat)} (hp : po Y M id h cap L) (hid : id ≠ 2) {v ex : Nat} (hv : v < 3) (hex9 : ex < 2 ^ 31) (hmo : ∀ q ∈ L, mv q.1 ∧ q.2 < p) : ct l D Y lo y_S_addCoefficientOf b_S_addCoefficientOf 6 none 3 [.ref sa, .ref h, .int (nI v), .int (nI ex)] M (fun r M' => r = none ∧ sh Y M' sa fa (addC p v ex L c) ∧ hp_off (fun i => i = 2) M M') nx 0 0 := by
  refine ct_of (by decide) (Nat.le_of_ble_eq_true rfl) ?_
  intro pg eg sg mg bw mt cg ls X hst hl
  have X1 := X
  obtain ⟨hx, hb, hml, hrt, hlocks, hown, hnm, hts, hkz, hex⟩ := X1
  have hG : ∀ w ∈ GW, w.before _ sg = true := fun w h => hts w (List.mem_cons_of_mem _ h)
  have hK := hkz.1
  have hl : lv_has ls 6 [(0, .ref sa), (1, .ref h), (2, .int (nI v)), (3, .int (nI ex))] := hl
  have hpp := hf.2.1
  refine lv_iconst (v := nI 0) hx hb dS_addCoefficientOf_0 (by decide +kernel) ?_
  refine lv_istore (lv' := [(4, .int (nI 0)), (0, .ref sa), (1, .ref h), (2, .int (nI v)), (3, .int (nI ex))]) hx hb dS_addCoefficientOf_1 hl (by decide) rfl (fun ls hl => ?_)
  have LP : ∀ (kk : Nat) (i : Nat) (c1 : Pf) (M1 : Hm) (H : Heap) (locs : List Loc) (ls : Array Slot), kk = L.length - i → (i ≤ L.length) → (sh Y M1 sa fa c1) → (∀ m, c1 m < p) → (addC p v ex (L.drop i) c1 = addC p v ex L c) → (hp_off (fun i => i = 2) M M1) → hp_st D vC lo M1 sg.heap H locs → lv_has ls 6 [(0, .ref sa), (1, .ref h), (2, .int (nI v)), (3, .int (nI ex)), (4, .int (nI i))] → cW pg l eg sg mg [.ref sa, .ref h, .int (nI v), .int (nI ex)] bw mt cg y_S_addCoefficientOf b_S_addCoefficientOf 6 none 3 D lo (fun r M' => r = none ∧ sh Y M' sa fa (addC p v ex L c) ∧ hp_off (fun i => i = 2) M M') nx 0 0 H locs 0 0 (F0 mg 3 ls []) := by
    intro kk
    induction kk using Nat.strongRecOn with
    | _ kk ihLP =>
    intro i c1 M1 H locs ls hkk hi hs1 hcp1 hinv ho hst hl
    have hpi : po Y M1 id h cap L := hp.off ho (by omega)
    have hfi : fd M1 fa p := hf.off ho (by omega)
    obtain ⟨a9, b9, fa9, fb9, h09, h19, h29, hL9, hn9, hc19, hc29⟩ := hpi
    refine lv_iload hx hb dS_addCoefficientOf_3 (lv_at hl 4 rfl) ?_
    refine lv_aload_n hx hb dS_addCoefficientOf_5 rfl (lv_at hl 1 rfl) ?_
    refine hp_get hx hb hG in_P hown hK hst h09 rfl 2 (by decide) (hG _ fl_S_54) rfl rfl dS_addCoefficientOf_6 ?_
    refine lv_icmp_ge hx hb dS_addCoefficientOf_9 (tgt := 55) rfl (fun hc => ?_) (fun hc => ?_)
    · skip
      have hc : L.length ≤ i := (nI_leI (by omega) (by omega)).mp hc
      rw [List.drop_eq_nil_of_le (by omega)] at hinv
      have hinv : c1 = addC p v ex L c := hinv
      exact ct_vret X hst ⟨rfl, (by rw [← hinv]; exact hs1), ho⟩ (by omega) (by omega) dS_addCoefficientOf_55
    · skip
      have hc : ¬ L.length ≤ i := fun z => hc ((nI_leI (by omega) (by omega)).mpr z)
      obtain ⟨q, hq1, hq2, hq3⟩ := dr_cons (L := L) (i := i) (by omega)
      obtain ⟨i1, i2⟩ := hL9 i q hq1
      obtain ⟨hm1, hm2⟩ := hmo q hq2
      have hm3 := mv_lt hm1
      have hx9 := xe_lt q.1 v
      obtain ⟨fs0, hcell⟩ := hs1.cell
      rw [hq3] at hinv
      refine lv_aload_n hx hb dS_addCoefficientOf_12 rfl (lv_at hl 1 rfl) ?_
      refine hp_get hx hb hG in_P hown hK hst h09 rfl 0 (by decide) (hG _ fl_S_59) rfl rfl dS_addCoefficientOf_13 ?_
      refine lv_iload hx hb dS_addCoefficientOf_16 (lv_at hl 4 rfl) ?_
      refine hp_iald hx hb hK rfl hst h19 (j := i) (by omega) (by omega) dS_addCoefficientOf_18 ?_
      refine tp_n (e2 := q.1) i1 ?_
      refine lv_istore (lv' := [(5, .int (nI q.1)), (0, .ref sa), (1, .ref h), (2, .int (nI v)), (3, .int (nI ex)), (4, .int (nI i))]) hx hb dS_addCoefficientOf_19 hl (by decide) rfl (fun ls hl => ?_)
      refine lv_iload hx hb dS_addCoefficientOf_21 (lv_at hl 0 rfl) ?_
      refine lv_iload_n hx hb dS_addCoefficientOf_23 rfl (lv_at hl 3 rfl) ?_
      refine ct_callS (av2 := [.int (nI q.1), .int (nI v)]) (rest := []) X hst (c_Q_exponent l D Y lo (k := q.1) (v := v) (by omega) hv) wc_Q_exponent ml_S_33 ws_Q_exponent wn_Q md_Q_exponent (by decide) hl.1 rfl (Nat.le_of_ble_eq_true rfl) ⟨by omega, by omega⟩ (fun _ _ h => h.elim) dS_addCoefficientOf_24 (fun r M' H locs hp hst => ?_)
      obtain ⟨rfl, rfl⟩ := hp
      refine lv_iload_n hx hb dS_addCoefficientOf_27 rfl (lv_at hl 4 rfl) ?_
      refine lv_icmp_ne hx hb dS_addCoefficientOf_28 (tgt := 49) rfl (fun hc => ?_) (fun hc => ?_)
      · skip
        have hc5 : ¬ (xe q.1 v) = ex := fun z => hc ((nI_eq (by omega) (by omega)).mpr z)
        refine lv_iinc (lv' := [(4, .int (nI (i + 1))), (5, .int (nI q.1)), (0, .ref sa), (1, .ref h), (2, .int (nI v)), (3, .int (nI ex))]) hx hb dS_addCoefficientOf_49 hl (k := 5) rfl (ii_p _) (by decide) rfl (fun ls hl => ?_)
        refine lv_goto hx hb dS_addCoefficientOf_52 (tgt := 3) rfl ?_
        exact ihLP _ (by omega) (i + 1) c1 M1 _ _ _ rfl (by omega) hs1 hcp1 (by
            have h9 : addC p v ex (L.drop (i + 1)) (if xe q.1 v = ex then va_up c1 (wo q.1 v) ((c1 (wo q.1 v) + 1 * q.2) % p) else c1) = addC p v ex L c := hinv
            rwa [if_neg hc5] at h9) ho hst (lv_sub hl [2, 3, 4, 5, 0] rfl)
      · skip
        have hc5 : (xe q.1 v) = ex := (nI_eq (by omega) (by omega)).mp hc
        refine lv_aload_n hx hb dS_addCoefficientOf_31 rfl (lv_at hl 1 rfl) ?_
        refine lv_iload hx hb dS_addCoefficientOf_32 (lv_at hl 0 rfl) ?_
        refine lv_iload_n hx hb dS_addCoefficientOf_34 rfl (lv_at hl 3 rfl) ?_
        refine ct_callS (av2 := [.int (nI q.1), .int (nI v)]) (rest := [.ref sa]) X hst (c_Q_without l D Y lo (k := q.1) (v := v) hm1 hv) wc_Q_without ml_S_71 ws_Q_without wn_Q md_Q_without (by decide) hl.1 rfl (Nat.le_of_ble_eq_true rfl) ⟨by omega, by omega⟩ (fun _ _ h => h.elim) dS_addCoefficientOf_35 (fun r M' H locs hp hst => ?_)
        obtain ⟨rfl, rfl⟩ := hp
        refine lv_iconst (v := nI 1) hx hb dS_addCoefficientOf_38 (by decide +kernel) ?_
        refine lv_aload_n hx hb dS_addCoefficientOf_39 rfl (lv_at hl 2 rfl) ?_
        refine hp_get hx hb hG in_P hown hK hst h09 rfl 1 (by decide) (hG _ fl_S_60) rfl rfl dS_addCoefficientOf_40 ?_
        refine lv_iload hx hb dS_addCoefficientOf_43 (lv_at hl 5 rfl) ?_
        refine hp_iald hx hb hK rfl hst h29 (j := i) (by omega) (by omega) dS_addCoefficientOf_45 ?_
        refine tp_n (e2 := q.2) i2 ?_
        refine ct_callV (av2 := [.int (nI (wo q.1 v)), .int (nI 1), .int (nI q.2)]) (rest := []) (b := sa) X hst (c_S_addTerm l D Y lo hs1 hfi hcp1 (k := wo q.1 v) (f := 1) (x := q.2) (wo_mv hm1 hv) (by omega) hm2) hcell rfl wc_S_addTerm ml_S_63 wi_S_addTerm wl_S_addTerm wn_S md_S_addTerm (by decide) hl.1 rfl (Nat.le_of_ble_eq_true rfl) ⟨by omega, by omega⟩ (fun _ _ h => h.elim) dS_addCoefficientOf_46 (fun r M' H locs hp hst => ?_)
        obtain ⟨rfl, hs2, ho2⟩ := hp
        refine lv_iinc (lv' := [(4, .int (nI (i + 1))), (5, .int (nI q.1)), (0, .ref sa), (1, .ref h), (2, .int (nI v)), (3, .int (nI ex))]) hx hb dS_addCoefficientOf_49 hl (k := 5) rfl (ii_p _) (by decide) rfl (fun ls hl => ?_)
        refine lv_goto hx hb dS_addCoefficientOf_52 (tgt := 3) rfl ?_
        exact ihLP _ (by omega) (i + 1) (va_up c1 (wo q.1 v) ((c1 (wo q.1 v) + 1 * q.2) % p)) M' _ _ _ rfl (by omega) hs2 (up_lt hcp1 (Nat.mod_lt _ (by omega))) (by
            have h9 : addC p v ex (L.drop (i + 1)) (if xe q.1 v = ex then va_up c1 (wo q.1 v) ((c1 (wo q.1 v) + 1 * q.2) % p) else c1) = addC p v ex L c := hinv
            rwa [if_pos hc5] at h9) (ho.tr ho2) hst (lv_sub hl [2, 3, 4, 5, 0] rfl)
  exact LP _ 0 c M _ _ _ rfl (by omega) hs hcp rfl hp_off.rf hst (lv_sub hl [1, 2, 3, 4, 0] rfl)
