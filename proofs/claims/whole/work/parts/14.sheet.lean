/-! The sheet: sh says that its cells hold the function c on packed monomials. -/
def frk (i : Nat) : Nat := if i % 64 ≤ i / 64 ∧ i / 64 ≤ 36 then T3 (i / 64) + R2 (i / 64) (i % 64) else 0
theorem rk_frk {m : Nat} (h : mv m) : rk m = frk (m / 4096) + xe m 1 := by
  obtain ⟨a, b, c, h1, rfl⟩ := mv_of h
  have h2 : mp a b c / 4096 = (a + b + c) * 64 + a := by unfold mp; omega
  rw [rk_mp (by omega), h2, mp_x1 (by omega)]
  unfold frk
  have h3 : ((a + b + c) * 64 + a) / 64 = a + b + c := by omega
  have h4 : ((a + b + c) * 64 + a) % 64 = a := by omega
  rw [h3, h4, if_pos (by omega)]
theorem frk_lt {m : Nat} (h : mv m) : frk (m / 4096) < 9139 := by
  have h1 := rk_lt h
  rw [rk_frk h] at h1
  omega
theorem md_lt {m : Nat} (h : mv m) : m / 4096 < 2368 := by
  obtain ⟨a, b, c, h1, rfl⟩ := mv_of h
  unfold mp
  omega
def sh (Y : Nat → ClassId) (M : Hm) (sa fa : Nat) (c : Pf) : Prop :=
  ∃ (ma fr ca e : Nat) (g : Nat → Nat), M sa = some ((2, 0), .inr (3, [.ref fa, .ref ma, .ref fr, .ref ca, .int (nI e)])) ∧ M ma = some ((2, 1), e_n Y 9139 ur) ∧ M fr = some ((2, 2), e_n Y 2368 frk) ∧ M ca = some ((2, 3), e_n Y 9139 g) ∧
    (∀ r, r < 9139 → g r = c (ur r)) ∧ e ≤ 9139 ∧ ∀ r, e ≤ r → r < 9139 → c (ur r) = 0
theorem sh.off {Y : Nat → ClassId} {M M' : Hm} {sa fa : Nat} {c : Pf} {S : Nat → Prop} (h : sh Y M sa fa c) (ho : hp_off S M M') (hS : ¬ S 2) : sh Y M' sa fa c := by
  obtain ⟨ma, fr, ca, e, g, h0, h1, h2, h3, h4⟩ := h
  exact ⟨ma, fr, ca, e, g, ho.of h0 hS, ho.of h1 hS, ho.of h2 hS, ho.of h3 hS, h4⟩
theorem sh.cell {Y : Nat → ClassId} {M : Hm} {sa fa : Nat} {c : Pf} (h : sh Y M sa fa c) : ∃ fs : List Value, M sa = some ((2, 0), .inr (3, fs)) := by
  obtain ⟨ma, fr, ca, e, g, h0, -⟩ := h
  exact ⟨_, h0⟩
theorem sh.congr {Y : Nat → ClassId} {M : Hm} {sa fa : Nat} {c c' : Pf} (h : sh Y M sa fa c) (he : ∀ r, r < 9139 → c (ur r) = c' (ur r)) : sh Y M sa fa c' := by
  obtain ⟨ma, fr, ca, e, g, h0, h1, h2, h3, h4, h5, h6⟩ := h
  exact ⟨ma, fr, ca, e, g, h0, h1, h2, h3, fun r hr => (h4 r hr).trans (he r hr), h5, fun r h7 h8 => by rw [← he r h8]; exact h6 r h7 h8⟩
theorem fd.off {M M' : Hm} {fa p : Nat} {S : Nat → Prop} (h : fd M fa p) (ho : hp_off S M M') (hS : ¬ S 1) : fd M' fa p := ⟨ho.of h.1 hS, h.2⟩

set_option maxHeartbeats 4000000 in
set_option maxRecDepth 100000 in
theorem c_S_rankOf (l : Launch) (D : va_G) (Y : Nat → ClassId) (lo : Nat) {M : Hm} {sa fa : Nat} {c : Pf} (hs : sh Y M sa fa c) {k : Nat} (hm : mv k) : ct l D Y lo y_S_rankOf b_S_rankOf 2 (some .int) 1 [.ref sa, .int (nI k)] M (fun r M' => r = some (.int (nI (rk k))) ∧ M = M') nx 0 0 := by
  refine ct_of (by decide) (Nat.le_of_ble_eq_true rfl) ?_
  intro pg eg sg mg bw mt cg ls X hst hl
  have X1 := X
  obtain ⟨hx, hb, hml, hrt, hlocks, hown, hnm, hts, hkz, hex⟩ := X1
  have hG : ∀ w ∈ GW, w.before _ sg = true := fun w h => hts w (List.mem_cons_of_mem _ h)
  have hK := hkz.1
  have hl : lv_has ls 2 [(0, .ref sa), (1, .int (nI k))] := hl
  obtain ⟨ma, fr, ca, en, g, s0, s1, s2, s3, hg, hen, hz⟩ := hs
  have hm1 := mv_lt hm
  have hm2 := md_lt hm
  have hm3 := frk_lt hm
  have hm4 := xe_lt k 1
  refine lv_aload_n hx hb dS_rankOf_0 rfl (lv_at hl 0 rfl) ?_
  refine hp_get hx hb hG in_S hown hK hst s0 rfl 2 (by decide) (hG _ fl_S_15) rfl rfl dS_rankOf_1 ?_
  refine lv_iload_n hx hb dS_rankOf_4 rfl (lv_at hl 1 rfl) ?_
  refine ct_callS (av2 := [.int (nI k)]) (rest := [.ref fr]) X hst (c_Q_sumAndFirst l D Y lo (k := k) (by omega)) wc_Q_sumAndFirst ml_S_29 ws_Q_sumAndFirst wn_Q md_Q_sumAndFirst (by decide) hl.1 rfl (Nat.le_of_ble_eq_true rfl) ⟨by omega, by omega⟩ (fun _ _ h => h.elim) dS_rankOf_5 (fun r M' H locs hp hst => ?_)
  obtain ⟨rfl, rfl⟩ := hp
  refine hp_iald hx hb hK rfl hst s2 (j := (k / 4096)) (by omega) (by omega) dS_rankOf_8 ?_
  refine lv_iload_n hx hb dS_rankOf_9 rfl (lv_at hl 1 rfl) ?_
  refine lv_iconst (v := nI 1) hx hb dS_rankOf_10 (by decide +kernel) ?_
  refine ct_callS (av2 := [.int (nI k), .int (nI 1)]) (rest := [.int (nI (frk (k / 4096)))]) X hst (c_Q_exponent l D Y lo (k := k) (v := 1) (by omega) (by omega)) wc_Q_exponent ml_S_33 ws_Q_exponent wn_Q md_Q_exponent (by decide) hl.1 rfl (Nat.le_of_ble_eq_true rfl) ⟨by omega, by omega⟩ (fun _ _ h => h.elim) dS_rankOf_11 (fun r M' H locs hp hst => ?_)
  obtain ⟨rfl, rfl⟩ := hp
  refine t_iadd hx hb dS_rankOf_14 (v := nI ((frk (k / 4096)) + (xe k 1))) (nI_add _ _) ?_
  exact ct_iret X hst ⟨by rw [rk_frk hm], rfl⟩ (by omega) (by omega) dS_rankOf_15

set_option maxHeartbeats 4000000 in
set_option maxRecDepth 100000 in
theorem c_S_addTerm (l : Launch) (D : va_G) (Y : Nat → ClassId) (lo : Nat) {M : Hm} {sa fa p : Nat} {c : Pf} (hs : sh Y M sa fa c) (hf : fd M fa p) (hcp : ∀ m, c m < p) {k f x : Nat} (hm : mv k) (hfp : f < p) (hxp : x < p) : ct l D Y lo y_S_addTerm b_S_addTerm 5 none 2 [.ref sa, .int (nI k), .int (nI f), .int (nI x)] M (fun r M' => r = none ∧ sh Y M' sa fa (va_up c k ((c k + f * x) % p)) ∧ hp_off (fun i => i = 2) M M') nx 0 0 := by
  refine ct_of (by decide) (Nat.le_of_ble_eq_true rfl) ?_
  intro pg eg sg mg bw mt cg ls X hst hl
  have X1 := X
  obtain ⟨hx, hb, hml, hrt, hlocks, hown, hnm, hts, hkz, hex⟩ := X1
  have hG : ∀ w ∈ GW, w.before _ sg = true := fun w h => hts w (List.mem_cons_of_mem _ h)
  have hK := hkz.1
  have hl : lv_has ls 5 [(0, .ref sa), (1, .int (nI k)), (2, .int (nI f)), (3, .int (nI x))] := hl
  have hs0 := hs
  have hrk := rk_lt hm
  have hur := ur_rk hm
  have hf9 := hf
  obtain ⟨ma, fr, ca, en, g, s0, s1, s2, s3, hg, hen, hz⟩ := hs
  obtain ⟨f0, hp2, hp3⟩ := hf9
  have hgk : g (rk k) = c (k) := by rw [hg _ hrk, hur]
  refine lv_aload_n hx hb dS_addTerm_0 rfl (lv_at hl 0 rfl) ?_
  refine lv_iload_n hx hb dS_addTerm_1 rfl (lv_at hl 1 rfl) ?_
  refine ct_callV (av2 := [.int (nI k)]) (rest := []) (b := sa) X hst (c_S_rankOf l D Y lo hs0 hm) s0 rfl wc_S_rankOf ml_S_37 wi_S_rankOf wl_S_rankOf wn_S md_S_rankOf (by decide) hl.1 rfl (Nat.le_of_ble_eq_true rfl) ⟨by omega, by omega⟩ (fun _ _ h => h.elim) dS_addTerm_2 (fun r M' H locs hp hst => ?_)
  obtain ⟨rfl, rfl⟩ := hp
  refine lv_istore (lv' := [(4, .int (nI (rk k))), (0, .ref sa), (1, .int (nI k)), (2, .int (nI f)), (3, .int (nI x))]) hx hb dS_addTerm_5 hl (by decide) rfl (fun ls hl => ?_)
  refine lv_aload_n hx hb dS_addTerm_7 rfl (lv_at hl 1 rfl) ?_
  refine hp_get hx hb hG in_S hown hK hst s0 rfl 3 (by decide) (hG _ fl_S_18) rfl rfl dS_addTerm_8 ?_
  refine lv_iload hx hb dS_addTerm_11 (lv_at hl 0 rfl) ?_
  refine lv_aload_n hx hb dS_addTerm_13 rfl (lv_at hl 1 rfl) ?_
  refine hp_get hx hb hG in_S hown hK hst s0 rfl 0 (by decide) (hG _ fl_S_21) rfl rfl dS_addTerm_14 ?_
  refine lv_aload_n hx hb dS_addTerm_17 rfl (lv_at hl 1 rfl) ?_
  refine hp_get hx hb hG in_S hown hK hst s0 rfl 3 (by decide) (hG _ fl_S_18) rfl rfl dS_addTerm_18 ?_
  refine lv_iload hx hb dS_addTerm_21 (lv_at hl 0 rfl) ?_
  refine hp_iald hx hb hK rfl hst s3 (j := (rk k)) (by omega) (by omega) dS_addTerm_23 ?_
  refine tp_n (e2 := c k) hgk ?_
  refine lv_iload_n hx hb dS_addTerm_24 rfl (lv_at hl 3 rfl) ?_
  refine lv_iload_n hx hb dS_addTerm_25 rfl (lv_at hl 4 rfl) ?_
  refine ct_callV (av2 := [.int (nI (c k)), .int (nI f), .int (nI x)]) (rest := [.int (nI (rk k)), .ref ca]) (b := fa) X hst (c_F_sumWithProduct l D Y lo hf (hcp k) hfp hxp) f0 rfl wc_F_sumWithProduct ml_S_40 wi_F_sumWithProduct wl_F_sumWithProduct wn_F md_F_sumWithProduct (by decide) hl.1 rfl (Nat.le_of_ble_eq_true rfl) ⟨by omega, by omega⟩ (fun _ _ h => h.elim) dS_addTerm_26 (fun r M' H locs hp hst => ?_)
  obtain ⟨rfl, rfl⟩ := hp
  refine hp_iast hx hb hK rfl hst s3 (j := (rk k)) (v := ((c k + f * x) % p)) (by omega) (by omega) dS_addTerm_29 (fun H locs hst => ?_)
  generalize hM2 : hp_up M ca ((2, 3), e_n Y 9139 (va_up g (rk k) ((c k + f * x) % p))) = M1 at hst
  have f3 : M1 ca = some ((2, 3), e_n Y 9139 (va_up g (rk k) ((c k + f * x) % p))) := by rw [← hM2]; exact hp_up_self _ _ _
  have f4 : M1 sa = some ((2, 0), .inr (3, [.ref fa, .ref ma, .ref fr, .ref ca, .int (nI en)])) := by rw [← hM2]; exact hp_kt s3 s0 (tg2 (by decide))
  have f5 : M1 ma = some ((2, 1), e_n Y 9139 ur) := by rw [← hM2]; exact hp_kt s3 s1 (tg2 (by decide))
  have f6 : M1 fr = some ((2, 2), e_n Y 2368 frk) := by rw [← hM2]; exact hp_kt s3 s2 (tg2 (by decide))
  have f7 : M1 fa = some ((1, 0), .inr (0, [.int (nI p)])) := by rw [← hM2]; exact hp_kt s3 f0 (tg2 (by decide))
  have o8 : hp_off (fun i => i = 2) M M1 := by rw [← hM2]; exact hp_off.up s3 rfl
  refine lv_aload_n hx hb dS_addTerm_30 rfl (lv_at hl 1 rfl) ?_
  refine lv_aload_n hx hb dS_addTerm_31 rfl (lv_at hl 1 rfl) ?_
  refine hp_get hx hb hG in_S hown hK hst f4 rfl 4 (by decide) (hG _ fl_S_45) rfl rfl dS_addTerm_32 ?_
  refine lv_iload hx hb dS_addTerm_35 (lv_at hl 0 rfl) ?_
  refine lv_iconst (v := nI 1) hx hb dS_addTerm_37 (by decide +kernel) ?_
  refine t_iadd hx hb dS_addTerm_38 (v := nI ((rk k) + 1)) (nI_add _ _) ?_
  refine va_mmax hx hb (by rw [hml]; exact hl.1.symm) hown (hG _ ml_S_49) (hG _ ws_Jm_max) (hG _ wn_Jm) (hG _ wc_Jm_max) (Nat.le_of_ble_eq_true rfl) (Nat.le_of_ble_eq_true rfl) (by show _ ≤ _; omega) (by show _ ≤ _; omega) dS_addTerm_39 ?_
  refine tp_i (e2 := nI (max en ((rk k) + 1))) (mx9 (by omega) (by omega)) ?_
  refine hp_put hx hb hG in_S ty_S tyok_S nm_S hown hK hst f4 rfl 4 (by decide) (hG _ fl_S_45) rfl rfl rfl rfl (Nat.le_of_ble_eq_true rfl) dS_addTerm_42 (fs' := [.ref fa, .ref ma, .ref fr, .ref ca, .int (nI (max en ((rk k) + 1)))]) rfl (fun H locs hst => ?_)
  generalize hM10 : hp_up M1 sa ((2, 0), .inr (3, [.ref fa, .ref ma, .ref fr, .ref ca, .int (nI (max en ((rk k) + 1)))])) = M9 at hst
  have f11 : M9 sa = some ((2, 0), .inr (3, [.ref fa, .ref ma, .ref fr, .ref ca, .int (nI (max en ((rk k) + 1)))])) := by rw [← hM10]; exact hp_up_self _ _ _
  have f12 : M9 ma = some ((2, 1), e_n Y 9139 ur) := by rw [← hM10]; exact hp_kt f4 f5 (tg2 (by decide))
  have f13 : M9 fr = some ((2, 2), e_n Y 2368 frk) := by rw [← hM10]; exact hp_kt f4 f6 (tg2 (by decide))
  have f14 : M9 fa = some ((1, 0), .inr (0, [.int (nI p)])) := by rw [← hM10]; exact hp_kt f4 f7 (tg1 (by decide))
  have f15 : M9 ca = some ((2, 3), e_n Y 9139 (va_up g (rk k) ((c k + f * x) % p))) := by rw [← hM10]; exact hp_kt f4 f3 (tg2 (by decide))
  have o16 : hp_off (fun i => i = 2) M M9 := by rw [← hM10]; exact hp_off.tr o8 (hp_off.up f4 rfl)
  have hA : ∀ r, r < 9139 → (va_up g (rk k) ((c k + f * x) % p)) r = va_up c k ((c k + f * x) % p) (ur r) := by
    intro r hr
    by_cases h9 : r = rk k
    · subst h9; rw [va_up_self, hur, va_up_self]
    · rw [va_up_ne _ _ h9, va_up_ne _ _ (fun z => h9 (by rw [← z, rk_ur hr])), hg r hr]
  have hB : ∀ r, max en (rk k + 1) ≤ r → r < 9139 → va_up c k ((c k + f * x) % p) (ur r) = 0 := by
    intro r h8 hr
    have h9 : r ≠ rk k := by omega
    rw [va_up_ne _ _ (fun z => h9 (by rw [← z, rk_ur hr]))]
    exact hz r (by omega) hr
  exact ct_vret X hst ⟨rfl, ⟨ma, fr, ca, _, _, f11, f12, f13, f15, hA, (by omega), hB⟩, o16⟩ (by omega) (by omega) dS_addTerm_45

set_option maxHeartbeats 4000000 in
set_option maxRecDepth 100000 in
theorem c_S_addMultiple (l : Launch) (D : va_G) (Y : Nat → ClassId) (lo : Nat) {M : Hm} {sa fa p : Nat} {c : Pf} (hs : sh Y M sa fa c) (hf : fd M fa p) (hcp : ∀ m, c m < p) {id h cap : Nat} {L : List (Nat × Nat)} (hp : po Y M id h cap L) (hid : id ≠ 2) {f t : Nat} (hfp : f < p) (hmo : ∀ q ∈ L, mv (q.1 + t) ∧ q.2 < p) : ct l D Y lo y_S_addMultiple b_S_addMultiple 5 none 3 [.ref sa, .ref h, .int (nI f), .int (nI t)] M (fun r M' => r = none ∧ sh Y M' sa fa (addL p f t L c) ∧ hp_off (fun i => i = 2) M M') nx 0 0 := by
  refine ct_of (by decide) (Nat.le_of_ble_eq_true rfl) ?_
  intro pg eg sg mg bw mt cg ls X hst hl
  have X1 := X
  obtain ⟨hx, hb, hml, hrt, hlocks, hown, hnm, hts, hkz, hex⟩ := X1
  have hG : ∀ w ∈ GW, w.before _ sg = true := fun w h => hts w (List.mem_cons_of_mem _ h)
  have hK := hkz.1
  have hl : lv_has ls 5 [(0, .ref sa), (1, .ref h), (2, .int (nI f)), (3, .int (nI t))] := hl
  have hp2 := hf.2.1
  refine lv_iconst (v := nI 0) hx hb dS_addMultiple_0 (by decide +kernel) ?_
  refine lv_istore (lv' := [(4, .int (nI 0)), (0, .ref sa), (1, .ref h), (2, .int (nI f)), (3, .int (nI t))]) hx hb dS_addMultiple_1 hl (by decide) rfl (fun ls hl => ?_)
  have LP : ∀ (kk : Nat) (i : Nat) (c1 : Pf) (M1 : Hm) (H : Heap) (locs : List Loc) (ls : Array Slot), kk = L.length - i → (i ≤ L.length) → (sh Y M1 sa fa c1) → (∀ m, c1 m < p) → (addL p f t (L.drop i) c1 = addL p f t L c) → (hp_off (fun i => i = 2) M M1) → hp_st D vC lo M1 sg.heap H locs → lv_has ls 5 [(0, .ref sa), (1, .ref h), (2, .int (nI f)), (3, .int (nI t)), (4, .int (nI i))] → cW pg l eg sg mg [.ref sa, .ref h, .int (nI f), .int (nI t)] bw mt cg y_S_addMultiple b_S_addMultiple 5 none 3 D lo (fun r M' => r = none ∧ sh Y M' sa fa (addL p f t L c) ∧ hp_off (fun i => i = 2) M M') nx 0 0 H locs 0 0 (F0 mg 3 ls []) := by
    intro kk
    induction kk using Nat.strongRecOn with
    | _ kk ihLP =>
    intro i c1 M1 H locs ls hkk hi hs1 hcp1 hinv ho hst hl
    have hpi : po Y M1 id h cap L := hp.off ho (by omega)
    have hfi : fd M1 fa p := hf.off ho (by omega)
    obtain ⟨a9, b9, fa9, fb9, h09, h19, h29, hL9, hn9, hc19, hc29⟩ := hpi
    refine lv_iload hx hb dS_addMultiple_3 (lv_at hl 4 rfl) ?_
    refine lv_aload_n hx hb dS_addMultiple_5 rfl (lv_at hl 1 rfl) ?_
    refine hp_get hx hb hG in_P hown hK hst h09 rfl 2 (by decide) (hG _ fl_S_54) rfl rfl dS_addMultiple_6 ?_
    refine lv_icmp_ge hx hb dS_addMultiple_9 (tgt := 39) rfl (fun hc => ?_) (fun hc => ?_)
    · skip
      have hc : L.length ≤ i := (nI_leI (by omega) (by omega)).mp hc
      rw [List.drop_eq_nil_of_le (by omega)] at hinv
      have hinv : c1 = addL p f t L c := hinv
      exact ct_vret X hst ⟨rfl, (by rw [← hinv]; exact hs1), ho⟩ (by omega) (by omega) dS_addMultiple_39
    · skip
      have hc : ¬ L.length ≤ i := fun z => hc ((nI_leI (by omega) (by omega)).mpr z)
      obtain ⟨q, hq1, hq2, hq3⟩ := dr_cons (L := L) (i := i) (by omega)
      obtain ⟨i1, i2⟩ := hL9 i q hq1
      obtain ⟨hm1, hm2⟩ := hmo q hq2
      have hm3 := mv_lt hm1
      obtain ⟨fs0, hcell⟩ := hs1.cell
      refine lv_aload_n hx hb dS_addMultiple_12 rfl (lv_at hl 0 rfl) ?_
      refine lv_aload_n hx hb dS_addMultiple_13 rfl (lv_at hl 1 rfl) ?_
      refine hp_get hx hb hG in_P hown hK hst h09 rfl 0 (by decide) (hG _ fl_S_59) rfl rfl dS_addMultiple_14 ?_
      refine lv_iload hx hb dS_addMultiple_17 (lv_at hl 4 rfl) ?_
      refine hp_iald hx hb hK rfl hst h19 (j := i) (by omega) (by omega) dS_addMultiple_19 ?_
      refine tp_n (e2 := q.1) i1 ?_
      refine lv_iload_n hx hb dS_addMultiple_20 rfl (lv_at hl 3 rfl) ?_
      refine t_iadd hx hb dS_addMultiple_21 (v := nI (q.1 + t)) (nI_add _ _) ?_
      refine lv_iload_n hx hb dS_addMultiple_22 rfl (lv_at hl 2 rfl) ?_
      refine lv_aload_n hx hb dS_addMultiple_23 rfl (lv_at hl 1 rfl) ?_
      refine hp_get hx hb hG in_P hown hK hst h09 rfl 1 (by decide) (hG _ fl_S_60) rfl rfl dS_addMultiple_24 ?_
      refine lv_iload hx hb dS_addMultiple_27 (lv_at hl 4 rfl) ?_
      refine hp_iald hx hb hK rfl hst h29 (j := i) (by omega) (by omega) dS_addMultiple_29 ?_
      refine tp_n (e2 := q.2) i2 ?_
      refine ct_callV (av2 := [.int (nI (q.1 + t)), .int (nI f), .int (nI q.2)]) (rest := []) (b := sa) X hst (c_S_addTerm l D Y lo hs1 hfi hcp1 (k := q.1 + t) (f := f) (x := q.2) hm1 hfp hm2) hcell rfl wc_S_addTerm ml_S_63 wi_S_addTerm wl_S_addTerm wn_S md_S_addTerm (by decide) hl.1 rfl (Nat.le_of_ble_eq_true rfl) ⟨by omega, by omega⟩ (fun _ _ h => h.elim) dS_addMultiple_30 (fun r M' H locs hp hst => ?_)
      obtain ⟨rfl, hs2, ho2⟩ := hp
      refine lv_iinc (lv' := [(4, .int (nI (i + 1))), (0, .ref sa), (1, .ref h), (2, .int (nI f)), (3, .int (nI t))]) hx hb dS_addMultiple_33 hl (k := 4) rfl (ii_p _) (by decide) rfl (fun ls hl => ?_)
      refine lv_goto hx hb dS_addMultiple_36 (tgt := 3) rfl ?_
      exact ihLP _ (by omega) (i + 1) (va_up c1 (q.1 + t) ((c1 (q.1 + t) + f * q.2) % p)) M' _ _ _ rfl (by omega) hs2 (fun m => by
          by_cases h9 : m = q.1 + t
          · subst h9; rw [va_up_self]; exact Nat.mod_lt _ (by omega)
          · rw [va_up_ne _ _ h9]; exact hcp1 m) (by rw [hq3] at hinv; exact hinv) (ho.tr ho2) hst (lv_sub hl [1, 2, 3, 4, 0] rfl)
  exact LP _ 0 c M _ _ _ rfl (by omega) hs hcp rfl hp_off.rf hst (lv_sub hl [1, 2, 3, 4, 0] rfl)

set_option maxHeartbeats 4000000 in
set_option maxRecDepth 100000 in
theorem c_S_addProduct (l : Launch) (D : va_G) (Y : Nat → ClassId) (lo : Nat) {M : Hm} {sa fa p : Nat} {c : Pf} (hs : sh Y M sa fa c) (hf : fd M fa p) (hcp : ∀ m, c m < p) {id h cap : Nat} {L : List (Nat × Nat)} (hp : po Y M id h cap L) (hid : id ≠ 2) {id2 hr cap2 : Nat} {R : List (Nat × Nat)} (hp2 : po Y M id2 hr cap2 R) (hid2 : id2 ≠ 2) (hmo : ∀ q ∈ L, q.2 < p ∧ ∀ q2 ∈ R, mv (q2.1 + q.1) ∧ q2.2 < p) : ct l D Y lo y_S_addProduct b_S_addProduct 4 none 4 [.ref sa, .ref h, .ref hr] M (fun r M' => r = none ∧ sh Y M' sa fa (mulL p R L c) ∧ hp_off (fun i => i = 2) M M') nx 0 0 := by
  refine ct_of (by decide) (Nat.le_of_ble_eq_true rfl) ?_
  intro pg eg sg mg bw mt cg ls X hst hl
  have X1 := X
  obtain ⟨hx, hb, hml, hrt, hlocks, hown, hnm, hts, hkz, hex⟩ := X1
  have hG : ∀ w ∈ GW, w.before _ sg = true := fun w h => hts w (List.mem_cons_of_mem _ h)
  have hK := hkz.1
  have hl : lv_has ls 4 [(0, .ref sa), (1, .ref h), (2, .ref hr)] := hl
  have hpp := hf.2.1
  refine lv_iconst (v := nI 0) hx hb dS_addProduct_0 (by decide +kernel) ?_
  refine lv_istore_n (lv' := [(3, .int (nI 0)), (0, .ref sa), (1, .ref h), (2, .ref hr)]) hx hb dS_addProduct_1 rfl hl (by decide) rfl (fun ls hl => ?_)
  have LP : ∀ (kk : Nat) (i : Nat) (c1 : Pf) (M1 : Hm) (H : Heap) (locs : List Loc) (ls : Array Slot), kk = L.length - i → (i ≤ L.length) → (sh Y M1 sa fa c1) → (∀ m, c1 m < p) → (mulL p R (L.drop i) c1 = mulL p R L c) → (hp_off (fun i => i = 2) M M1) → hp_st D vC lo M1 sg.heap H locs → lv_has ls 4 [(0, .ref sa), (1, .ref h), (2, .ref hr), (3, .int (nI i))] → cW pg l eg sg mg [.ref sa, .ref h, .ref hr] bw mt cg y_S_addProduct b_S_addProduct 4 none 4 D lo (fun r M' => r = none ∧ sh Y M' sa fa (mulL p R L c) ∧ hp_off (fun i => i = 2) M M') nx 0 0 H locs 0 0 (F0 mg 2 ls []) := by
    intro kk
    induction kk using Nat.strongRecOn with
    | _ kk ihLP =>
    intro i c1 M1 H locs ls hkk hi hs1 hcp1 hinv ho hst hl
    have hpi : po Y M1 id h cap L := hp.off ho (by omega)
    have hri : po Y M1 id2 hr cap2 R := hp2.off ho (by omega)
    have hfi : fd M1 fa p := hf.off ho (by omega)
    obtain ⟨a9, b9, fa9, fb9, h09, h19, h29, hL9, hn9, hc19, hc29⟩ := hpi
    refine lv_iload_n hx hb dS_addProduct_2 rfl (lv_at hl 3 rfl) ?_
    refine lv_aload_n hx hb dS_addProduct_3 rfl (lv_at hl 1 rfl) ?_
    refine hp_get hx hb hG in_P hown hK hst h09 rfl 2 (by decide) (hG _ fl_S_54) rfl rfl dS_addProduct_4 ?_
    refine lv_icmp_ge hx hb dS_addProduct_7 (tgt := 33) rfl (fun hc => ?_) (fun hc => ?_)
    · skip
      have hc : L.length ≤ i := (nI_leI (by omega) (by omega)).mp hc
      rw [List.drop_eq_nil_of_le (by omega)] at hinv
      have hinv : c1 = mulL p R L c := hinv
      exact ct_vret X hst ⟨rfl, (by rw [← hinv]; exact hs1), ho⟩ (by omega) (by omega) dS_addProduct_33
    · skip
      have hc : ¬ L.length ≤ i := fun z => hc ((nI_leI (by omega) (by omega)).mpr z)
      obtain ⟨q, hq1, hq2, hq3⟩ := dr_cons (L := L) (i := i) (by omega)
      obtain ⟨i1, i2⟩ := hL9 i q hq1
      have hm2 := hmo q hq2
      obtain ⟨fs0, hcell⟩ := hs1.cell
      refine lv_aload_n hx hb dS_addProduct_10 rfl (lv_at hl 0 rfl) ?_
      refine lv_aload_n hx hb dS_addProduct_11 rfl (lv_at hl 2 rfl) ?_
      refine lv_aload_n hx hb dS_addProduct_12 rfl (lv_at hl 1 rfl) ?_
      refine hp_get hx hb hG in_P hown hK hst h09 rfl 1 (by decide) (hG _ fl_S_60) rfl rfl dS_addProduct_13 ?_
      refine lv_iload_n hx hb dS_addProduct_16 rfl (lv_at hl 3 rfl) ?_
      refine hp_iald hx hb hK rfl hst h29 (j := i) (by omega) (by omega) dS_addProduct_17 ?_
      refine tp_n (e2 := q.2) i2 ?_
      refine lv_aload_n hx hb dS_addProduct_18 rfl (lv_at hl 1 rfl) ?_
      refine hp_get hx hb hG in_P hown hK hst h09 rfl 0 (by decide) (hG _ fl_S_59) rfl rfl dS_addProduct_19 ?_
      refine lv_iload_n hx hb dS_addProduct_22 rfl (lv_at hl 3 rfl) ?_
      refine hp_iald hx hb hK rfl hst h19 (j := i) (by omega) (by omega) dS_addProduct_23 ?_
      refine tp_n (e2 := q.1) i1 ?_
      refine ct_callV (av2 := [.ref hr, .int (nI q.2), .int (nI q.1)]) (rest := []) (b := sa) X hst (c_S_addMultiple l D Y lo hs1 hfi hcp1 hri hid2 (f := q.2) (t := q.1) hm2.1 hm2.2) hcell rfl wc_S_addMultiple ml_S_67 wi_S_addMultiple wl_S_addMultiple wn_S md_S_addMultiple (by decide) hl.1 rfl (Nat.le_of_ble_eq_true rfl) ⟨by omega, by omega⟩ (fun _ _ h => h.elim) dS_addProduct_24 (fun r M' H locs hp hst => ?_)
      obtain ⟨rfl, hs2, ho2⟩ := hp
      refine lv_iinc (lv' := [(3, .int (nI (i + 1))), (0, .ref sa), (1, .ref h), (2, .ref hr)]) hx hb dS_addProduct_27 hl (k := 3) rfl (ii_p _) (by decide) rfl (fun ls hl => ?_)
      refine lv_goto hx hb dS_addProduct_30 (tgt := 2) rfl ?_
      exact ihLP _ (by omega) (i + 1) (addL p q.2 q.1 R c1) M' _ _ _ rfl (by omega) hs2 (addL_lt (by omega) hcp1) (by rw [hq3] at hinv; exact hinv) (ho.tr ho2) hst (lv_sub hl [1, 2, 3, 0] rfl)
  exact LP _ 0 c M _ _ _ rfl (by omega) hs hcp rfl hp_off.rf hst (lv_sub hl [1, 2, 3, 0] rfl)

/-- a monomial without the variable v -/
def wo (k v : Nat) : Nat := k - xe k v * vv v
theorem wo_mp {a b c : Nat} (h : a + b + c ≤ 36) : wo (mp a b c) 0 = mp 0 b c ∧ wo (mp a b c) 1 = mp a 0 c ∧ wo (mp a b c) 2 = mp a b 0 := by
  have h' : a + b + c < 64 := by omega
  unfold wo
  rw [mp_x0 h', mp_x1 h', mp_x2 h']
  refine ⟨?_, ?_, ?_⟩
  · show mp a b c - a * (262144 + 4096) = _; unfold mp; omega
  · show mp a b c - b * (262144 + 64) = _; unfold mp; omega
  · show mp a b c - c * (262144 + 1) = _; unfold mp; omega
theorem wo_mv {k v : Nat} (hk : mv k) (hv : v < 3) : mv (wo k v) := by
  obtain ⟨a, b, c, h, rfl⟩ := mv_of hk
  obtain ⟨h0, h1, h2⟩ := wo_mp h
  refine co3 (P := fun v => mv (wo (mp a b c) v)) ?_ ?_ ?_ hv
  · rw [h0]; exact mv_mp (by omega)
  · rw [h1]; exact mv_mp (by omega)
  · rw [h2]; exact mv_mp (by omega)
def addC (p v ex : Nat) : List (Nat × Nat) → Pf → Pf
  | [], c => c
  | q :: qs, c => addC p v ex qs (if xe q.1 v = ex then va_up c (wo q.1 v) ((c (wo q.1 v) + 1 * q.2) % p) else c)
theorem up_lt {c : Pf} {p m v : Nat} (h : ∀ m, c m < p) (hv : v < p) : ∀ z, va_up c m v z < p := by
  intro z
  by_cases h9 : z = m
  · subst h9; rw [va_up_self]; exact hv
  · rw [va_up_ne _ _ h9]; exact h z

set_option maxHeartbeats 4000000 in
set_option maxRecDepth 100000 in
theorem c_S_addCoefficientOf (l : Launch) (D : va_G) (Y : Nat → ClassId) (lo : Nat) {M : Hm} {sa fa p : Nat} {c : Pf} (hs : sh Y M sa fa c) (hf : fd M fa p) (hcp : ∀ m, c m < p) {id h cap : Nat} {L : List (Nat × Nat)} (hp : po Y M id h cap L) (hid : id ≠ 2) {v ex : Nat} (hv : v < 3) (hex9 : ex < 2 ^ 31) (hmo : ∀ q ∈ L, mv q.1 ∧ q.2 < p) : ct l D Y lo y_S_addCoefficientOf b_S_addCoefficientOf 6 none 3 [.ref sa, .ref h, .int (nI v), .int (nI ex)] M (fun r M' => r = none ∧ sh Y M' sa fa (addC p v ex L c) ∧ hp_off (fun i => i = 2) M M') nx 0 0 := by
  refine ct_of (by decide) (Nat.le_of_ble_eq_true rfl) ?_
  intro pg eg sg mg bw mt cg ls X hst hl
  have X1 := X
  obtain ⟨hx, hb, hml, hrt, hlocks, hown, hnm, hts, hkz, hex⟩ := X1
  have hG : ∀ w ∈ GW, w.before _ sg = true := fun w h => hts w (List.mem_cons_of_mem _ h)
  have hK := hkz.1
  have hl : lv_has ls 6 [(0, .ref sa), (1, .ref h), (2, .int (nI v)), (3, .int (nI ex))] := hl
  have hpp := hf.2.1
  refine lv_iconst (v := nI 0) hx hb dS_addCoefficientOf_0 (by decide +kernel) ?_
  refine lv_istore (lv' := [(4, .int (nI 0)), (0, .ref sa), (1, .ref h), (2, .int (nI v)), (3, .int (nI ex))]) hx hb dS_addCoefficientOf_1 hl (by decide) rfl (fun ls hl => ?_)
  have LP : ∀ (kk : Nat) (i : Nat) (c1 : Pf) (M1 : Hm) (H : Heap) (locs : List Loc) (ls : Array Slot), kk = L.length - i → (i ≤ L.length) → (sh Y M1 sa fa c1) → (∀ m, c1 m < p) → (addC p v ex (L.drop i) c1 = addC p v ex L c) → (hp_off (fun i => i = 2) M M1) → hp_st D vC lo M1 sg.heap H locs → lv_has ls 6 [(0, .ref sa), (1, .ref h), (2, .int (nI v)), (3, .int (nI ex)), (4, .int (nI i))] → cW pg l eg sg mg [.ref sa, .ref h, .int (nI v), .int (nI ex)] bw mt cg y_S_addCoefficientOf b_S_addCoefficientOf 6 none 3 D lo (fun r M' => r = none ∧ sh Y M' sa fa (addC p v ex L c) ∧ hp_off (fun i => i = 2) M M') nx 0 0 H locs 0 0 (F0 mg 3 ls []) := by
    intro kk
    induction kk using Nat.strongRecOn with
    | _ kk ihLP =>
    intro i c1 M1 H locs ls hkk hi hs1 hcp1 hinv ho hst hl
    have hpi : po Y M1 id h cap L := hp.off ho (by omega)
    have hfi : fd M1 fa p := hf.off ho (by omega)
    obtain ⟨a9, b9, fa9, fb9, h09, h19, h29, hL9, hn9, hc19, hc29⟩ := hpi
    refine lv_iload hx hb dS_addCoefficientOf_3 (lv_at hl 4 rfl) ?_
    refine lv_aload_n hx hb dS_addCoefficientOf_5 rfl (lv_at hl 1 rfl) ?_
    refine hp_get hx hb hG in_P hown hK hst h09 rfl 2 (by decide) (hG _ fl_S_54) rfl rfl dS_addCoefficientOf_6 ?_
    refine lv_icmp_ge hx hb dS_addCoefficientOf_9 (tgt := 55) rfl (fun hc => ?_) (fun hc => ?_)
    · skip
      have hc : L.length ≤ i := (nI_leI (by omega) (by omega)).mp hc
      rw [List.drop_eq_nil_of_le (by omega)] at hinv
      have hinv : c1 = addC p v ex L c := hinv
      exact ct_vret X hst ⟨rfl, (by rw [← hinv]; exact hs1), ho⟩ (by omega) (by omega) dS_addCoefficientOf_55
    · skip
      have hc : ¬ L.length ≤ i := fun z => hc ((nI_leI (by omega) (by omega)).mpr z)
      obtain ⟨q, hq1, hq2, hq3⟩ := dr_cons (L := L) (i := i) (by omega)
      obtain ⟨i1, i2⟩ := hL9 i q hq1
      obtain ⟨hm1, hm2⟩ := hmo q hq2
      have hm3 := mv_lt hm1
      have hx9 := xe_lt q.1 v
      obtain ⟨fs0, hcell⟩ := hs1.cell
      rw [hq3] at hinv
      refine lv_aload_n hx hb dS_addCoefficientOf_12 rfl (lv_at hl 1 rfl) ?_
      refine hp_get hx hb hG in_P hown hK hst h09 rfl 0 (by decide) (hG _ fl_S_59) rfl rfl dS_addCoefficientOf_13 ?_
      refine lv_iload hx hb dS_addCoefficientOf_16 (lv_at hl 4 rfl) ?_
      refine hp_iald hx hb hK rfl hst h19 (j := i) (by omega) (by omega) dS_addCoefficientOf_18 ?_
      refine tp_n (e2 := q.1) i1 ?_
      refine lv_istore (lv' := [(5, .int (nI q.1)), (0, .ref sa), (1, .ref h), (2, .int (nI v)), (3, .int (nI ex)), (4, .int (nI i))]) hx hb dS_addCoefficientOf_19 hl (by decide) rfl (fun ls hl => ?_)
      refine lv_iload hx hb dS_addCoefficientOf_21 (lv_at hl 0 rfl) ?_
      refine lv_iload_n hx hb dS_addCoefficientOf_23 rfl (lv_at hl 3 rfl) ?_
      refine ct_callS (av2 := [.int (nI q.1), .int (nI v)]) (rest := []) X hst (c_Q_exponent l D Y lo (k := q.1) (v := v) (by omega) hv) wc_Q_exponent ml_S_33 ws_Q_exponent wn_Q md_Q_exponent (by decide) hl.1 rfl (Nat.le_of_ble_eq_true rfl) ⟨by omega, by omega⟩ (fun _ _ h => h.elim) dS_addCoefficientOf_24 (fun r M' H locs hp hst => ?_)
      obtain ⟨rfl, rfl⟩ := hp
      refine lv_iload_n hx hb dS_addCoefficientOf_27 rfl (lv_at hl 4 rfl) ?_
      refine lv_icmp_ne hx hb dS_addCoefficientOf_28 (tgt := 49) rfl (fun hc => ?_) (fun hc => ?_)
      · skip
        have hc5 : ¬ (xe q.1 v) = ex := fun z => hc ((nI_eq (by omega) (by omega)).mpr z)
        refine lv_iinc (lv' := [(4, .int (nI (i + 1))), (5, .int (nI q.1)), (0, .ref sa), (1, .ref h), (2, .int (nI v)), (3, .int (nI ex))]) hx hb dS_addCoefficientOf_49 hl (k := 5) rfl (ii_p _) (by decide) rfl (fun ls hl => ?_)
        refine lv_goto hx hb dS_addCoefficientOf_52 (tgt := 3) rfl ?_
        exact ihLP _ (by omega) (i + 1) c1 M1 _ _ _ rfl (by omega) hs1 hcp1 (by
            have h9 : addC p v ex (L.drop (i + 1)) (if xe q.1 v = ex then va_up c1 (wo q.1 v) ((c1 (wo q.1 v) + 1 * q.2) % p) else c1) = addC p v ex L c := hinv
            rwa [if_neg hc5] at h9) ho hst (lv_sub hl [2, 3, 4, 5, 0] rfl)
      · skip
        have hc5 : (xe q.1 v) = ex := (nI_eq (by omega) (by omega)).mp hc
        refine lv_aload_n hx hb dS_addCoefficientOf_31 rfl (lv_at hl 1 rfl) ?_
        refine lv_iload hx hb dS_addCoefficientOf_32 (lv_at hl 0 rfl) ?_
        refine lv_iload_n hx hb dS_addCoefficientOf_34 rfl (lv_at hl 3 rfl) ?_
        refine ct_callS (av2 := [.int (nI q.1), .int (nI v)]) (rest := [.ref sa]) X hst (c_Q_without l D Y lo (k := q.1) (v := v) hm1 hv) wc_Q_without ml_S_71 ws_Q_without wn_Q md_Q_without (by decide) hl.1 rfl (Nat.le_of_ble_eq_true rfl) ⟨by omega, by omega⟩ (fun _ _ h => h.elim) dS_addCoefficientOf_35 (fun r M' H locs hp hst => ?_)
        obtain ⟨rfl, rfl⟩ := hp
        refine lv_iconst (v := nI 1) hx hb dS_addCoefficientOf_38 (by decide +kernel) ?_
        refine lv_aload_n hx hb dS_addCoefficientOf_39 rfl (lv_at hl 2 rfl) ?_
        refine hp_get hx hb hG in_P hown hK hst h09 rfl 1 (by decide) (hG _ fl_S_60) rfl rfl dS_addCoefficientOf_40 ?_
        refine lv_iload hx hb dS_addCoefficientOf_43 (lv_at hl 5 rfl) ?_
        refine hp_iald hx hb hK rfl hst h29 (j := i) (by omega) (by omega) dS_addCoefficientOf_45 ?_
        refine tp_n (e2 := q.2) i2 ?_
        refine ct_callV (av2 := [.int (nI (wo q.1 v)), .int (nI 1), .int (nI q.2)]) (rest := []) (b := sa) X hst (c_S_addTerm l D Y lo hs1 hfi hcp1 (k := wo q.1 v) (f := 1) (x := q.2) (wo_mv hm1 hv) (by omega) hm2) hcell rfl wc_S_addTerm ml_S_63 wi_S_addTerm wl_S_addTerm wn_S md_S_addTerm (by decide) hl.1 rfl (Nat.le_of_ble_eq_true rfl) ⟨by omega, by omega⟩ (fun _ _ h => h.elim) dS_addCoefficientOf_46 (fun r M' H locs hp hst => ?_)
        obtain ⟨rfl, hs2, ho2⟩ := hp
        refine lv_iinc (lv' := [(4, .int (nI (i + 1))), (5, .int (nI q.1)), (0, .ref sa), (1, .ref h), (2, .int (nI v)), (3, .int (nI ex))]) hx hb dS_addCoefficientOf_49 hl (k := 5) rfl (ii_p _) (by decide) rfl (fun ls hl => ?_)
        refine lv_goto hx hb dS_addCoefficientOf_52 (tgt := 3) rfl ?_
        exact ihLP _ (by omega) (i + 1) (va_up c1 (wo q.1 v) ((c1 (wo q.1 v) + 1 * q.2) % p)) M' _ _ _ rfl (by omega) hs2 (up_lt hcp1 (Nat.mod_lt _ (by omega))) (by
            have h9 : addC p v ex (L.drop (i + 1)) (if xe q.1 v = ex then va_up c1 (wo q.1 v) ((c1 (wo q.1 v) + 1 * q.2) % p) else c1) = addC p v ex L c := hinv
            rwa [if_pos hc5] at h9) (ho.tr ho2) hst (lv_sub hl [2, 3, 4, 5, 0] rfl)
  exact LP _ 0 c M _ _ _ rfl (by omega) hs hcp rfl hp_off.rf hst (lv_sub hl [1, 2, 3, 4, 0] rfl)

set_option maxHeartbeats 4000000 in
set_option maxRecDepth 100000 in
theorem c_S_clear (l : Launch) (D : va_G) (Y : Nat → ClassId) (lo : Nat) {M : Hm} {sa fa : Nat} {c : Pf} (hs : sh Y M sa fa c) : ct l D Y lo y_S_clear b_S_clear 1 none 2 [.ref sa] M (fun r M' => r = none ∧ sh Y M' sa fa (fun _ => 0) ∧ hp_off (fun i => i = 2) M M') nx 0 0 := by
  refine ct_of (by decide) (Nat.le_of_ble_eq_true rfl) ?_
  intro pg eg sg mg bw mt cg ls X hst hl
  have X1 := X
  obtain ⟨hx, hb, hml, hrt, hlocks, hown, hnm, hts, hkz, hex⟩ := X1
  have hG : ∀ w ∈ GW, w.before _ sg = true := fun w h => hts w (List.mem_cons_of_mem _ h)
  have hK := hkz.1
  have hl : lv_has ls 1 [(0, .ref sa)] := hl
  obtain ⟨ma, fr, ca, en, g, s0, s1, s2, s3, hg, hen, hz⟩ := hs
  refine lv_aload_n hx hb dS_clear_0 rfl (lv_at hl 0 rfl) ?_
  refine hp_get hx hb hG in_S hown hK hst s0 rfl 3 (by decide) (hG _ fl_S_18) rfl rfl dS_clear_1 ?_
  refine lv_iconst (v := nI 0) hx hb dS_clear_4 (by decide +kernel) ?_
  refine lv_aload_n hx hb dS_clear_5 rfl (lv_at hl 0 rfl) ?_
  refine hp_get hx hb hG in_S hown hK hst s0 rfl 4 (by decide) (hG _ fl_S_45) rfl rfl dS_clear_6 ?_
  refine lv_iconst (v := nI 0) hx hb dS_clear_9 (by decide +kernel) ?_
  refine ct_callS (av2 := [.ref ca, .int (nI 0), .int (nI en), .int (nI 0)]) (rest := []) X hst (c_Ja_fill l D Y lo s3 (k := en) hen (by omega)) wc_Ja_fill ml_S_95 ws_Ja_fill wn_Ja md_Ja_fill (by decide) hl.1 rfl (Nat.le_of_ble_eq_true rfl) ⟨by omega, by omega⟩ (fun _ _ h => h.elim) dS_clear_10 (fun r M' H locs hp hst => ?_)
  obtain ⟨rfl, rfl⟩ := hp
  generalize hM2 : hp_up M ca ((2, 3), e_n Y 9139 (fun j => if j < en then 0 else g j)) = M1 at hst
  have f3 : M1 ca = some ((2, 3), e_n Y 9139 (fun j => if j < en then 0 else g j)) := by rw [← hM2]; exact hp_up_self _ _ _
  have f4 : M1 sa = some ((2, 0), .inr (3, [.ref fa, .ref ma, .ref fr, .ref ca, .int (nI en)])) := by rw [← hM2]; exact hp_kt s3 s0 (tg2 (by decide))
  have f5 : M1 ma = some ((2, 1), e_n Y 9139 ur) := by rw [← hM2]; exact hp_kt s3 s1 (tg2 (by decide))
  have f6 : M1 fr = some ((2, 2), e_n Y 2368 frk) := by rw [← hM2]; exact hp_kt s3 s2 (tg2 (by decide))
  have o7 : hp_off (fun i => i = 2) M M1 := by rw [← hM2]; exact hp_off.up s3 rfl
  refine lv_aload_n hx hb dS_clear_13 rfl (lv_at hl 0 rfl) ?_
  refine lv_iconst (v := nI 0) hx hb dS_clear_14 (by decide +kernel) ?_
  refine hp_put hx hb hG in_S ty_S tyok_S nm_S hown hK hst f4 rfl 4 (by decide) (hG _ fl_S_45) rfl rfl rfl rfl (Nat.le_of_ble_eq_true rfl) dS_clear_15 (fs' := [.ref fa, .ref ma, .ref fr, .ref ca, .int (nI 0)]) rfl (fun H locs hst => ?_)
  generalize hM9 : hp_up M1 sa ((2, 0), .inr (3, [.ref fa, .ref ma, .ref fr, .ref ca, .int (nI 0)])) = M8 at hst
  have f10 : M8 sa = some ((2, 0), .inr (3, [.ref fa, .ref ma, .ref fr, .ref ca, .int (nI 0)])) := by rw [← hM9]; exact hp_up_self _ _ _
  have f11 : M8 ma = some ((2, 1), e_n Y 9139 ur) := by rw [← hM9]; exact hp_kt f4 f5 (tg2 (by decide))
  have f12 : M8 fr = some ((2, 2), e_n Y 2368 frk) := by rw [← hM9]; exact hp_kt f4 f6 (tg2 (by decide))
  have f13 : M8 ca = some ((2, 3), e_n Y 9139 (fun j => if j < en then 0 else g j)) := by rw [← hM9]; exact hp_kt f4 f3 (tg2 (by decide))
  have o14 : hp_off (fun i => i = 2) M M8 := by rw [← hM9]; exact hp_off.tr o7 (hp_off.up f4 rfl)
  have hA : ∀ r, r < 9139 → (fun j => if j < en then 0 else g j) r = (fun _ => 0 : Pf) (ur r) := by
    intro r hr
    show (if r < en then 0 else g r) = 0
    by_cases h9 : r < en
    · rw [if_pos h9]
    · rw [if_neg h9, hg r hr]; exact hz r (by omega) hr
  exact ct_vret X hst ⟨rfl, ⟨ma, fr, ca, _, _, f10, f11, f12, f13, hA, (by omega), fun r _ _ => rfl⟩, o14⟩ (by omega) (by omega) dS_clear_18

/-- the room behind k more terms -/
def gcn (cap len : Nat) : Nat → Nat
  | 0 => cap
  | k + 1 => gcn (gc1 len cap) (len + 1) k
theorem gc1_ge (n cap : Nat) : cap ≤ gc1 n cap := by
  unfold gc1
  split <;> omega
theorem gcn_ge : ∀ (k cap len : Nat), cap ≤ gcn cap len k
  | 0, _, _ => Nat.le_refl _
  | k + 1, cap, len => Nat.le_trans (gc1_ge len cap) (gcn_ge k (gc1 len cap) (len + 1))
theorem gcn_le : ∀ (k cap len b : Nat), cap ≤ b → 2 * (len + k) ≤ b → gcn cap len k ≤ b
  | 0, _, _, _, h, _ => h
  | k + 1, cap, len, b, h, h2 => by
    refine gcn_le k (gc1 len cap) (len + 1) b ?_ (by omega)
    unfold gc1
    split <;> omega

set_option maxHeartbeats 4000000 in
set_option maxRecDepth 100000 in
theorem c_S_moveTo (l : Launch) (D : va_G) (Y : Nat → ClassId) (lo : Nat) {M : Hm} {sa fa : Nat} {c : Pf} (hs : sh Y M sa fa c) {id h cap : Nat} {L : List (Nat × Nat)} (hp : po Y M id h cap L) (hid : id ≠ 2) (hcap : cap ≤ 18278) (hcb : ∀ m, c m < 2 ^ 31) : ct l D Y lo y_S_moveTo b_S_moveTo 3 none 3 [.ref sa, .ref h] M (fun r M' => r = none ∧ po Y M' id h (gcn cap 0 (td c 9139).length) (td c 9139) ∧ sh Y M' sa fa (fun _ => 0) ∧ hp_off (fun i => i = 2 ∨ i = id) M M') nx (gcn cap 0 (td c 9139).length - cap) (4 * (gcn cap 0 (td c 9139).length - cap)) := by
  refine ct_of (by decide) (Nat.le_of_ble_eq_true rfl) ?_
  intro pg eg sg mg bw mt cg ls X hst hl
  have X1 := X
  obtain ⟨hx, hb, hml, hrt, hlocks, hown, hnm, hts, hkz, hex⟩ := X1
  have hG : ∀ w ∈ GW, w.before _ sg = true := fun w h => hts w (List.mem_cons_of_mem _ h)
  have hK := hkz.1
  have hl : lv_has ls 3 [(0, .ref sa), (1, .ref h)] := hl
  obtain ⟨fs9, hcell⟩ := hp.cell
  refine lv_aload_n hx hb dS_moveTo_0 rfl (lv_at hl 1 rfl) ?_
  refine ct_callV (av2 := []) (rest := []) (b := h) X hst (c_P_clear l D Y lo hp) hcell rfl wc_P_clear ml_S_74 wi_P_clear wl_P_clear wn_P md_P_clear (by decide) hl.1 rfl (Nat.le_of_ble_eq_true rfl) ⟨by omega, by omega⟩ (fun _ _ h => h.elim) dS_moveTo_1 (fun r M' H locs hp hst => ?_)
  obtain ⟨rfl, hp1, ho1⟩ := hp
  have hs1 : sh Y M' sa fa c := hs.off ho1 (by omega)
  have hs1c := hs1
  obtain ⟨ma, fr, ca, en, g, s0, s1, s2, s3, hg, hen, hz⟩ := hs1
  refine lv_aload_n hx hb dS_moveTo_4 rfl (lv_at hl 0 rfl) ?_
  refine hp_get hx hb hG in_S hown hK hst s0 rfl 4 (by decide) (hG _ fl_S_45) rfl rfl dS_moveTo_5 ?_
  have hcp : 16 ≤ cap ∧ cap ≤ 18278 := by obtain ⟨_, _, _, _, _, _, _, _, _, h9, _⟩ := hp; exact ⟨h9, hcap⟩
  have htd : td c 9139 = td c en := td_end hen (fun r h1 h2 => hz r h1 h2)
  refine lv_iconst (v := nI 1) hx hb dS_moveTo_8 (by decide +kernel) ?_
  refine t_isub hx hb dS_moveTo_9 (v := dn en) rfl ?_
  refine lv_istore_n (lv' := [(2, .int (dn en)), (0, .ref sa), (1, .ref h)]) hx hb dS_moveTo_10 rfl hl (by decide) rfl (fun ls hl => ?_)
  refine W.widen (k := cap - cap) (n := 4 * (cap - cap)) (by omega) (by omega) ?_
  have LP : ∀ (kk : Nat) (n : Nat) (A : List (Nat × Nat)) (cap1 : Nat) (M1 : Hm) (H : Heap) (locs : List Loc) (ls : Array Slot), kk = n → (n ≤ 9139) → (sh Y M1 sa fa c) → (po Y M1 id h cap1 A) → (A ++ td c n = td c 9139) → (gcn cap1 A.length (td c n).length = gcn cap 0 (td c 9139).length) → (hp_off (fun i => i = 2 ∨ i = id) M M1) → (cap ≤ cap1) → hp_st D vC lo M1 sg.heap H locs → lv_has ls 3 [(0, .ref sa), (1, .ref h), (2, .int (dn n))] → cW pg l eg sg mg [.ref sa, .ref h] bw mt cg y_S_moveTo b_S_moveTo 3 none 3 D lo (fun r M' => r = none ∧ po Y M' id h (gcn cap 0 (td c 9139).length) (td c 9139) ∧ sh Y M' sa fa (fun _ => 0) ∧ hp_off (fun i => i = 2 ∨ i = id) M M') nx (gcn cap 0 (td c 9139).length - cap) (4 * (gcn cap 0 (td c 9139).length - cap)) H locs (cap1 - cap) (4 * (cap1 - cap)) (F0 mg 11 ls []) := by
    intro kk
    induction kk using Nat.strongRecOn with
    | _ kk ihLP =>
    intro n A cap1 M1 H locs ls hkk hn9 hs2 hp2 hA hg ho hge hst hl
    have hcl := gcn_ge (td c n).length cap1 A.length
    have hlen := congrArg List.length hA
    rw [List.length_append] at hlen
    have hl9 := td_len c 9139
    have hc18 : cap1 ≤ 18278 := by
      have h9 := gcn_le (td c 9139).length cap 0 18278 hcap (by omega)
      omega
    cases n with
    | zero =>
      refine lv_iload_n hx hb dS_moveTo_11 rfl (lv_at hl 2 rfl) ?_
      refine lv_if_lt hx hb dS_moveTo_12 (tgt := 46) rfl (fun hc => ?_) (fun hc => absurd dn_0 hc)
      obtain ⟨fs8, hcell8⟩ := hs2.cell
      refine lv_aload_n hx hb dS_moveTo_46 rfl (lv_at hl 0 rfl) ?_
      refine ct_callV (av2 := []) (rest := []) (b := sa) X hst (c_S_clear l D Y lo hs2) hcell8 rfl wc_S_clear ml_S_94 wi_S_clear wl_S_clear wn_S md_S_clear (by decide) hl.1 rfl (Nat.le_of_ble_eq_true rfl) ⟨by omega, by omega⟩ (fun _ _ h => h.elim) dS_moveTo_47 (fun r M' H locs hp hst => ?_)
      obtain ⟨rfl, hs3, ho3⟩ := hp
      have hAe : A = td c 9139 := by rw [← hA]; exact (List.append_nil A).symm
      have hce : cap1 = gcn cap 0 (td c 9139).length := hg
      exact ct_vret X hst ⟨rfl, (by rw [← hce, ← hAe]; exact hp2.off ho3 (by omega)), hs3, (ho.tr (ho3.wk (fun i hi => Or.inl hi)))⟩ (by omega) (by omega) dS_moveTo_50
    | succ n =>
      rw [dn_s] at hl
      have hs2c := hs2
      obtain ⟨ma, fr, ca, en, g, s0, s1, s2, s3, hg1, hen, hz⟩ := hs2
      refine lv_iload_n hx hb dS_moveTo_11 rfl (lv_at hl 2 rfl) ?_
      refine lv_if_lt hx hb dS_moveTo_12 (tgt := 46) rfl (fun hc => ?_) (fun hc => ?_)
      · skip
        rw [← nI_0] at hc
        have hc5 : n < 0 := (nI_ltI (by omega) (by omega)).mp hc
        exact absurd hc5 (by omega)
      · skip
        rw [← nI_0] at hc
        have hc5 : ¬ n < 0 := fun z => hc ((nI_ltI (by omega) (by omega)).mpr z)
        have hcbn := hcb (ur n)
        refine lv_aload_n hx hb dS_moveTo_15 rfl (lv_at hl 0 rfl) ?_
        refine hp_get hx hb hG in_S hown hK hst s0 rfl 3 (by decide) (hG _ fl_S_18) rfl rfl dS_moveTo_16 ?_
        refine lv_iload_n hx hb dS_moveTo_19 rfl (lv_at hl 2 rfl) ?_
        refine hp_iald hx hb hK rfl hst s3 (j := n) (by omega) (by omega) dS_moveTo_20 ?_
        refine tp_n (e2 := c (ur n)) (hg1 n (by omega)) ?_
        refine lv_if_eq hx hb dS_moveTo_21 (tgt := 40) rfl (fun hc => ?_) (fun hc => ?_)
        · skip
          rw [← nI_0] at hc
          have hc6 : (c (ur n)) = 0 := (nI_eq (by omega) (by omega)).mp hc
          refine lv_iinc (lv' := [(2, .int (dn n)), (0, .ref sa), (1, .ref h)]) hx hb dS_moveTo_40 hl (k := 2) rfl (ii_m _) (by decide) rfl (fun ls hl => ?_)
          refine lv_goto hx hb dS_moveTo_43 (tgt := 11) rfl ?_
          exact ihLP _ (by omega) n A cap1 M1 _ _ _ rfl (by omega) hs2c hp2 (by rw [td_zero hc6] at hA; exact hA) (by rw [td_zero hc6] at hg; exact hg) ho hge hst (lv_sub hl [1, 2, 0] rfl)
        · skip
          rw [← nI_0] at hc
          have hc6 : ¬ (c (ur n)) = 0 := fun z => hc ((nI_eq (by omega) (by omega)).mpr z)
          rw [td_pos hc6] at hA hg hcl
          have hg : gcn (gc1 A.length cap1) (A.length + 1) (td c n).length = gcn cap 0 (td c 9139).length := hg
          have hcl2 := gcn_ge (td c n).length (gc1 A.length cap1) (A.length + 1)
          have hcl3 := gc1_ge A.length cap1
          refine lv_aload_n hx hb dS_moveTo_24 rfl (lv_at hl 1 rfl) ?_
          refine lv_aload_n hx hb dS_moveTo_25 rfl (lv_at hl 0 rfl) ?_
          refine hp_get hx hb hG in_S hown hK hst s0 rfl 1 (by decide) (hG _ fl_S_9) rfl rfl dS_moveTo_26 ?_
          refine lv_iload_n hx hb dS_moveTo_29 rfl (lv_at hl 2 rfl) ?_
          refine hp_iald hx hb hK rfl hst s1 (j := n) (by omega) (by omega) dS_moveTo_30 ?_
          refine lv_aload_n hx hb dS_moveTo_31 rfl (lv_at hl 0 rfl) ?_
          refine hp_get hx hb hG in_S hown hK hst s0 rfl 3 (by decide) (hG _ fl_S_18) rfl rfl dS_moveTo_32 ?_
          refine lv_iload_n hx hb dS_moveTo_35 rfl (lv_at hl 2 rfl) ?_
          refine hp_iald hx hb hK rfl hst s3 (j := n) (by omega) (by omega) dS_moveTo_36 ?_
          refine tp_n (e2 := c (ur n)) (hg1 n (by omega)) ?_
          obtain ⟨fs7, hcell7⟩ := hp2.cell
          refine ct_callV (av2 := [.int (nI (ur n)), .int (nI (c (ur n)))]) (rest := []) (b := h) X hst (c_P_append l D Y lo hp2 (mo := ur n) (co := c (ur n)) (by omega)) hcell7 rfl wc_P_append ml_S_87 wi_P_append wl_P_append wn_P md_P_append (by decide) hl.1 rfl (Nat.le_of_ble_eq_true rfl) ⟨by omega, by omega⟩ (fun _ _ h => h.elim) dS_moveTo_37 (fun r M' H locs hp hst => ?_)
          obtain ⟨rfl, hp3, ho4⟩ := hp
          refine W.widen (k := gc1 A.length cap1 - cap) (n := 4 * (gc1 A.length cap1 - cap)) (by omega) (by omega) ?_
          refine lv_iinc (lv' := [(2, .int (dn n)), (0, .ref sa), (1, .ref h)]) hx hb dS_moveTo_40 hl (k := 2) rfl (ii_m _) (by decide) rfl (fun ls hl => ?_)
          refine lv_goto hx hb dS_moveTo_43 (tgt := 11) rfl ?_
          exact ihLP _ (by omega) n (A ++ [(ur n, c (ur n))]) (gc1 A.length cap1) M' _ _ _ rfl (by omega) (hs2c.off ho4 (by omega)) hp3 (by rw [List.append_assoc]; exact hA) (by rw [List.length_append]; exact hg) (ho.tr (ho4.wk (fun i hi => Or.inr hi))) (by omega) hst (lv_sub hl [1, 2, 0] rfl)
  exact LP _ en ([]) cap M' _ _ _ rfl hen hs1c hp1 (by rw [htd]; rfl) (by rw [htd]; rfl) (ho1.wk (fun i hi => Or.inr hi)) (Nat.le_refl _) hst (lv_sub hl [1, 2, 0] rfl)

theorem ur_mp {s a b : Nat} (hs : s ≤ 36) (ha : a ≤ s) (hb : b ≤ s - a) : T3 s + R2 s a + b < 9139 ∧ ur (T3 s + R2 s a + b) = mp a b (s - a - b) := by
  have hm : mv (mp a b (s - a - b)) := mv_mp (by omega)
  have hr := rk_mp (a := a) (b := b) (c := s - a - b) (by omega)
  rw [show a + b + (s - a - b) = s by omega] at hr
  have h1 := rk_lt hm
  have h2 := ur_rk hm
  rw [hr] at h1 h2
  exact ⟨h1, h2⟩
theorem ur_big {r : Nat} (h : 9139 ≤ r) : ur r = 0 := by
  unfold ur
  rw [dif_neg (by omega)]

set_option maxHeartbeats 4000000 in
set_option maxRecDepth 100000 in
theorem c_S_init (l : Launch) (D : va_G) (Y : Nat → ClassId) (lo : Nat) {M : Hm} {sa fa : Nat} (h0 : M sa = some ((2, 0), .inr (3, [.null, .null, .null, .null, .int (nI 0)]))) : ct l D Y lo y_S_init b_S_init 6 none 1 [.ref sa, .ref fa] M (fun r M' => r = none ∧ sh Y M' sa fa (fun _ => 0) ∧ hp_off (fun i => i = 2) M M') nx 3 20646 := by
  refine ct_of (by decide) (Nat.le_of_ble_eq_true rfl) ?_
  intro pg eg sg mg bw mt cg ls X hst hl
  have X1 := X
  obtain ⟨hx, hb, hml, hrt, hlocks, hown, hnm, hts, hkz, hex⟩ := X1
  have hG : ∀ w ∈ GW, w.before _ sg = true := fun w h => hts w (List.mem_cons_of_mem _ h)
  have hK := hkz.1
  have hl : lv_has ls 6 [(0, .ref sa), (1, .ref fa)] := hl
  have hin : mt.name = "<init>" := hnm
  refine lv_aload_n hx hb dS_init_0 rfl (lv_at hl 0 rfl) ?_
  refine W.objInit hx hb hown (hG _ ml_S_1) (hG _ wi_Jo_init) (hG _ wc_Jo_init) rfl (by rw [hml]; exact hl.1) rfl dS_init_1 (Nat.le_of_ble_eq_true rfl) (Nat.le_of_ble_eq_true rfl) ?_
  refine W.eq (g2 := F0 mg 4 ls []) rfl ?_
  refine lv_aload_n hx hb dS_init_4 rfl (lv_at hl 0 rfl) ?_
  refine lv_sipush (v := nI 9139) hx hb dS_init_5 (by decide +kernel) ?_
  refine hp_newi hx hb (hG _ ac_int) hK rfl hst (2, 1) (N' := 9139) (by omega) (rm_c (by omega)) (rm_s (by omega)) dS_init_8 (fun q1 H hq2 hst => ?_)
  generalize hM4 : hp_up M q1 ((2, 1), e_n Y 9139 (fun _ => 0)) = M3 at hst
  have f5 : M3 q1 = some ((2, 1), e_n Y 9139 (fun _ => 0)) := by rw [← hM4]; exact hp_up_self _ _ _
  have f6 : M3 sa = some ((2, 0), .inr (3, [.null, .null, .null, .null, .int (nI 0)])) := by rw [← hM4]; exact hp_kf hq2 h0
  have o7 : hp_off (fun i => i = 2) M M3 := by rw [← hM4]; exact hp_off.nw hq2 rfl
  refine hp_putF hx hb hG in_S ty_S tyok_S nm_S hown hK hst f6 rfl 1 (by decide) (hG _ fl_S_9) rfl rfl hin rfl rfl rfl (Nat.le_of_ble_eq_true rfl) dS_init_10 (fs' := [.null, .ref q1, .null, .null, .int (nI 0)]) rfl (fun H locs hst => ?_)
  generalize hM9 : hp_up M3 sa ((2, 0), .inr (3, [.null, .ref q1, .null, .null, .int (nI 0)])) = M8 at hst
  have f10 : M8 sa = some ((2, 0), .inr (3, [.null, .ref q1, .null, .null, .int (nI 0)])) := by rw [← hM9]; exact hp_up_self _ _ _
  have f11 : M8 q1 = some ((2, 1), e_n Y 9139 (fun _ => 0)) := by rw [← hM9]; exact hp_kt f6 f5 (tg2 (by decide))
  have o12 : hp_off (fun i => i = 2) M M8 := by rw [← hM9]; exact hp_off.tr o7 (hp_off.up f6 rfl)
  refine lv_aload_n hx hb dS_init_13 rfl (lv_at hl 0 rfl) ?_
  refine lv_sipush (v := nI 2368) hx hb dS_init_14 (by decide +kernel) ?_
  refine hp_newi hx hb (hG _ ac_int) hK rfl hst (2, 2) (N' := 2368) (by omega) (rm_c (by omega)) (rm_s (by omega)) dS_init_17 (fun q13 H hq14 hst => ?_)
  generalize hM16 : hp_up M8 q13 ((2, 2), e_n Y 2368 (fun _ => 0)) = M15 at hst
  have f17 : M15 q13 = some ((2, 2), e_n Y 2368 (fun _ => 0)) := by rw [← hM16]; exact hp_up_self _ _ _
  have f18 : M15 q1 = some ((2, 1), e_n Y 9139 (fun _ => 0)) := by rw [← hM16]; exact hp_kf hq14 f11
  have f19 : M15 sa = some ((2, 0), .inr (3, [.null, .ref q1, .null, .null, .int (nI 0)])) := by rw [← hM16]; exact hp_kf hq14 f10
  have o20 : hp_off (fun i => i = 2) M M15 := by rw [← hM16]; exact hp_off.tr o12 (hp_off.nw hq14 rfl)
  refine hp_putF hx hb hG in_S ty_S tyok_S nm_S hown hK hst f19 rfl 2 (by decide) (hG _ fl_S_15) rfl rfl hin rfl rfl rfl (Nat.le_of_ble_eq_true rfl) dS_init_19 (fs' := [.null, .ref q1, .ref q13, .null, .int (nI 0)]) rfl (fun H locs hst => ?_)
  generalize hM22 : hp_up M15 sa ((2, 0), .inr (3, [.null, .ref q1, .ref q13, .null, .int (nI 0)])) = M21 at hst
  have f23 : M21 sa = some ((2, 0), .inr (3, [.null, .ref q1, .ref q13, .null, .int (nI 0)])) := by rw [← hM22]; exact hp_up_self _ _ _
  have f24 : M21 q1 = some ((2, 1), e_n Y 9139 (fun _ => 0)) := by rw [← hM22]; exact hp_kt f19 f18 (tg2 (by decide))
  have f25 : M21 q13 = some ((2, 2), e_n Y 2368 (fun _ => 0)) := by rw [← hM22]; exact hp_kt f19 f17 (tg2 (by decide))
  have o26 : hp_off (fun i => i = 2) M M21 := by rw [← hM22]; exact hp_off.tr o20 (hp_off.up f19 rfl)
  refine lv_aload_n hx hb dS_init_22 rfl (lv_at hl 0 rfl) ?_
  refine lv_sipush (v := nI 9139) hx hb dS_init_23 (by decide +kernel) ?_
  refine hp_newi hx hb (hG _ ac_int) hK rfl hst (2, 3) (N' := 9139) (by omega) (rm_c (by omega)) (rm_s (by omega)) dS_init_26 (fun q27 H hq28 hst => ?_)
  generalize hM30 : hp_up M21 q27 ((2, 3), e_n Y 9139 (fun _ => 0)) = M29 at hst
  have f31 : M29 q27 = some ((2, 3), e_n Y 9139 (fun _ => 0)) := by rw [← hM30]; exact hp_up_self _ _ _
  have f32 : M29 q1 = some ((2, 1), e_n Y 9139 (fun _ => 0)) := by rw [← hM30]; exact hp_kf hq28 f24
  have f33 : M29 q13 = some ((2, 2), e_n Y 2368 (fun _ => 0)) := by rw [← hM30]; exact hp_kf hq28 f25
  have f34 : M29 sa = some ((2, 0), .inr (3, [.null, .ref q1, .ref q13, .null, .int (nI 0)])) := by rw [← hM30]; exact hp_kf hq28 f23
  have o35 : hp_off (fun i => i = 2) M M29 := by rw [← hM30]; exact hp_off.tr o26 (hp_off.nw hq28 rfl)
  refine hp_putF hx hb hG in_S ty_S tyok_S nm_S hown hK hst f34 rfl 3 (by decide) (hG _ fl_S_18) rfl rfl hin rfl rfl rfl (Nat.le_of_ble_eq_true rfl) dS_init_28 (fs' := [.null, .ref q1, .ref q13, .ref q27, .int (nI 0)]) rfl (fun H locs hst => ?_)
  generalize hM37 : hp_up M29 sa ((2, 0), .inr (3, [.null, .ref q1, .ref q13, .ref q27, .int (nI 0)])) = M36 at hst
  have f38 : M36 sa = some ((2, 0), .inr (3, [.null, .ref q1, .ref q13, .ref q27, .int (nI 0)])) := by rw [← hM37]; exact hp_up_self _ _ _
  have f39 : M36 q1 = some ((2, 1), e_n Y 9139 (fun _ => 0)) := by rw [← hM37]; exact hp_kt f34 f32 (tg2 (by decide))
  have f40 : M36 q13 = some ((2, 2), e_n Y 2368 (fun _ => 0)) := by rw [← hM37]; exact hp_kt f34 f33 (tg2 (by decide))
  have f41 : M36 q27 = some ((2, 3), e_n Y 9139 (fun _ => 0)) := by rw [← hM37]; exact hp_kt f34 f31 (tg2 (by decide))
  have o42 : hp_off (fun i => i = 2) M M36 := by rw [← hM37]; exact hp_off.tr o35 (hp_off.up f34 rfl)
  refine lv_aload_n hx hb dS_init_31 rfl (lv_at hl 0 rfl) ?_
  refine lv_aload_n hx hb dS_init_32 rfl (lv_at hl 1 rfl) ?_
  refine hp_putF hx hb hG in_S ty_S tyok_S nm_S hown hK hst f38 rfl 0 (by decide) (hG _ fl_S_21) rfl rfl hin rfl rfl rfl (Nat.le_of_ble_eq_true rfl) dS_init_33 (fs' := [.ref fa, .ref q1, .ref q13, .ref q27, .int (nI 0)]) rfl (fun H locs hst => ?_)
  generalize hM44 : hp_up M36 sa ((2, 0), .inr (3, [.ref fa, .ref q1, .ref q13, .ref q27, .int (nI 0)])) = M43 at hst
  have f45 : M43 sa = some ((2, 0), .inr (3, [.ref fa, .ref q1, .ref q13, .ref q27, .int (nI 0)])) := by rw [← hM44]; exact hp_up_self _ _ _
  have f46 : M43 q1 = some ((2, 1), e_n Y 9139 (fun _ => 0)) := by rw [← hM44]; exact hp_kt f38 f39 (tg2 (by decide))
  have f47 : M43 q13 = some ((2, 2), e_n Y 2368 (fun _ => 0)) := by rw [← hM44]; exact hp_kt f38 f40 (tg2 (by decide))
  have f48 : M43 q27 = some ((2, 3), e_n Y 9139 (fun _ => 0)) := by rw [← hM44]; exact hp_kt f38 f41 (tg2 (by decide))
  have o49 : hp_off (fun i => i = 2) M M43 := by rw [← hM44]; exact hp_off.tr o42 (hp_off.up f38 rfl)
  refine lv_iconst (v := nI 0) hx hb dS_init_36 (by decide +kernel) ?_
  refine lv_istore_n (lv' := [(2, .int (nI 0)), (0, .ref sa), (1, .ref fa)]) hx hb dS_init_37 rfl hl (by decide) rfl (fun ls hl => ?_)
  refine lv_iconst (v := nI 0) hx hb dS_init_38 (by decide +kernel) ?_
  refine lv_istore_n (lv' := [(3, .int (nI 0)), (2, .int (nI 0)), (0, .ref sa), (1, .ref fa)]) hx hb dS_init_39 rfl hl (by decide) rfl (fun ls hl => ?_)
  have LP : ∀ (kk : Nat) (su : Nat) (f1 f2 : Nat → Nat) (M1 : Hm) (H : Heap) (locs : List Loc) (ls : Array Slot), kk = 40 - su → (su ≤ 37) → (M1 sa = some ((2, 0), .inr (3, [.ref fa, .ref q1, .ref q13, .ref q27, .int (nI 0)]))) → (M1 q1 = some ((2, 1), e_n Y 9139 f1)) → (M1 q13 = some ((2, 2), e_n Y 2368 f2)) → (M1 q27 = some ((2, 3), e_n Y 9139 (fun _ => 0))) → (∀ r, f1 r = if r < T3 su then ur r else 0) → (∀ i, f2 i = if i / 64 < su then frk i else 0) → (hp_off (fun i => i = 2) M M1) → hp_st D vC lo M1 sg.heap H locs → lv_has ls 6 [(0, .ref sa), (1, .ref fa), (2, .int (nI (T3 su))), (3, .int (nI su))] → cW pg l eg sg mg [.ref sa, .ref fa] bw mt cg y_S_init b_S_init 6 none 1 D lo (fun r M' => r = none ∧ sh Y M' sa fa (fun _ => 0) ∧ hp_off (fun i => i = 2) M M') nx 3 20646 H locs (0 + 1 + 1 + 1) (0 + 9139 + 2368 + 9139) (F0 mg 40 ls []) := by
    intro kk
    induction kk using Nat.strongRecOn with
    | _ kk ihLP =>
    intro su f1 f2 M1 H locs ls hkk hsu m0 m1 m2 m3 hf1 hf2 ho hst hl
    refine lv_iload_n hx hb dS_init_40 rfl (lv_at hl 3 rfl) ?_
    refine lv_bipush (v := nI 36) hx hb dS_init_41 (by decide +kernel) ?_
    refine lv_icmp_gt hx hb dS_init_43 (tgt := 121) rfl (fun hc => ?_) (fun hc => ?_)
    · skip
      have hc1 : 36 < su := (nI_ltI (by omega) (by omega)).mp hc
      have hsu : su = 37 := by omega
      subst hsu
      have e1 : f1 = ur := by
        funext r
        rw [hf1 r, T3_37]
        by_cases h9 : r < 9139
        · rw [if_pos h9]
        · rw [if_neg h9, ur_big (by omega)]
      have e2 : f2 = frk := by
        funext i
        rw [hf2 i]
        by_cases h9 : i / 64 < 37
        · rw [if_pos h9]
        · rw [if_neg h9]
          unfold frk
          rw [if_neg (by omega)]
      subst e1
      subst e2
      exact ct_vret X hst ⟨rfl, ⟨_, _, _, _, _, m0, m1, m2, m3, fun r _ => rfl, by omega, fun r _ _ => rfl⟩, ho⟩ (by omega) (by omega) dS_init_121
    · skip
      have hc1 : ¬ 36 < su := fun z => hc ((nI_ltI (by omega) (by omega)).mpr z)
      refine lv_iconst (v := nI 0) hx hb dS_init_46 (by decide +kernel) ?_
      refine lv_istore (lv' := [(4, .int (nI 0)), (0, .ref sa), (1, .ref fa), (2, .int (nI (T3 su))), (3, .int (nI su))]) hx hb dS_init_47 hl (by decide) rfl (fun ls hl => ?_)
      have LQ : ∀ (kk : Nat) (a : Nat) (f1 f2 : Nat → Nat) (M1 : Hm) (H : Heap) (locs : List Loc) (ls : Array Slot), kk = 40 - a → (a ≤ su + 1) → (M1 sa = some ((2, 0), .inr (3, [.ref fa, .ref q1, .ref q13, .ref q27, .int (nI 0)]))) → (M1 q1 = some ((2, 1), e_n Y 9139 f1)) → (M1 q13 = some ((2, 2), e_n Y 2368 f2)) → (M1 q27 = some ((2, 3), e_n Y 9139 (fun _ => 0))) → (∀ r, f1 r = if r < T3 su + R2 su a then ur r else 0) → (∀ i, f2 i = if i / 64 < su ∨ i / 64 = su ∧ i % 64 < a then frk i else 0) → (hp_off (fun i => i = 2) M M1) → hp_st D vC lo M1 sg.heap H locs → lv_has ls 6 [(0, .ref sa), (1, .ref fa), (2, .int (nI (T3 su + R2 su a))), (3, .int (nI su)), (4, .int (nI a))] → cW pg l eg sg mg [.ref sa, .ref fa] bw mt cg y_S_init b_S_init 6 none 1 D lo (fun r M' => r = none ∧ sh Y M' sa fa (fun _ => 0) ∧ hp_off (fun i => i = 2) M M') nx 3 20646 H locs (0 + 1 + 1 + 1) (0 + 9139 + 2368 + 9139) (F0 mg 49 ls []) := by
        intro kk
        induction kk using Nat.strongRecOn with
        | _ kk ihLQ =>
        intro a f1 f2 M1 H locs ls hkk ha9 m0 m1 m2 m3 hf1 hf2 ho hst hl
        refine lv_iload hx hb dS_init_49 (lv_at hl 4 rfl) ?_
        refine lv_iload_n hx hb dS_init_51 rfl (lv_at hl 3 rfl) ?_
        refine lv_icmp_gt hx hb dS_init_52 (tgt := 115) rfl (fun hc => ?_) (fun hc => ?_)
        · skip
          have hc2 : su < a := (nI_ltI (by omega) (by omega)).mp hc
          have hae : a = su + 1 := by omega
          have hT : T3 su + R2 su a = T3 (su + 1) := by rw [hae]; rfl
          rw [hT] at hl hf1
          refine lv_iinc (lv' := [(3, .int (nI (su + 1))), (0, .ref sa), (1, .ref fa), (2, .int (nI (T3 (su + 1)))), (4, .int (nI a))]) hx hb dS_init_115 hl (k := 3) rfl (ii_p _) (by decide) rfl (fun ls hl => ?_)
          refine lv_goto hx hb dS_init_118 (tgt := 40) rfl ?_
          exact ihLP _ (by omega) (su + 1) f1 f2 M1 _ _ _ rfl (by omega) m0 m1 m2 m3 hf1 (fun i => by
              rw [hf2 i]
              by_cases h9 : i / 64 < su ∨ i / 64 = su ∧ i % 64 < a
              · rw [if_pos h9, if_pos (by omega)]
              · rw [if_neg h9]
                by_cases h8 : i / 64 < su + 1
                · rw [if_pos h8]; unfold frk; rw [if_neg (by omega)]
                · rw [if_neg h8]) ho hst (lv_sub hl [1, 2, 3, 0] rfl)
        · skip
          have hc2 : ¬ su < a := fun z => hc ((nI_ltI (by omega) (by omega)).mpr z)
          obtain ⟨u1, u2⟩ := ur_mp (s := su) (a := a) (b := 0) (by omega) (by omega) (by omega)
          refine lv_aload_n hx hb dS_init_55 rfl (lv_at hl 0 rfl) ?_
          refine hp_get hx hb hG in_S hown hK hst m0 rfl 2 (by decide) (hG _ fl_S_15) rfl rfl dS_init_56 ?_
          refine lv_iload_n hx hb dS_init_59 rfl (lv_at hl 3 rfl) ?_
          refine lv_bipush (v := nI 6) hx hb dS_init_60 (by decide +kernel) ?_
          refine lv_ishl hx hb dS_init_62 ?_
          refine tp_i (e2 := nI (su * 64)) (sh_l (by omega) (by omega)) ?_
          refine lv_iload hx hb dS_init_63 (lv_at hl 4 rfl) ?_
          refine lv_ior hx hb dS_init_65 ?_
          refine tp_i (e2 := nI ((su * 64) ||| a)) (bt_or _ _) ?_
          refine tp_n (e2 := su * 64 + a) (or_6 (by omega)) ?_
          refine lv_iload_n hx hb dS_init_66 rfl (lv_at hl 2 rfl) ?_
          refine hp_iast hx hb hK rfl hst m2 (j := (su * 64 + a)) (v := (T3 su + R2 su a)) (by omega) (by omega) dS_init_67 (fun H locs hst => ?_)
          generalize hM51 : hp_up M1 q13 ((2, 2), e_n Y 2368 (va_up f2 (su * 64 + a) (T3 su + R2 su a))) = M50 at hst
          have f52 : M50 q13 = some ((2, 2), e_n Y 2368 (va_up f2 (su * 64 + a) (T3 su + R2 su a))) := by rw [← hM51]; exact hp_up_self _ _ _
          have f53 : M50 sa = some ((2, 0), .inr (3, [.ref fa, .ref q1, .ref q13, .ref q27, .int (nI 0)])) := by rw [← hM51]; exact hp_kt m2 m0 (tg2 (by decide))
          have f54 : M50 q1 = some ((2, 1), e_n Y 9139 f1) := by rw [← hM51]; exact hp_kt m2 m1 (tg2 (by decide))
          have f55 : M50 q27 = some ((2, 3), e_n Y 9139 (fun _ => 0)) := by rw [← hM51]; exact hp_kt m2 m3 (tg2 (by decide))
          have o56 : hp_off (fun i => i = 2) M M50 := by rw [← hM51]; exact hp_off.tr ho (hp_off.up m2 rfl)
          refine lv_iconst (v := nI 0) hx hb dS_init_68 (by decide +kernel) ?_
          refine lv_istore (lv' := [(5, .int (nI 0)), (0, .ref sa), (1, .ref fa), (2, .int (nI (T3 su + R2 su a))), (3, .int (nI su)), (4, .int (nI a))]) hx hb dS_init_69 hl (by decide) rfl (fun ls hl => ?_)
          have LR : ∀ (kk : Nat) (b : Nat) (f1 f2 : Nat → Nat) (M1 : Hm) (H : Heap) (locs : List Loc) (ls : Array Slot), kk = 40 - b → (b ≤ su + 1 - a) → (M1 sa = some ((2, 0), .inr (3, [.ref fa, .ref q1, .ref q13, .ref q27, .int (nI 0)]))) → (M1 q1 = some ((2, 1), e_n Y 9139 f1)) → (M1 q13 = some ((2, 2), e_n Y 2368 f2)) → (M1 q27 = some ((2, 3), e_n Y 9139 (fun _ => 0))) → (∀ r, f1 r = if r < T3 su + R2 su a + b then ur r else 0) → (∀ i, f2 i = if i / 64 < su ∨ i / 64 = su ∧ i % 64 < a + 1 then frk i else 0) → (hp_off (fun i => i = 2) M M1) → hp_st D vC lo M1 sg.heap H locs → lv_has ls 6 [(0, .ref sa), (1, .ref fa), (2, .int (nI (T3 su + R2 su a + b))), (3, .int (nI su)), (4, .int (nI a)), (5, .int (nI b))] → cW pg l eg sg mg [.ref sa, .ref fa] bw mt cg y_S_init b_S_init 6 none 1 D lo (fun r M' => r = none ∧ sh Y M' sa fa (fun _ => 0) ∧ hp_off (fun i => i = 2) M M') nx 3 20646 H locs (0 + 1 + 1 + 1) (0 + 9139 + 2368 + 9139) (F0 mg 71 ls []) := by
            intro kk
            induction kk using Nat.strongRecOn with
            | _ kk ihLR =>
            intro b f1 f2 M1 H locs ls hkk hb9 m0 m1 m2 m3 hf1 hf2 ho hst hl
            refine lv_iload hx hb dS_init_71 (lv_at hl 5 rfl) ?_
            refine lv_iload_n hx hb dS_init_73 rfl (lv_at hl 3 rfl) ?_
            refine lv_iload hx hb dS_init_74 (lv_at hl 4 rfl) ?_
            refine t_isub hx hb dS_init_76 (v := nI (su - a)) (pk_sub (by omega)) ?_
            refine lv_icmp_gt hx hb dS_init_77 (tgt := 109) rfl (fun hc => ?_) (fun hc => ?_)
            · skip
              have hc3 : (su - a) < b := (nI_ltI (by omega) (by omega)).mp hc
              have hbe : b = su + 1 - a := by omega
              have hR : T3 su + R2 su a + b = T3 su + R2 su (a + 1) := by
                rw [hbe]
                have : R2 su (a + 1) = R2 su a + (su + 1 - a) := rfl
                omega
              rw [hR] at hl hf1
              refine lv_iinc (lv' := [(4, .int (nI (a + 1))), (0, .ref sa), (1, .ref fa), (2, .int (nI (T3 su + R2 su (a + 1)))), (3, .int (nI su)), (5, .int (nI b))]) hx hb dS_init_109 hl (k := 4) rfl (ii_p _) (by decide) rfl (fun ls hl => ?_)
              refine lv_goto hx hb dS_init_112 (tgt := 49) rfl ?_
              exact ihLQ _ (by omega) (a + 1) f1 f2 M1 _ _ _ rfl (by omega) m0 m1 m2 m3 hf1 hf2 ho hst (lv_sub hl [1, 2, 3, 4, 0] rfl)
            · skip
              have hc3 : ¬ (su - a) < b := fun z => hc ((nI_ltI (by omega) (by omega)).mpr z)
              obtain ⟨u1, u2⟩ := ur_mp (s := su) (a := a) (b := b) (by omega) (by omega) (by omega)
              refine lv_aload_n hx hb dS_init_80 rfl (lv_at hl 0 rfl) ?_
              refine hp_get hx hb hG in_S hown hK hst m0 rfl 1 (by decide) (hG _ fl_S_9) rfl rfl dS_init_81 ?_
              refine lv_iload_n hx hb dS_init_84 rfl (lv_at hl 2 rfl) ?_
              refine lv_iload hx hb dS_init_85 (lv_at hl 4 rfl) ?_
              refine lv_iload hx hb dS_init_87 (lv_at hl 5 rfl) ?_
              refine lv_iload_n hx hb dS_init_89 rfl (lv_at hl 3 rfl) ?_
              refine lv_iload hx hb dS_init_90 (lv_at hl 4 rfl) ?_
              refine t_isub hx hb dS_init_92 (v := nI (su - a)) (pk_sub (by omega)) ?_
              refine lv_iload hx hb dS_init_93 (lv_at hl 5 rfl) ?_
              refine t_isub hx hb dS_init_95 (v := nI ((su - a) - b)) (pk_sub (by omega)) ?_
              refine ct_callS (av2 := [.int (nI a), .int (nI b), .int (nI ((su - a) - b))]) (rest := [.int (nI (T3 su + R2 su a + b)), .ref q1]) X hst (c_Q_of l D Y lo (a := a) (b := b) (c := su - a - b) (by omega)) wc_Q_of ml_S_25 ws_Q_of wn_Q md_Q_of (by decide) hl.1 rfl (Nat.le_of_ble_eq_true rfl) ⟨by omega, by omega⟩ (fun _ _ h => h.elim) dS_init_96 (fun r M' H locs hp hst => ?_)
              obtain ⟨rfl, rfl⟩ := hp
              refine hp_iast hx hb hK rfl hst m1 (j := (T3 su + R2 su a + b)) (v := (mp a b (su - a - b))) (by omega) (by omega) dS_init_99 (fun H locs hst => ?_)
              generalize hM58 : hp_up M1 q1 ((2, 1), e_n Y 9139 (va_up f1 (T3 su + R2 su a + b) (mp a b (su - a - b)))) = M57 at hst
              have f59 : M57 q1 = some ((2, 1), e_n Y 9139 (va_up f1 (T3 su + R2 su a + b) (mp a b (su - a - b)))) := by rw [← hM58]; exact hp_up_self _ _ _
              have f60 : M57 sa = some ((2, 0), .inr (3, [.ref fa, .ref q1, .ref q13, .ref q27, .int (nI 0)])) := by rw [← hM58]; exact hp_kt m1 m0 (tg2 (by decide))
              have f61 : M57 q13 = some ((2, 2), e_n Y 2368 f2) := by rw [← hM58]; exact hp_kt m1 m2 (tg2 (by decide))
              have f62 : M57 q27 = some ((2, 3), e_n Y 9139 (fun _ => 0)) := by rw [← hM58]; exact hp_kt m1 m3 (tg2 (by decide))
              have o63 : hp_off (fun i => i = 2) M M57 := by rw [← hM58]; exact hp_off.tr ho (hp_off.up m1 rfl)
              refine lv_iinc (lv' := [(2, .int (nI ((T3 su + R2 su a + b) + 1))), (0, .ref sa), (1, .ref fa), (3, .int (nI su)), (4, .int (nI a)), (5, .int (nI b))]) hx hb dS_init_100 hl (k := 2) rfl (ii_p _) (by decide) rfl (fun ls hl => ?_)
              refine lv_iinc (lv' := [(5, .int (nI (b + 1))), (2, .int (nI ((T3 su + R2 su a + b) + 1))), (0, .ref sa), (1, .ref fa), (3, .int (nI su)), (4, .int (nI a))]) hx hb dS_init_103 hl (k := 5) rfl (ii_p _) (by decide) rfl (fun ls hl => ?_)
              refine lv_goto hx hb dS_init_106 (tgt := 71) rfl ?_
              exact ihLR _ (by omega) (b + 1) (va_up f1 (T3 su + R2 su a + b) (mp a b (su - a - b))) f2 M57 _ _ _ rfl (by omega) f60 f59 f61 f62 (fun r => by
                  by_cases h9 : r = T3 su + R2 su a + b
                  · rw [h9, va_up_self, if_pos (by omega), u2]
                  · rw [va_up_ne _ _ h9, hf1 r]
                    by_cases h8 : r < T3 su + R2 su a + b
                    · rw [if_pos h8, if_pos (by omega)]
                    · rw [if_neg h8, if_neg (by omega)]) hf2 o63 hst (lv_sub hl [2, 3, 1, 4, 5, 0] rfl)
          exact LR _ 0 f1 (va_up f2 (su * 64 + a) (T3 su + R2 su a)) M50 _ _ _ rfl (by omega) f53 f54 f52 f55 hf1 (fun i => by
              by_cases h9 : i = su * 64 + a
              · rw [h9, va_up_self, if_pos (by omega)]
                unfold frk
                rw [show (su * 64 + a) / 64 = su by omega, show (su * 64 + a) % 64 = a by omega, if_pos (by omega)]
              · rw [va_up_ne _ _ h9, hf2 i]
                by_cases h8 : i / 64 < su ∨ i / 64 = su ∧ i % 64 < a
                · rw [if_pos h8, if_pos (by omega)]
                · rw [if_neg h8, if_neg (by omega)]) o56 hst (lv_sub hl [1, 2, 3, 4, 5, 0] rfl)
      exact LQ _ 0 f1 f2 M1 _ _ _ rfl (by omega) m0 m1 m2 m3 hf1 (fun i => by
          rw [hf2 i]
          by_cases h9 : i / 64 < su
          · rw [if_pos h9, if_pos (by omega)]
          · rw [if_neg h9, if_neg (by omega)]) ho hst (lv_sub hl [1, 2, 3, 4, 0] rfl)
  exact LP _ 0 (fun _ => 0) (fun _ => 0) M43 _ _ _ rfl (by omega) f45 f46 f47 f48 (fun r => by rw [if_neg (show ¬ r < T3 0 from Nat.not_lt_zero _)]) (fun i => by rw [if_neg (by omega)]) o49 hst (lv_sub hl [2, 3, 1, 0] rfl)
