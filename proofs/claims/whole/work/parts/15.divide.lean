/-! Division on the sheet: one way down. -/
abbrev mlt (k q : Nat) : Prop := xe q 0 ≤ xe k 0 ∧ xe q 1 ≤ xe k 1 ∧ xe q 2 ≤ xe k 2
theorem mlt_mp {k q : Nat} (hk : mv k) (hq : mv q) (h : mlt k q) : q ≤ k ∧ k - q = mp (xe k 0 - xe q 0) (xe k 1 - xe q 1) (xe k 2 - xe q 2) ∧ mv (k - q) := by
  have h1 := hk.2
  have h2 := hq.2
  have h3 := hk.1
  obtain ⟨m0, m1, m2⟩ := h
  generalize xe k 0 = a at *
  generalize xe k 1 = b at *
  generalize xe k 2 = c at *
  generalize xe q 0 = a' at *
  generalize xe q 1 = b' at *
  generalize xe q 2 = c' at *
  have h4 : q ≤ k := by rw [h1, h2]; unfold mp; omega
  have h5 : k - q = mp (a - a') (b - b') (c - c') := by rw [h1, h2]; unfold mp; omega
  exact ⟨h4, h5, by rw [h5]; exact mv_mp (by omega)⟩
/-- what division makes of the sheet, and its quotient: the ranks below n are to come -/
noncomputable def dvC (p hi iv : Nat) (B : List (Nat × Nat)) : Nat → Pf → Pf
  | 0, c => c
  | n + 1, c => if c (ur n) ≠ 0 ∧ mlt (ur n) hi then dvC p hi iv B n (addL p (ng p (c (ur n) * iv % p)) (ur n - hi) B c) else dvC p hi iv B n c
noncomputable def dvQ (p hi iv : Nat) (B : List (Nat × Nat)) : Nat → Pf → List (Nat × Nat)
  | 0, _ => []
  | n + 1, c => if c (ur n) ≠ 0 ∧ mlt (ur n) hi then (ur n - hi, c (ur n) * iv % p) :: dvQ p hi iv B n (addL p (ng p (c (ur n) * iv % p)) (ur n - hi) B c) else dvQ p hi iv B n c
section DV
variable {p hi iv n : Nat} {B : List (Nat × Nat)} {c : Pf}
theorem dvC_y (h : c (ur n) ≠ 0 ∧ mlt (ur n) hi) : dvC p hi iv B (n + 1) c = dvC p hi iv B n (addL p (ng p (c (ur n) * iv % p)) (ur n - hi) B c) := by
  show (if _ then _ else _) = _
  rw [if_pos h]
theorem dvC_n (h : ¬ (c (ur n) ≠ 0 ∧ mlt (ur n) hi)) : dvC p hi iv B (n + 1) c = dvC p hi iv B n c := by
  show (if _ then _ else _) = _
  rw [if_neg h]
theorem dvQ_y (h : c (ur n) ≠ 0 ∧ mlt (ur n) hi) : dvQ p hi iv B (n + 1) c = (ur n - hi, c (ur n) * iv % p) :: dvQ p hi iv B n (addL p (ng p (c (ur n) * iv % p)) (ur n - hi) B c) := by
  show (if _ then _ else _) = _
  rw [if_pos h]
theorem dvQ_n (h : ¬ (c (ur n) ≠ 0 ∧ mlt (ur n) hi)) : dvQ p hi iv B (n + 1) c = dvQ p hi iv B n c := by
  show (if _ then _ else _) = _
  rw [if_neg h]
theorem dv_end {e : Nat} (he : e ≤ n) (h : ∀ r, e ≤ r → r < n → c (ur r) = 0) : dvC p hi iv B n c = dvC p hi iv B e c ∧ dvQ p hi iv B n c = dvQ p hi iv B e c := by
  induction n with
  | zero => rw [show e = 0 by omega]; exact ⟨rfl, rfl⟩
  | succ n ih =>
    by_cases hn : e = n + 1
    · rw [hn]; exact ⟨rfl, rfl⟩
    · have hz : ¬ (c (ur n) ≠ 0 ∧ mlt (ur n) hi) := fun z => z.1 (h n (by omega) (by omega))
      rw [dvC_n hz, dvQ_n hz]
      exact ih (by omega) (fun r h1 h2 => h r h1 (by omega))
theorem dvQ_len : ∀ (n : Nat) (c : Pf), (dvQ p hi iv B n c).length ≤ n
  | 0, _ => Nat.le_refl _
  | n + 1, c => by
    by_cases h : c (ur n) ≠ 0 ∧ mlt (ur n) hi
    · rw [dvQ_y h, List.length_cons]
      have := dvQ_len n (addL p (ng p (c (ur n) * iv % p)) (ur n - hi) B c)
      omega
    · rw [dvQ_n h]
      have := dvQ_len n c
      omega
end DV

set_option maxHeartbeats 4000000 in
set_option maxRecDepth 100000 in
theorem c_S_divideBy (l : Launch) (D : va_G) (Y : Nat → ClassId) (lo : Nat) {M : Hm} {sa fa p : Nat} {c : Pf} (hs : sh Y M sa fa c) (hf : fd M fa p) (hcp : ∀ m, c m < p) {id h cap : Nat} {B : List (Nat × Nat)} (hp : po Y M id h cap B) (hid : id ≠ 2) {idq hqa capq : Nat} {Lq : List (Nat × Nat)} (hq : po Y M idq hqa capq Lq) (hidq : idq ≠ 2) (hdd : id ≠ idq) (hid1 : idq ≠ 1) (hcapq : capq ≤ 18278) {q0 : Nat × Nat} (hq0 : B[0]? = some q0) (hB : ∀ q ∈ B, mv q.1 ∧ q.2 < p) (hmo : ∀ n, n < 9139 → mlt (ur n) q0.1 → ∀ q ∈ B, mv (q.1 + (ur n - q0.1))) : ct l D Y lo y_S_divideBy b_S_divideBy 8 none 4 [.ref sa, .ref h, .ref hqa] M (fun r M' => r = none ∧ sh Y M' sa fa (dvC p q0.1 (q0.2 ^ (p - 2) % p) B 9139 c) ∧ po Y M' idq hqa (gcn capq 0 (dvQ p q0.1 (q0.2 ^ (p - 2) % p) B 9139 c).length) (dvQ p q0.1 (q0.2 ^ (p - 2) % p) B 9139 c) ∧ hp_off (fun i => i = 2 ∨ i = idq) M M') nx (gcn capq 0 (dvQ p q0.1 (q0.2 ^ (p - 2) % p) B 9139 c).length - capq) (4 * (gcn capq 0 (dvQ p q0.1 (q0.2 ^ (p - 2) % p) B 9139 c).length - capq)) := by
  refine ct_of (by decide) (Nat.le_of_ble_eq_true rfl) ?_
  intro pg eg sg mg bw mt cg ls X hst hl
  have X1 := X
  obtain ⟨hx, hb, hml, hrt, hlocks, hown, hnm, hts, hkz, hex⟩ := X1
  have hG : ∀ w ∈ GW, w.before _ sg = true := fun w h => hts w (List.mem_cons_of_mem _ h)
  have hK := hkz.1
  have hl : lv_has ls 8 [(0, .ref sa), (1, .ref h), (2, .ref hqa)] := hl
  have hpp := hf.2.1
  have hpp3 := hf.2.2
  have hmv := hB q0 (List.mem_of_getElem? hq0)
  have hml9 := mv_lt hmv.1
  obtain ⟨fs9, hcellq⟩ := hq.cell
  refine lv_aload_n hx hb dS_divideBy_0 rfl (lv_at hl 2 rfl) ?_
  refine ct_callV (av2 := []) (rest := []) (b := hqa) X hst (c_P_clear l D Y lo hq) hcellq rfl wc_P_clear ml_S_74 wi_P_clear wl_P_clear wn_P md_P_clear (by decide) hl.1 rfl (Nat.le_of_ble_eq_true rfl) ⟨by omega, by omega⟩ (fun _ _ h => h.elim) dS_divideBy_1 (fun r M' H locs hp hst => ?_)
  obtain ⟨rfl, hq1, ho1⟩ := hp
  have hs1 : sh Y M' sa fa c := hs.off ho1 (by omega)
  have hp1 : po Y M' id h cap B := hp.off ho1 (by omega)
  have hf1 : fd M' fa p := hf.off ho1 (by omega)
  have hs1c := hs1
  have hp1c := hp1
  obtain ⟨ma, fr, ca, en, g, s0, s1, s2, s3, hg, hen, hz⟩ := hs1
  obtain ⟨a9, b9, fa9, fb9, h09, h19, h29, hL9, hn9, hc19, hc29⟩ := hp1
  obtain ⟨i1, i2⟩ := hL9 0 q0 hq0
  have hB0 : 0 < B.length := (List.getElem?_eq_some_iff.mp hq0).1
  have hf0 := hf1.1
  refine lv_aload_n hx hb dS_divideBy_4 rfl (lv_at hl 1 rfl) ?_
  refine hp_get hx hb hG in_P hown hK hst h09 rfl 0 (by decide) (hG _ fl_S_59) rfl rfl dS_divideBy_5 ?_
  refine lv_iconst (v := nI 0) hx hb dS_divideBy_8 (by decide +kernel) ?_
  refine hp_iald hx hb hK rfl hst h19 (j := 0) (by omega) (by omega) dS_divideBy_9 ?_
  refine tp_n (e2 := q0.1) i1 ?_
  refine lv_istore_n (lv' := [(3, .int (nI q0.1)), (0, .ref sa), (1, .ref h), (2, .ref hqa)]) hx hb dS_divideBy_10 rfl hl (by decide) rfl (fun ls hl => ?_)
  refine lv_aload_n hx hb dS_divideBy_11 rfl (lv_at hl 1 rfl) ?_
  refine hp_get hx hb hG in_S hown hK hst s0 rfl 0 (by decide) (hG _ fl_S_21) rfl rfl dS_divideBy_12 ?_
  refine lv_aload_n hx hb dS_divideBy_15 rfl (lv_at hl 2 rfl) ?_
  refine hp_get hx hb hG in_P hown hK hst h09 rfl 1 (by decide) (hG _ fl_S_60) rfl rfl dS_divideBy_16 ?_
  refine lv_iconst (v := nI 0) hx hb dS_divideBy_19 (by decide +kernel) ?_
  refine hp_iald hx hb hK rfl hst h29 (j := 0) (by omega) (by omega) dS_divideBy_20 ?_
  refine tp_n (e2 := q0.2) i2 ?_
  refine ct_callV (av2 := [.int (nI q0.2)]) (rest := []) (b := fa) X hst (c_F_inverse l D Y lo hf1 hmv.2) hf0 rfl wc_F_inverse ml_S_77 wi_F_inverse wl_F_inverse wn_F md_F_inverse (by decide) hl.1 rfl (Nat.le_of_ble_eq_true rfl) ⟨by omega, by omega⟩ (fun _ _ h => h.elim) dS_divideBy_21 (fun r M' H locs hp hst => ?_)
  obtain ⟨rfl, rfl⟩ := hp
  have hiv : q0.2 ^ (p - 2) % p < p := Nat.mod_lt _ (by omega)
  refine lv_istore (lv' := [(4, .int (nI (q0.2 ^ (p - 2) % p))), (3, .int (nI q0.1)), (0, .ref sa), (1, .ref h), (2, .ref hqa)]) hx hb dS_divideBy_24 hl (by decide) rfl (fun ls hl => ?_)
  refine lv_aload_n hx hb dS_divideBy_26 rfl (lv_at hl 2 rfl) ?_
  refine hp_get hx hb hG in_S hown hK hst s0 rfl 4 (by decide) (hG _ fl_S_45) rfl rfl dS_divideBy_27 ?_
  refine lv_iconst (v := nI 1) hx hb dS_divideBy_30 (by decide +kernel) ?_
  refine t_isub hx hb dS_divideBy_31 (v := dn en) rfl ?_
  refine lv_istore (lv' := [(5, .int (dn en)), (4, .int (nI (q0.2 ^ (p - 2) % p))), (3, .int (nI q0.1)), (0, .ref sa), (1, .ref h), (2, .ref hqa)]) hx hb dS_divideBy_32 hl (by decide) rfl (fun ls hl => ?_)
  obtain ⟨de1, de2⟩ := dv_end (p := p) (hi := q0.1) (iv := q0.2 ^ (p - 2) % p) (B := B) (c := c) hen (fun r h1 h2 => hz r h1 h2)
  have hcq : 16 ≤ capq ∧ capq ≤ 18278 := by obtain ⟨_, _, _, _, _, _, _, _, _, h9, _⟩ := hq; exact ⟨h9, hcapq⟩
  refine W.widen (k := capq - capq) (n := 4 * (capq - capq)) (by omega) (by omega) ?_
  have LP : ∀ (kk : Nat) (n : Nat) (c1 : Pf) (A : List (Nat × Nat)) (cap1 : Nat) (M1 : Hm) (H : Heap) (locs : List Loc) (ls : Array Slot), kk = n → (n ≤ 9139) → (sh Y M1 sa fa c1) → (∀ m, c1 m < p) → (po Y M1 idq hqa cap1 A) → (dvC p q0.1 (q0.2 ^ (p - 2) % p) B n c1 = dvC p q0.1 (q0.2 ^ (p - 2) % p) B 9139 c) → (A ++ dvQ p q0.1 (q0.2 ^ (p - 2) % p) B n c1 = dvQ p q0.1 (q0.2 ^ (p - 2) % p) B 9139 c) → (gcn cap1 A.length (dvQ p q0.1 (q0.2 ^ (p - 2) % p) B n c1).length = gcn capq 0 (dvQ p q0.1 (q0.2 ^ (p - 2) % p) B 9139 c).length) → (hp_off (fun i => i = 2 ∨ i = idq) M M1) → (capq ≤ cap1) → hp_st D vC lo M1 sg.heap H locs → lv_has ls 8 [(0, .ref sa), (1, .ref h), (2, .ref hqa), (3, .int (nI q0.1)), (4, .int (nI (q0.2 ^ (p - 2) % p))), (5, .int (dn n))] → cW pg l eg sg mg [.ref sa, .ref h, .ref hqa] bw mt cg y_S_divideBy b_S_divideBy 8 none 4 D lo (fun r M' => r = none ∧ sh Y M' sa fa (dvC p q0.1 (q0.2 ^ (p - 2) % p) B 9139 c) ∧ po Y M' idq hqa (gcn capq 0 (dvQ p q0.1 (q0.2 ^ (p - 2) % p) B 9139 c).length) (dvQ p q0.1 (q0.2 ^ (p - 2) % p) B 9139 c) ∧ hp_off (fun i => i = 2 ∨ i = idq) M M') nx (gcn capq 0 (dvQ p q0.1 (q0.2 ^ (p - 2) % p) B 9139 c).length - capq) (4 * (gcn capq 0 (dvQ p q0.1 (q0.2 ^ (p - 2) % p) B 9139 c).length - capq)) H locs (cap1 - capq) (4 * (cap1 - capq)) (F0 mg 34 ls []) := by
    intro kk
    induction kk using Nat.strongRecOn with
    | _ kk ihLP =>
    intro n c1 A cap1 M1 H locs ls hkk hn9 hs2 hcp1 hq2 hC hA hg ho hge hst hl
    have hcl := gcn_ge (dvQ p q0.1 (q0.2 ^ (p - 2) % p) B n c1).length cap1 A.length
    have hlen := congrArg List.length hA
    rw [List.length_append] at hlen
    have hl9 := dvQ_len (p := p) (hi := q0.1) (iv := q0.2 ^ (p - 2) % p) (B := B) 9139 c
    have hc18 : cap1 ≤ 18278 := by
      have h9 := gcn_le (dvQ p q0.1 (q0.2 ^ (p - 2) % p) B 9139 c).length capq 0 18278 hcapq (by omega)
      omega
    cases n with
    | zero =>
      refine lv_iload hx hb dS_divideBy_34 (lv_at hl 5 rfl) ?_
      refine lv_if_lt hx hb dS_divideBy_36 (tgt := 122) rfl (fun hc => ?_) (fun hc => absurd dn_0 hc)
      have hAe : A = dvQ p q0.1 (q0.2 ^ (p - 2) % p) B 9139 c := by rw [← hA]; exact (List.append_nil A).symm
      have hce : cap1 = gcn capq 0 (dvQ p q0.1 (q0.2 ^ (p - 2) % p) B 9139 c).length := hg
      have hCe : c1 = dvC p q0.1 (q0.2 ^ (p - 2) % p) B 9139 c := hC
      exact ct_vret X hst ⟨rfl, (by rw [← hCe]; exact hs2), (by rw [← hce, ← hAe]; exact hq2), ho⟩ (by omega) (by omega) dS_divideBy_122
    | succ n =>
      rw [dn_s] at hl
      have hs2c := hs2
      obtain ⟨ma, fr, ca, en, g, s0, s1, s2, s3, hg1, hen, hz⟩ := hs2
      have hun := ur_mv (r := n) (by omega)
      have hunl := mv_lt hun
      have hfi : fd M1 fa p := hf.off ho (by omega)
      have hpi : po Y M1 id h cap B := hp.off ho (by omega)
      have hf0 := hfi.1
      have hcpn := hcp1 (ur n)
      refine lv_iload hx hb dS_divideBy_34 (lv_at hl 5 rfl) ?_
      refine lv_if_lt hx hb dS_divideBy_36 (tgt := 122) rfl (fun hc => ?_) (fun hc => ?_)
      · skip
        rw [← nI_0] at hc
        have hc5 : n < 0 := (nI_ltI (by omega) (by omega)).mp hc
        exact absurd hc5 (by omega)
      · skip
        rw [← nI_0] at hc
        have hc5 : ¬ n < 0 := fun z => hc ((nI_ltI (by omega) (by omega)).mpr z)
        refine lv_aload_n hx hb dS_divideBy_39 rfl (lv_at hl 0 rfl) ?_
        refine hp_get hx hb hG in_S hown hK hst s0 rfl 3 (by decide) (hG _ fl_S_18) rfl rfl dS_divideBy_40 ?_
        refine lv_iload hx hb dS_divideBy_43 (lv_at hl 5 rfl) ?_
        refine hp_iald hx hb hK rfl hst s3 (j := n) (by omega) (by omega) dS_divideBy_45 ?_
        refine tp_n (e2 := c1 (ur n)) (hg1 n (by omega)) ?_
        refine lv_if_eq hx hb dS_divideBy_46 (tgt := 116) rfl (fun hc => ?_) (fun hc => ?_)
        · skip
          rw [← nI_0] at hc
          have hc6 : (c1 (ur n)) = 0 := (nI_eq (by omega) (by omega)).mp hc
          refine lv_iinc (lv' := [(5, .int (dn n)), (0, .ref sa), (1, .ref h), (2, .ref hqa), (3, .int (nI q0.1)), (4, .int (nI (q0.2 ^ (p - 2) % p)))]) hx hb dS_divideBy_116 hl (k := 5) rfl (ii_m _) (by decide) rfl (fun ls hl => ?_)
          refine lv_goto hx hb dS_divideBy_119 (tgt := 34) rfl ?_
          exact ihLP _ (by omega) n c1 A cap1 M1 _ _ _ rfl (by omega) hs2c hcp1 hq2 (by rw [dvC_n (fun z => z.1 hc6)] at hC; exact hC) (by rw [dvQ_n (fun z => z.1 hc6)] at hA; exact hA) (by rw [dvQ_n (fun z => z.1 hc6)] at hg; exact hg) ho hge hst (lv_sub hl [1, 2, 3, 4, 5, 0] rfl)
        · skip
          rw [← nI_0] at hc
          have hc6 : ¬ (c1 (ur n)) = 0 := fun z => hc ((nI_eq (by omega) (by omega)).mpr z)
          refine lv_aload_n hx hb dS_divideBy_49 rfl (lv_at hl 0 rfl) ?_
          refine hp_get hx hb hG in_S hown hK hst s0 rfl 1 (by decide) (hG _ fl_S_9) rfl rfl dS_divideBy_50 ?_
          refine lv_iload hx hb dS_divideBy_53 (lv_at hl 5 rfl) ?_
          refine hp_iald hx hb hK rfl hst s1 (j := n) (by omega) (by omega) dS_divideBy_55 ?_
          refine lv_iload_n hx hb dS_divideBy_56 rfl (lv_at hl 3 rfl) ?_
          refine ct_callS (av2 := [.int (nI (ur n)), .int (nI q0.1)]) (rest := []) X hst (c_Q_isMultiple l D Y lo (k := ur n) (q := q0.1) (by omega) (by omega)) wc_Q_isMultiple ml_S_80 ws_Q_isMultiple wn_Q md_Q_isMultiple (by decide) hl.1 rfl (Nat.le_of_ble_eq_true rfl) ⟨by omega, by omega⟩ (fun _ _ h => h.elim) dS_divideBy_57 (fun r M' H locs hp hst => ?_)
          obtain ⟨bb, rfl, hb1, hb2, rfl⟩ := hp
          refine lv_if_eq hx hb dS_divideBy_60 (tgt := 116) rfl (fun hc => ?_) (fun hc => ?_)
          · skip
            rw [← nI_0] at hc
            have hc7 : bb = 0 := (nI_eq (by omega) (by omega)).mp hc
            refine lv_iinc (lv' := [(5, .int (dn n)), (0, .ref sa), (1, .ref h), (2, .ref hqa), (3, .int (nI q0.1)), (4, .int (nI (q0.2 ^ (p - 2) % p)))]) hx hb dS_divideBy_116 hl (k := 5) rfl (ii_m _) (by decide) rfl (fun ls hl => ?_)
            refine lv_goto hx hb dS_divideBy_119 (tgt := 34) rfl ?_
            exact ihLP _ (by omega) n c1 A cap1 M1 _ _ _ rfl (by omega) hs2c hcp1 hq2 (by rw [dvC_n (fun z => by have := hb2.mpr z.2; omega)] at hC; exact hC) (by rw [dvQ_n (fun z => by have := hb2.mpr z.2; omega)] at hA; exact hA) (by rw [dvQ_n (fun z => by have := hb2.mpr z.2; omega)] at hg; exact hg) ho hge hst (lv_sub hl [1, 2, 3, 4, 5, 0] rfl)
          · skip
            rw [← nI_0] at hc
            have hc7 : ¬ bb = 0 := fun z => hc ((nI_eq (by omega) (by omega)).mpr z)
            have hyes : c1 (ur n) ≠ 0 ∧ mlt (ur n) q0.1 := ⟨hc6, hb2.mp (by omega)⟩
            obtain ⟨ml1, ml2, ml3⟩ := mlt_mp hun hmv.1 hyes.2
            rw [dvC_y hyes] at hC
            rw [dvQ_y hyes] at hA hg hcl
            have hlt9 : c1 (ur n) * (q0.2 ^ (p - 2) % p) % p < p := Nat.mod_lt _ (by omega)
            refine lv_aload_n hx hb dS_divideBy_63 rfl (lv_at hl 0 rfl) ?_
            refine hp_get hx hb hG in_S hown hK hst s0 rfl 1 (by decide) (hG _ fl_S_9) rfl rfl dS_divideBy_64 ?_
            refine lv_iload hx hb dS_divideBy_67 (lv_at hl 5 rfl) ?_
            refine hp_iald hx hb hK rfl hst s1 (j := n) (by omega) (by omega) dS_divideBy_69 ?_
            refine lv_iload_n hx hb dS_divideBy_70 rfl (lv_at hl 3 rfl) ?_
            refine t_isub hx hb dS_divideBy_71 (v := nI ((ur n) - q0.1)) (pk_sub (by omega)) ?_
            refine lv_istore (lv' := [(6, .int (nI ((ur n) - q0.1))), (0, .ref sa), (1, .ref h), (2, .ref hqa), (3, .int (nI q0.1)), (4, .int (nI (q0.2 ^ (p - 2) % p))), (5, .int (nI n))]) hx hb dS_divideBy_72 hl (by decide) rfl (fun ls hl => ?_)
            refine lv_aload_n hx hb dS_divideBy_74 rfl (lv_at hl 1 rfl) ?_
            refine hp_get hx hb hG in_S hown hK hst s0 rfl 0 (by decide) (hG _ fl_S_21) rfl rfl dS_divideBy_75 ?_
            refine lv_aload_n hx hb dS_divideBy_78 rfl (lv_at hl 1 rfl) ?_
            refine hp_get hx hb hG in_S hown hK hst s0 rfl 3 (by decide) (hG _ fl_S_18) rfl rfl dS_divideBy_79 ?_
            refine lv_iload hx hb dS_divideBy_82 (lv_at hl 6 rfl) ?_
            refine hp_iald hx hb hK rfl hst s3 (j := n) (by omega) (by omega) dS_divideBy_84 ?_
            refine tp_n (e2 := c1 (ur n)) (hg1 n (by omega)) ?_
            refine lv_iload hx hb dS_divideBy_85 (lv_at hl 5 rfl) ?_
            refine ct_callV (av2 := [.int (nI (c1 (ur n))), .int (nI (q0.2 ^ (p - 2) % p))]) (rest := []) (b := fa) X hst (c_F_product l D Y lo hfi hcpn hiv) hf0 rfl wc_F_product ml_S_84 wi_F_product wl_F_product wn_F md_F_product (by decide) hl.1 rfl (Nat.le_of_ble_eq_true rfl) ⟨by omega, by omega⟩ (fun _ _ h => h.elim) dS_divideBy_87 (fun r M' H locs hp hst => ?_)
            obtain ⟨rfl, rfl⟩ := hp
            refine lv_istore (lv' := [(7, .int (nI (c1 (ur n) * (q0.2 ^ (p - 2) % p) % p))), (6, .int (nI ((ur n) - q0.1))), (0, .ref sa), (1, .ref h), (2, .ref hqa), (3, .int (nI q0.1)), (4, .int (nI (q0.2 ^ (p - 2) % p))), (5, .int (nI n))]) hx hb dS_divideBy_90 hl (by decide) rfl (fun ls hl => ?_)
            refine lv_aload_n hx hb dS_divideBy_92 rfl (lv_at hl 4 rfl) ?_
            refine lv_iload hx hb dS_divideBy_93 (lv_at hl 1 rfl) ?_
            refine lv_iload hx hb dS_divideBy_95 (lv_at hl 0 rfl) ?_
            obtain ⟨fs7, hcell7⟩ := hq2.cell
            have hcl3 := gc1_ge A.length cap1
            have hg : gcn (gc1 A.length cap1) (A.length + 1) (dvQ p q0.1 (q0.2 ^ (p - 2) % p) B n (addL p (ng p (c1 (ur n) * (q0.2 ^ (p - 2) % p) % p)) (ur n - q0.1) B c1)).length = gcn capq 0 (dvQ p q0.1 (q0.2 ^ (p - 2) % p) B 9139 c).length := hg
            have hcl2 := gcn_ge (dvQ p q0.1 (q0.2 ^ (p - 2) % p) B n (addL p (ng p (c1 (ur n) * (q0.2 ^ (p - 2) % p) % p)) (ur n - q0.1) B c1)).length (gc1 A.length cap1) (A.length + 1)
            refine ct_callV (av2 := [.int (nI ((ur n) - q0.1)), .int (nI (c1 (ur n) * (q0.2 ^ (p - 2) % p) % p))]) (rest := []) (b := hqa) X hst (c_P_append l D Y lo hq2 (mo := ur n - q0.1) (co := c1 (ur n) * (q0.2 ^ (p - 2) % p) % p) (by omega)) hcell7 rfl wc_P_append ml_S_87 wi_P_append wl_P_append wn_P md_P_append (by decide) hl.1 rfl (Nat.le_of_ble_eq_true rfl) ⟨by omega, by omega⟩ (fun _ _ h => h.elim) dS_divideBy_97 (fun r M' H locs hp hst => ?_)
            obtain ⟨rfl, hq3, ho4⟩ := hp
            refine W.widen (k := gc1 A.length cap1 - capq) (n := 4 * (gc1 A.length cap1 - capq)) (by omega) (by omega) ?_
            have hs4 : sh Y M' sa fa c1 := hs2c.off ho4 (by omega)
            have hf4 : fd M' fa p := hfi.off ho4 (by omega)
            have hp4 : po Y M' id h cap B := hpi.off ho4 (by omega)
            have hs4c := hs4
            obtain ⟨ma4, fr4, ca4, en4, g4, s04, s14, s24, s34, -⟩ := hs4c
            have hf04 := hf4.1
            refine lv_aload_n hx hb dS_divideBy_100 rfl (lv_at hl 2 rfl) ?_
            refine lv_aload_n hx hb dS_divideBy_101 rfl (lv_at hl 3 rfl) ?_
            refine lv_aload_n hx hb dS_divideBy_102 rfl (lv_at hl 2 rfl) ?_
            refine hp_get hx hb hG in_S hown hK hst s04 rfl 0 (by decide) (hG _ fl_S_21) rfl rfl dS_divideBy_103 ?_
            refine lv_iload hx hb dS_divideBy_106 (lv_at hl 0 rfl) ?_
            refine ct_callV (av2 := [.int (nI (c1 (ur n) * (q0.2 ^ (p - 2) % p) % p))]) (rest := [.ref h, .ref sa]) (b := fa) X hst (c_F_negative l D Y lo hf4 hlt9) hf04 rfl wc_F_negative ml_S_91 wi_F_negative wl_F_negative wn_F md_F_negative (by decide) hl.1 rfl (Nat.le_of_ble_eq_true rfl) ⟨by omega, by omega⟩ (fun _ _ h => h.elim) dS_divideBy_108 (fun r M' H locs hp hst => ?_)
            obtain ⟨rfl, rfl⟩ := hp
            refine lv_iload hx hb dS_divideBy_111 (lv_at hl 1 rfl) ?_
            refine ct_callV (av2 := [.ref h, .int (nI (ng p (c1 (ur n) * (q0.2 ^ (p - 2) % p) % p))), .int (nI ((ur n) - q0.1))]) (rest := []) (b := sa) X hst (c_S_addMultiple l D Y lo hs4 hf4 hcp1 hp4 hid (f := ng p (c1 (ur n) * (q0.2 ^ (p - 2) % p) % p)) (t := ur n - q0.1) (ng_lt (by omega)) (fun q hq9 => ⟨hmo n (by omega) hyes.2 q hq9, (hB q hq9).2⟩)) s04 rfl wc_S_addMultiple ml_S_67 wi_S_addMultiple wl_S_addMultiple wn_S md_S_addMultiple (by decide) hl.1 rfl (Nat.le_of_ble_eq_true rfl) ⟨by omega, by omega⟩ (fun _ _ h => h.elim) dS_divideBy_113 (fun r M' H locs hp hst => ?_)
            obtain ⟨rfl, hs5, ho5⟩ := hp
            refine lv_iinc (lv' := [(5, .int (dn n)), (7, .int (nI (c1 (ur n) * (q0.2 ^ (p - 2) % p) % p))), (6, .int (nI ((ur n) - q0.1))), (0, .ref sa), (1, .ref h), (2, .ref hqa), (3, .int (nI q0.1)), (4, .int (nI (q0.2 ^ (p - 2) % p)))]) hx hb dS_divideBy_116 hl (k := 7) rfl (ii_m _) (by decide) rfl (fun ls hl => ?_)
            refine lv_goto hx hb dS_divideBy_119 (tgt := 34) rfl ?_
            exact ihLP _ (by omega) n (addL p (ng p (c1 (ur n) * (q0.2 ^ (p - 2) % p) % p)) (ur n - q0.1) B c1) (A ++ [(ur n - q0.1, c1 (ur n) * (q0.2 ^ (p - 2) % p) % p)]) (gc1 A.length cap1) M' _ _ _ rfl (by omega) hs5 (addL_lt (by omega) hcp1) (hq3.off ho5 (by omega)) hC (by rw [List.append_assoc]; exact hA) (by rw [List.length_append]; exact hg) ((ho.tr (ho4.wk (fun i hi => Or.inr hi))).tr (ho5.wk (fun i hi => Or.inl hi))) (by omega) hst (lv_sub hl [3, 4, 5, 6, 7, 0] rfl)
  exact LP _ en c ([]) capq M' _ _ _ rfl hen hs1c hcp hq1 de1.symm (by rw [de2]; rfl) (by rw [de2]; rfl) (ho1.wk (fun i hi => Or.inr hi)) (Nat.le_refl _) hst (lv_sub hl [3, 4, 5, 2, 1, 0] rfl)
