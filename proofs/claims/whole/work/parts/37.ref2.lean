/-! The reference: gather, times, part. -/
set_option maxHeartbeats 4000000 in
set_option maxRecDepth 100000 in
theorem c_R_gather (l : Launch) (D : va_G) (Y : Nat → ClassId) (lo : Nat) {M : Hm} {ma p rf th : Nat} {E : Nat → Nat} {c : Nat → Nat → Nat} (hm : mo Y M ma E p rf th c) {ja jb jc : Nat} (a1 : 4 ≤ ja) (a2 : ja ≤ 9) (b1 : 4 ≤ jb) (b2 : jb ≤ 9) (c1 : 4 ≤ jc) (c2 : jc ≤ 9) (nac : ja ≠ jc) (nbc : jb ≠ jc) (na7 : ja ≠ 7) (nb7 : jb ≠ 7) (nc7 : jc ≠ 7) {h k9 g : Pf} (hra : rp (c ja) h) (hrb : rp (c jb) k9) (hrc : rp (c jc) g) (hh : ∀ m, h m < p) (hk9 : ∀ m, k9 m < p) (hg : ∀ m, g m < p) (hmm : ∀ q ∈ tp h, ∀ q2 ∈ tp k9, s3 q2.1 + s3 q.1 ≤ 36) {z : Nat} (hz : z ≤ 1) : ct l D Y lo y_R_gather b_R_gather 15 none 1 [.ref ma, .ref (E ja), .int (nI 0), .ref (E jb), .int (nI 0), .ref (E jc), .int (nI 0), .int (nI z)] M (fun r9 M' => ∃ c' : Nat → Nat → Nat, r9 = none ∧ mo Y M' ma E p rf th c' ∧ (∀ i, i ≠ jc → i ≠ 7 → c' i = c i) ∧ rp (c' jc) (gaL p z (tp k9) (tp h) g) ∧ hp_off (fun i => i = 1000) M M') nx 0 0 := by
  refine ct_of (by decide) (Nat.le_of_ble_eq_true rfl) ?_
  intro pg eg sg mg bw mt cg ls X hst hl
  have X1 := X
  obtain ⟨hx, hb, hml, hrt, hlocks, hown, hnm, hts, hkz, hex⟩ := X1
  have hG : ∀ w ∈ GW, w.before _ sg = true := fun w h => hts w (List.mem_cons_of_mem _ h)
  have hK := hkz.1
  have hl : lv_has ls 15 [(0, .ref ma), (1, .ref (E ja)), (2, .int (nI 0)), (3, .ref (E jb)), (4, .int (nI 0)), (5, .ref (E jc)), (6, .int (nI 0)), (7, .int (nI z))] := hl
  obtain ⟨hp2, hp3⟩ := hm.p2
  have hL9 : (tp k9).length ≤ 9139 := td_len _ _
  refine lv_iconst (v := nI 0) hx hb dR_gather_0 (by decide +kernel) ?_
  refine lv_istore (lv' := [(8, .int (nI 0)), (0, .ref ma), (1, .ref (E ja)), (2, .int (nI 0)), (3, .ref (E jb)), (4, .int (nI 0)), (5, .ref (E jc)), (6, .int (nI 0)), (7, .int (nI z))]) hx hb dR_gather_1 hl (by decide) rfl (fun ls hl => ?_)
  refine lv_iconst (v := nI 0) hx hb dR_gather_3 (by decide +kernel) ?_
  refine lv_istore (lv' := [(9, .int (nI 0)), (8, .int (nI 0)), (0, .ref ma), (1, .ref (E ja)), (2, .int (nI 0)), (3, .ref (E jb)), (4, .int (nI 0)), (5, .ref (E jc)), (6, .int (nI 0)), (7, .int (nI z))]) hx hb dR_gather_4 hl (by decide) rfl (fun ls hl => ?_)
  have LP : ∀ (kk : Nat) (n k : Nat) (d : Nat → Nat → Nat) (M1 : Hm) (H : Heap) (locs : List Loc) (ls : Array Slot), kk = 9139 - k → (k ≤ 9139) → (n ≤ (tp k9).length) → (mo Y M1 ma E p rf th d) → (∀ i, i ≠ 7 → d i = c i) → ((tp k9).drop n = td k9 (9139 - k)) → (∀ t q, t < n → (tp k9)[t]? = some q → d 7 t < 9139 ∧ pl (d 7 t) = q.1) → (hp_off (fun i => i = 1000) M M1) → hp_st D vC lo M1 sg.heap H locs → lv_has ls 15 [(0, .ref ma), (1, .ref (E ja)), (2, .int (nI 0)), (3, .ref (E jb)), (4, .int (nI 0)), (5, .ref (E jc)), (6, .int (nI 0)), (7, .int (nI z)), (8, .int (nI n)), (9, .int (nI k))] → cW pg l eg sg mg [.ref ma, .ref (E ja), .int (nI 0), .ref (E jb), .int (nI 0), .ref (E jc), .int (nI 0), .int (nI z)] bw mt cg y_R_gather b_R_gather 15 none 1 D lo (fun r9 M' => ∃ c' : Nat → Nat → Nat, r9 = none ∧ mo Y M' ma E p rf th c' ∧ (∀ i, i ≠ jc → i ≠ 7 → c' i = c i) ∧ rp (c' jc) (gaL p z (tp k9) (tp h) g) ∧ hp_off (fun i => i = 1000) M M') nx 0 0 H locs 0 0 (F0 mg 6 ls []) := by
    intro kk
    induction kk using Nat.strongRecOn with
    | _ kk ihLP =>
    intro n k d M1 H locs ls hkk hk0 hn9 hm hsm hdr hls ho hst hl
    refine lv_iload hx hb dR_gather_6 (lv_at hl 9 rfl) ?_
    refine lv_sipush (v := nI 9139) hx hb dR_gather_8 (by decide +kernel) ?_
    refine lv_icmp_ge hx hb dR_gather_11 (tgt := 45) rfl (fun hc => ?_) (fun hc => ?_)
    · skip
      have hc5 : 9139 ≤ k := (nI_leI (by omega) (by omega)).mp hc
      have hk : k = 9139 := by omega
      rw [hk] at hdr
      have hdr : (tp k9).drop n = [] := hdr
      have hnl : n = (tp k9).length := by have := List.drop_eq_nil_iff.mp hdr; omega
      refine lv_iconst (v := nI 0) hx hb dR_gather_45 (by decide +kernel) ?_
      refine lv_istore (lv' := [(9, .int (nI 0)), (0, .ref ma), (1, .ref (E ja)), (2, .int (nI 0)), (3, .ref (E jb)), (4, .int (nI 0)), (5, .ref (E jc)), (6, .int (nI 0)), (7, .int (nI z)), (8, .int (nI n))]) hx hb dR_gather_46 hl (by decide) rfl (fun ls hl => ?_)
      have LQ : ∀ (kk : Nat) (i : Nat) (e : Nat → Nat → Nat) (M2 : Hm) (g1 : Pf) (H : Heap) (locs : List Loc) (ls : Array Slot), kk = 9139 - i → (i ≤ 9139) → (mo Y M2 ma E p rf th e) → (∀ x, x ≠ jc → e x = d x) → (rp (e jc) g1) → (∀ m, g1 m < p) → (gaL p z (tp k9) (td h (9139 - i)) g1 = gaL p z (tp k9) (tp h) g) → (hp_off (fun i => i = 1000) M M2) → hp_st D vC lo M2 sg.heap H locs → lv_has ls 15 [(0, .ref ma), (1, .ref (E ja)), (2, .int (nI 0)), (3, .ref (E jb)), (4, .int (nI 0)), (5, .ref (E jc)), (6, .int (nI 0)), (7, .int (nI z)), (8, .int (nI n)), (9, .int (nI i))] → cW pg l eg sg mg [.ref ma, .ref (E ja), .int (nI 0), .ref (E jb), .int (nI 0), .ref (E jc), .int (nI 0), .int (nI z)] bw mt cg y_R_gather b_R_gather 15 none 1 D lo (fun r9 M' => ∃ c' : Nat → Nat → Nat, r9 = none ∧ mo Y M' ma E p rf th c' ∧ (∀ i, i ≠ jc → i ≠ 7 → c' i = c i) ∧ rp (c' jc) (gaL p z (tp k9) (tp h) g) ∧ hp_off (fun i => i = 1000) M M') nx 0 0 H locs 0 0 (F0 mg 48 ls []) := by
        intro kk
        induction kk using Nat.strongRecOn with
        | _ kk ihLQ =>
        intro i e M2 g1 H locs ls hkk hi9 hm hs2 hr1 hg1 hinv ho2 hst hl
        have ea : e ja = c ja := (hs2 ja nac).trans (hsm ja na7)
        have eb : e jb = c jb := (hs2 jb nbc).trans (hsm jb nb7)
        have e7 : e 7 = d 7 := hs2 7 (by omega)
        refine lv_iload hx hb dR_gather_48 (lv_at hl 9 rfl) ?_
        refine lv_sipush (v := nI 9139) hx hb dR_gather_50 (by decide +kernel) ?_
        refine lv_icmp_ge hx hb dR_gather_53 (tgt := 212) rfl (fun hc => ?_) (fun hc => ?_)
        · skip
          have hc6 : 9139 ≤ i := (nI_leI (by omega) (by omega)).mp hc
          have hk : i = 9139 := by omega
          rw [hk] at hinv
          have hinv : g1 = gaL p z (tp k9) (tp h) g := hinv
          exact ct_vret X hst ⟨e, rfl, hm, fun x hx1 hx2 => (hs2 x hx1).trans (hsm x hx2), by rw [← hinv]; exact hr1, ho2⟩ (by omega) (by omega) dR_gather_212
        · skip
          have hc6 : ¬ 9139 ≤ i := fun z => hc ((nI_leI (by omega) (by omega)).mpr z)
          have hbi : e ja i = h (pl i) := by rw [ea]; exact hra i (by omega)
          have hhi := hh (pl i)
          have pmi := pl_mv (k := i) (by omega)
          refine lv_aload_n hx hb dR_gather_56 rfl (lv_at hl 1 rfl) ?_
          refine lv_iload_n hx hb dR_gather_57 rfl (lv_at hl 2 rfl) ?_
          refine lv_iload hx hb dR_gather_58 (lv_at hl 9 rfl) ?_
          refine t_iadd hx hb dR_gather_60 (v := nI (0 + i)) (nI_add _ _) ?_
          refine tp_n (e2 := i) (Nat.zero_add _) ?_
          refine hp_iald hx hb hK rfl hst (hm.rw a1 a2) (j := i) (by omega) (by omega) dR_gather_61 ?_
          refine tp_n (e2 := h (pl i)) hbi ?_
          refine lv_if_ne hx hb dR_gather_62 (tgt := 68) rfl (fun hc => ?_) (fun hc => ?_)
          · skip
            rw [← nI_0] at hc
            have hcz : ¬ (h (pl i)) = 0 := fun z => hc ((nI_eq (by omega) (by omega)).mpr z)
            rw [td_pl_y (by omega) hcz] at hinv
            have hinv : gaL p z (tp k9) (td h (9139 - (i + 1))) (addL p (fz p z (h (pl i))) (pl i) (tp k9) g1) = gaL p z (tp k9) (tp h) g := hinv
            have hqm : (pl i, h (pl i)) ∈ tp h := mem_td (r := 9138 - i) (by omega) hcz
            refine lv_iconst (v := nI 0) hx hb dR_gather_68 (by decide +kernel) ?_
            refine lv_istore (lv' := [(10, .int (nI 0)), (0, .ref ma), (1, .ref (E ja)), (2, .int (nI 0)), (3, .ref (E jb)), (4, .int (nI 0)), (5, .ref (E jc)), (6, .int (nI 0)), (7, .int (nI z)), (8, .int (nI n)), (9, .int (nI i))]) hx hb dR_gather_69 hl (by decide) rfl (fun ls hl => ?_)
            have LR : ∀ (kk : Nat) (t : Nat) (f9 : Nat → Nat → Nat) (M3 : Hm) (g2 : Pf) (H : Heap) (locs : List Loc) (ls : Array Slot), kk = n - t → (t ≤ n) → (mo Y M3 ma E p rf th f9) → (∀ x, x ≠ jc → f9 x = e x) → (rp (f9 jc) g2) → (∀ m, g2 m < p) → (addL p (fz p z (h (pl i))) (pl i) ((tp k9).drop t) g2 = addL p (fz p z (h (pl i))) (pl i) (tp k9) g1) → (hp_off (fun i => i = 1000) M M3) → hp_st D vC lo M3 sg.heap H locs → lv_has ls 15 [(0, .ref ma), (1, .ref (E ja)), (2, .int (nI 0)), (3, .ref (E jb)), (4, .int (nI 0)), (5, .ref (E jc)), (6, .int (nI 0)), (7, .int (nI z)), (8, .int (nI n)), (9, .int (nI i)), (10, .int (nI t))] → cW pg l eg sg mg [.ref ma, .ref (E ja), .int (nI 0), .ref (E jb), .int (nI 0), .ref (E jc), .int (nI 0), .int (nI z)] bw mt cg y_R_gather b_R_gather 15 none 1 D lo (fun r9 M' => ∃ c' : Nat → Nat → Nat, r9 = none ∧ mo Y M' ma E p rf th c' ∧ (∀ i, i ≠ jc → i ≠ 7 → c' i = c i) ∧ rp (c' jc) (gaL p z (tp k9) (tp h) g) ∧ hp_off (fun i => i = 1000) M M') nx 0 0 H locs 0 0 (F0 mg 71 ls []) := by
              intro kk
              induction kk using Nat.strongRecOn with
              | _ kk ihLR =>
              intro t f9 M3 g2 H locs ls hkk ht9 hm hs3 hr2 hg2 hin3 ho3 hst hl
              have fa : f9 ja = c ja := (hs3 ja nac).trans ea
              have fb : f9 jb = c jb := (hs3 jb nbc).trans eb
              have f7 : f9 7 = d 7 := (hs3 7 (by omega)).trans e7
              refine lv_iload hx hb dR_gather_71 (lv_at hl 10 rfl) ?_
              refine lv_iload hx hb dR_gather_73 (lv_at hl 8 rfl) ?_
              refine lv_icmp_ge hx hb dR_gather_75 (tgt := 206) rfl (fun hc => ?_) (fun hc => ?_)
              · skip
                have hc7 : n ≤ t := (nI_leI (by omega) (by omega)).mp hc
                rw [List.drop_eq_nil_of_le (by omega)] at hin3
                have hin3 : g2 = addL p (fz p z (h (pl i))) (pl i) (tp k9) g1 := hin3
                refine lv_iinc (lv' := [(9, .int (nI (i + 1))), (0, .ref ma), (1, .ref (E ja)), (2, .int (nI 0)), (3, .ref (E jb)), (4, .int (nI 0)), (5, .ref (E jc)), (6, .int (nI 0)), (7, .int (nI z)), (8, .int (nI n)), (10, .int (nI t))]) hx hb dR_gather_206 hl (k := 9) rfl (ii_p _) (by decide) rfl (fun ls hl => ?_)
                refine lv_goto hx hb dR_gather_209 (tgt := 48) rfl ?_
                exact ihLQ _ (by omega) (i + 1) f9 M3 g2 _ _ _ rfl (by omega) hm (fun x hx => (hs3 x hx).trans (hs2 x hx)) hr2 hg2 (by rw [hin3]; exact hinv) ho3 hst (lv_sub hl [1, 2, 3, 4, 5, 6, 7, 8, 9, 0] rfl)
              · skip
                have hc7 : ¬ n ≤ t := fun z => hc ((nI_leI (by omega) (by omega)).mpr z)
                obtain ⟨q, q1, q2, q3⟩ := dr_cons (L := tp k9) (i := t) (by omega)
                obtain ⟨kl, kp⟩ := hls t q (by omega) q1
                obtain ⟨m1, m2, m3⟩ := tp_mem q2
                have hqk : q = (pl (d 7 t), k9 (pl (d 7 t))) := by rw [kp, ← m2]
                rw [q3, hqk, addL_cons] at hin3
                have hsum := hmm _ hqm q q2
                rw [← kp] at hsum m1
                generalize hkx : d 7 t = kx at *
                have hs36 : s3 (pl kx) + s3 (pl i) ≤ 36 := hsum
                obtain ⟨mv9, mpe⟩ := add_mp m1 pmi hs36
                have hxs : xe (pl kx) 0 + xe (pl kx) 1 + xe (pl kx) 2 + (xe (pl i) 0 + xe (pl i) 1 + xe (pl i) 2) ≤ 36 := hs36
                have hrkm := rk_lt mv9
                have v1 : f9 ja i = h (pl i) := by rw [fa]; exact hra i (by omega)
                have v2 : f9 jb kx = k9 (pl kx) := by rw [fb]; exact hrb kx kl
                have v3 : f9 jc (9138 - rk (pl kx + pl i)) = g2 (pl kx + pl i) := rp_at hr2 mv9
                have l2 := hk9 (pl kx)
                have l3 := hg2 (pl kx + pl i)
                have l4 : h (pl i) * k9 (pl kx) ≤ 46337 * 46337 := Nat.mul_le_mul (by omega) (by omega)
                refine lv_aload_n hx hb dR_gather_78 rfl (lv_at hl 0 rfl) ?_
                refine hp_get hx hb hG in_R hown hK hst hm.ob rfl 9 (by decide) (hG _ fl_R_30) rfl rfl dR_gather_79 ?_
                refine lv_iload hx hb dR_gather_82 (lv_at hl 10 rfl) ?_
                refine hp_iald hx hb hK rfl hst (hm.rw (j := 7) (by omega) (by omega)) (j := t) (by omega) (by omega) dR_gather_84 ?_
                refine tp_n (e2 := kx) (by rw [f7]; exact hkx) ?_
                refine lv_istore (lv' := [(11, .int (nI kx)), (0, .ref ma), (1, .ref (E ja)), (2, .int (nI 0)), (3, .ref (E jb)), (4, .int (nI 0)), (5, .ref (E jc)), (6, .int (nI 0)), (7, .int (nI z)), (8, .int (nI n)), (9, .int (nI i)), (10, .int (nI t))]) hx hb dR_gather_85 hl (by decide) rfl (fun ls hl => ?_)
                refine lv_aload_n hx hb dR_gather_87 rfl (lv_at hl 1 rfl) ?_
                refine lv_aload_n hx hb dR_gather_88 rfl (lv_at hl 1 rfl) ?_
                refine lv_iload hx hb dR_gather_89 (lv_at hl 10 rfl) ?_
                refine lv_iconst (v := nI 0) hx hb dR_gather_91 (by decide +kernel) ?_
                refine ct_callV (av2 := [.int (nI i), .int (nI 0)]) (rest := [.ref ma]) (b := ma) X hst (c_R_exponent l D Y lo hm (k := i) (v := 0) (by omega) (by omega)) hm.ob rfl wc_R_exponent ml_R_58 wi_R_exponent wl_R_exponent wn_R md_R_exponent (by decide) hl.1 rfl (Nat.le_of_ble_eq_true rfl) ⟨by omega, by omega⟩ (fun _ _ h => h.elim) dR_gather_92 (fun r M' H locs hp hst => ?_)
                obtain ⟨rfl, rfl⟩ := hp
                refine lv_aload_n hx hb dR_gather_95 rfl (lv_at hl 1 rfl) ?_
                refine lv_iload hx hb dR_gather_96 (lv_at hl 0 rfl) ?_
                refine lv_iconst (v := nI 0) hx hb dR_gather_98 (by decide +kernel) ?_
                refine ct_callV (av2 := [.int (nI kx), .int (nI 0)]) (rest := [.int (nI (xe (pl i) 0)), .ref ma]) (b := ma) X hst (c_R_exponent l D Y lo hm (k := kx) (v := 0) (by omega) (by omega)) hm.ob rfl wc_R_exponent ml_R_58 wi_R_exponent wl_R_exponent wn_R md_R_exponent (by decide) hl.1 rfl (Nat.le_of_ble_eq_true rfl) ⟨by omega, by omega⟩ (fun _ _ h => h.elim) dR_gather_99 (fun r M' H locs hp hst => ?_)
                obtain ⟨rfl, rfl⟩ := hp
                refine t_iadd hx hb dR_gather_102 (v := nI ((xe (pl i) 0) + (xe (pl kx) 0))) (nI_add _ _) ?_
                refine lv_aload_n hx hb dR_gather_103 rfl (lv_at hl 1 rfl) ?_
                refine lv_iload hx hb dR_gather_104 (lv_at hl 10 rfl) ?_
                refine lv_iconst (v := nI 1) hx hb dR_gather_106 (by decide +kernel) ?_
                refine ct_callV (av2 := [.int (nI i), .int (nI 1)]) (rest := [.int (nI ((xe (pl i) 0) + (xe (pl kx) 0))), .ref ma]) (b := ma) X hst (c_R_exponent l D Y lo hm (k := i) (v := 1) (by omega) (by omega)) hm.ob rfl wc_R_exponent ml_R_58 wi_R_exponent wl_R_exponent wn_R md_R_exponent (by decide) hl.1 rfl (Nat.le_of_ble_eq_true rfl) ⟨by omega, by omega⟩ (fun _ _ h => h.elim) dR_gather_107 (fun r M' H locs hp hst => ?_)
                obtain ⟨rfl, rfl⟩ := hp
                refine lv_aload_n hx hb dR_gather_110 rfl (lv_at hl 1 rfl) ?_
                refine lv_iload hx hb dR_gather_111 (lv_at hl 0 rfl) ?_
                refine lv_iconst (v := nI 1) hx hb dR_gather_113 (by decide +kernel) ?_
                refine ct_callV (av2 := [.int (nI kx), .int (nI 1)]) (rest := [.int (nI (xe (pl i) 1)), .int (nI ((xe (pl i) 0) + (xe (pl kx) 0))), .ref ma]) (b := ma) X hst (c_R_exponent l D Y lo hm (k := kx) (v := 1) (by omega) (by omega)) hm.ob rfl wc_R_exponent ml_R_58 wi_R_exponent wl_R_exponent wn_R md_R_exponent (by decide) hl.1 rfl (Nat.le_of_ble_eq_true rfl) ⟨by omega, by omega⟩ (fun _ _ h => h.elim) dR_gather_114 (fun r M' H locs hp hst => ?_)
                obtain ⟨rfl, rfl⟩ := hp
                refine t_iadd hx hb dR_gather_117 (v := nI ((xe (pl i) 1) + (xe (pl kx) 1))) (nI_add _ _) ?_
                refine lv_aload_n hx hb dR_gather_118 rfl (lv_at hl 1 rfl) ?_
                refine lv_iload hx hb dR_gather_119 (lv_at hl 10 rfl) ?_
                refine lv_iconst (v := nI 2) hx hb dR_gather_121 (by decide +kernel) ?_
                refine ct_callV (av2 := [.int (nI i), .int (nI 2)]) (rest := [.int (nI ((xe (pl i) 1) + (xe (pl kx) 1))), .int (nI ((xe (pl i) 0) + (xe (pl kx) 0))), .ref ma]) (b := ma) X hst (c_R_exponent l D Y lo hm (k := i) (v := 2) (by omega) (by omega)) hm.ob rfl wc_R_exponent ml_R_58 wi_R_exponent wl_R_exponent wn_R md_R_exponent (by decide) hl.1 rfl (Nat.le_of_ble_eq_true rfl) ⟨by omega, by omega⟩ (fun _ _ h => h.elim) dR_gather_122 (fun r M' H locs hp hst => ?_)
                obtain ⟨rfl, rfl⟩ := hp
                refine lv_aload_n hx hb dR_gather_125 rfl (lv_at hl 1 rfl) ?_
                refine lv_iload hx hb dR_gather_126 (lv_at hl 0 rfl) ?_
                refine lv_iconst (v := nI 2) hx hb dR_gather_128 (by decide +kernel) ?_
                refine ct_callV (av2 := [.int (nI kx), .int (nI 2)]) (rest := [.int (nI (xe (pl i) 2)), .int (nI ((xe (pl i) 1) + (xe (pl kx) 1))), .int (nI ((xe (pl i) 0) + (xe (pl kx) 0))), .ref ma]) (b := ma) X hst (c_R_exponent l D Y lo hm (k := kx) (v := 2) (by omega) (by omega)) hm.ob rfl wc_R_exponent ml_R_58 wi_R_exponent wl_R_exponent wn_R md_R_exponent (by decide) hl.1 rfl (Nat.le_of_ble_eq_true rfl) ⟨by omega, by omega⟩ (fun _ _ h => h.elim) dR_gather_129 (fun r M' H locs hp hst => ?_)
                obtain ⟨rfl, rfl⟩ := hp
                refine t_iadd hx hb dR_gather_132 (v := nI ((xe (pl i) 2) + (xe (pl kx) 2))) (nI_add _ _) ?_
                refine ct_callV (av2 := [.int (nI ((xe (pl i) 0) + (xe (pl kx) 0))), .int (nI ((xe (pl i) 1) + (xe (pl kx) 1))), .int (nI ((xe (pl i) 2) + (xe (pl kx) 2)))]) (rest := []) (b := ma) X hst (c_R_place l D Y lo hm (a := xe (pl i) 0 + xe (pl kx) 0) (b := xe (pl i) 1 + xe (pl kx) 1) (d := xe (pl i) 2 + xe (pl kx) 2) (by omega)) hm.ob rfl wc_R_place ml_R_62 wi_R_place wl_R_place wn_R md_R_place (by decide) hl.1 rfl (Nat.le_of_ble_eq_true rfl) ⟨by omega, by omega⟩ (fun _ _ h => h.elim) dR_gather_133 (fun r M' H locs hp hst => ?_)
                obtain ⟨rfl, rfl⟩ := hp
                refine tp_n (e2 := 9138 - rk (pl kx + pl i)) (by rw [mpe]) ?_
                refine lv_istore (lv' := [(12, .int (nI (9138 - rk (pl kx + pl i)))), (11, .int (nI kx)), (0, .ref ma), (1, .ref (E ja)), (2, .int (nI 0)), (3, .ref (E jb)), (4, .int (nI 0)), (5, .ref (E jc)), (6, .int (nI 0)), (7, .int (nI z)), (8, .int (nI n)), (9, .int (nI i)), (10, .int (nI t))]) hx hb dR_gather_136 hl (by decide) rfl (fun ls hl => ?_)
                refine lv_aload_n hx hb dR_gather_138 rfl (lv_at hl 3 rfl) ?_
                refine lv_iload_n hx hb dR_gather_139 rfl (lv_at hl 4 rfl) ?_
                refine lv_iload hx hb dR_gather_140 (lv_at hl 11 rfl) ?_
                refine t_iadd hx hb dR_gather_142 (v := nI (0 + i)) (nI_add _ _) ?_
                refine tp_n (e2 := i) (Nat.zero_add _) ?_
                refine hp_iald hx hb hK rfl hst (hm.rw a1 a2) (j := i) (by omega) (by omega) dR_gather_143 ?_
                refine tp_n (e2 := h (pl i)) v1 ?_
                refine lv_i2l (v := lN (h (pl i))) hx hb dR_gather_144 (nI_l (by omega)) ?_
                refine lv_aload_n hx hb dR_gather_145 rfl (lv_at hl 5 rfl) ?_
                refine lv_iload hx hb dR_gather_146 (lv_at hl 6 rfl) ?_
                refine lv_iload hx hb dR_gather_148 (lv_at hl 1 rfl) ?_
                refine t_iadd hx hb dR_gather_150 (v := nI (0 + kx)) (nI_add _ _) ?_
                refine tp_n (e2 := kx) (Nat.zero_add _) ?_
                refine hp_iald hx hb hK rfl hst (hm.rw b1 b2) (j := kx) (by omega) (by omega) dR_gather_151 ?_
                refine tp_n (e2 := k9 (pl kx)) v2 ?_
                refine lv_i2l (v := lN (k9 (pl kx))) hx hb dR_gather_152 (nI_l (by omega)) ?_
                refine lv_lmul hx hb dR_gather_153 ?_
                refine tp_l (e2 := lN ((h (pl i)) * (k9 (pl kx)))) (lN_mul _ _) ?_
                refine lv_lstore (lv' := [(13, .long (lN ((h (pl i)) * (k9 (pl kx))))), (12, .int (nI (9138 - rk (pl kx + pl i)))), (11, .int (nI kx)), (0, .ref ma), (1, .ref (E ja)), (2, .int (nI 0)), (3, .ref (E jb)), (4, .int (nI 0)), (5, .ref (E jc)), (6, .int (nI 0)), (7, .int (nI z)), (8, .int (nI n)), (9, .int (nI i)), (10, .int (nI t))]) hx hb dR_gather_154 hl (by decide) rfl (fun ls hl => ?_)
                refine lv_aload hx hb dR_gather_156 (lv_at hl 8 rfl) ?_
                refine lv_iload hx hb dR_gather_158 (lv_at hl 9 rfl) ?_
                refine lv_iload hx hb dR_gather_160 (lv_at hl 1 rfl) ?_
                refine t_iadd hx hb dR_gather_162 (v := nI (0 + (9138 - rk (pl kx + pl i)))) (nI_add _ _) ?_
                refine tp_n (e2 := 9138 - rk (pl kx + pl i)) (Nat.zero_add _) ?_
                refine lv_aload_n hx hb dR_gather_163 rfl (lv_at hl 3 rfl) ?_
                refine lv_iload hx hb dR_gather_164 (lv_at hl 10 rfl) ?_
                refine lv_if_eq hx hb dR_gather_166 (tgt := 184) rfl (fun hc => ?_) (fun hc => ?_)
                · skip
                  rw [← nI_0] at hc
                  have hcl : z = 0 := (nI_eq (by omega) (by omega)).mp hc
                  refine lv_aload hx hb dR_gather_184 (lv_at hl 8 rfl) ?_
                  refine lv_iload hx hb dR_gather_186 (lv_at hl 9 rfl) ?_
                  refine lv_iload hx hb dR_gather_188 (lv_at hl 1 rfl) ?_
                  refine t_iadd hx hb dR_gather_190 (v := nI (0 + (9138 - rk (pl kx + pl i)))) (nI_add _ _) ?_
                  refine tp_n (e2 := 9138 - rk (pl kx + pl i)) (Nat.zero_add _) ?_
                  refine hp_iald hx hb hK rfl hst (hm.rw c1 c2) (j := (9138 - rk (pl kx + pl i))) (by omega) (by omega) dR_gather_191 ?_
                  refine tp_n (e2 := g2 (pl kx + pl i)) v3 ?_
                  refine lv_i2l (v := lN (g2 (pl kx + pl i))) hx hb dR_gather_192 (nI_l (by omega)) ?_
                  refine lv_lload hx hb dR_gather_193 (lv_at hl 0 rfl) ?_
                  refine lv_ladd hx hb dR_gather_195 ?_
                  refine tp_l (e2 := lN ((g2 (pl kx + pl i)) + ((h (pl i)) * (k9 (pl kx))))) (lN_add _ _) ?_
                  refine ct_callV (av2 := [.long (lN ((g2 (pl kx + pl i)) + ((h (pl i)) * (k9 (pl kx)))))]) (rest := [.int (nI (9138 - rk (pl kx + pl i))), .ref (E jc)]) (b := ma) X hst (c_R_reduced l D Y lo hm (lN (g2 (pl kx + pl i) + h (pl i) * k9 (pl kx)))) hm.ob rfl wc_R_reduced ml_R_66 wi_R_reduced wl_R_reduced wn_R md_R_reduced (by decide) hl.1 rfl (Nat.le_of_ble_eq_true rfl) ⟨by omega, by omega⟩ (fun _ _ h => h.elim) dR_gather_196 (fun r M' H locs hp hst => ?_)
                  obtain ⟨rfl, rfl⟩ := hp
                  refine tp_n (e2 := (g2 (pl kx + pl i) + (fz p z (h (pl i))) * k9 (pl kx)) % p) (by rw [lN_big (by omega), rd_nat]; unfold fz; rw [if_pos hcl]) ?_
                  refine hp_iast hx hb hK rfl hst (hm.rw c1 c2) (j := (9138 - rk (pl kx + pl i))) (v := ((g2 (pl kx + pl i) + (fz p z (h (pl i))) * k9 (pl kx)) % p)) (by omega) (by omega) dR_gather_199 (fun H locs hst => ?_)
                  obtain ⟨hm1, hs2⟩ := hm.sr (j := jc) c1 c2 (va_up (f9 jc) (9138 - rk (pl kx + pl i)) ((g2 (pl kx + pl i) + (fz p z (h (pl i))) * k9 (pl kx)) % p))
                  generalize hp_up M3 (E jc) ((1000, jc), e_n Y 9139 (va_up (f9 jc) (9138 - rk (pl kx + pl i)) ((g2 (pl kx + pl i) + (fz p z (h (pl i))) * k9 (pl kx)) % p))) = M3 at hst hm1 hs2
                  have ho4 := ho3.tr hs2
                  refine lv_iinc (lv' := [(10, .int (nI (t + 1))), (13, .long (lN ((h (pl i)) * (k9 (pl kx))))), (12, .int (nI (9138 - rk (pl kx + pl i)))), (11, .int (nI kx)), (0, .ref ma), (1, .ref (E ja)), (2, .int (nI 0)), (3, .ref (E jb)), (4, .int (nI 0)), (5, .ref (E jc)), (6, .int (nI 0)), (7, .int (nI z)), (8, .int (nI n)), (9, .int (nI i))]) hx hb dR_gather_200 hl (k := 13) rfl (ii_p _) (by decide) rfl (fun ls hl => ?_)
                  refine lv_goto hx hb dR_gather_203 (tgt := 71) rfl ?_
                  exact ihLR _ (by omega) (t + 1) (va_up f9 jc (va_up (f9 jc) (9138 - rk (pl kx + pl i)) ((g2 (pl kx + pl i) + (fz p z (h (pl i))) * k9 (pl kx)) % p))) M3 (va_up g2 (pl kx + pl i) ((g2 (pl kx + pl i) + (fz p z (h (pl i))) * k9 (pl kx)) % p)) _ _ _ rfl (by omega) hm1 (fun x hx => by rw [va_up_ne _ _ hx]; exact hs3 x hx) (by rw [va_up_self]; exact rp_up hr2 mv9) (up_lt hg2 (Nat.mod_lt _ (by omega))) hin3 ho4 hst (lv_sub hl [4, 5, 6, 7, 8, 9, 10, 11, 12, 13, 0] rfl)
                · skip
                  rw [← nI_0] at hc
                  have hcl : ¬ z = 0 := fun z => hc ((nI_eq (by omega) (by omega)).mpr z)
                  refine lv_aload hx hb dR_gather_169 (lv_at hl 8 rfl) ?_
                  refine lv_iload hx hb dR_gather_171 (lv_at hl 9 rfl) ?_
                  refine lv_iload hx hb dR_gather_173 (lv_at hl 1 rfl) ?_
                  refine t_iadd hx hb dR_gather_175 (v := nI (0 + (9138 - rk (pl kx + pl i)))) (nI_add _ _) ?_
                  refine tp_n (e2 := 9138 - rk (pl kx + pl i)) (Nat.zero_add _) ?_
                  refine hp_iald hx hb hK rfl hst (hm.rw c1 c2) (j := (9138 - rk (pl kx + pl i))) (by omega) (by omega) dR_gather_176 ?_
                  refine tp_n (e2 := g2 (pl kx + pl i)) v3 ?_
                  refine lv_i2l (v := lN (g2 (pl kx + pl i))) hx hb dR_gather_177 (nI_l (by omega)) ?_
                  refine lv_lload hx hb dR_gather_178 (lv_at hl 0 rfl) ?_
                  refine lv_lsub hx hb dR_gather_180 ?_
                  refine lv_goto hx hb dR_gather_181 (tgt := 196) rfl ?_
                  refine ct_callV (av2 := [.long ((lN (g2 (pl kx + pl i))) - (lN ((h (pl i)) * (k9 (pl kx)))))]) (rest := [.int (nI (9138 - rk (pl kx + pl i))), .ref (E jc)]) (b := ma) X hst (c_R_reduced l D Y lo hm (lN (g2 (pl kx + pl i)) - lN (h (pl i) * k9 (pl kx)))) hm.ob rfl wc_R_reduced ml_R_66 wi_R_reduced wl_R_reduced wn_R md_R_reduced (by decide) hl.1 rfl (Nat.le_of_ble_eq_true rfl) ⟨by omega, by omega⟩ (fun _ _ h => h.elim) dR_gather_196 (fun r M' H locs hp hst => ?_)
                  obtain ⟨rfl, rfl⟩ := hp
                  refine tp_n (e2 := (g2 (pl kx + pl i) + (fz p z (h (pl i))) * k9 (pl kx)) % p) (by rw [lN_subI (by omega) (by omega), rd_sub hhi]; unfold fz; rw [if_neg hcl]) ?_
                  refine hp_iast hx hb hK rfl hst (hm.rw c1 c2) (j := (9138 - rk (pl kx + pl i))) (v := ((g2 (pl kx + pl i) + (fz p z (h (pl i))) * k9 (pl kx)) % p)) (by omega) (by omega) dR_gather_199 (fun H locs hst => ?_)
                  obtain ⟨hm1, hs2⟩ := hm.sr (j := jc) c1 c2 (va_up (f9 jc) (9138 - rk (pl kx + pl i)) ((g2 (pl kx + pl i) + (fz p z (h (pl i))) * k9 (pl kx)) % p))
                  generalize hp_up M3 (E jc) ((1000, jc), e_n Y 9139 (va_up (f9 jc) (9138 - rk (pl kx + pl i)) ((g2 (pl kx + pl i) + (fz p z (h (pl i))) * k9 (pl kx)) % p))) = M3 at hst hm1 hs2
                  have ho4 := ho3.tr hs2
                  refine lv_iinc (lv' := [(10, .int (nI (t + 1))), (13, .long (lN ((h (pl i)) * (k9 (pl kx))))), (12, .int (nI (9138 - rk (pl kx + pl i)))), (11, .int (nI kx)), (0, .ref ma), (1, .ref (E ja)), (2, .int (nI 0)), (3, .ref (E jb)), (4, .int (nI 0)), (5, .ref (E jc)), (6, .int (nI 0)), (7, .int (nI z)), (8, .int (nI n)), (9, .int (nI i))]) hx hb dR_gather_200 hl (k := 13) rfl (ii_p _) (by decide) rfl (fun ls hl => ?_)
                  refine lv_goto hx hb dR_gather_203 (tgt := 71) rfl ?_
                  exact ihLR _ (by omega) (t + 1) (va_up f9 jc (va_up (f9 jc) (9138 - rk (pl kx + pl i)) ((g2 (pl kx + pl i) + (fz p z (h (pl i))) * k9 (pl kx)) % p))) M3 (va_up g2 (pl kx + pl i) ((g2 (pl kx + pl i) + (fz p z (h (pl i))) * k9 (pl kx)) % p)) _ _ _ rfl (by omega) hm1 (fun x hx => by rw [va_up_ne _ _ hx]; exact hs3 x hx) (by rw [va_up_self]; exact rp_up hr2 mv9) (up_lt hg2 (Nat.mod_lt _ (by omega))) hin3 ho4 hst (lv_sub hl [4, 5, 6, 7, 8, 9, 10, 11, 12, 13, 0] rfl)
            exact LR _ 0 e M2 g1 _ _ _ rfl (by omega) hm (fun x hx => rfl) hr1 hg1 rfl ho2 hst (lv_sub hl [1, 2, 3, 4, 5, 6, 7, 8, 9, 10, 0] rfl)
          · skip
            rw [← nI_0] at hc
            have hcz : (h (pl i)) = 0 := (nI_eq (by omega) (by omega)).mp hc
            refine lv_goto hx hb dR_gather_65 (tgt := 206) rfl ?_
            refine lv_iinc (lv' := [(9, .int (nI (i + 1))), (0, .ref ma), (1, .ref (E ja)), (2, .int (nI 0)), (3, .ref (E jb)), (4, .int (nI 0)), (5, .ref (E jc)), (6, .int (nI 0)), (7, .int (nI z)), (8, .int (nI n))]) hx hb dR_gather_206 hl (k := 9) rfl (ii_p _) (by decide) rfl (fun ls hl => ?_)
            refine lv_goto hx hb dR_gather_209 (tgt := 48) rfl ?_
            exact ihLQ _ (by omega) (i + 1) e M2 g1 _ _ _ rfl (by omega) hm hs2 hr1 hg1 (by rw [td_pl_n (by omega) hcz] at hinv; exact hinv) ho2 hst (lv_sub hl [1, 2, 3, 4, 5, 6, 7, 8, 9, 0] rfl)
      exact LQ _ 0 d M1 g _ _ _ rfl (by omega) hm (fun x hx => rfl) (by rw [hsm jc nc7]; exact hrc) hg rfl ho hst (lv_sub hl [1, 2, 3, 4, 5, 6, 7, 8, 9, 0] rfl)
    · skip
      have hc5 : ¬ 9139 ≤ k := fun z => hc ((nI_leI (by omega) (by omega)).mpr z)
      have hbk : d jb k = k9 (pl k) := by rw [hsm jb nb7]; exact hrb k (by omega)
      have hkk := hk9 (pl k)
      refine lv_aload_n hx hb dR_gather_14 rfl (lv_at hl 3 rfl) ?_
      refine lv_iload hx hb dR_gather_15 (lv_at hl 4 rfl) ?_
      refine lv_iload hx hb dR_gather_17 (lv_at hl 9 rfl) ?_
      refine t_iadd hx hb dR_gather_19 (v := nI (0 + k)) (nI_add _ _) ?_
      refine tp_n (e2 := k) (Nat.zero_add _) ?_
      refine hp_iald hx hb hK rfl hst (hm.rw b1 b2) (j := k) (by omega) (by omega) dR_gather_20 ?_
      refine tp_n (e2 := k9 (pl k)) hbk ?_
      refine lv_if_ne hx hb dR_gather_21 (tgt := 27) rfl (fun hc => ?_) (fun hc => ?_)
      · skip
        rw [← nI_0] at hc
        have hcz : ¬ (k9 (pl k)) = 0 := fun z => hc ((nI_eq (by omega) (by omega)).mpr z)
        have hdr2 := hdr
        rw [td_pl_y (by omega) hcz] at hdr2
        obtain ⟨e1, e2⟩ := dr_of hdr2
        have hnl := (List.getElem?_eq_some_iff.mp e1).1
        refine lv_aload_n hx hb dR_gather_27 rfl (lv_at hl 0 rfl) ?_
        refine hp_get hx hb hG in_R hown hK hst hm.ob rfl 9 (by decide) (hG _ fl_R_30) rfl rfl dR_gather_28 ?_
        refine lv_iload hx hb dR_gather_31 (lv_at hl 8 rfl) ?_
        refine lv_iload hx hb dR_gather_33 (lv_at hl 9 rfl) ?_
        refine hp_iast hx hb hK rfl hst (hm.rw (j := 7) (by omega) (by omega)) (j := n) (v := k) (by omega) (by omega) dR_gather_35 (fun H locs hst => ?_)
        obtain ⟨hm1, hs2⟩ := hm.sr (j := 7) (by omega) (by omega) (va_up (d 7) n k)
        generalize hp_up M1 (E 7) ((1000, 7), e_n Y 9139 (va_up (d 7) n k)) = M3 at hst hm1 hs2
        have ho4 := ho.tr hs2
        refine lv_iinc (lv' := [(8, .int (nI (n + 1))), (0, .ref ma), (1, .ref (E ja)), (2, .int (nI 0)), (3, .ref (E jb)), (4, .int (nI 0)), (5, .ref (E jc)), (6, .int (nI 0)), (7, .int (nI z)), (9, .int (nI k))]) hx hb dR_gather_36 hl (k := 8) rfl (ii_p _) (by decide) rfl (fun ls hl => ?_)
        refine lv_iinc (lv' := [(9, .int (nI (k + 1))), (8, .int (nI (n + 1))), (0, .ref ma), (1, .ref (E ja)), (2, .int (nI 0)), (3, .ref (E jb)), (4, .int (nI 0)), (5, .ref (E jc)), (6, .int (nI 0)), (7, .int (nI z))]) hx hb dR_gather_39 hl (k := 9) rfl (ii_p _) (by decide) rfl (fun ls hl => ?_)
        refine lv_goto hx hb dR_gather_42 (tgt := 6) rfl ?_
        exact ihLP _ (by omega) (n + 1) (k + 1) (va_up d 7 (va_up (d 7) n k)) M3 _ _ _ rfl (by omega) (by omega) hm1 (fun i hi => by rw [va_up_ne _ _ hi]; exact hsm i hi) e2 (fun t q ht hq => by
            rw [va_up_self]
            by_cases h9 : t = n
            · subst h9
              rw [va_up_self]
              rw [e1] at hq
              cases hq
              exact ⟨by omega, rfl⟩
            · rw [va_up_ne _ _ h9]; exact hls t q (by omega) hq) ho4 hst (lv_sub hl [2, 3, 4, 5, 6, 7, 8, 9, 1, 0] rfl)
      · skip
        rw [← nI_0] at hc
        have hcz : (k9 (pl k)) = 0 := (nI_eq (by omega) (by omega)).mp hc
        refine lv_goto hx hb dR_gather_24 (tgt := 39) rfl ?_
        refine lv_iinc (lv' := [(9, .int (nI (k + 1))), (0, .ref ma), (1, .ref (E ja)), (2, .int (nI 0)), (3, .ref (E jb)), (4, .int (nI 0)), (5, .ref (E jc)), (6, .int (nI 0)), (7, .int (nI z)), (8, .int (nI n))]) hx hb dR_gather_39 hl (k := 9) rfl (ii_p _) (by decide) rfl (fun ls hl => ?_)
        refine lv_goto hx hb dR_gather_42 (tgt := 6) rfl ?_
        exact ihLP _ (by omega) n (k + 1) d M1 _ _ _ rfl (by omega) hn9 hm hsm (by rw [td_pl_n (by omega) hcz] at hdr; exact hdr) hls ho hst (lv_sub hl [1, 2, 3, 4, 5, 6, 7, 8, 9, 0] rfl)
  exact LP _ 0 0 c M _ _ _ rfl (by omega) (by omega) hm (fun i hi => rfl) rfl (fun t q ht => by omega) hp_off.rf hst (lv_sub hl [2, 3, 4, 5, 6, 7, 8, 9, 1, 0] rfl)

set_option maxHeartbeats 4000000 in
set_option maxRecDepth 100000 in
theorem c_R_times (l : Launch) (D : va_G) (Y : Nat → ClassId) (lo : Nat) {M : Hm} {ma p rf th : Nat} {E : Nat → Nat} {c : Nat → Nat → Nat} (hm : mo Y M ma E p rf th c) {ja jb : Nat} (a1 : 4 ≤ ja) (a2 : ja ≤ 9) (b1 : 4 ≤ jb) (b2 : jb ≤ 9) (na6 : ja ≠ 6) (nb6 : jb ≠ 6) (na7 : ja ≠ 7) (nb7 : jb ≠ 7) {h k9 : Pf} (hra : rp (c ja) h) (hrb : rp (c jb) k9) (hh : ∀ m, h m < p) (hk9 : ∀ m, k9 m < p) (hmm : ∀ q ∈ tp h, ∀ q2 ∈ tp k9, s3 q2.1 + s3 q.1 ≤ 36) : ct l D Y lo y_R_times b_R_times 3 none 2 [.ref ma, .ref (E ja), .ref (E jb)] M (fun r9 M' => ∃ c' : Nat → Nat → Nat, r9 = none ∧ mo Y M' ma E p rf th c' ∧ (∀ i, i ≠ 6 → i ≠ 7 → i ≠ ja → c' i = c i) ∧ rp (c' ja) (mulP p h k9) ∧ hp_off (fun i => i = 1000) M M') nx 0 0 := by
  refine ct_of (by decide) (Nat.le_of_ble_eq_true rfl) ?_
  intro pg eg sg mg bw mt cg ls X hst hl
  have X1 := X
  obtain ⟨hx, hb, hml, hrt, hlocks, hown, hnm, hts, hkz, hex⟩ := X1
  have hG : ∀ w ∈ GW, w.before _ sg = true := fun w h => hts w (List.mem_cons_of_mem _ h)
  have hK := hkz.1
  have hl : lv_has ls 3 [(0, .ref ma), (1, .ref (E ja)), (2, .ref (E jb))] := hl
  obtain ⟨hp2, hp3⟩ := hm.p2
  refine lv_aload_n hx hb dR_times_0 rfl (lv_at hl 0 rfl) ?_
  refine hp_get hx hb hG in_R hown hK hst hm.ob rfl 8 (by decide) (hG _ fl_R_27) rfl rfl dR_times_1 ?_
  refine ct_callS (av2 := [.ref (E 6)]) (rest := []) X hst (c_R_clear l D Y lo hm (j := 6) (by omega) (by omega)) wc_R_clear ml_R_70 ws_R_clear wn_R md_R_clear (by decide) hl.1 rfl (Nat.le_of_ble_eq_true rfl) ⟨by omega, by omega⟩ (fun _ _ h => h.elim) dR_times_4 (fun r M3 H locs hp hst => ?_)
  obtain ⟨c3, rfl, hm3, s3a, z3, ho3⟩ := hp
  refine lv_aload_n hx hb dR_times_7 rfl (lv_at hl 0 rfl) ?_
  refine lv_aload_n hx hb dR_times_8 rfl (lv_at hl 1 rfl) ?_
  refine lv_iconst (v := nI 0) hx hb dR_times_9 (by decide +kernel) ?_
  refine lv_aload_n hx hb dR_times_10 rfl (lv_at hl 2 rfl) ?_
  refine lv_iconst (v := nI 0) hx hb dR_times_11 (by decide +kernel) ?_
  refine lv_aload_n hx hb dR_times_12 rfl (lv_at hl 0 rfl) ?_
  refine hp_get hx hb hG in_R hown hK hst hm3.ob rfl 8 (by decide) (hG _ fl_R_27) rfl rfl dR_times_13 ?_
  refine lv_iconst (v := nI 0) hx hb dR_times_16 (by decide +kernel) ?_
  refine lv_iconst (v := nI 0) hx hb dR_times_17 (by decide +kernel) ?_
  refine ct_callV (av2 := [.ref (E ja), .int (nI 0), .ref (E jb), .int (nI 0), .ref (E 6), .int (nI 0), .int (nI 0)]) (rest := []) (b := ma) X hst (c_R_gather l D Y lo hm3 a1 a2 b1 b2 (jc := 6) (by omega) (by omega) na6 nb6 na7 nb7 (by omega) (by rw [s3a ja na6]; exact hra) (by rw [s3a jb nb6]; exact hrb) (g := fun _ => 0) z3 hh hk9 (fun _ => by omega) hmm (z := 0) (by omega)) hm3.ob rfl wc_R_gather ml_R_74 wi_R_gather wl_R_gather wn_R md_R_gather (by decide) hl.1 rfl (Nat.le_of_ble_eq_true rfl) ⟨by omega, by omega⟩ (fun _ _ h => h.elim) dR_times_18 (fun r M4 H locs hp hst => ?_)
  obtain ⟨c4, rfl, hm4, s4, r4, ho4⟩ := hp
  rw [gaL_0] at r4
  refine lv_aload_n hx hb dR_times_21 rfl (lv_at hl 0 rfl) ?_
  refine hp_get hx hb hG in_R hown hK hst hm4.ob rfl 8 (by decide) (hG _ fl_R_27) rfl rfl dR_times_22 ?_
  refine lv_aload_n hx hb dR_times_25 rfl (lv_at hl 1 rfl) ?_
  refine ct_callS (av2 := [.ref (E 6), .ref (E ja)]) (rest := []) X hst (c_R_copy l D Y lo hm4 (j := ja) a1 a2 (i := 6) (by omega) (by omega) (by omega)) wc_R_copy ml_R_78 ws_R_copy wn_R md_R_copy (by decide) hl.1 rfl (Nat.le_of_ble_eq_true rfl) ⟨by omega, by omega⟩ (fun _ _ h => h.elim) dR_times_26 (fun r M5 H locs hp hst => ?_)
  obtain ⟨c5, rfl, hm5, s5, v5, ho5⟩ := hp
  exact ct_vret X hst ⟨c5, rfl, hm5, fun i h1 h2 h3 => by rw [s5 i h3, s4 i h1 h2, s3a i h1], fun k hk => by rw [v5 k hk]; exact r4 k hk, (ho3.tr ho4).tr ho5⟩ (by omega) (by omega) dR_times_29

set_option maxHeartbeats 4000000 in
set_option maxRecDepth 100000 in
theorem c_R_part (l : Launch) (D : va_G) (Y : Nat → ClassId) (lo : Nat) {M : Hm} {ma p rf th : Nat} {E : Nat → Nat} {c : Nat → Nat → Nat} (hm : mo Y M ma E p rf th c) {j : Nat} (j1 : 4 ≤ j) (j2 : j ≤ 9) (n9 : j ≠ 9) {h : Pf} (hra : rp (c j) h) (hh : ∀ m, h m < 2 ^ 31) {v ex : Nat} (hv : v < 3) (hex : ex < 2 ^ 31) : ct l D Y lo y_R_part b_R_part 5 none 1 [.ref ma, .ref (E j), .int (nI v), .int (nI ex)] M (fun r9 M' => ∃ c' : Nat → Nat → Nat, r9 = none ∧ mo Y M' ma E p rf th c' ∧ (∀ i, i ≠ 9 → c' i = c i) ∧ rp (c' 9) (ptL v ex (tp h) (fun _ => 0)) ∧ hp_off (fun i => i = 1000) M M') nx 0 0 := by
  refine ct_of (by decide) (Nat.le_of_ble_eq_true rfl) ?_
  intro pg eg sg mg bw mt cg ls X hst hl
  have X1 := X
  obtain ⟨hx, hb, hml, hrt, hlocks, hown, hnm, hts, hkz, hex⟩ := X1
  have hG : ∀ w ∈ GW, w.before _ sg = true := fun w h => hts w (List.mem_cons_of_mem _ h)
  have hK := hkz.1
  have hl : lv_has ls 5 [(0, .ref ma), (1, .ref (E j)), (2, .int (nI v)), (3, .int (nI ex))] := hl
  refine lv_aload_n hx hb dR_part_0 rfl (lv_at hl 0 rfl) ?_
  refine hp_get hx hb hG in_R hown hK hst hm.ob rfl 11 (by decide) (hG _ fl_R_36) rfl rfl dR_part_1 ?_
  refine ct_callS (av2 := [.ref (E 9)]) (rest := []) X hst (c_R_clear l D Y lo hm (j := 9) (by omega) (by omega)) wc_R_clear ml_R_70 ws_R_clear wn_R md_R_clear (by decide) hl.1 rfl (Nat.le_of_ble_eq_true rfl) ⟨by omega, by omega⟩ (fun _ _ h => h.elim) dR_part_4 (fun r M3 H locs hp hst => ?_)
  obtain ⟨c3, rfl, hm3, s3a, z3, ho3⟩ := hp
  refine lv_iconst (v := nI 0) hx hb dR_part_7 (by decide +kernel) ?_
  refine lv_istore (lv' := [(4, .int (nI 0)), (0, .ref ma), (1, .ref (E j)), (2, .int (nI v)), (3, .int (nI ex))]) hx hb dR_part_8 hl (by decide) rfl (fun ls hl => ?_)
  have LP : ∀ (kk : Nat) (k : Nat) (d : Nat → Nat → Nat) (M1 : Hm) (g1 : Pf) (H : Heap) (locs : List Loc) (ls : Array Slot), kk = 9139 - k → (k ≤ 9139) → (mo Y M1 ma E p rf th d) → (∀ x, x ≠ 9 → d x = c3 x) → (rp (d 9) g1) → (ptL v ex (td h (9139 - k)) g1 = ptL v ex (tp h) (fun _ => 0)) → (hp_off (fun i => i = 1000) M M1) → hp_st D vC lo M1 sg.heap H locs → lv_has ls 5 [(0, .ref ma), (1, .ref (E j)), (2, .int (nI v)), (3, .int (nI ex)), (4, .int (nI k))] → cW pg l eg sg mg [.ref ma, .ref (E j), .int (nI v), .int (nI ex)] bw mt cg y_R_part b_R_part 5 none 1 D lo (fun r9 M' => ∃ c' : Nat → Nat → Nat, r9 = none ∧ mo Y M' ma E p rf th c' ∧ (∀ i, i ≠ 9 → c' i = c i) ∧ rp (c' 9) (ptL v ex (tp h) (fun _ => 0)) ∧ hp_off (fun i => i = 1000) M M') nx 0 0 H locs 0 0 (F0 mg 10 ls []) := by
    intro kk
    induction kk using Nat.strongRecOn with
    | _ kk ihLP =>
    intro k d M1 g1 H locs ls hkk hk9 hm hsm hr1 hinv ho hst hl
    have dj : d j = c j := (hsm j n9).trans (s3a j n9)
    refine lv_iload hx hb dR_part_10 (lv_at hl 4 rfl) ?_
    refine lv_sipush (v := nI 9139) hx hb dR_part_12 (by decide +kernel) ?_
    refine lv_icmp_ge hx hb dR_part_15 (tgt := 105) rfl (fun hc => ?_) (fun hc => ?_)
    · skip
      have hc5 : 9139 ≤ k := (nI_leI (by omega) (by omega)).mp hc
      have hk : k = 9139 := by omega
      rw [hk] at hinv
      have hinv : g1 = ptL v ex (tp h) (fun _ => 0) := hinv
      exact ct_vret X hst ⟨d, rfl, hm, fun x hx => (hsm x hx).trans (s3a x hx), by rw [← hinv]; exact hr1, ho⟩ (by omega) (by omega) dR_part_105
    · skip
      have hc5 : ¬ 9139 ≤ k := fun z => hc ((nI_leI (by omega) (by omega)).mpr z)
      have hbi : d j k = h (pl k) := by rw [dj]; exact hra k (by omega)
      have hhi := hh (pl k)
      have pmi := pl_mv (k := k) (by omega)
      have hxl := xe_lt (pl k) v
      refine lv_aload_n hx hb dR_part_18 rfl (lv_at hl 1 rfl) ?_
      refine lv_iload hx hb dR_part_19 (lv_at hl 4 rfl) ?_
      refine hp_iald hx hb hK rfl hst (hm.rw j1 j2) (j := k) (by omega) (by omega) dR_part_21 ?_
      refine tp_n (e2 := h (pl k)) hbi ?_
      refine lv_if_eq hx hb dR_part_22 (tgt := 99) rfl (fun hc => ?_) (fun hc => ?_)
      · skip
        rw [← nI_0] at hc
        have hcz : (h (pl k)) = 0 := (nI_eq (by omega) (by omega)).mp hc
        refine lv_iinc (lv' := [(4, .int (nI (k + 1))), (0, .ref ma), (1, .ref (E j)), (2, .int (nI v)), (3, .int (nI ex))]) hx hb dR_part_99 hl (k := 4) rfl (ii_p _) (by decide) rfl (fun ls hl => ?_)
        refine lv_goto hx hb dR_part_102 (tgt := 10) rfl ?_
        exact ihLP _ (by omega) (k + 1) d M1 g1 _ _ _ rfl (by omega) hm hsm hr1 (by rw [td_pl_n (by omega) hcz] at hinv; exact hinv) ho hst (lv_sub hl [1, 2, 3, 4, 0] rfl)
      · skip
        rw [← nI_0] at hc
        have hcz : ¬ (h (pl k)) = 0 := fun z => hc ((nI_eq (by omega) (by omega)).mpr z)
        rw [td_pl_y (by omega) hcz] at hinv
        refine lv_aload_n hx hb dR_part_25 rfl (lv_at hl 0 rfl) ?_
        refine lv_iload hx hb dR_part_26 (lv_at hl 4 rfl) ?_
        refine lv_iload_n hx hb dR_part_28 rfl (lv_at hl 2 rfl) ?_
        refine ct_callV (av2 := [.int (nI k), .int (nI v)]) (rest := []) (b := ma) X hst (c_R_exponent l D Y lo hm (k := k) (v := v) (by omega) hv) hm.ob rfl wc_R_exponent ml_R_58 wi_R_exponent wl_R_exponent wn_R md_R_exponent (by decide) hl.1 rfl (Nat.le_of_ble_eq_true rfl) ⟨by omega, by omega⟩ (fun _ _ h => h.elim) dR_part_29 (fun r M' H locs hp hst => ?_)
        obtain ⟨rfl, rfl⟩ := hp
        refine lv_iload_n hx hb dR_part_32 rfl (lv_at hl 3 rfl) ?_
        refine lv_icmp_eq hx hb dR_part_33 (tgt := 39) rfl (fun hc => ?_) (fun hc => ?_)
        · skip
          have hce : (xe (pl k) v) = ex := (nI_eq (by omega) (by omega)).mp hc
          rw [ptL_y (q := (pl k, h (pl k))) hce] at hinv
          have wmv := wo_mv pmi hv
          have hrw := rk_lt wmv
          have h36 := pmi.1
          obtain ⟨w0, w1, w2⟩ := wo_mp3 pmi
          refine lv_aload_n hx hb dR_part_39 rfl (lv_at hl 0 rfl) ?_
          refine hp_get hx hb hG in_R hown hK hst hm.ob rfl 11 (by decide) (hG _ fl_R_36) rfl rfl dR_part_40 ?_
          refine lv_aload_n hx hb dR_part_43 rfl (lv_at hl 0 rfl) ?_
          refine lv_iload_n hx hb dR_part_44 rfl (lv_at hl 2 rfl) ?_
          refine lv_if_ne hx hb dR_part_45 (tgt := 52) rfl (fun hc => ?_) (fun hc => ?_)
          · skip
            rw [← nI_0] at hc
            have hv0 : ¬ v = 0 := fun z => hc ((nI_eq (by omega) (by omega)).mpr z)
            refine lv_aload_n hx hb dR_part_52 rfl (lv_at hl 0 rfl) ?_
            refine lv_iload hx hb dR_part_53 (lv_at hl 4 rfl) ?_
            refine lv_iconst (v := nI 0) hx hb dR_part_55 (by decide +kernel) ?_
            refine ct_callV (av2 := [.int (nI k), .int (nI 0)]) (rest := [.ref ma, .ref (E 9)]) (b := ma) X hst (c_R_exponent l D Y lo hm (k := k) (v := 0) (by omega) (by omega)) hm.ob rfl wc_R_exponent ml_R_58 wi_R_exponent wl_R_exponent wn_R md_R_exponent (by decide) hl.1 rfl (Nat.le_of_ble_eq_true rfl) ⟨by omega, by omega⟩ (fun _ _ h => h.elim) dR_part_56 (fun r M' H locs hp hst => ?_)
            obtain ⟨rfl, rfl⟩ := hp
            refine lv_iload_n hx hb dR_part_59 rfl (lv_at hl 2 rfl) ?_
            refine lv_iconst (v := nI 1) hx hb dR_part_60 (by decide +kernel) ?_
            refine lv_icmp_ne hx hb dR_part_61 (tgt := 68) rfl (fun hc => ?_) (fun hc => ?_)
            · skip
              have hv1 : ¬ v = 1 := fun z => hc ((nI_eq (by omega) (by omega)).mpr z)
              refine lv_aload_n hx hb dR_part_68 rfl (lv_at hl 0 rfl) ?_
              refine lv_iload hx hb dR_part_69 (lv_at hl 4 rfl) ?_
              refine lv_iconst (v := nI 1) hx hb dR_part_71 (by decide +kernel) ?_
              refine ct_callV (av2 := [.int (nI k), .int (nI 1)]) (rest := [.int (nI (xe (pl k) 0)), .ref ma, .ref (E 9)]) (b := ma) X hst (c_R_exponent l D Y lo hm (k := k) (v := 1) (by omega) (by omega)) hm.ob rfl wc_R_exponent ml_R_58 wi_R_exponent wl_R_exponent wn_R md_R_exponent (by decide) hl.1 rfl (Nat.le_of_ble_eq_true rfl) ⟨by omega, by omega⟩ (fun _ _ h => h.elim) dR_part_72 (fun r M' H locs hp hst => ?_)
              obtain ⟨rfl, rfl⟩ := hp
              refine lv_iload_n hx hb dR_part_75 rfl (lv_at hl 2 rfl) ?_
              refine lv_iconst (v := nI 2) hx hb dR_part_76 (by decide +kernel) ?_
              refine lv_icmp_ne hx hb dR_part_77 (tgt := 84) rfl (fun hc => ?_) (fun hc => ?_)
              · skip
                have hv2 : ¬ v = 2 := fun z => hc ((nI_eq (by omega) (by omega)).mpr z)
                refine lv_aload_n hx hb dR_part_84 rfl (lv_at hl 0 rfl) ?_
                refine lv_iload hx hb dR_part_85 (lv_at hl 4 rfl) ?_
                refine lv_iconst (v := nI 2) hx hb dR_part_87 (by decide +kernel) ?_
                refine ct_callV (av2 := [.int (nI k), .int (nI 2)]) (rest := [.int (nI (xe (pl k) 1)), .int (nI (xe (pl k) 0)), .ref ma, .ref (E 9)]) (b := ma) X hst (c_R_exponent l D Y lo hm (k := k) (v := 2) (by omega) (by omega)) hm.ob rfl wc_R_exponent ml_R_58 wi_R_exponent wl_R_exponent wn_R md_R_exponent (by decide) hl.1 rfl (Nat.le_of_ble_eq_true rfl) ⟨by omega, by omega⟩ (fun _ _ h => h.elim) dR_part_88 (fun r M' H locs hp hst => ?_)
                obtain ⟨rfl, rfl⟩ := hp
                exact absurd hv (by omega)
              · skip
                have hv2 : v = 2 := (nI_eq (by omega) (by omega)).mp hc
                refine lv_iconst (v := nI 0) hx hb dR_part_80 (by decide +kernel) ?_
                refine lv_goto hx hb dR_part_81 (tgt := 91) rfl ?_
                have hvu : v = 2 := by omega
                refine ct_callV (av2 := [.int (nI (xe (pl k) 0)), .int (nI (xe (pl k) 1)), .int (nI 0)]) (rest := [.ref (E 9)]) (b := ma) X hst (c_R_place l D Y lo hm (a := xe (pl k) 0) (b := xe (pl k) 1) (d := 0) (by omega)) hm.ob rfl wc_R_place ml_R_62 wi_R_place wl_R_place wn_R md_R_place (by decide) hl.1 rfl (Nat.le_of_ble_eq_true rfl) ⟨by omega, by omega⟩ (fun _ _ h => h.elim) dR_part_91 (fun r M' H locs hp hst => ?_)
                obtain ⟨rfl, rfl⟩ := hp
                refine tp_n (e2 := 9138 - rk (wo (pl k) v)) (by rw [w2, hvu]) ?_
                refine lv_aload_n hx hb dR_part_94 rfl (lv_at hl 1 rfl) ?_
                refine lv_iload hx hb dR_part_95 (lv_at hl 4 rfl) ?_
                refine hp_iald hx hb hK rfl hst (hm.rw j1 j2) (j := k) (by omega) (by omega) dR_part_97 ?_
                refine tp_n (e2 := h (pl k)) hbi ?_
                refine hp_iast hx hb hK rfl hst (hm.rw (j := 9) (by omega) (by omega)) (j := (9138 - rk (wo (pl k) v))) (v := (h (pl k))) (by omega) (by omega) dR_part_98 (fun H locs hst => ?_)
                obtain ⟨hm1, hs2⟩ := hm.sr (j := 9) (by omega) (by omega) (va_up (d 9) (9138 - rk (wo (pl k) v)) (h (pl k)))
                generalize hp_up M1 (E 9) ((1000, 9), e_n Y 9139 (va_up (d 9) (9138 - rk (wo (pl k) v)) (h (pl k)))) = M3 at hst hm1 hs2
                have ho4 := ho.tr hs2
                refine lv_iinc (lv' := [(4, .int (nI (k + 1))), (0, .ref ma), (1, .ref (E j)), (2, .int (nI v)), (3, .int (nI ex))]) hx hb dR_part_99 hl (k := 4) rfl (ii_p _) (by decide) rfl (fun ls hl => ?_)
                refine lv_goto hx hb dR_part_102 (tgt := 10) rfl ?_
                exact ihLP _ (by omega) (k + 1) (va_up d 9 (va_up (d 9) (9138 - rk (wo (pl k) v)) (h (pl k)))) M3 (va_up g1 (wo (pl k) v) (h (pl k))) _ _ _ rfl (by omega) hm1 (fun x hx => by rw [va_up_ne _ _ hx]; exact hsm x hx) (by rw [va_up_self]; exact rp_up hr1 wmv) hinv ho4 hst (lv_sub hl [1, 2, 3, 4, 0] rfl)
            · skip
              have hv1 : v = 1 := (nI_eq (by omega) (by omega)).mp hc
              refine lv_iconst (v := nI 0) hx hb dR_part_64 (by decide +kernel) ?_
              refine lv_goto hx hb dR_part_65 (tgt := 75) rfl ?_
              refine lv_iload_n hx hb dR_part_75 rfl (lv_at hl 2 rfl) ?_
              refine lv_iconst (v := nI 2) hx hb dR_part_76 (by decide +kernel) ?_
              refine lv_icmp_ne hx hb dR_part_77 (tgt := 84) rfl (fun hc => ?_) (fun hc => ?_)
              · skip
                have hv2 : ¬ v = 2 := fun z => hc ((nI_eq (by omega) (by omega)).mpr z)
                refine lv_aload_n hx hb dR_part_84 rfl (lv_at hl 0 rfl) ?_
                refine lv_iload hx hb dR_part_85 (lv_at hl 4 rfl) ?_
                refine lv_iconst (v := nI 2) hx hb dR_part_87 (by decide +kernel) ?_
                refine ct_callV (av2 := [.int (nI k), .int (nI 2)]) (rest := [.int (nI 0), .int (nI (xe (pl k) 0)), .ref ma, .ref (E 9)]) (b := ma) X hst (c_R_exponent l D Y lo hm (k := k) (v := 2) (by omega) (by omega)) hm.ob rfl wc_R_exponent ml_R_58 wi_R_exponent wl_R_exponent wn_R md_R_exponent (by decide) hl.1 rfl (Nat.le_of_ble_eq_true rfl) ⟨by omega, by omega⟩ (fun _ _ h => h.elim) dR_part_88 (fun r M' H locs hp hst => ?_)
                obtain ⟨rfl, rfl⟩ := hp
                have hvu : v = 1 := by omega
                refine ct_callV (av2 := [.int (nI (xe (pl k) 0)), .int (nI 0), .int (nI (xe (pl k) 2))]) (rest := [.ref (E 9)]) (b := ma) X hst (c_R_place l D Y lo hm (a := xe (pl k) 0) (b := 0) (d := xe (pl k) 2) (by omega)) hm.ob rfl wc_R_place ml_R_62 wi_R_place wl_R_place wn_R md_R_place (by decide) hl.1 rfl (Nat.le_of_ble_eq_true rfl) ⟨by omega, by omega⟩ (fun _ _ h => h.elim) dR_part_91 (fun r M' H locs hp hst => ?_)
                obtain ⟨rfl, rfl⟩ := hp
                refine tp_n (e2 := 9138 - rk (wo (pl k) v)) (by rw [w1, hvu]) ?_
                refine lv_aload_n hx hb dR_part_94 rfl (lv_at hl 1 rfl) ?_
                refine lv_iload hx hb dR_part_95 (lv_at hl 4 rfl) ?_
                refine hp_iald hx hb hK rfl hst (hm.rw j1 j2) (j := k) (by omega) (by omega) dR_part_97 ?_
                refine tp_n (e2 := h (pl k)) hbi ?_
                refine hp_iast hx hb hK rfl hst (hm.rw (j := 9) (by omega) (by omega)) (j := (9138 - rk (wo (pl k) v))) (v := (h (pl k))) (by omega) (by omega) dR_part_98 (fun H locs hst => ?_)
                obtain ⟨hm1, hs2⟩ := hm.sr (j := 9) (by omega) (by omega) (va_up (d 9) (9138 - rk (wo (pl k) v)) (h (pl k)))
                generalize hp_up M1 (E 9) ((1000, 9), e_n Y 9139 (va_up (d 9) (9138 - rk (wo (pl k) v)) (h (pl k)))) = M3 at hst hm1 hs2
                have ho4 := ho.tr hs2
                refine lv_iinc (lv' := [(4, .int (nI (k + 1))), (0, .ref ma), (1, .ref (E j)), (2, .int (nI v)), (3, .int (nI ex))]) hx hb dR_part_99 hl (k := 4) rfl (ii_p _) (by decide) rfl (fun ls hl => ?_)
                refine lv_goto hx hb dR_part_102 (tgt := 10) rfl ?_
                exact ihLP _ (by omega) (k + 1) (va_up d 9 (va_up (d 9) (9138 - rk (wo (pl k) v)) (h (pl k)))) M3 (va_up g1 (wo (pl k) v) (h (pl k))) _ _ _ rfl (by omega) hm1 (fun x hx => by rw [va_up_ne _ _ hx]; exact hsm x hx) (by rw [va_up_self]; exact rp_up hr1 wmv) hinv ho4 hst (lv_sub hl [1, 2, 3, 4, 0] rfl)
              · skip
                have hv2 : v = 2 := (nI_eq (by omega) (by omega)).mp hc
                refine lv_iconst (v := nI 0) hx hb dR_part_80 (by decide +kernel) ?_
                refine lv_goto hx hb dR_part_81 (tgt := 91) rfl ?_
                exact absurd hv (by omega)
          · skip
            rw [← nI_0] at hc
            have hv0 : v = 0 := (nI_eq (by omega) (by omega)).mp hc
            refine lv_iconst (v := nI 0) hx hb dR_part_48 (by decide +kernel) ?_
            refine lv_goto hx hb dR_part_49 (tgt := 59) rfl ?_
            refine lv_iload_n hx hb dR_part_59 rfl (lv_at hl 2 rfl) ?_
            refine lv_iconst (v := nI 1) hx hb dR_part_60 (by decide +kernel) ?_
            refine lv_icmp_ne hx hb dR_part_61 (tgt := 68) rfl (fun hc => ?_) (fun hc => ?_)
            · skip
              have hv1 : ¬ v = 1 := fun z => hc ((nI_eq (by omega) (by omega)).mpr z)
              refine lv_aload_n hx hb dR_part_68 rfl (lv_at hl 0 rfl) ?_
              refine lv_iload hx hb dR_part_69 (lv_at hl 4 rfl) ?_
              refine lv_iconst (v := nI 1) hx hb dR_part_71 (by decide +kernel) ?_
              refine ct_callV (av2 := [.int (nI k), .int (nI 1)]) (rest := [.int (nI 0), .ref ma, .ref (E 9)]) (b := ma) X hst (c_R_exponent l D Y lo hm (k := k) (v := 1) (by omega) (by omega)) hm.ob rfl wc_R_exponent ml_R_58 wi_R_exponent wl_R_exponent wn_R md_R_exponent (by decide) hl.1 rfl (Nat.le_of_ble_eq_true rfl) ⟨by omega, by omega⟩ (fun _ _ h => h.elim) dR_part_72 (fun r M' H locs hp hst => ?_)
              obtain ⟨rfl, rfl⟩ := hp
              refine lv_iload_n hx hb dR_part_75 rfl (lv_at hl 2 rfl) ?_
              refine lv_iconst (v := nI 2) hx hb dR_part_76 (by decide +kernel) ?_
              refine lv_icmp_ne hx hb dR_part_77 (tgt := 84) rfl (fun hc => ?_) (fun hc => ?_)
              · skip
                have hv2 : ¬ v = 2 := fun z => hc ((nI_eq (by omega) (by omega)).mpr z)
                refine lv_aload_n hx hb dR_part_84 rfl (lv_at hl 0 rfl) ?_
                refine lv_iload hx hb dR_part_85 (lv_at hl 4 rfl) ?_
                refine lv_iconst (v := nI 2) hx hb dR_part_87 (by decide +kernel) ?_
                refine ct_callV (av2 := [.int (nI k), .int (nI 2)]) (rest := [.int (nI (xe (pl k) 1)), .int (nI 0), .ref ma, .ref (E 9)]) (b := ma) X hst (c_R_exponent l D Y lo hm (k := k) (v := 2) (by omega) (by omega)) hm.ob rfl wc_R_exponent ml_R_58 wi_R_exponent wl_R_exponent wn_R md_R_exponent (by decide) hl.1 rfl (Nat.le_of_ble_eq_true rfl) ⟨by omega, by omega⟩ (fun _ _ h => h.elim) dR_part_88 (fun r M' H locs hp hst => ?_)
                obtain ⟨rfl, rfl⟩ := hp
                have hvu : v = 0 := by omega
                refine ct_callV (av2 := [.int (nI 0), .int (nI (xe (pl k) 1)), .int (nI (xe (pl k) 2))]) (rest := [.ref (E 9)]) (b := ma) X hst (c_R_place l D Y lo hm (a := 0) (b := xe (pl k) 1) (d := xe (pl k) 2) (by omega)) hm.ob rfl wc_R_place ml_R_62 wi_R_place wl_R_place wn_R md_R_place (by decide) hl.1 rfl (Nat.le_of_ble_eq_true rfl) ⟨by omega, by omega⟩ (fun _ _ h => h.elim) dR_part_91 (fun r M' H locs hp hst => ?_)
                obtain ⟨rfl, rfl⟩ := hp
                refine tp_n (e2 := 9138 - rk (wo (pl k) v)) (by rw [w0, hvu]) ?_
                refine lv_aload_n hx hb dR_part_94 rfl (lv_at hl 1 rfl) ?_
                refine lv_iload hx hb dR_part_95 (lv_at hl 4 rfl) ?_
                refine hp_iald hx hb hK rfl hst (hm.rw j1 j2) (j := k) (by omega) (by omega) dR_part_97 ?_
                refine tp_n (e2 := h (pl k)) hbi ?_
                refine hp_iast hx hb hK rfl hst (hm.rw (j := 9) (by omega) (by omega)) (j := (9138 - rk (wo (pl k) v))) (v := (h (pl k))) (by omega) (by omega) dR_part_98 (fun H locs hst => ?_)
                obtain ⟨hm1, hs2⟩ := hm.sr (j := 9) (by omega) (by omega) (va_up (d 9) (9138 - rk (wo (pl k) v)) (h (pl k)))
                generalize hp_up M1 (E 9) ((1000, 9), e_n Y 9139 (va_up (d 9) (9138 - rk (wo (pl k) v)) (h (pl k)))) = M3 at hst hm1 hs2
                have ho4 := ho.tr hs2
                refine lv_iinc (lv' := [(4, .int (nI (k + 1))), (0, .ref ma), (1, .ref (E j)), (2, .int (nI v)), (3, .int (nI ex))]) hx hb dR_part_99 hl (k := 4) rfl (ii_p _) (by decide) rfl (fun ls hl => ?_)
                refine lv_goto hx hb dR_part_102 (tgt := 10) rfl ?_
                exact ihLP _ (by omega) (k + 1) (va_up d 9 (va_up (d 9) (9138 - rk (wo (pl k) v)) (h (pl k)))) M3 (va_up g1 (wo (pl k) v) (h (pl k))) _ _ _ rfl (by omega) hm1 (fun x hx => by rw [va_up_ne _ _ hx]; exact hsm x hx) (by rw [va_up_self]; exact rp_up hr1 wmv) hinv ho4 hst (lv_sub hl [1, 2, 3, 4, 0] rfl)
              · skip
                have hv2 : v = 2 := (nI_eq (by omega) (by omega)).mp hc
                refine lv_iconst (v := nI 0) hx hb dR_part_80 (by decide +kernel) ?_
                refine lv_goto hx hb dR_part_81 (tgt := 91) rfl ?_
                exact absurd hv (by omega)
            · skip
              have hv1 : v = 1 := (nI_eq (by omega) (by omega)).mp hc
              refine lv_iconst (v := nI 0) hx hb dR_part_64 (by decide +kernel) ?_
              refine lv_goto hx hb dR_part_65 (tgt := 75) rfl ?_
              refine lv_iload_n hx hb dR_part_75 rfl (lv_at hl 2 rfl) ?_
              refine lv_iconst (v := nI 2) hx hb dR_part_76 (by decide +kernel) ?_
              refine lv_icmp_ne hx hb dR_part_77 (tgt := 84) rfl (fun hc => ?_) (fun hc => ?_)
              · skip
                have hv2 : ¬ v = 2 := fun z => hc ((nI_eq (by omega) (by omega)).mpr z)
                refine lv_aload_n hx hb dR_part_84 rfl (lv_at hl 0 rfl) ?_
                refine lv_iload hx hb dR_part_85 (lv_at hl 4 rfl) ?_
                refine lv_iconst (v := nI 2) hx hb dR_part_87 (by decide +kernel) ?_
                refine ct_callV (av2 := [.int (nI k), .int (nI 2)]) (rest := [.int (nI 0), .int (nI 0), .ref ma, .ref (E 9)]) (b := ma) X hst (c_R_exponent l D Y lo hm (k := k) (v := 2) (by omega) (by omega)) hm.ob rfl wc_R_exponent ml_R_58 wi_R_exponent wl_R_exponent wn_R md_R_exponent (by decide) hl.1 rfl (Nat.le_of_ble_eq_true rfl) ⟨by omega, by omega⟩ (fun _ _ h => h.elim) dR_part_88 (fun r M' H locs hp hst => ?_)
                obtain ⟨rfl, rfl⟩ := hp
                exact absurd hv (by omega)
              · skip
                have hv2 : v = 2 := (nI_eq (by omega) (by omega)).mp hc
                refine lv_iconst (v := nI 0) hx hb dR_part_80 (by decide +kernel) ?_
                refine lv_goto hx hb dR_part_81 (tgt := 91) rfl ?_
                exact absurd hv (by omega)
        · skip
          have hce : ¬ (xe (pl k) v) = ex := fun z => hc ((nI_eq (by omega) (by omega)).mpr z)
          rw [ptL_n (q := (pl k, h (pl k))) hce] at hinv
          refine lv_goto hx hb dR_part_36 (tgt := 99) rfl ?_
          refine lv_iinc (lv' := [(4, .int (nI (k + 1))), (0, .ref ma), (1, .ref (E j)), (2, .int (nI v)), (3, .int (nI ex))]) hx hb dR_part_99 hl (k := 4) rfl (ii_p _) (by decide) rfl (fun ls hl => ?_)
          refine lv_goto hx hb dR_part_102 (tgt := 10) rfl ?_
          exact ihLP _ (by omega) (k + 1) d M1 g1 _ _ _ rfl (by omega) hm hsm hr1 hinv ho hst (lv_sub hl [1, 2, 3, 4, 0] rfl)
  exact LP _ 0 c3 M3 (fun _ => 0) _ _ _ rfl (by omega) hm3 (fun x hx => rfl) z3 rfl ho3 hst (lv_sub hl [1, 2, 3, 4, 0] rfl)
