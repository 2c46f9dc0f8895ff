/-! A new object of the class. -/
theorem fs0_F : ∀ j, j < 1 → defaultValue (ty_F j) = vp_V [.int (nI 0)] j := by
  intro j hj
  rw [show j = 0 by omega]
  rfl
theorem fs0_T : ∀ j, j < 2 → defaultValue (ty_T j) = vp_V [.null, .null] j := by
  intro j hj
  have : j = 0 ∨ j = 1 := by omega
  rcases this with rfl | rfl <;> rfl
theorem fs0_P : ∀ j, j < 3 → defaultValue (ty_P j) = vp_V [.null, .null, .int (nI 0)] j := by
  intro j hj
  have : j = 0 ∨ j = 1 ∨ j = 2 := by omega
  rcases this with rfl | rfl | rfl <;> rfl
theorem fs0_S : ∀ j, j < 5 → defaultValue (ty_S j) = vp_V [.null, .null, .null, .null, .int (nI 0)] j := by
  intro j hj
  have : j = 0 ∨ j = 1 ∨ j = 2 ∨ j = 3 ∨ j = 4 := by omega
  rcases this with rfl | rfl | rfl | rfl | rfl <;> rfl
/-- the book of addresses -/
def adr (fa sa ta ra ma : Nat) (B : Nat → Nat) (k : Nat) : Nat := if k = 0 then fa else if k = 1 then sa else if k = 2 then ta else if k = 3 then ra else if k = 4 then ma else B k
theorem adr_B {fa sa ta ra ma : Nat} {B : Nat → Nat} {k : Nat} (h : 10 ≤ k) : adr fa sa ta ra ma B k = B k := by
  unfold adr
  rw [if_neg (by omega), if_neg (by omega), if_neg (by omega), if_neg (by omega), if_neg (by omega)]

set_option maxHeartbeats 4000000 in
set_option maxRecDepth 100000 in
theorem c_H_init (l : Launch) (D : va_G) (Y : Nat → ClassId) (lo : Nat) {M : Hm} {xa : Nat} (x : Int32) (h0 : M xa = some ((0, 0), .inr (4, [.null, .null, .null, .null, .null, .null, .int (nI 0)]))) : ct l D Y lo y_H_init b_H_init 3 none 3 [.ref xa, .int x] M (fun r9 M' => ∃ (p : Nat) (A : Nat → Nat), r9 = none ∧ lpr x p ∧ cs Y M' xa A p (fun _ _ => 0) (fun _ => 16) (fun i => 10 + i) 0 ∧ hp_off (fun i => i < 300) M M') nx 819 30451 := by
  refine ct_of (by decide) (Nat.le_of_ble_eq_true rfl) ?_
  intro pg eg sg mg bw mt cg ls X hst hl
  have X1 := X
  obtain ⟨hx, hb, hml, hrt, hlocks, hown, hnm, hts, hkz, hex⟩ := X1
  have hG : ∀ w ∈ GW, w.before _ sg = true := fun w h => hts w (List.mem_cons_of_mem _ h)
  have hK := hkz.1
  have hl : lv_has ls 3 [(0, .ref xa), (1, .int x)] := hl
  have hin : mt.name = "<init>" := hnm
  refine lv_aload_n hx hb dH_init_0 rfl (lv_at hl 0 rfl) ?_
  refine W.objInit hx hb hown (hG _ ml_H_1) (hG _ wi_Jo_init) (hG _ wc_Jo_init) rfl (by rw [hml]; exact hl.1) rfl dH_init_1 (Nat.le_of_ble_eq_true rfl) (Nat.le_of_ble_eq_true rfl) ?_
  refine W.eq (g2 := F0 mg 4 ls []) rfl ?_
  refine lv_aload_n hx hb dH_init_4 rfl (lv_at hl 0 rfl) ?_
  refine lv_bipush (v := nI 12) hx hb dH_init_5 (by decide +kernel) ?_
  refine hp_newq hx hb hown (hG _ cl_H_9) hkz.2.2.2.2 hK rfl hst (0, 1) (N' := 12) (by omega) (rm_c (by omega)) (rm_s (by omega)) dH_init_7 (fun ra H hq1 hst => ?_)
  generalize hM3 : hp_up M ra ((0, 1), e_q Y 12 (fun _ => none)) = M2 at hst
  have f4 : M2 ra = some ((0, 1), e_q Y 12 (fun _ => none)) := by rw [← hM3]; exact hp_up_self _ _ _
  have f5 : M2 xa = some ((0, 0), .inr (4, [.null, .null, .null, .null, .null, .null, .int (nI 0)])) := by rw [← hM3]; exact hp_kf hq1 h0
  have o6 : hp_off (fun i => i < 300) M M2 := by rw [← hM3]; exact hp_off.nw hq1 (by show _ < 300; omega)
  refine hp_putF hx hb hG in_H ty_H tyok_H nm_H hown hK hst f5 rfl 3 (by decide) (hG _ fl_H_11) rfl rfl hin rfl rfl rfl (Nat.le_of_ble_eq_true rfl) dH_init_10 (fs' := [.null, .null, .null, .ref ra, .null, .null, .int (nI 0)]) rfl (fun H locs hst => ?_)
  generalize hM8 : hp_up M2 xa ((0, 0), .inr (4, [.null, .null, .null, .ref ra, .null, .null, .int (nI 0)])) = M7 at hst
  have f9 : M7 xa = some ((0, 0), .inr (4, [.null, .null, .null, .ref ra, .null, .null, .int (nI 0)])) := by rw [← hM8]; exact hp_up_self _ _ _
  have f10 : M7 ra = some ((0, 1), e_q Y 12 (fun _ => none)) := by rw [← hM8]; exact hp_kt f5 f4 (tg2 (by decide))
  have o11 : hp_off (fun i => i < 300) M M7 := by rw [← hM8]; exact hp_off.tr o6 (hp_off.up f5 (by show _ < 300; omega))
  refine lv_aload_n hx hb dH_init_13 rfl (lv_at hl 0 rfl) ?_
  refine lv_sipush (v := nI 256) hx hb dH_init_14 (by decide +kernel) ?_
  refine hp_newq hx hb hown (hG _ cl_H_9) hkz.2.2.2.2 hK rfl hst (0, 2) (N' := 256) (by omega) (rm_c (by omega)) (rm_s (by omega)) dH_init_17 (fun ma H hq12 hst => ?_)
  generalize hM14 : hp_up M7 ma ((0, 2), e_q Y 256 (fun _ => none)) = M13 at hst
  have f15 : M13 ma = some ((0, 2), e_q Y 256 (fun _ => none)) := by rw [← hM14]; exact hp_up_self _ _ _
  have f16 : M13 ra = some ((0, 1), e_q Y 12 (fun _ => none)) := by rw [← hM14]; exact hp_kf hq12 f10
  have f17 : M13 xa = some ((0, 0), .inr (4, [.null, .null, .null, .ref ra, .null, .null, .int (nI 0)])) := by rw [← hM14]; exact hp_kf hq12 f9
  have o18 : hp_off (fun i => i < 300) M M13 := by rw [← hM14]; exact hp_off.tr o11 (hp_off.nw hq12 (by show _ < 300; omega))
  refine hp_putF hx hb hG in_H ty_H tyok_H nm_H hown hK hst f17 rfl 4 (by decide) (hG _ fl_H_15) rfl rfl hin rfl rfl rfl (Nat.le_of_ble_eq_true rfl) dH_init_20 (fs' := [.null, .null, .null, .ref ra, .ref ma, .null, .int (nI 0)]) rfl (fun H locs hst => ?_)
  generalize hM20 : hp_up M13 xa ((0, 0), .inr (4, [.null, .null, .null, .ref ra, .ref ma, .null, .int (nI 0)])) = M19 at hst
  have f21 : M19 xa = some ((0, 0), .inr (4, [.null, .null, .null, .ref ra, .ref ma, .null, .int (nI 0)])) := by rw [← hM20]; exact hp_up_self _ _ _
  have f22 : M19 ra = some ((0, 1), e_q Y 12 (fun _ => none)) := by rw [← hM20]; exact hp_kt f17 f16 (tg2 (by decide))
  have f23 : M19 ma = some ((0, 2), e_q Y 256 (fun _ => none)) := by rw [← hM20]; exact hp_kt f17 f15 (tg2 (by decide))
  have o24 : hp_off (fun i => i < 300) M M19 := by rw [← hM20]; exact hp_off.tr o18 (hp_off.up f17 (by show _ < 300; omega))
  refine lv_aload_n hx hb dH_init_23 rfl (lv_at hl 0 rfl) ?_
  refine hp_new hx hb hG in_F ty_F tyok_F hown (hG _ cl_H_18) (hG _ is_F) (hG _ wn_F) hK hst (1, 0) (ci := 0) rfl (fs := [.int (nI 0)]) fs0_F (rm_c (by omega)) (rm_s (by omega)) dH_init_24 (fun fa H hq25 hst => ?_)
  generalize hM27 : hp_up M19 fa ((1, 0), .inr (0, [.int (nI 0)])) = M26 at hst
  have f28 : M26 fa = some ((1, 0), .inr (0, [.int (nI 0)])) := by rw [← hM27]; exact hp_up_self _ _ _
  have f29 : M26 ra = some ((0, 1), e_q Y 12 (fun _ => none)) := by rw [← hM27]; exact hp_kf hq25 f22
  have f30 : M26 ma = some ((0, 2), e_q Y 256 (fun _ => none)) := by rw [← hM27]; exact hp_kf hq25 f23
  have f31 : M26 xa = some ((0, 0), .inr (4, [.null, .null, .null, .ref ra, .ref ma, .null, .int (nI 0)])) := by rw [← hM27]; exact hp_kf hq25 f21
  have o32 : hp_off (fun i => i < 300) M M26 := by rw [← hM27]; exact hp_off.tr o24 (hp_off.nw hq25 (by show _ < 300; omega))
  refine lv_dup hx hb dH_init_27 rfl ?_
  refine lv_iload_n hx hb dH_init_28 rfl (lv_at hl 1 rfl) ?_
  refine ct_callI (av2 := [.int x]) (rest := [.ref fa, .ref xa]) (b := fa) X hst (c_F_init l D Y lo x f28) wc_F_init ml_H_20 wi_F_init wn_F rfl md_F_init (by decide) hl.1 rfl (Nat.le_of_ble_eq_true rfl) ⟨by omega, by omega⟩ dH_init_29 (fun r M' H locs hp hst => ?_)
  obtain ⟨p, rfl, hlp, hf1, ho1⟩ := hp
  have g33 := ho1.of f29 (by decide)
  have g34 := ho1.of f30 (by decide)
  have g35 := ho1.of f31 (by decide)
  have o36 : hp_off (fun i => i < 300) M M' := o32.tr (ho1.wk (fun i hi => by omega))
  have hf10 := hf1.1
  have hpp := hf1.2.1
  refine hp_putF hx hb hG in_H ty_H tyok_H nm_H hown hK hst g35 rfl 0 (by decide) (hG _ fl_H_23) rfl rfl hin rfl rfl rfl (Nat.le_of_ble_eq_true rfl) dH_init_32 (fs' := [.ref fa, .null, .null, .ref ra, .ref ma, .null, .int (nI 0)]) rfl (fun H locs hst => ?_)
  generalize hM38 : hp_up M' xa ((0, 0), .inr (4, [.ref fa, .null, .null, .ref ra, .ref ma, .null, .int (nI 0)])) = M37 at hst
  have f39 : M37 xa = some ((0, 0), .inr (4, [.ref fa, .null, .null, .ref ra, .ref ma, .null, .int (nI 0)])) := by rw [← hM38]; exact hp_up_self _ _ _
  have f40 : M37 ra = some ((0, 1), e_q Y 12 (fun _ => none)) := by rw [← hM38]; exact hp_kt g35 g33 (tg2 (by decide))
  have f41 : M37 ma = some ((0, 2), e_q Y 256 (fun _ => none)) := by rw [← hM38]; exact hp_kt g35 g34 (tg2 (by decide))
  have f42 : M37 fa = some ((1, 0), .inr (0, [.int (nI p)])) := by rw [← hM38]; exact hp_kt g35 hf10 (tg1 (by decide))
  have o43 : hp_off (fun i => i < 300) M M37 := by rw [← hM38]; exact hp_off.tr o36 (hp_off.up g35 (by show _ < 300; omega))
  refine lv_aload_n hx hb dH_init_35 rfl (lv_at hl 0 rfl) ?_
  refine hp_new hx hb hG in_S ty_S tyok_S hown (hG _ cl_H_27) (hG _ is_S) (hG _ wn_S) hK hst (2, 0) (ci := 3) rfl (fs := [.null, .null, .null, .null, .int (nI 0)]) fs0_S (rm_c (by omega)) (rm_s (by omega)) dH_init_36 (fun sa H hq44 hst => ?_)
  generalize hM46 : hp_up M37 sa ((2, 0), .inr (3, [.null, .null, .null, .null, .int (nI 0)])) = M45 at hst
  have f47 : M45 sa = some ((2, 0), .inr (3, [.null, .null, .null, .null, .int (nI 0)])) := by rw [← hM46]; exact hp_up_self _ _ _
  have f48 : M45 ra = some ((0, 1), e_q Y 12 (fun _ => none)) := by rw [← hM46]; exact hp_kf hq44 f40
  have f49 : M45 ma = some ((0, 2), e_q Y 256 (fun _ => none)) := by rw [← hM46]; exact hp_kf hq44 f41
  have f50 : M45 fa = some ((1, 0), .inr (0, [.int (nI p)])) := by rw [← hM46]; exact hp_kf hq44 f42
  have f51 : M45 xa = some ((0, 0), .inr (4, [.ref fa, .null, .null, .ref ra, .ref ma, .null, .int (nI 0)])) := by rw [← hM46]; exact hp_kf hq44 f39
  have o52 : hp_off (fun i => i < 300) M M45 := by rw [← hM46]; exact hp_off.tr o43 (hp_off.nw hq44 (by show _ < 300; omega))
  have hf2 : fd M45 fa p := ⟨f50, hf1.2⟩
  refine lv_dup hx hb dH_init_39 rfl ?_
  refine lv_aload_n hx hb dH_init_40 rfl (lv_at hl 0 rfl) ?_
  refine hp_get hx hb hG in_H hown hK hst f51 rfl 0 (by decide) (hG _ fl_H_23) rfl rfl dH_init_41 ?_
  refine ct_callI (av2 := [.ref fa]) (rest := [.ref sa, .ref xa]) (b := sa) X hst (c_S_init l D Y lo (fa := fa) f47) wc_S_init ml_H_29 wi_S_init wn_S rfl md_S_init (by decide) hl.1 rfl (Nat.le_of_ble_eq_true rfl) ⟨by omega, by omega⟩ dH_init_44 (fun r Mb H locs hp hst => ?_)
  obtain ⟨rfl, hs1, ho2⟩ := hp
  have g53 := ho2.of f48 (by decide)
  have g54 := ho2.of f49 (by decide)
  have g55 := ho2.of f50 (by decide)
  have g56 := ho2.of f51 (by decide)
  have o57 : hp_off (fun i => i < 300) M Mb := o52.tr (ho2.wk (fun i hi => by omega))
  have hbase : hp_off (fun i => i = 0 ∨ i = 3) Mb Mb := hp_off.rf
  refine hp_putF hx hb hG in_H ty_H tyok_H nm_H hown hK hst g56 rfl 1 (by decide) (hG _ fl_H_32) rfl rfl hin rfl rfl rfl (Nat.le_of_ble_eq_true rfl) dH_init_47 (fs' := [.ref fa, .ref sa, .null, .ref ra, .ref ma, .null, .int (nI 0)]) rfl (fun H locs hst => ?_)
  generalize hM59 : hp_up Mb xa ((0, 0), .inr (4, [.ref fa, .ref sa, .null, .ref ra, .ref ma, .null, .int (nI 0)])) = M58 at hst
  have f60 : M58 xa = some ((0, 0), .inr (4, [.ref fa, .ref sa, .null, .ref ra, .ref ma, .null, .int (nI 0)])) := by rw [← hM59]; exact hp_up_self _ _ _
  have f61 : M58 ra = some ((0, 1), e_q Y 12 (fun _ => none)) := by rw [← hM59]; exact hp_kt g56 g53 (tg2 (by decide))
  have f62 : M58 ma = some ((0, 2), e_q Y 256 (fun _ => none)) := by rw [← hM59]; exact hp_kt g56 g54 (tg2 (by decide))
  have f63 : M58 fa = some ((1, 0), .inr (0, [.int (nI p)])) := by rw [← hM59]; exact hp_kt g56 g55 (tg1 (by decide))
  have o64 : hp_off (fun i => i = 0 ∨ i = 3) Mb M58 := by rw [← hM59]; exact hp_off.tr hbase (hp_off.up g56 (by show _ ∨ _; omega))
  refine lv_aload_n hx hb dH_init_50 rfl (lv_at hl 0 rfl) ?_
  refine hp_new hx hb hG in_T ty_T tyok_T hown (hG _ cl_H_36) (hG _ is_T) (hG _ wn_T) hK hst (3, 0) (ci := 2) rfl (fs := [.null, .null]) fs0_T (rm_c (by omega)) (rm_s (by omega)) dH_init_51 (fun ta H hq65 hst => ?_)
  generalize hM67 : hp_up M58 ta ((3, 0), .inr (2, [.null, .null])) = M66 at hst
  have f68 : M66 ta = some ((3, 0), .inr (2, [.null, .null])) := by rw [← hM67]; exact hp_up_self _ _ _
  have f69 : M66 ra = some ((0, 1), e_q Y 12 (fun _ => none)) := by rw [← hM67]; exact hp_kf hq65 f61
  have f70 : M66 ma = some ((0, 2), e_q Y 256 (fun _ => none)) := by rw [← hM67]; exact hp_kf hq65 f62
  have f71 : M66 fa = some ((1, 0), .inr (0, [.int (nI p)])) := by rw [← hM67]; exact hp_kf hq65 f63
  have f72 : M66 xa = some ((0, 0), .inr (4, [.ref fa, .ref sa, .null, .ref ra, .ref ma, .null, .int (nI 0)])) := by rw [← hM67]; exact hp_kf hq65 f60
  have o73 : hp_off (fun i => i = 0 ∨ i = 3) Mb M66 := by rw [← hM67]; exact hp_off.tr o64 (hp_off.nw hq65 (by show _ ∨ _; omega))
  refine lv_dup hx hb dH_init_54 rfl ?_
  refine lv_aload_n hx hb dH_init_55 rfl (lv_at hl 0 rfl) ?_
  refine hp_get hx hb hG in_H hown hK hst f72 rfl 0 (by decide) (hG _ fl_H_23) rfl rfl dH_init_56 ?_
  refine ct_callI (av2 := [.ref fa]) (rest := [.ref ta, .ref xa]) (b := ta) X hst (c_T_init l D Y lo (fa := fa) f68) wc_T_init ml_H_38 wi_T_init wn_T rfl md_T_init (by decide) hl.1 rfl (Nat.le_of_ble_eq_true rfl) ⟨by omega, by omega⟩ dH_init_59 (fun r Mc H locs hp hst => ?_)
  obtain ⟨rfl, ht1, ho3⟩ := hp
  have g74 := ho3.of f69 (by decide)
  have g75 := ho3.of f70 (by decide)
  have g76 := ho3.of f71 (by decide)
  have g77 := ho3.of f72 (by decide)
  have hob : hp_off (fun i => i = 0 ∨ i = 3) Mb Mc := o73.tr (ho3.wk (fun i hi => by omega))
  have hfc : fd Mc fa p := ⟨g76, hf1.2⟩
  have hsc := hs1.off hob (by omega)
  have htc := ht1
  have hoffc : hp_off (fun i => i < 300) M Mc := o57.tr (hob.wk (fun i hi => by omega))
  have hbase2 : hp_off (fun i => i = 0 ∨ 10 ≤ i ∧ i < 300) Mc Mc := hp_off.rf
  refine hp_putF hx hb hG in_H ty_H tyok_H nm_H hown hK hst g77 rfl 2 (by decide) (hG _ fl_H_39) rfl rfl hin rfl rfl rfl (Nat.le_of_ble_eq_true rfl) dH_init_62 (fs' := [.ref fa, .ref sa, .ref ta, .ref ra, .ref ma, .null, .int (nI 0)]) rfl (fun H locs hst => ?_)
  generalize hM79 : hp_up Mc xa ((0, 0), .inr (4, [.ref fa, .ref sa, .ref ta, .ref ra, .ref ma, .null, .int (nI 0)])) = M78 at hst
  have f80 : M78 xa = some ((0, 0), .inr (4, [.ref fa, .ref sa, .ref ta, .ref ra, .ref ma, .null, .int (nI 0)])) := by rw [← hM79]; exact hp_up_self _ _ _
  have f81 : M78 ra = some ((0, 1), e_q Y 12 (fun _ => none)) := by rw [← hM79]; exact hp_kt g77 g74 (tg2 (by decide))
  have f82 : M78 ma = some ((0, 2), e_q Y 256 (fun _ => none)) := by rw [← hM79]; exact hp_kt g77 g75 (tg2 (by decide))
  have f83 : M78 fa = some ((1, 0), .inr (0, [.int (nI p)])) := by rw [← hM79]; exact hp_kt g77 g76 (tg1 (by decide))
  have o84 : hp_off (fun i => i = 0 ∨ 10 ≤ i ∧ i < 300) Mc M78 := by rw [← hM79]; exact hp_off.tr hbase2 (hp_off.up g77 (by show _ ∨ _; omega))
  refine lv_iconst (v := nI 0) hx hb dH_init_65 (by decide +kernel) ?_
  refine lv_istore_n (lv' := [(2, .int (nI 0)), (0, .ref xa), (1, .int x)]) hx hb dH_init_66 rfl hl (by decide) rfl (fun ls hl => ?_)
  have hxx : M78 xa = some ((0, 0), .inr (4, [.ref fa, .ref sa, .ref ta, .ref ra, .ref ma, .null, .int (nI 0)])) := f80
  refine W.widen (k := 12 + 3 * 0) (n := 21036 + 35 * 0) (by omega) (by omega) ?_
  have LP : ∀ (kk : Nat) (i : Nat) (M1 : Hm) (B : Nat → Nat) (gr : Nat → Option Nat) (H : Heap) (locs : List Loc) (ls : Array Slot), kk = 12 - i → (i ≤ 12) → (M1 xa = some ((0, 0), .inr (4, [.ref fa, .ref sa, .ref ta, .ref ra, .ref ma, .null, .int (nI 0)]))) → (M1 ra = some ((0, 1), e_q Y 12 gr)) → (∀ j, j < i → gr j = some (B (10 + j))) → (M1 ma = some ((0, 2), e_q Y 256 (fun _ => none))) → (∀ j, j < i → po Y M1 (10 + j) (B (10 + j)) 16 []) → (hp_off (fun i => i = 0 ∨ 10 ≤ i ∧ i < 300) Mc M1) → hp_st D vC lo M1 sg.heap H locs → lv_has ls 3 [(0, .ref xa), (1, .int x), (2, .int (nI i))] → cW pg l eg sg mg [.ref xa, .int x] bw mt cg y_H_init b_H_init 3 none 3 D lo (fun r9 M' => ∃ (p : Nat) (A : Nat → Nat), r9 = none ∧ lpr x p ∧ cs Y M' xa A p (fun _ _ => 0) (fun _ => 16) (fun i => 10 + i) 0 ∧ hp_off (fun i => i < 300) M M') nx 819 30451 H locs (12 + 3 * i) (21036 + 35 * i) (F0 mg 67 ls []) := by
    intro kk
    induction kk using Nat.strongRecOn with
    | _ kk ihLP =>
    intro i M1 B gr H locs ls hkk hi9 hx0 hra hgr hma hpo ho hst hl
    refine lv_iload_n hx hb dH_init_67 rfl (lv_at hl 2 rfl) ?_
    refine lv_aload_n hx hb dH_init_68 rfl (lv_at hl 0 rfl) ?_
    refine hp_get hx hb hG in_H hown hK hst hx0 rfl 3 (by decide) (hG _ fl_H_11) rfl rfl dH_init_69 ?_
    refine hp_alenq hx hb hK rfl hst hra dH_init_72 ?_
    refine lv_icmp_ge hx hb dH_init_73 (tgt := 95) rfl (fun hc => ?_) (fun hc => ?_)
    · skip
      have hc5 : 12 ≤ i := (nI_leI (by omega) (by omega)).mp hc
      refine lv_iconst (v := nI 0) hx hb dH_init_95 (by decide +kernel) ?_
      refine lv_istore_n (lv' := [(2, .int (nI 0)), (0, .ref xa), (1, .int x)]) hx hb dH_init_96 rfl hl (by decide) rfl (fun ls hl => ?_)
      have hi12 : i = 12 := by omega
      refine W.widen (k := 48 + 3 * 0) (n := 21456 + 35 * 0) (by omega) (by omega) ?_
      have LQ : ∀ (kk : Nat) (i : Nat) (M1 : Hm) (B : Nat → Nat) (gr gm : Nat → Option Nat) (H : Heap) (locs : List Loc) (ls : Array Slot), kk = 256 - i → (i ≤ 256) → (M1 xa = some ((0, 0), .inr (4, [.ref fa, .ref sa, .ref ta, .ref ra, .ref ma, .null, .int (nI 0)]))) → (M1 ra = some ((0, 1), e_q Y 12 gr)) → (∀ j, j < 12 → gr j = some (B (10 + j))) → (M1 ma = some ((0, 2), e_q Y 256 gm)) → (∀ j, j < i → gm j = some (B (30 + j))) → (∀ j, j < 12 → po Y M1 (10 + j) (B (10 + j)) 16 []) → (∀ j, j < i → po Y M1 (30 + j) (B (30 + j)) 16 []) → (hp_off (fun i => i = 0 ∨ 10 ≤ i ∧ i < 300) Mc M1) → hp_st D vC lo M1 sg.heap H locs → lv_has ls 3 [(0, .ref xa), (1, .int x), (2, .int (nI i))] → cW pg l eg sg mg [.ref xa, .int x] bw mt cg y_H_init b_H_init 3 none 3 D lo (fun r9 M' => ∃ (p : Nat) (A : Nat → Nat), r9 = none ∧ lpr x p ∧ cs Y M' xa A p (fun _ _ => 0) (fun _ => 16) (fun i => 10 + i) 0 ∧ hp_off (fun i => i < 300) M M') nx 819 30451 H locs (48 + 3 * i) (21456 + 35 * i) (F0 mg 97 ls []) := by
        intro kk
        induction kk using Nat.strongRecOn with
        | _ kk ihLQ =>
        intro i M1 B gr gm H locs ls hkk hi9 hx0 hra hgr hma hgm hpo hpm ho hst hl
        refine lv_iload_n hx hb dH_init_97 rfl (lv_at hl 2 rfl) ?_
        refine lv_aload_n hx hb dH_init_98 rfl (lv_at hl 0 rfl) ?_
        refine hp_get hx hb hG in_H hown hK hst hx0 rfl 4 (by decide) (hG _ fl_H_15) rfl rfl dH_init_99 ?_
        refine hp_alenq hx hb hK rfl hst hma dH_init_102 ?_
        refine lv_icmp_ge hx hb dH_init_103 (tgt := 125) rfl (fun hc => ?_) (fun hc => ?_)
        · skip
          have hc5 : 256 ≤ i := (nI_leI (by omega) (by omega)).mp hc
          refine lv_aload_n hx hb dH_init_125 rfl (lv_at hl 0 rfl) ?_
          have hi12 : i = 256 := by omega
          refine hp_new hx hb hG in_P ty_P tyok_P hown (hG _ cl_H_9) (hG _ is_P) (hG _ wn_P) hK hst (22, 0) (ci := 1) rfl (fs := [.null, .null, .int (nI 0)]) fs0_P (rm_c (by omega)) (rm_s (by omega)) dH_init_126 (fun qn H hq85 hst => ?_)
          generalize hM87 : hp_up M1 qn ((22, 0), .inr (1, [.null, .null, .int (nI 0)])) = M86 at hst
          have f88 : M86 qn = some ((22, 0), .inr (1, [.null, .null, .int (nI 0)])) := by rw [← hM87]; exact hp_up_self _ _ _
          have f89 : M86 xa = some ((0, 0), .inr (4, [.ref fa, .ref sa, .ref ta, .ref ra, .ref ma, .null, .int (nI 0)])) := by rw [← hM87]; exact hp_kf hq85 hx0
          have f90 : M86 ra = some ((0, 1), e_q Y 12 gr) := by rw [← hM87]; exact hp_kf hq85 hra
          have f91 : M86 ma = some ((0, 2), e_q Y 256 gm) := by rw [← hM87]; exact hp_kf hq85 hma
          have o92 : hp_off (fun i => i = 0 ∨ 10 ≤ i ∧ i < 300) Mc M86 := by rw [← hM87]; exact hp_off.tr ho (hp_off.nw hq85 (by show _ ∨ _; omega))
          have hMq := hM87
          have hqn := hq85
          refine lv_dup hx hb dH_init_129 rfl ?_
          refine ct_callIN (av2 := []) (rest := [.ref qn, .ref xa]) (b := qn) X hst (c_P_init l D Y lo (id := 22) f88) wc_P_init mN_H_43 wi_P_init wn_P rfl md_P_init (by decide) hl.1 rfl (Nat.le_of_ble_eq_true rfl) ⟨by omega, by omega⟩ dH_init_130 (fun r M' H locs hp hst => ?_)
          obtain ⟨rfl, hpn, hon⟩ := hp
          have g93 := hon.of f89 (by show ¬ _ = _; omega)
          have g94 := hon.of f90 (by show ¬ _ = _; omega)
          have g95 := hon.of f91 (by show ¬ _ = _; omega)
          have o96 : hp_off (fun i => i = 0 ∨ 10 ≤ i ∧ i < 300) Mc M' := o92.tr (hon.wk (fun i hi => by omega))
          refine hp_put hx hb hG in_H ty_H tyok_H nm_H hown hK hst g93 rfl 5 (by decide) (hG _ fl_H_44) rfl rfl rfl rfl (Nat.le_of_ble_eq_true rfl) dH_init_133 (fs' := [.ref fa, .ref sa, .ref ta, .ref ra, .ref ma, .ref qn, .int (nI 0)]) rfl (fun H locs hst => ?_)
          generalize hM98 : hp_up M' xa ((0, 0), .inr (4, [.ref fa, .ref sa, .ref ta, .ref ra, .ref ma, .ref qn, .int (nI 0)])) = M97 at hst
          have f99 : M97 xa = some ((0, 0), .inr (4, [.ref fa, .ref sa, .ref ta, .ref ra, .ref ma, .ref qn, .int (nI 0)])) := by rw [← hM98]; exact hp_up_self _ _ _
          have f100 : M97 ra = some ((0, 1), e_q Y 12 gr) := by rw [← hM98]; exact hp_kt g93 g94 (tg2 (by decide))
          have f101 : M97 ma = some ((0, 2), e_q Y 256 gm) := by rw [← hM98]; exact hp_kt g93 g95 (tg2 (by decide))
          have o102 : hp_off (fun i => i = 0 ∨ 10 ≤ i ∧ i < 300) Mc M97 := by rw [← hM98]; exact hp_off.tr o96 (hp_off.up g93 (by show _ ∨ _; omega))
          have hoA : hp_off (fun i => i = 0) M' M97 := by rw [← hM98]; exact hp_off.up g93 rfl
          have hpo3 : ∀ j, j < 12 → po Y M97 (10 + j) (B (10 + j)) 16 [] := by
            intro j hj
            have h8 : po Y M86 (10 + j) (B (10 + j)) 16 [] := by rw [← hMq]; exact (hpo j (by omega)).off (hp_off.nw (S := fun k => k = 22) hqn rfl) (by omega)
            exact (h8.off hon (by omega)).off hoA (by omega)
          have hpm3 : ∀ j, j < 256 → po Y M97 (30 + j) (B (30 + j)) 16 [] := by
            intro j hj
            have h8 : po Y M86 (30 + j) (B (30 + j)) 16 [] := by rw [← hMq]; exact (hpm j (by omega)).off (hp_off.nw (S := fun k => k = 22) hqn rfl) (by omega)
            exact (h8.off hon (by omega)).off hoA (by omega)
          have hsp3 : po Y M97 22 qn 16 [] := hpn.off hoA (by omega)
          have a22 : (adr fa sa ta ra ma (va_up B 22 qn)) (10 + 12) = qn := by rw [adr_B (by omega)]; exact va_up_self _ _ _
          have aj : ∀ j, j < 12 → (adr fa sa ta ra ma (va_up B 22 qn)) (10 + j) = B (10 + j) := fun j hj => by rw [adr_B (by omega)]; exact va_up_ne _ _ (by omega)
          have am : ∀ j, j < 256 → (adr fa sa ta ra ma (va_up B 22 qn)) (30 + j) = B (30 + j) := fun j hj => by rw [adr_B (by omega)]; exact va_up_ne _ _ (by omega)
          have hcsF : cs Y M97 xa (adr fa sa ta ra ma (va_up B 22 qn)) p (fun _ _ => 0) (fun _ => 16) (fun i => 10 + i) 0 := by
            refine ⟨by rw [a22]; exact f99, ⟨_, f100, fun j hj => by rw [aj j hj]; exact hgr j hj⟩, ⟨_, f101, fun j hj => by rw [am j hj]; exact hgm j (by omega)⟩, ⟨hfc.off o102 (by omega), hlp.1⟩, hsc.off o102 (by omega), ⟨_, htc.off o102 (by omega)⟩, ⟨fun j hj => ⟨(by omega : 10 ≤ 10 + j), (by omega : 10 + j < 23)⟩, fun j k _ _ h => (by have h : 10 + j = 10 + k := h; omega)⟩, fun j hj => by rw [aj j hj]; show po Y _ (10 + j) _ 16 (td (fun _ => 0) 9139); rw [td_nil]; exact hpo3 j hj, ⟨[], by rw [a22]; exact hsp3⟩, fun j hj => ⟨[], by rw [am j hj]; exact hpm3 j hj⟩, fun _ _ => (by omega : 16 ≤ 18278), fun _ _ => (by omega : 16 ≤ 338), fun _ _ _ => (by omega : 0 < p)⟩
          exact ct_vret X hst ⟨p, _, rfl, hlp, hcsF, hoffc.tr (o102.wk (fun i hi => by omega))⟩ (by omega) (by omega) dH_init_136
        · skip
          have hc5 : ¬ 256 ≤ i := fun z => hc ((nI_leI (by omega) (by omega)).mpr z)
          refine lv_aload_n hx hb dH_init_106 rfl (lv_at hl 0 rfl) ?_
          refine hp_get hx hb hG in_H hown hK hst hx0 rfl 4 (by decide) (hG _ fl_H_15) rfl rfl dH_init_107 ?_
          refine lv_iload_n hx hb dH_init_110 rfl (lv_at hl 2 rfl) ?_
          refine hp_new hx hb hG in_P ty_P tyok_P hown (hG _ cl_H_9) (hG _ is_P) (hG _ wn_P) hK hst (30 + i, 0) (ci := 1) rfl (fs := [.null, .null, .int (nI 0)]) fs0_P (rm_c (by omega)) (rm_s (by omega)) dH_init_111 (fun qn H hq85 hst => ?_)
          generalize hM87 : hp_up M1 qn ((30 + i, 0), .inr (1, [.null, .null, .int (nI 0)])) = M86 at hst
          have f88 : M86 qn = some ((30 + i, 0), .inr (1, [.null, .null, .int (nI 0)])) := by rw [← hM87]; exact hp_up_self _ _ _
          have f89 : M86 xa = some ((0, 0), .inr (4, [.ref fa, .ref sa, .ref ta, .ref ra, .ref ma, .null, .int (nI 0)])) := by rw [← hM87]; exact hp_kf hq85 hx0
          have f90 : M86 ra = some ((0, 1), e_q Y 12 gr) := by rw [← hM87]; exact hp_kf hq85 hra
          have f91 : M86 ma = some ((0, 2), e_q Y 256 gm) := by rw [← hM87]; exact hp_kf hq85 hma
          have o92 : hp_off (fun i => i = 0 ∨ 10 ≤ i ∧ i < 300) Mc M86 := by rw [← hM87]; exact hp_off.tr ho (hp_off.nw hq85 (by show _ ∨ _; omega))
          refine lv_dup hx hb dH_init_114 rfl ?_
          have hMq := hM87
          have hqn := hq85
          refine ct_callIN (av2 := []) (rest := [.ref qn, .int (nI i), .ref ma]) (b := qn) X hst (c_P_init l D Y lo (id := 30 + i) f88) wc_P_init mN_H_43 wi_P_init wn_P rfl md_P_init (by decide) hl.1 rfl (Nat.le_of_ble_eq_true rfl) ⟨by omega, by omega⟩ dH_init_115 (fun r M' H locs hp hst => ?_)
          obtain ⟨rfl, hpn, hon⟩ := hp
          have g93 := hon.of f89 (by show ¬ _ = _; omega)
          have g94 := hon.of f90 (by show ¬ _ = _; omega)
          have g95 := hon.of f91 (by show ¬ _ = _; omega)
          have o96 : hp_off (fun i => i = 0 ∨ 10 ≤ i ∧ i < 300) Mc M' := o92.tr (hon.wk (fun i hi => by omega))
          obtain ⟨fsq, cellq⟩ := hpn.cell
          refine hp_aast (r := (R_P, T_P, 3)) hx hb hK rfl hst g95 cellq rfl (j := i) (by omega) (by omega) dH_init_118 (fun H locs hst => ?_)
          generalize hM98 : hp_up M' ma ((0, 2), e_q Y 256 (va_up gm i (some qn))) = M97 at hst
          have f99 : M97 ma = some ((0, 2), e_q Y 256 (va_up gm i (some qn))) := by rw [← hM98]; exact hp_up_self _ _ _
          have f100 : M97 xa = some ((0, 0), .inr (4, [.ref fa, .ref sa, .ref ta, .ref ra, .ref ma, .null, .int (nI 0)])) := by rw [← hM98]; exact hp_kt g95 g93 (tg2 (by decide))
          have f101 : M97 ra = some ((0, 1), e_q Y 12 gr) := by rw [← hM98]; exact hp_kt g95 g94 (tg2 (by decide))
          have o102 : hp_off (fun i => i = 0 ∨ 10 ≤ i ∧ i < 300) Mc M97 := by rw [← hM98]; exact hp_off.tr o96 (hp_off.up g95 (by show _ ∨ _; omega))
          have hoA : hp_off (fun i => i = 0) M' M97 := by rw [← hM98]; exact hp_off.up g95 rfl
          have hpm2 : ∀ j, j < i + 1 → po Y M97 (30 + j) (va_up B (30 + i) qn (30 + j)) 16 [] := by
            intro j hj
            by_cases h9 : j = i
            · subst h9; rw [va_up_self]; exact hpn.off hoA (by omega)
            · rw [va_up_ne _ _ (by omega)]
              have h8 : po Y M86 (30 + j) (B (30 + j)) 16 [] := by rw [← hMq]; exact (hpm j (by omega)).off (hp_off.nw (S := fun k => k = 30 + i) hqn rfl) (by omega)
              exact (h8.off hon (by omega)).off hoA (by omega)
          have hpo2 : ∀ j, j < 12 → po Y M97 (10 + j) (va_up B (30 + i) qn (10 + j)) 16 [] := by
            intro j hj
            rw [va_up_ne _ _ (by omega)]
            have h8 : po Y M86 (10 + j) (B (10 + j)) 16 [] := by rw [← hMq]; exact (hpo j (by omega)).off (hp_off.nw (S := fun k => k = 30 + i) hqn rfl) (by omega)
            exact (h8.off hon (by omega)).off hoA (by omega)
          have hgm2 : ∀ j, j < i + 1 → va_up gm i (some qn) j = some (va_up B (30 + i) qn (30 + j)) := by
            intro j hj
            by_cases h9 : j = i
            · subst h9; rw [va_up_self, va_up_self]
            · rw [va_up_ne _ _ h9, va_up_ne _ _ (by omega)]; exact hgm j (by omega)
          have hgr2 : ∀ j, j < 12 → gr j = some (va_up B (30 + i) qn (10 + j)) := by
            intro j hj
            rw [va_up_ne _ _ (by omega)]; exact hgr j hj
          refine W.widen (k := 48 + 3 * (i + 1)) (n := 21456 + 35 * (i + 1)) (by omega) (by omega) ?_
          refine lv_iinc (lv' := [(2, .int (nI (i + 1))), (0, .ref xa), (1, .int x)]) hx hb dH_init_119 hl (k := 2) rfl (ii_p _) (by decide) rfl (fun ls hl => ?_)
          refine lv_goto hx hb dH_init_122 (tgt := 97) rfl ?_
          exact ihLQ _ (by omega) (i + 1) M97 (va_up B (30 + i) qn) gr (va_up gm i (some qn)) _ _ _ rfl (by omega) f100 f101 hgr2 f99 hgm2 hpo2 hpm2 o102 hst (lv_sub hl [1, 2, 0] rfl)
      exact LQ _ 0 M1 B gr (fun _ => none) _ _ _ rfl (by omega) hx0 hra (fun j hj => hgr j (by omega)) hma (fun j hj => by omega) (fun j hj => hpo j (by omega)) (fun j hj => by omega) ho hst (lv_sub hl [1, 2, 0] rfl)
    · skip
      have hc5 : ¬ 12 ≤ i := fun z => hc ((nI_leI (by omega) (by omega)).mpr z)
      refine lv_aload_n hx hb dH_init_76 rfl (lv_at hl 0 rfl) ?_
      refine hp_get hx hb hG in_H hown hK hst hx0 rfl 3 (by decide) (hG _ fl_H_11) rfl rfl dH_init_77 ?_
      refine lv_iload_n hx hb dH_init_80 rfl (lv_at hl 2 rfl) ?_
      refine hp_new hx hb hG in_P ty_P tyok_P hown (hG _ cl_H_9) (hG _ is_P) (hG _ wn_P) hK hst (10 + i, 0) (ci := 1) rfl (fs := [.null, .null, .int (nI 0)]) fs0_P (rm_c (by omega)) (rm_s (by omega)) dH_init_81 (fun qn H hq85 hst => ?_)
      generalize hM87 : hp_up M1 qn ((10 + i, 0), .inr (1, [.null, .null, .int (nI 0)])) = M86 at hst
      have f88 : M86 qn = some ((10 + i, 0), .inr (1, [.null, .null, .int (nI 0)])) := by rw [← hM87]; exact hp_up_self _ _ _
      have f89 : M86 xa = some ((0, 0), .inr (4, [.ref fa, .ref sa, .ref ta, .ref ra, .ref ma, .null, .int (nI 0)])) := by rw [← hM87]; exact hp_kf hq85 hx0
      have f90 : M86 ra = some ((0, 1), e_q Y 12 gr) := by rw [← hM87]; exact hp_kf hq85 hra
      have f91 : M86 ma = some ((0, 2), e_q Y 256 (fun _ => none)) := by rw [← hM87]; exact hp_kf hq85 hma
      have o92 : hp_off (fun i => i = 0 ∨ 10 ≤ i ∧ i < 300) Mc M86 := by rw [← hM87]; exact hp_off.tr ho (hp_off.nw hq85 (by show _ ∨ _; omega))
      refine lv_dup hx hb dH_init_84 rfl ?_
      have hMq := hM87
      have hqn := hq85
      refine ct_callIN (av2 := []) (rest := [.ref qn, .int (nI i), .ref ra]) (b := qn) X hst (c_P_init l D Y lo (id := 10 + i) f88) wc_P_init mN_H_43 wi_P_init wn_P rfl md_P_init (by decide) hl.1 rfl (Nat.le_of_ble_eq_true rfl) ⟨by omega, by omega⟩ dH_init_85 (fun r M' H locs hp hst => ?_)
      obtain ⟨rfl, hpn, hon⟩ := hp
      have g93 := hon.of f89 (by show ¬ _ = _; omega)
      have g94 := hon.of f90 (by show ¬ _ = _; omega)
      have g95 := hon.of f91 (by show ¬ _ = _; omega)
      have o96 : hp_off (fun i => i = 0 ∨ 10 ≤ i ∧ i < 300) Mc M' := o92.tr (hon.wk (fun i hi => by omega))
      obtain ⟨fsq, cellq⟩ := hpn.cell
      refine hp_aast (r := (R_P, T_P, 3)) hx hb hK rfl hst g94 cellq rfl (j := i) (by omega) (by omega) dH_init_88 (fun H locs hst => ?_)
      generalize hM98 : hp_up M' ra ((0, 1), e_q Y 12 (va_up gr i (some qn))) = M97 at hst
      have f99 : M97 ra = some ((0, 1), e_q Y 12 (va_up gr i (some qn))) := by rw [← hM98]; exact hp_up_self _ _ _
      have f100 : M97 xa = some ((0, 0), .inr (4, [.ref fa, .ref sa, .ref ta, .ref ra, .ref ma, .null, .int (nI 0)])) := by rw [← hM98]; exact hp_kt g94 g93 (tg2 (by decide))
      have f101 : M97 ma = some ((0, 2), e_q Y 256 (fun _ => none)) := by rw [← hM98]; exact hp_kt g94 g95 (tg2 (by decide))
      have o102 : hp_off (fun i => i = 0 ∨ 10 ≤ i ∧ i < 300) Mc M97 := by rw [← hM98]; exact hp_off.tr o96 (hp_off.up g94 (by show _ ∨ _; omega))
      have hoA : hp_off (fun i => i = 0) M' M97 := by rw [← hM98]; exact hp_off.up g94 rfl
      have hpo2 : ∀ j, j < i + 1 → po Y M97 (10 + j) (va_up B (10 + i) qn (10 + j)) 16 [] := by
        intro j hj
        by_cases h9 : j = i
        · subst h9; rw [va_up_self]; exact hpn.off hoA (by omega)
        · rw [va_up_ne _ _ (by omega)]
          have h8 : po Y M86 (10 + j) (B (10 + j)) 16 [] := by rw [← hMq]; exact (hpo j (by omega)).off (hp_off.nw (S := fun k => k = 10 + i) hqn rfl) (by omega)
          exact (h8.off hon (by omega)).off hoA (by omega)
      have hgr2 : ∀ j, j < i + 1 → va_up gr i (some qn) j = some (va_up B (10 + i) qn (10 + j)) := by
        intro j hj
        by_cases h9 : j = i
        · subst h9; rw [va_up_self, va_up_self]
        · rw [va_up_ne _ _ h9, va_up_ne _ _ (by omega)]; exact hgr j (by omega)
      refine W.widen (k := 12 + 3 * (i + 1)) (n := 21036 + 35 * (i + 1)) (by omega) (by omega) ?_
      refine lv_iinc (lv' := [(2, .int (nI (i + 1))), (0, .ref xa), (1, .int x)]) hx hb dH_init_89 hl (k := 2) rfl (ii_p _) (by decide) rfl (fun ls hl => ?_)
      refine lv_goto hx hb dH_init_92 (tgt := 67) rfl ?_
      exact ihLP _ (by omega) (i + 1) M97 (va_up B (10 + i) qn) (va_up gr i (some qn)) _ _ _ rfl (by omega) f100 f99 hgr2 f101 hpo2 o102 hst (lv_sub hl [1, 2, 0] rfl)
  exact LP _ 0 M78 (fun _ => 0) (fun _ => none) _ _ _ rfl (by omega) hxx f81 (fun j hj => by omega) f82 (fun j hj => by omega) o84 hst (lv_sub hl [1, 2, 0] rfl)
