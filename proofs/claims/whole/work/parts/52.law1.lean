/-! Methods of the law that catch, and what the law may call. -/
def cPx (D : va_G) (Y : Nat → ClassId) (lo b L : Nat) (xs : Nat → Int32) (av : List Value) (M : Hm) : Array Value → State → Prop := va_Pc av (fun U => hp_ok D vC lo M U.heap ∧ b < lo ∧ kx D Y lo b L xs U U.heap)
theorem cPx_blind {D : va_G} {Y : Nat → ClassId} {lo b L : Nat} {xs : Nat → Int32} {av : List Value} {M : Hm} : FrameBlind (cPx D Y lo b L xs av M) := by
  intro a U g mk h
  obtain ⟨h1, h2, h4, h3⟩ := h
  refine ⟨h1, h2, h4, ?_⟩
  exact h3.go (U := U.calling g mk a) h4 (Nat.lt_of_lt_of_le h4 h2.1) (State.WarmedH.refl U) (fun q _ _ => rfl)
/-- a method of the law: by its word w (its code, with a table or without) -/
def cth (l : Launch) (D : va_G) (Y : Nat → ClassId) (lo b L : Nat) (xs : Nat → Int32) (y : MethodName) (w : Cond) (d : Nat) (av : List Value) (M : Hm) (Post : Option Value → Hm → Prop) (mc ms : Nat) : Prop :=
  vx_Met l y (w :: GW) (rmL d mc ms) (cPx D Y lo b L xs av M) (cQ D lo Post) (cX D lo nx) mc ms (fun q => lo ≤ q)
theorem cth_met {l : Launch} {D : va_G} {Y : Nat → ClassId} {lo b L : Nat} {xs : Nat → Int32} {y : MethodName} {w : Cond} {d : Nat} {av : List Value} {M : Hm} {Post : Option Value → Hm → Prop} {mc ms : Nat} (h : cth l D Y lo b L xs y w d av M Post mc ms) : Met l y (w :: GW) (rmL d mc ms) (cPx D Y lo b L xs av M) (cQ D lo Post) mc ms (fun q => lo ≤ q) := by
  intro p e ha hc hk s m args below hf happ hP hK
  obtain ⟨n, o, h1, h2, h3, h4⟩ := h p e ha hc hk s m args below hf happ hP hK
  refine ⟨n, o, h1, h2, h3, ?_⟩
  rcases h4 with h4 | ⟨q, hq, E, ce, L, ⟨M', hx, _⟩, _⟩
  · exact h4
  · exact hx.elim
def cxh (p : Program) (s : State) (m : MethodId) (args : Array Value) (meth : Method) (c : Code) (y : MethodName) (cc : ByteArray) (mL : Nat) (ret : Option FieldType) (w : Cond) (D : va_G) (Y : Nat → ClassId) (lo b L : Nat) (xs : Nat → Int32) (tb : List ExceptionTableEntry) : Prop :=
  p.tables.exec = Jvm.exec ∧ c.code = cc ∧ c.maxLocals = mL ∧ meth.sig.returnType = ret ∧ meth.locks = false ∧ s.vm.findClass y.cls = some m.cls ∧ (∀ w' ∈ w :: GW, w'.before args s = true) ∧ b < lo ∧ kx D Y lo b L xs s s.heap ∧ c.exceptionTable.toList = tb
theorem cth_of {l : Launch} {D : va_G} {Y : Nat → ClassId} {lo b L : Nat} {xs : Nat → Int32} {y : MethodName} {cc : ByteArray} {mL : Nat} {ret : Option FieldType} {hh : List (Nat × Nat × Nat × Nat)} {d : Nat} {av : List Value} {M : Hm} {Post : Option Value → Hm → Prop} {mc ms : Nat} (hy : plainName y.cls = true) (hlen : (lg_sl av).length ≤ mL)
    (body : ∀ (p : Program) (e : Env) (s : State) (m : MethodId) (below : List Frame) (meth : Method) (c : Code) (ls : Array Slot), cxh p s m av.toArray meth c y cc mL ret (.codeWith y cc mL ret hh) D Y lo b L xs (tableOf hh) → hp_st D vC lo M s.heap s.heap [] → lv_has ls mL (lv_args 0 av) →
      cW p l e s m av below meth c y cc mL ret d D lo Post nx mc ms s.heap [] 0 0 (F0 m 0 ls [])) : cth l D Y lo b L xs y (.codeWith y cc mL ret hh) d av M Post mc ms := by
  refine vx_ofWH (cc := cc) (maxL := mL) (ret := ret) (hh := hh) hy rfl ?_
  intro p e s m args below meth c s₁ B hml hv
  obtain ⟨rfl, h1, h0, h2⟩ := hv
  have hts := atoms_spec (ws := .codeWith y cc mL ret hh :: GW) B.pre
  have hl := lv_entry av (n := mL) hlen
  rw [lg_entry_eq]
  exact body p e s m below meth c _ ⟨B.exec, B.bytes, hml, B.returns, B.notSynchronized, findClass_of_methodNamed B.named, hts, h0, h2, vx_table (x := y) B (hts _ List.mem_cons_self)⟩ ⟨h1, va_S.rf, h1.1⟩ hl
theorem cth_ofC {l : Launch} {D : va_G} {Y : Nat → ClassId} {lo b L : Nat} {xs : Nat → Int32} {y : MethodName} {cc : ByteArray} {mL : Nat} {ret : Option FieldType} {d : Nat} {av : List Value} {M : Hm} {Post : Option Value → Hm → Prop} {mc ms : Nat} (hy : plainName y.cls = true) (hlen : (lg_sl av).length ≤ mL)
    (body : ∀ (p : Program) (e : Env) (s : State) (m : MethodId) (below : List Frame) (meth : Method) (c : Code) (ls : Array Slot), cxh p s m av.toArray meth c y cc mL ret (.code y cc mL ret) D Y lo b L xs c.exceptionTable.toList → hp_st D vC lo M s.heap s.heap [] → lv_has ls mL (lv_args 0 av) →
      cW p l e s m av below meth c y cc mL ret d D lo Post nx mc ms s.heap [] 0 0 (F0 m 0 ls [])) : cth l D Y lo b L xs y (.code y cc mL ret) d av M Post mc ms := by
  refine vx_ofW (cc := cc) (maxL := mL) (ret := ret) hy rfl ?_
  intro p e s m args below meth c s₁ B hml ht hv
  obtain ⟨rfl, h1, h0, h2⟩ := hv
  have hts := atoms_spec (ws := .code y cc mL ret :: GW) B.pre
  have hl := lv_entry av (n := mL) hlen
  rw [lg_entry_eq]
  exact body p e s m below meth c _ ⟨B.exec, B.bytes, hml, B.returns, B.notSynchronized, findClass_of_methodNamed B.named, hts, h0, h2, rfl⟩ ⟨h1, va_S.rf, h1.1⟩ hl
section CTH
variable {p : Program} {l : Launch} {e : Env} {s : State} {m : MethodId} {av : List Value} {below : List Frame} {meth : Method} {c : Code} {y : MethodName} {cc : ByteArray} {mL : Nat} {ret : Option FieldType} {w : Cond} {d : Nat} {D : va_G} {Y : Nat → ClassId} {lo b L : Nat} {xs : Nat → Int32} {Post : Option Value → Hm → Prop} {PX : String → Hm → Prop} {mc ms : Nat} {H : Heap} {locs : List Loc} {cells slots pc index : Nat} {ls : Array Slot} {M : Hm} {rest st0 : List Value} {tb : List ExceptionTableEntry}
variable {y2 : MethodName} {cc2 : ByteArray} {mL2 : Nat} {ret2 : Option FieldType} {d2 : Nat} {av2 : List Value} {Post2 : Option Value → Hm → Prop} {PX2 : String → Hm → Prop} {mc2 ms2 : Nat}
theorem ch_iret {v : Int32} (X : cxh p s m av.toArray meth c y cc mL (some .int) w D Y lo b L xs tb) (hst : hp_st D vC lo M s.heap H locs) (hP : Post (some (.int v)) M) (hc : cells ≤ mc) (hs : slots ≤ ms) (hdg : decode cc pc = .ok (.ireturn, 1)) : cW p l e s m av below meth c y cc mL (some .int) d D lo Post PX mc ms H locs cells slots (F0 m pc ls [.int v]) := by
  obtain ⟨hx, hb, hml, hr, hlocks, -⟩ := X
  refine vx_ret (W.widen hc hs ?_)
  exact W.iret hx hb hr (fun t ht hW => ⟨⟨_, M, rfl, hP, by rw [ht]; exact hst.1⟩, hst.2.1.F ht⟩) hst.2.1.2.2 hdg hlocks
/-- a call of the class's method, under the table's rows: first IndexOutOfBounds, then (if there is a second) IllegalArgument -/
theorem ch_callV {x ci a0 b0 h1 : Nat} {tl : List (Nat × Nat × Nat × Nat)} {t : Nat × Nat} {fs : List Value} {q : vw_C} (X : cxh p s m av.toArray meth c y cc mL ret w D Y lo b L xs (tableOf ((a0, b0, h1, 13) :: tl))) (hyc : y.cls = R_L) (hst : hp_st D vC lo M s.heap H locs) (hM : ct l D Y lo y2 cc2 mL2 ret2 d2 (.ref x :: av2) M Post2 PX2 mc2 ms2) (he : M x = some (t, .inr (ci, fs))) (hc : vC[ci]? = some q)
    (hcode : Cond.code y2 cc2 mL2 ret2 ∈ GW) (hlink : Cond.methodLink y.cls index y2 ∈ GW) (hins : Cond.instanceMethod y2 ∈ GW) (hsel : Cond.selects q.1 y2 y2 ∈ GW) (hini : Cond.initialized y2.cls ∈ GW) (hd : md y2 av2.length) (hR : d2 + 1 ≤ d ∧ 8 + (mL2 + 11) + 36 * d2 ≤ 36 * d)
    (hsize : ls.size = mL) (hstack : st0 = av2.reverse ++ .ref x :: rest) (hW : (rest.map fun v => v.category).sum ≤ 8) (hf : cells + mc2 ≤ mc ∧ slots + ms2 ≤ ms) (hdg : decode cc pc = .ok (.invokevirtual index, 3)) (hcv1 : covers (⟨a0, b0, h1, 13⟩ : ExceptionTableEntry) pc = true)
    (kk : ∀ (r : Option Value) (M' : Hm) (H' : Heap) (locs' : List Loc), Post2 r M' → hp_st D vC lo M' s.heap H' locs' → cW p l e s m av below meth c y cc mL ret d D lo Post PX mc ms H' locs' (cells + mc2) (slots + ms2) (F0 m (pc + 3) ls (r.toList ++ rest)))
    (kx9 : ∀ (E : String) (M' : Hm) (q9 : Nat) (H' : Heap) (locs' : List Loc), PX2 E M' → hp_st D vC lo M' s.heap H' locs' → (E = EI ∧ cW p l e s m av below meth c y cc mL ret d D lo Post PX mc ms H' locs' (cells + mc2) (slots + ms2) (F0 m h1 ls [.ref q9])) ∨ (E = EA ∧ ∃ h2, tl = [(a0, b0, h2, 18)] ∧ cW p l e s m av below meth c y cc mL ret d D lo Post PX mc ms H' locs' (cells + mc2) (slots + ms2) (F0 m h2 ls [.ref q9]))) :
    cW p l e s m av below meth c y cc mL ret d D lo Post PX mc ms H locs cells slots (F0 m pc ls st0) := by
  obtain ⟨hx, hb, hml, hrt, hlocks, ho, hts, hbl, hkx, htb⟩ := X
  have hkz := hkx.1
  have hG : ∀ w, w ∈ GW → w.before av.toArray s = true := fun w h => hts w (List.mem_cons_of_mem _ h)
  have hr := vx_runV (p := p) (l := l) (e := e) (below := below) (meth := meth) (H := H) (locs := locs) (cells := cells) (slots := slots) (R := rmL d mc ms) (C := q.1) (As := av2) (rest := rest) (g := F0 m pc ls st0) ⟨hx, hb, hml, ho, hts⟩ hM ⟨callB_of av2.length hts (gi hcode) rfl rfl rfl (hG _ hini) (hG _ hlink) hd hR, hG _ hins, hG _ hsel⟩ ⟨cP_blind, va_recv (q0 := 0) hkz.1 (hst.1.P he) hc rfl, fun U hU hW => ⟨rfl, by rw [hU]; exact hst.1, by rw [hU]; exact hkz.go hW hst.2.1.2.1⟩⟩ rfl rfl hsize hstack (lv_room hW) hdg hf
  intro T hT X0
  rcases hr T hT X0 with ⟨v, st₀, t, T', L, h0, X', hL, e1, e2, ⟨⟨r, M', hv, hp, hok⟩, hF⟩, st⟩ | ⟨q9, st₀, t, T', L, E, ce, h0, X', hL, e1, e2, ⟨M', hp, hok, hF⟩, hce, hcv, hcl, st⟩
  · cases hv
    obtain ⟨k1, k2, k3⟩ := vx_keep (A1 := fun q => lo ≤ q) h0 e1 hst.2.1 (fun q _ h => h) (fun q h => h) hL hF
    obtain ⟨t2, a1, b1⟩ := kk v M' T'.heap (locs ++ L) hp ⟨by rw [e1]; exact hok, k3, hst.2.2⟩ T' rfl X'
    exact ⟨t2, st t2 a1, b1⟩
  · obtain ⟨k1, k2, k3⟩ := vx_keep (A1 := fun q => lo ≤ q) h0 e1 hst.2.1 (fun q _ h => h) (fun q h => h) hL hF
    have ho2 : s.vm.findClass R_L = some m.cls := by rw [← hyc]; exact ho
    rcases kx9 E M' q9 T'.heap (locs ++ L) hp ⟨by rw [e1]; exact hok, k3, hst.2.2⟩ with ⟨hE, kk2⟩ | ⟨hE, h2, htl, kk2⟩
    · subst hE
      obtain ⟨t2, a1, b1⟩ := vx_catch (rest := rest) (pc := pc) (ls := ls) ho2 [] ⟨a0, b0, h1, 13⟩ (tableOf tl) htb (fun z hz => by cases hz) hcv1 (by show (13 : Nat) ≠ 0; omega) (hG _ cl_L_13) (va_Nw.use (A := av.toArray) rfl (hkz.2.2.2.1 _ ca_202)) (by rw [e1]; exact hce) hcv hcl kk2 T' rfl X'
      exact ⟨t2, st.trans a1, b1⟩
    · subst hE
      subst htl
      obtain ⟨t2, a1, b1⟩ := vx_catch (rest := rest) (pc := pc) (ls := ls) ho2 [⟨a0, b0, h1, 13⟩] ⟨a0, b0, h2, 18⟩ [] htb (fun z hz => by
        rw [List.mem_singleton] at hz
        subst hz
        exact Or.inr ⟨(by show (13 : Nat) ≠ 0; omega), EI, hG _ cl_L_13, hkx.2.1⟩) hcv1 (by show (18 : Nat) ≠ 0; omega) (hG _ cl_L_18) (va_Nw.use (A := av.toArray) rfl (hkz.2.2.2.1 _ ca_310)) (by rw [e1]; exact hce) hcv hcl kk2 T' rfl X'
      exact ⟨t2, st.trans a1, b1⟩
end CTH
/-- what the law has at hand -/
def lwx (p : Program) (s : State) (m : MethodId) (args : Array Value) (c : Code) (D : va_G) (Y : Nat → ClassId) (lo b L : Nat) (xs : Nat → Int32) : Prop :=
  p.tables.exec = Jvm.exec ∧ c.code = code ∧ c.maxLocals = 7 ∧ s.vm.findClass R_L = some m.cls ∧ (∀ w ∈ GW, w.before args s = true) ∧ b < lo ∧ lo ≤ s.heap.size ∧ kx D Y lo b L xs s s.heap
theorem gin {ws : List Cond} (h : ∀ w ∈ ws, w ∈ GW) : GoodIn GW ws := fun w hw => ⟨h w hw, good_of_word (gw_good (h w hw))⟩
theorem gcons {w0 : Cond} (h : w0 ∈ GW) : ∀ w ∈ w0 :: GW, w ∈ GW := fun w hw => (List.mem_cons.mp hw).elim (fun e => by rw [e]; exact h) id
section LWC
variable {p : Program} {l : Launch} {e : Env} {s : State} {m : MethodId} {args : Array Value} {below : List Frame} {meth : Method} {c : Code} {D : va_G} {Y : Nat → ClassId} {lo b L : Nat} {xs : Nat → Int32} {Q : State → Prop} {H : Heap} {locs : List Loc} {cells slots pc index : Nat} {ls : Array Slot} {M : Hm} {rest st0 : List Value}
variable {y2 : MethodName} {cc2 : ByteArray} {mL2 : Nat} {ret2 : Option FieldType} {d2 : Nat} {av2 : List Value} {Post2 : Option Value → Hm → Prop} {mc2 ms2 : Nat}
theorem lw_go0 {a2 : Array Value} (hst : hp_st D vC lo M s.heap H locs)
    (hr : va_Run p l e room_1 s m args below meth c H locs cells slots mc2 ms2 (F0 m pc ls st0) rest (cQ D lo Post2 a2) (fun q => lo ≤ q))
    (kk : ∀ (r : Option Value) (M' : Hm) (H' : Heap) (locs' : List Loc), Post2 r M' → hp_st D vC lo M' s.heap H' locs' → W p l e room_1 s m args below meth c H' locs' (cells + mc2) (slots + ms2) Q (F0 m (pc + 3) ls (r.toList ++ rest))) :
    W p l e room_1 s m args below meth c H locs cells slots Q (F0 m pc ls st0) := by
  intro T hT X0
  obtain ⟨v, st₀, t, T', L, h0, X', hL, e1, e2, ⟨⟨r, M', hv, hp, hok⟩, hF⟩, st⟩ := hr T hT X0
  cases hv
  obtain ⟨k1, k2, k3⟩ := vx_keep (A1 := fun q => lo ≤ q) h0 e1 hst.2.1 (fun q _ h => h) (fun q h => h) hL hF
  obtain ⟨t2, a1, b1⟩ := kk v M' T'.heap (locs ++ L) hp ⟨by rw [e1]; exact hok, k3, hst.2.2⟩ T' rfl X'
  exact ⟨t2, st t2 a1, b1⟩
theorem lw_callH {hh : List (Nat × Nat × Nat × Nat)} (X : lwx p s m args c D Y lo b L xs) (hst : hp_st D vC lo M s.heap H locs) (hM : cth l D Y lo b L xs y2 (.codeWith y2 cc2 mL2 ret2 hh) d2 av2 M Post2 mc2 ms2)
    (hcode : Cond.codeWith y2 cc2 mL2 ret2 hh ∈ GW) (hlink : Cond.methodLink R_L index y2 ∈ GW) (hstat : Cond.static y2 ∈ GW) (hini : Cond.initialized y2.cls ∈ GW) (hd : md y2 av2.length) (hR : d2 + 1 ≤ 12 ∧ 8 + (mL2 + 11) + 36 * d2 ≤ 440)
    (hsize : ls.size = 7) (hstack : st0 = av2.reverse ++ rest) (hW : (rest.map fun v => v.category).sum ≤ 8) (hf : cells + mc2 ≤ 601024 ∧ slots + ms2 ≤ 7293000) (hdg : decode code pc = .ok (.invokestatic index, 3))
    (kk : ∀ (r : Option Value) (M' : Hm) (H' : Heap) (locs' : List Loc), Post2 r M' → hp_st D vC lo M' s.heap H' locs' → W p l e room_1 s m args below meth c H' locs' (cells + mc2) (slots + ms2) Q (F0 m (pc + 3) ls (r.toList ++ rest))) :
    W p l e room_1 s m args below meth c H locs cells slots Q (F0 m pc ls st0) := by
  obtain ⟨hx, hb, hml, ho, hG, hbl, hlo, hkx⟩ := X
  refine lw_go0 (a2 := av2.toArray) hst (vx_runSW (R := room_1) (As := av2) (Ts := GW) (own := R_L) (hh := hh) (bytes := cc2) (maxL := mL2) (ret := ret2) ⟨hx, hb, hml, ho, hG⟩ (cth_met hM) (vx_cwSW av2.length hG (gin (fun w hw => ?_)) rfl rfl rfl hd hR) ⟨cPx_blind, fun U hU hW => ⟨rfl, by rw [hU]; exact hst.1, hbl, by rw [hU]; exact hkx.go hbl (Nat.lt_of_lt_of_le hbl hlo) hW hst.2.1.2.1⟩⟩ rfl rfl hsize hstack (lv_room hW) hdg hf) kk
  unfold va_wsS at hw
  rcases List.mem_append.mp hw with hw | hw
  · rcases List.mem_cons.mp hw with rfl | hw
    · exact hlink
    · rcases List.mem_cons.mp hw with rfl | hw
      · exact hstat
      · rw [List.mem_singleton] at hw
        subst hw
        exact hini
  · exact gcons hcode w hw
theorem lw_callC (X : lwx p s m args c D Y lo b L xs) (hst : hp_st D vC lo M s.heap H locs) (hM : cth l D Y lo b L xs y2 (.code y2 cc2 mL2 ret2) d2 av2 M Post2 mc2 ms2)
    (hcode : Cond.code y2 cc2 mL2 ret2 ∈ GW) (hlink : Cond.methodLink R_L index y2 ∈ GW) (hstat : Cond.static y2 ∈ GW) (hini : Cond.initialized y2.cls ∈ GW) (hd : md y2 av2.length) (hR : d2 + 1 ≤ 12 ∧ 8 + (mL2 + 11) + 36 * d2 ≤ 440)
    (hsize : ls.size = 7) (hstack : st0 = av2.reverse ++ rest) (hW : (rest.map fun v => v.category).sum ≤ 8) (hf : cells + mc2 ≤ 601024 ∧ slots + ms2 ≤ 7293000) (hdg : decode code pc = .ok (.invokestatic index, 3))
    (kk : ∀ (r : Option Value) (M' : Hm) (H' : Heap) (locs' : List Loc), Post2 r M' → hp_st D vC lo M' s.heap H' locs' → W p l e room_1 s m args below meth c H' locs' (cells + mc2) (slots + ms2) Q (F0 m (pc + 3) ls (r.toList ++ rest))) :
    W p l e room_1 s m args below meth c H locs cells slots Q (F0 m pc ls st0) := by
  obtain ⟨hx, hb, hml, ho, hG, hbl, hlo, hkx⟩ := X
  exact lw_go0 (a2 := av2.toArray) hst (va_runS (R := room_1) (As := av2) (Ts := GW) (own := R_L) ⟨hx, hb, hml, ho, hG⟩ (cth_met hM) ⟨callB_of av2.length hG (gin (gcons hcode)) rfl rfl rfl (hG _ hini) (hG _ hlink) hd hR, hG _ hstat⟩ ⟨cPx_blind, fun U hU hW => ⟨rfl, by rw [hU]; exact hst.1, hbl, by rw [hU]; exact hkx.go hbl (Nat.lt_of_lt_of_le hbl hlo) hW hst.2.1.2.1⟩⟩ rfl rfl hsize hstack (lv_room hW) hdg hf) kk
theorem lw_callI {x : Nat} (X : lwx p s m args c D Y lo b L xs) (hst : hp_st D vC lo M s.heap H locs) (hM : ct l D Y lo y2 cc2 mL2 none d2 (.ref x :: av2) M Post2 nx mc2 ms2)
    (hcode : Cond.code y2 cc2 mL2 none ∈ GW) (hlink : Cond.methodLink R_L index y2 ∈ GW) (hins : Cond.instanceMethod y2 ∈ GW) (hini : Cond.initialized y2.cls ∈ GW) (hy1 : y2.name = "<init>") (hd : md y2 av2.length) (hR : d2 + 1 ≤ 12 ∧ 8 + (mL2 + 11) + 36 * d2 ≤ 440)
    (hsize : ls.size = 7) (hstack : st0 = av2.reverse ++ .ref x :: rest) (hW : (rest.map fun v => v.category).sum ≤ 8) (hf : cells + mc2 ≤ 601024 ∧ slots + ms2 ≤ 7293000) (hdg : decode code pc = .ok (.invokespecial index, 3))
    (kk : ∀ (r : Option Value) (M' : Hm) (H' : Heap) (locs' : List Loc), Post2 r M' → hp_st D vC lo M' s.heap H' locs' → W p l e room_1 s m args below meth c H' locs' (cells + mc2) (slots + ms2) Q (F0 m (pc + 3) ls (r.toList ++ rest))) :
    W p l e room_1 s m args below meth c H locs cells slots Q (F0 m pc ls st0) := by
  obtain ⟨hx, hb, hml, ho, hG, hbl, hlo, hkx⟩ := X
  exact lw_go0 (a2 := (.ref x :: av2).toArray) hst (va_runI (R := room_1) (As := av2) (Ts := GW) (own := R_L) ⟨hx, hb, hml, ho, hG⟩ (ct_met hM) ⟨callB_of av2.length hG (gin (gcons hcode)) rfl rfl rfl (hG _ hini) (hG _ hlink) hd hR, hy1, hG _ hins⟩ ⟨cP_blind, fun U hU hW => ⟨rfl, by rw [hU]; exact hst.1, by rw [hU]; exact hkx.1.go hW hst.2.1.2.1⟩⟩ rfl rfl hsize hstack (lv_room hW) hdg hf) kk
theorem lw_callV {x ci : Nat} {t : Nat × Nat} {fs : List Value} {q : vw_C} (X : lwx p s m args c D Y lo b L xs) (hst : hp_st D vC lo M s.heap H locs) (hM : ct l D Y lo y2 cc2 mL2 ret2 d2 (.ref x :: av2) M Post2 nx mc2 ms2) (he : M x = some (t, .inr (ci, fs))) (hc : vC[ci]? = some q)
    (hcode : Cond.code y2 cc2 mL2 ret2 ∈ GW) (hlink : Cond.methodLink R_L index y2 ∈ GW) (hins : Cond.instanceMethod y2 ∈ GW) (hsel : Cond.selects q.1 y2 y2 ∈ GW) (hini : Cond.initialized y2.cls ∈ GW) (hd : md y2 av2.length) (hR : d2 + 1 ≤ 12 ∧ 8 + (mL2 + 11) + 36 * d2 ≤ 440)
    (hsize : ls.size = 7) (hstack : st0 = av2.reverse ++ .ref x :: rest) (hW : (rest.map fun v => v.category).sum ≤ 8) (hf : cells + mc2 ≤ 601024 ∧ slots + ms2 ≤ 7293000) (hdg : decode code pc = .ok (.invokevirtual index, 3))
    (kk : ∀ (r : Option Value) (M' : Hm) (H' : Heap) (locs' : List Loc), Post2 r M' → hp_st D vC lo M' s.heap H' locs' → W p l e room_1 s m args below meth c H' locs' (cells + mc2) (slots + ms2) Q (F0 m (pc + 3) ls (r.toList ++ rest))) :
    W p l e room_1 s m args below meth c H locs cells slots Q (F0 m pc ls st0) := by
  obtain ⟨hx, hb, hml, ho, hG, hbl, hlo, hkx⟩ := X
  exact lw_go0 (a2 := (.ref x :: av2).toArray) hst (va_runV (R := room_1) (C := q.1) (As := av2) (Ts := GW) (own := R_L) ⟨hx, hb, hml, ho, hG⟩ (ct_met hM) ⟨callB_of av2.length hG (gin (gcons hcode)) rfl rfl rfl (hG _ hini) (hG _ hlink) hd hR, hG _ hins, hG _ hsel⟩ ⟨cP_blind, va_recv (q0 := 0) hkx.1.1 (hst.1.P he) hc rfl, fun U hU hW => ⟨rfl, by rw [hU]; exact hst.1, by rw [hU]; exact hkx.1.go hW hst.2.1.2.1⟩⟩ rfl rfl hsize hstack (lv_room hW) hdg hf) kk
end LWC
/-- one call, of both: k what it threw, P' and rf' what stands behind it, v what it answered -/
def rvl : Option FieldType → Int32 → Option Value
  | none, _ => none
  | some _, v => some (.int v)
/-- the rooms' bounds -/
def cb (cap : Nat → Nat) : Prop := (∀ j, 10 ≤ j → j < 23 → cap j ≤ 18278) ∧ (∀ j, 30 ≤ j → j < 286 → cap j ≤ 338) ∧ ∀ j, j < 10 ∨ 23 ≤ j ∧ j < 30 ∨ 286 ≤ j → cap j ≤ 16
def cbb (j : Nat) : Nat := if 10 ≤ j ∧ j < 23 then 18278 else if 30 ≤ j ∧ j < 286 then 338 else 16
theorem sm_mono {f g : Nat → Nat} (h : ∀ i, f i ≤ g i) : ∀ n, sm f n ≤ sm g n
  | 0 => Nat.le_refl _
  | n + 1 => Nat.add_le_add (sm_mono h n) (h n)
theorem cbb_sm : sm cbb 300 = 324638 := by decide +kernel
theorem cb_sm {cap : Nat → Nat} (h : cb cap) : sm cap 300 ≤ 324638 := by
  rw [← cbb_sm]
  refine sm_mono (fun j => ?_) 300
  unfold cbb
  by_cases h1 : 10 ≤ j ∧ j < 23
  · rw [if_pos h1]; exact h.1 j h1.1 h1.2
  · rw [if_neg h1]
    by_cases h2 : 30 ≤ j ∧ j < 286
    · rw [if_pos h2]; exact h.2.1 j h2.1 h2.2
    · rw [if_neg h2]; exact h.2.2 j (by omega)
def unit (l : Launch) (D : va_G) (Y : Nat → ClassId) (lo : Nat) (yH : MethodName) (bH : ByteArray) (mLH : Nat) (yR : MethodName) (bR : ByteArray) (mLR : Nat) (ret : Option FieldType) (tw : Bool) (av : List Value) (M : Hm) (xa p rf : Nat) (A cap si : Nat → Nat) (P : Nat → Pf) (ma : Nat) (E : Nat → Nat) : Prop :=
  ∃ (k : Nat) (P' : Nat → Pf) (rf' : Nat) (v : Int32) (cap' si' : Nat → Nat) (mc : Nat), k ≤ 2 ∧ (tw = false → k ≠ 2) ∧ mc + sm cap 300 ≤ sm cap' 300 + 4 ∧ sm cap 300 ≤ sm cap' 300 ∧ (cb cap → cb cap') ∧ (ret = some .boolean → ∃ z : Nat, z ≤ 1 ∧ v = nI z) ∧
    ct l D Y lo yH bH mLH ret 8 (.ref xa :: av) M (fun r9 M' => k = 0 ∧ r9 = rvl ret v ∧ cs Y M' xa A p P' cap' si' rf' ∧ hp_off (fun i => i < 300) M M') (fun E9 M' => M = M' ∧ (E9 = EI ∧ k = 1 ∨ E9 = EA ∧ k = 2) ∧ P' = P ∧ rf' = rf ∧ cap' = cap ∧ si' = si) mc (6 * mc) ∧
    ∀ (M2 : Hm) (th : Nat) (c : Nat → Nat → Nat), mo Y M2 ma E p rf th c → rr c P → ct l D Y lo yR bR mLR ret 6 (.ref ma :: av) M2 (fun r9 M' => ∃ (c' : Nat → Nat → Nat) (w : Int32), r9 = rvl ret w ∧ (ret = some .boolean → ∃ z : Nat, z ≤ 1 ∧ w = nI z) ∧ (k = 0 → w = v) ∧ mo Y M' ma E p rf' k c' ∧ rr c' P' ∧ hp_off (fun i => i = 1000) M2 M') nx 0 0
