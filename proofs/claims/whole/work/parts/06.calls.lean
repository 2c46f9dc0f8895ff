/-! Contracts over the functional heap: one form for all methods (it returns, or throws a class by name). -/
def rmL (d mc ms : Nat) : Room := { frames := d, cells := mc, slots := ms, locals := 36 * d }
theorem gw_good {w : Cond} (h : w ∈ GW) : goodWord w = true := (List.mem_filter.mp h).2
theorem ao_warm {ty : FieldType} {s U : State} (hW : s.WarmedH U.vm) (h : va_Nw (.arrayOver ty) s) : va_Nw (.arrayOver ty) U := by
  have h1 : (Cond.arrayOver ty).before #[] (s.setVm U.vm) = true := by rw [Cond.arrayOver_setVmC hW.alike]; exact h
  exact h1
theorem nw_warm {w : Cond} (hw : nwB w = true) {s U : State} (hW : s.WarmedH U.vm) (h : va_Nw w s) : va_Nw w U := by
  cases w <;> first | exact va_Nw.warmM hW h | exact va_Nw.warmC hW h | exact va_Nw.warmD hW h | exact ao_warm hW h | cases hw
theorem gi {y : MethodName} {cc : ByteArray} {mL : Nat} {ret : Option FieldType} {c0 : Cond} (h : Cond.code y cc mL ret ∈ GW) : GoodIn (c0 :: GW) (.code y cc mL ret :: GW) := by
  intro w hw
  rcases List.mem_cons.mp hw with rfl | hw
  · exact ⟨List.mem_cons_of_mem _ h, good_of_word (gw_good h)⟩
  · exact ⟨List.mem_cons_of_mem _ hw, good_of_word (gw_good hw)⟩
/-- the array classes, by the places Y -/
abbrev tysY (Y : Nat → ClassId) : List (ClassId × FieldType) := [(Y 0, .int), (Y 1, .long), (Y 2, .object R_P), (Y 3, .array .int)]
/-- what holds of the tables and of what was there before: the same in every state of a run -/
def kz (D : va_G) (Y : Nat → ClassId) (lo : Nat) (U : State) (H : Heap) : Prop :=
  va_K D vC (tysY Y) U ∧ vx_Zq Bundle.tN "UNASSIGNED_STACK" Bundle.steD (fun q => lo ≤ q) U H ∧ vx_Zq Bundle.tN "SUPPRESSED_SENTINEL" Bundle.listD (fun q => lo ≤ q) U H ∧ (∀ w ∈ NW, va_Nw w U) ∧ va_AO R_P U
theorem kz.go {D : va_G} {Y : Nat → ClassId} {lo : Nat} {s U : State} {H0 H : Heap} (h : kz D Y lo s H0) (hW : s.WarmedH U.vm) (hq : ∀ q : Nat, q < H0.size → ¬ lo ≤ q → H[q]? = H0[q]?) : kz D Y lo U H :=
  ⟨va_K.moved hW.alike h.1, vx_Zq.moved hW.alike (h.2.1.kept hq), vx_Zq.moved hW.alike (h.2.2.1.kept hq), fun w hw => nw_warm (List.mem_filter.mp hw).2 hW (h.2.2.2.1 w hw), h.2.2.2.2.moved hW.alike⟩
def cP (D : va_G) (Y : Nat → ClassId) (lo : Nat) (av : List Value) (M : Hm) : Array Value → State → Prop := va_Pc av (fun U => hp_ok D vC lo M U.heap ∧ kz D Y lo U U.heap)
def cQ (D : va_G) (lo : Nat) (Post : Option Value → Hm → Prop) : Array Value → State → Outcome → State → Prop := fun _ st oc t => (∃ (r : Option Value) (M' : Hm), oc = .returned r ∧ Post r M' ∧ hp_ok D vC lo M' t.heap) ∧ va_F (fun q => lo ≤ q) st t
def cX (D : va_G) (lo : Nat) (PX : String → Hm → Prop) : String → State → State → Prop := fun E st t => ∃ M' : Hm, PX E M' ∧ hp_ok D vC lo M' t.heap ∧ va_F (fun q => lo ≤ q) st t
def nx : String → Hm → Prop := fun _ _ => False
def ct (l : Launch) (D : va_G) (Y : Nat → ClassId) (lo : Nat) (y : MethodName) (cc : ByteArray) (mL : Nat) (ret : Option FieldType) (d : Nat) (av : List Value) (M : Hm) (Post : Option Value → Hm → Prop) (PX : String → Hm → Prop) (mc ms : Nat) : Prop :=
  vx_Met l y (.code y cc mL ret :: GW) (rmL d mc ms) (cP D Y lo av M) (cQ D lo Post) (cX D lo PX) mc ms (fun q => lo ≤ q)
theorem cP_blind {D : va_G} {Y : Nat → ClassId} {lo : Nat} {av : List Value} {M : Hm} : FrameBlind (cP D Y lo av M) := by
  intro a U g mk h
  obtain ⟨h1, h2, h3⟩ := h
  refine ⟨h1, h2, ?_⟩
  exact h3.go (U := U.calling g mk a) (State.WarmedH.refl U) (fun q _ _ => rfl)
/-- what a body has at hand -/
def cx (p : Program) (s : State) (m : MethodId) (args : Array Value) (meth : Method) (c : Code) (y : MethodName) (cc : ByteArray) (mL : Nat) (ret : Option FieldType) (D : va_G) (Y : Nat → ClassId) (lo : Nat) : Prop :=
  p.tables.exec = Jvm.exec ∧ c.code = cc ∧ c.maxLocals = mL ∧ meth.sig.returnType = ret ∧ meth.locks = false ∧ s.vm.findClass y.cls = some m.cls ∧ meth.name = y.name ∧ (∀ w ∈ Cond.code y cc mL ret :: GW, w.before args s = true) ∧ kz D Y lo s s.heap ∧ (∀ x ∈ c.exceptionTable.toList, False)
/-- the goal of a walk -/
abbrev cW (p : Program) (l : Launch) (e : Env) (s : State) (m : MethodId) (av : List Value) (below : List Frame) (meth : Method) (c : Code) (y : MethodName) (cc : ByteArray) (mL : Nat) (ret : Option FieldType) (d : Nat) (D : va_G) (lo : Nat) (Post : Option Value → Hm → Prop) (PX : String → Hm → Prop) (mc ms : Nat) (H : Heap) (locs : List Loc) (cells slots : Nat) (g : JFrame) : Prop :=
  W p l e (rmL d mc ms) s m av.toArray below meth c H locs cells slots (vx_MQ below (cQ D lo Post) (cX D lo PX) av.toArray s mc ms (fun q => lo ≤ q)) g
theorem ct_of {l : Launch} {D : va_G} {Y : Nat → ClassId} {lo : Nat} {y : MethodName} {cc : ByteArray} {mL : Nat} {ret : Option FieldType} {d : Nat} {av : List Value} {M : Hm} {Post : Option Value → Hm → Prop} {PX : String → Hm → Prop} {mc ms : Nat} (hy : plainName y.cls = true) (hlen : (lg_sl av).length ≤ mL)
    (body : ∀ (p : Program) (e : Env) (s : State) (m : MethodId) (below : List Frame) (meth : Method) (c : Code) (ls : Array Slot), cx p s m av.toArray meth c y cc mL ret D Y lo → hp_st D vC lo M s.heap s.heap [] → lv_has ls mL (lv_args 0 av) →
      cW p l e s m av below meth c y cc mL ret d D lo Post PX mc ms s.heap [] 0 0 (F0 m 0 ls [])) : ct l D Y lo y cc mL ret d av M Post PX mc ms := by
  refine vx_ofW (cc := cc) (maxL := mL) (ret := ret) hy rfl ?_
  intro p e s m args below meth c s₁ B hml ht hv
  obtain ⟨rfl, h1, h2⟩ := hv
  have hts := atoms_spec (ws := .code y cc mL ret :: GW) B.pre
  have hl := lv_entry av (n := mL) hlen
  rw [lg_entry_eq]
  exact body p e s m below meth c _ ⟨B.exec, B.bytes, hml, B.returns, B.notSynchronized, findClass_of_methodNamed B.named, (name_of_methodNamed B.named B.method).1, hts, h2, ht⟩ ⟨h1, va_S.rf, h1.1⟩ hl
section CTR
variable {p : Program} {l : Launch} {e : Env} {s : State} {m : MethodId} {av : List Value} {below : List Frame} {meth : Method} {c : Code} {y : MethodName} {cc : ByteArray} {mL : Nat} {ret : Option FieldType} {d : Nat} {D : va_G} {Y : Nat → ClassId} {lo : Nat} {Post : Option Value → Hm → Prop} {PX : String → Hm → Prop} {mc ms : Nat} {H : Heap} {locs : List Loc} {cells slots pc : Nat} {ls : Array Slot} {M : Hm} {rest : List Value}
/-- the ends -/
theorem ct_vret (X : cx p s m av.toArray meth c y cc mL none D Y lo) (hst : hp_st D vC lo M s.heap H locs) (hP : Post none M) (hc : cells ≤ mc) (hs : slots ≤ ms) (hdg : decode cc pc = .ok (.return_, 1)) : cW p l e s m av below meth c y cc mL none d D lo Post PX mc ms H locs cells slots (F0 m pc ls []) := by
  obtain ⟨hx, hb, hml, hr, hlocks, -⟩ := X
  refine vx_ret (W.widen hc hs ?_)
  exact W.vret hx hb hr (fun t ht hW => ⟨⟨none, M, rfl, hP, by rw [ht]; exact hst.1⟩, hst.2.1.F ht⟩) hst.2.1.2.2 hdg hlocks
theorem ct_iret {v : Int32} (X : cx p s m av.toArray meth c y cc mL (some .int) D Y lo) (hst : hp_st D vC lo M s.heap H locs) (hP : Post (some (.int v)) M) (hc : cells ≤ mc) (hs : slots ≤ ms) (hdg : decode cc pc = .ok (.ireturn, 1)) : cW p l e s m av below meth c y cc mL (some .int) d D lo Post PX mc ms H locs cells slots (F0 m pc ls [.int v]) := by
  obtain ⟨hx, hb, hml, hr, hlocks, -⟩ := X
  refine vx_ret (W.widen hc hs ?_)
  exact W.iret hx hb hr (fun t ht hW => ⟨⟨_, M, rfl, hP, by rw [ht]; exact hst.1⟩, hst.2.1.F ht⟩) hst.2.1.2.2 hdg hlocks
/-- a boolean's end: 0 or 1 -/
theorem ct_zret {n : Nat} (X : cx p s m av.toArray meth c y cc mL (some .boolean) D Y lo) (hst : hp_st D vC lo M s.heap H locs) (hn : n ≤ 1) (hP : Post (some (.int (nI n))) M) (hc : cells ≤ mc) (hs : slots ≤ ms) (hdg : decode cc pc = .ok (.ireturn, 1)) : cW p l e s m av below meth c y cc mL (some .boolean) d D lo Post PX mc ms H locs cells slots (F0 m pc ls [.int (nI n)]) := by
  obtain ⟨hx, hb, hml, hr, hlocks, -⟩ := X
  have hn2 : narrow .boolean (.int (nI n)) = .int (nI n) := by
    rcases (show n = 0 ∨ n = 1 by omega) with rfl | rfl <;> decide +kernel
  refine vx_ret (W.widen hc hs ?_)
  exact W.zret hx hb hr hn2 (fun t ht hW => ⟨⟨_, M, rfl, hP, by rw [ht]; exact hst.1⟩, hst.2.1.F ht⟩) hst.2.1.2.2 hdg hlocks
theorem ct_aret {a : Nat} {rt : FieldType} (hrt : (∃ n, rt = .object n) ∨ ∃ t, rt = .array t) (X : cx p s m av.toArray meth c y cc mL (some rt) D Y lo) (hst : hp_st D vC lo M s.heap H locs) (hP : Post (some (.ref a)) M) (hc : cells ≤ mc) (hs : slots ≤ ms) (hdg : decode cc pc = .ok (.areturn, 1)) : cW p l e s m av below meth c y cc mL (some rt) d D lo Post PX mc ms H locs cells slots (F0 m pc ls [.ref a]) := by
  obtain ⟨hx, hb, hml, hr, hlocks, -⟩ := X
  refine vx_ret (W.widen hc hs ?_)
  exact W.aret hx hb hr hrt (Or.inr ⟨a, rfl⟩) (fun t ht hW => ⟨⟨_, M, rfl, hP, by rw [ht]; exact hst.1⟩, hst.2.1.F ht⟩) hst.2.1.2.2 hdg hlocks
end CTR
section CTC
variable {p : Program} {l : Launch} {e : Env} {s : State} {m : MethodId} {av : List Value} {below : List Frame} {meth : Method} {c : Code} {y : MethodName} {cc : ByteArray} {mL : Nat} {ret : Option FieldType} {d : Nat} {D : va_G} {Y : Nat → ClassId} {lo : Nat} {Post : Option Value → Hm → Prop} {PX : String → Hm → Prop} {mc ms : Nat} {H : Heap} {locs : List Loc} {cells slots pc index : Nat} {ls : Array Slot} {M : Hm} {rest st0 : List Value}
variable {y2 : MethodName} {cc2 : ByteArray} {mL2 : Nat} {ret2 : Option FieldType} {d2 : Nat} {av2 : List Value} {Post2 : Option Value → Hm → Prop} {PX2 : String → Hm → Prop} {mc2 ms2 : Nat}
/-- behind a call: by what vx_Run says -/
theorem ct_go (X : cx p s m av.toArray meth c y cc mL ret D Y lo) (hst : hp_st D vC lo M s.heap H locs)
    (hr : vx_Run p l e (rmL d mc ms) s m av.toArray below meth c H locs cells slots mc2 ms2 (F0 m pc ls st0) rest (cQ D lo Post2 av2.toArray) (cX D lo PX2) (fun q => lo ≤ q))
    (hf : cells + mc2 ≤ mc ∧ slots + ms2 ≤ ms) (hpx : ∀ E M', PX2 E M' → PX E M')
    (kk : ∀ (r : Option Value) (M' : Hm) (H' : Heap) (locs' : List Loc), Post2 r M' → hp_st D vC lo M' s.heap H' locs' → cW p l e s m av below meth c y cc mL ret d D lo Post PX mc ms H' locs' (cells + mc2) (slots + ms2) (F0 m (pc + 3) ls (r.toList ++ rest))) :
    cW p l e s m av below meth c y cc mL ret d D lo Post PX mc ms H locs cells slots (F0 m pc ls st0) := by
  intro T hT X0
  rcases hr T hT X0 with ⟨v, st₀, t, T', L, h0, X', hL, e1, e2, ⟨⟨r, M', hv, hp, hok⟩, hF⟩, st⟩ | ⟨q, st₀, t, T', L, E, ce, h0, X', hL, e1, e2, ⟨M', hp, hok, hF⟩, hce, hcv, hcl, st⟩
  · cases hv
    obtain ⟨k1, k2, k3⟩ := vx_keep (A1 := fun q => lo ≤ q) h0 e1 hst.2.1 (fun q _ h => h) (fun q h => h) hL hF
    obtain ⟨t2, a1, b1⟩ := kk v M' T'.heap (locs ++ L) hp ⟨by rw [e1]; exact hok, k3, hst.2.2⟩ T' rfl X'
    exact ⟨t2, st t2 a1, b1⟩
  · obtain ⟨k1, k2, k3⟩ := vx_keep (A1 := fun q => lo ≤ q) h0 e1 hst.2.1 (fun q _ h => h) (fun q h => h) hL hF
    obtain ⟨hx, hb, hml, hrt, hlocks, ho, hnm, hts, hkz, hex⟩ := X
    obtain ⟨t2, a1, b1⟩ := vx_out (Qc := cQ D lo Post) (XC := cX D lo PX) (pc := pc) (ls := ls) (rest := rest) (free := fun q => lo ≤ q) (fun x hx => (hex x hx).elim) hlocks (by rw [e1]; exact hce) hcv hcl
      (fun t' ht' ha' => ⟨M', hpx E M' hp, by rw [ht', e1]; exact hok, k3.F ht'⟩) k3.2.2 hf.1 hf.2 T' rfl X'
    exact ⟨t2, st.trans a1, b1⟩
theorem ct_callS (X : cx p s m av.toArray meth c y cc mL ret D Y lo) (hst : hp_st D vC lo M s.heap H locs) (hM : ct l D Y lo y2 cc2 mL2 ret2 d2 av2 M Post2 PX2 mc2 ms2)
    (hcode : Cond.code y2 cc2 mL2 ret2 ∈ GW) (hlink : Cond.methodLink y.cls index y2 ∈ GW) (hstat : Cond.static y2 ∈ GW) (hini : Cond.initialized y2.cls ∈ GW) (hd : md y2 av2.length) (hR : d2 + 1 ≤ d ∧ 8 + (mL2 + 11) + 36 * d2 ≤ 36 * d)
    (hsize : ls.size = mL) (hstack : st0 = av2.reverse ++ rest) (hW : (rest.map fun v => v.category).sum ≤ 8) (hf : cells + mc2 ≤ mc ∧ slots + ms2 ≤ ms) (hpx : ∀ E M', PX2 E M' → PX E M') (hdg : decode cc pc = .ok (.invokestatic index, 3))
    (kk : ∀ (r : Option Value) (M' : Hm) (H' : Heap) (locs' : List Loc), Post2 r M' → hp_st D vC lo M' s.heap H' locs' → cW p l e s m av below meth c y cc mL ret d D lo Post PX mc ms H' locs' (cells + mc2) (slots + ms2) (F0 m (pc + 3) ls (r.toList ++ rest))) :
    cW p l e s m av below meth c y cc mL ret d D lo Post PX mc ms H locs cells slots (F0 m pc ls st0) := by
  have X1 := X
  obtain ⟨hx, hb, hml, hrt, hlocks, ho, hnm, hts, hkz, hex⟩ := X1
  have hG : ∀ w, w ∈ GW → w.before av.toArray s = true := fun w h => hts w (List.mem_cons_of_mem _ h)
  refine ct_go X hst (vx_runS (R := rmL d mc ms) (As := av2) ⟨hx, hb, hml, ho, hts⟩ hM ⟨callB_of av2.length hts (gi hcode) rfl rfl rfl (hG _ hini) (hG _ hlink) hd hR, hG _ hstat⟩ ⟨cP_blind, fun U hU hW => ⟨rfl, by rw [hU]; exact hst.1, by rw [hU]; exact hkz.go hW hst.2.1.2.1⟩⟩ rfl rfl hsize hstack (lv_room hW) hdg hf) hf hpx kk
theorem ct_met (h : ct l D Y lo y2 cc2 mL2 ret2 d2 av2 M Post2 nx mc2 ms2) : Met l y2 (.code y2 cc2 mL2 ret2 :: GW) (rmL d2 mc2 ms2) (cP D Y lo av2 M) (cQ D lo Post2) mc2 ms2 (fun q => lo ≤ q) := by
  intro p e ha hc hk s m args below hf happ hP hK
  obtain ⟨n, o, h1, h2, h3, h4⟩ := h p e ha hc hk s m args below hf happ hP hK
  refine ⟨n, o, h1, h2, h3, ?_⟩
  rcases h4 with h4 | ⟨q, hq, E, ce, L, ⟨M', hx, _⟩, _⟩
  · exact h4
  · exact hx.elim
theorem ct_go0 (hst : hp_st D vC lo M s.heap H locs)
    (hr : va_Run p l e (rmL d mc ms) s m av.toArray below meth c H locs cells slots mc2 ms2 (F0 m pc ls st0) rest (cQ D lo Post2 av2.toArray) (fun q => lo ≤ q))
    (kk : ∀ (r : Option Value) (M' : Hm) (H' : Heap) (locs' : List Loc), Post2 r M' → hp_st D vC lo M' s.heap H' locs' → cW p l e s m av below meth c y cc mL ret d D lo Post PX mc ms H' locs' (cells + mc2) (slots + ms2) (F0 m (pc + 3) ls (r.toList ++ rest))) :
    cW p l e s m av below meth c y cc mL ret d D lo Post PX mc ms H locs cells slots (F0 m pc ls st0) := by
  intro T hT X0
  obtain ⟨v, st₀, t, T', L, h0, X', hL, e1, e2, ⟨⟨r, M', hv, hp, hok⟩, hF⟩, st⟩ := hr T hT X0
  cases hv
  obtain ⟨k1, k2, k3⟩ := vx_keep (A1 := fun q => lo ≤ q) h0 e1 hst.2.1 (fun q _ h => h) (fun q h => h) hL hF
  obtain ⟨t2, a1, b1⟩ := kk v M' T'.heap (locs ++ L) hp ⟨by rw [e1]; exact hok, k3, hst.2.2⟩ T' rfl X'
  exact ⟨t2, st t2 a1, b1⟩
theorem ct_callI {b : Nat} (X : cx p s m av.toArray meth c y cc mL ret D Y lo) (hst : hp_st D vC lo M s.heap H locs) (hM : ct l D Y lo y2 cc2 mL2 none d2 (.ref b :: av2) M Post2 nx mc2 ms2)
    (hcode : Cond.code y2 cc2 mL2 none ∈ GW) (hlink : Cond.methodLink y.cls index y2 ∈ GW) (hins : Cond.instanceMethod y2 ∈ GW) (hini : Cond.initialized y2.cls ∈ GW) (hy1 : y2.name = "<init>") (hd : md y2 av2.length) (hR : d2 + 1 ≤ d ∧ 8 + (mL2 + 11) + 36 * d2 ≤ 36 * d)
    (hsize : ls.size = mL) (hstack : st0 = av2.reverse ++ .ref b :: rest) (hW : (rest.map fun v => v.category).sum ≤ 8) (hf : cells + mc2 ≤ mc ∧ slots + ms2 ≤ ms) (hdg : decode cc pc = .ok (.invokespecial index, 3))
    (kk : ∀ (r : Option Value) (M' : Hm) (H' : Heap) (locs' : List Loc), Post2 r M' → hp_st D vC lo M' s.heap H' locs' → cW p l e s m av below meth c y cc mL ret d D lo Post PX mc ms H' locs' (cells + mc2) (slots + ms2) (F0 m (pc + 3) ls (r.toList ++ rest))) :
    cW p l e s m av below meth c y cc mL ret d D lo Post PX mc ms H locs cells slots (F0 m pc ls st0) := by
  have X1 := X
  obtain ⟨hx, hb, hml, hrt, hlocks, ho, hnm, hts, hkz, hex⟩ := X1
  have hG : ∀ w, w ∈ GW → w.before av.toArray s = true := fun w h => hts w (List.mem_cons_of_mem _ h)
  exact ct_go0 (av2 := .ref b :: av2) hst (va_runI (R := rmL d mc ms) (As := av2) ⟨hx, hb, hml, ho, hts⟩ (ct_met hM) ⟨callB_of av2.length hts (gi hcode) rfl rfl rfl (hG _ hini) (hG _ hlink) hd hR, hy1, hG _ hins⟩ ⟨cP_blind, fun U hU hW => ⟨rfl, by rw [hU]; exact hst.1, by rw [hU]; exact hkz.go hW hst.2.1.2.1⟩⟩ rfl rfl hsize hstack (lv_room hW) hdg hf) kk
/-- .. of a nest mate's own constructor -/
theorem ct_callIN {b : Nat} {host : String} (X : cx p s m av.toArray meth c y cc mL ret D Y lo) (hst : hp_st D vC lo M s.heap H locs) (hM : ct l D Y lo y2 cc2 mL2 none d2 (.ref b :: av2) M Post2 nx mc2 ms2)
    (hcode : Cond.code y2 cc2 mL2 none ∈ GW) (hlink : Cond.methodLinkNest y.cls index y2 host ∈ NW) (hins : Cond.instanceMethod y2 ∈ GW) (hini : Cond.initialized y2.cls ∈ GW) (hy1 : y2.name = "<init>") (hd : md y2 av2.length) (hR : d2 + 1 ≤ d ∧ 8 + (mL2 + 11) + 36 * d2 ≤ 36 * d)
    (hsize : ls.size = mL) (hstack : st0 = av2.reverse ++ .ref b :: rest) (hW : (rest.map fun v => v.category).sum ≤ 8) (hf : cells + mc2 ≤ mc ∧ slots + ms2 ≤ ms) (hdg : decode cc pc = .ok (.invokespecial index, 3))
    (kk : ∀ (r : Option Value) (M' : Hm) (H' : Heap) (locs' : List Loc), Post2 r M' → hp_st D vC lo M' s.heap H' locs' → cW p l e s m av below meth c y cc mL ret d D lo Post PX mc ms H' locs' (cells + mc2) (slots + ms2) (F0 m (pc + 3) ls (r.toList ++ rest))) :
    cW p l e s m av below meth c y cc mL ret d D lo Post PX mc ms H locs cells slots (F0 m pc ls st0) := by
  have X1 := X
  obtain ⟨hx, hb, hml, hrt, hlocks, ho, hnm, hts, hkz, hex⟩ := X1
  have hG : ∀ w, w ∈ GW → w.before av.toArray s = true := fun w h => hts w (List.mem_cons_of_mem _ h)
  exact ct_go0 (av2 := .ref b :: av2) hst (va_runIN (R := rmL d mc ms) (host := host) (As := av2) ⟨hx, hb, hml, ho, hts⟩ (ct_met hM) ⟨va_cnB av2.length hts (gi hcode) rfl rfl rfl (hkz.2.2.2.1 _ hlink) (hG _ hini) hd hR, hy1, hG _ hins⟩ ⟨cP_blind, fun U hU hW => ⟨rfl, by rw [hU]; exact hst.1, by rw [hU]; exact hkz.go hW hst.2.1.2.1⟩⟩ rfl rfl hsize hstack (lv_room hW) hdg hf) kk
theorem ct_callV {b ci : Nat} {t : Nat × Nat} {fs : List Value} {q : vw_C} (X : cx p s m av.toArray meth c y cc mL ret D Y lo) (hst : hp_st D vC lo M s.heap H locs) (hM : ct l D Y lo y2 cc2 mL2 ret2 d2 (.ref b :: av2) M Post2 PX2 mc2 ms2) (he : M b = some (t, .inr (ci, fs))) (hc : vC[ci]? = some q)
    (hcode : Cond.code y2 cc2 mL2 ret2 ∈ GW) (hlink : Cond.methodLink y.cls index y2 ∈ GW) (hins : Cond.instanceMethod y2 ∈ GW) (hsel : Cond.selects q.1 y2 y2 ∈ GW) (hini : Cond.initialized y2.cls ∈ GW) (hd : md y2 av2.length) (hR : d2 + 1 ≤ d ∧ 8 + (mL2 + 11) + 36 * d2 ≤ 36 * d)
    (hsize : ls.size = mL) (hstack : st0 = av2.reverse ++ .ref b :: rest) (hW : (rest.map fun v => v.category).sum ≤ 8) (hf : cells + mc2 ≤ mc ∧ slots + ms2 ≤ ms) (hpx : ∀ E M', PX2 E M' → PX E M') (hdg : decode cc pc = .ok (.invokevirtual index, 3))
    (kk : ∀ (r : Option Value) (M' : Hm) (H' : Heap) (locs' : List Loc), Post2 r M' → hp_st D vC lo M' s.heap H' locs' → cW p l e s m av below meth c y cc mL ret d D lo Post PX mc ms H' locs' (cells + mc2) (slots + ms2) (F0 m (pc + 3) ls (r.toList ++ rest))) :
    cW p l e s m av below meth c y cc mL ret d D lo Post PX mc ms H locs cells slots (F0 m pc ls st0) := by
  have X1 := X
  obtain ⟨hx, hb, hml, hrt, hlocks, ho, hnm, hts, hkz, hex⟩ := X1
  have hG : ∀ w, w ∈ GW → w.before av.toArray s = true := fun w h => hts w (List.mem_cons_of_mem _ h)
  refine ct_go (av2 := .ref b :: av2) X hst (vx_runV (R := rmL d mc ms) (C := q.1) (As := av2) ⟨hx, hb, hml, ho, hts⟩ hM ⟨callB_of av2.length hts (gi hcode) rfl rfl rfl (hG _ hini) (hG _ hlink) hd hR, hG _ hins, hG _ hsel⟩ ⟨cP_blind, va_recv (q0 := 0) hkz.1 (hst.1.P he) hc rfl, fun U hU hW => ⟨rfl, by rw [hU]; exact hst.1, by rw [hU]; exact hkz.go hW hst.2.1.2.1⟩⟩ rfl rfl hsize hstack (lv_room hW) hdg hf) hf hpx kk
end CTC
/-- the same for a method of a class of which the machine runs others by itself -/
theorem ct_ofF {l : Launch} {D : va_G} {Y : Nat → ClassId} {lo : Nat} {y : MethodName} {cc : ByteArray} {mL : Nat} {ret : Option FieldType} {d : Nat} {av : List Value} {M : Hm} {Post : Option Value → Hm → Prop} {PX : String → Hm → Prop} {mc ms : Nat} (hy : plainFor y = true) (hlen : (lg_sl av).length ≤ mL)
    (body : ∀ (p : Program) (e : Env) (s : State) (m : MethodId) (below : List Frame) (meth : Method) (c : Code) (ls : Array Slot), cx p s m av.toArray meth c y cc mL ret D Y lo → hp_st D vC lo M s.heap s.heap [] → lv_has ls mL (lv_args 0 av) →
      cW p l e s m av below meth c y cc mL ret d D lo Post PX mc ms s.heap [] 0 0 (F0 m 0 ls [])) : ct l D Y lo y cc mL ret d av M Post PX mc ms := by
  refine MetFree.of_bodySF (code := cc) (maxLocals := mL) (ret := ret) hy ?_ ?_
  · intro args s m h hn
    obtain ⟨meth, c, h1, h2, h3, h4, h5, h6, -, -⟩ := Cond.code_spec hn (atoms_spec (ws := .code y cc mL ret :: GW) h _ List.mem_cons_self)
    exact ⟨meth, c, h1, h2, h3, h4, h5, h6⟩
  · intro p e s m args below meth c s₁ B hml hP _
    obtain ⟨rfl, hp1, hp2⟩ := hP
    have hh0 : s₁.heap = s.heap := by rw [B.state]; rfl
    have hts := atoms_spec (ws := .code y cc mL ret :: GW) B.pre
    have ht : ∀ x ∈ c.exceptionTable.toList, False := by
      obtain ⟨meth9, c9, h1, h2, -, -, -, -, h7, -⟩ := Cond.code_spec B.named (hts _ List.mem_cons_self)
      cases Option.some.inj (h1.symm.trans B.method)
      cases Option.some.inj (h2.symm.trans (Stand.of_body B).code)
      intro x hx
      rw [Array.isEmpty_iff.mp h7] at hx
      cases hx
    have hl := lv_entry av (n := mL) hlen
    have K := body p e s m below meth c _ ⟨B.exec, B.bytes, hml, B.returns, B.notSynchronized, findClass_of_methodNamed B.named, (name_of_methodNamed B.named B.method).1, hts, hp2, ht⟩ ⟨hp1, va_S.rf, hp1.1⟩ hl
    rw [← lg_entry_eq] at K
    obtain ⟨t, a1, o, b1, b2, b3⟩ := K s₁ hh0 (Stand.of_body B)
    exact ⟨t, o, a1, b1, b2, b3⟩
